theorem zd_Acts_read_0 : decode zm_Acts_read.2.1 0 = .ok (.aload_n 0, 1) := by decide +kernel
theorem zd_Acts_read_1 : decode zm_Acts_read.2.1 1 = .ok (.iconst 0, 1) := by decide +kernel
theorem zd_Acts_read_2 : decode zm_Acts_read.2.1 2 = .ok (.putfield 18, 3) := by decide +kernel
theorem zd_Acts_read_5 : decode zm_Acts_read.2.1 5 = .ok (.aload_n 0, 1) := by decide +kernel
theorem zd_Acts_read_6 : decode zm_Acts_read.2.1 6 = .ok (.iconst (-1), 1) := by decide +kernel
theorem zd_Acts_read_7 : decode zm_Acts_read.2.1 7 = .ok (.putfield 22, 3) := by decide +kernel
theorem zd_Acts_read_10 : decode zm_Acts_read.2.1 10 = .ok (.iconst 0, 1) := by decide +kernel
theorem zd_Acts_read_11 : decode zm_Acts_read.2.1 11 = .ok (.istore_n 3, 1) := by decide +kernel
theorem zd_Acts_read_12 : decode zm_Acts_read.2.1 12 = .ok (.iload_n 3, 1) := by decide +kernel
theorem zd_Acts_read_13 : decode zm_Acts_read.2.1 13 = .ok (.iload_n 2, 1) := by decide +kernel
theorem zd_Acts_read_14 : decode zm_Acts_read.2.1 14 = .ok (.if_icmp .ge 27, 3) := by decide +kernel
theorem zd_Acts_read_17 : decode zm_Acts_read.2.1 17 = .ok (.iload_n 3, 1) := by decide +kernel
theorem zd_Acts_read_18 : decode zm_Acts_read.2.1 18 = .ok (.bipush 60, 2) := by decide +kernel
theorem zd_Acts_read_20 : decode zm_Acts_read.2.1 20 = .ok (.if_icmp .eq 13, 3) := by decide +kernel
theorem zd_Acts_read_23 : decode zm_Acts_read.2.1 23 = .ok (.aload_n 0, 1) := by decide +kernel
theorem zd_Acts_read_24 : decode zm_Acts_read.2.1 24 = .ok (.aload_n 1, 1) := by decide +kernel
theorem zd_Acts_read_25 : decode zm_Acts_read.2.1 25 = .ok (.iload_n 3, 1) := by decide +kernel
theorem zd_Acts_read_26 : decode zm_Acts_read.2.1 26 = .ok (.caload, 1) := by decide +kernel
theorem zd_Acts_read_27 : decode zm_Acts_read.2.1 27 = .ok (.invokevirtual 25, 3) := by decide +kernel
theorem zd_Acts_read_30 : decode zm_Acts_read.2.1 30 = .ok (.ifCond .ne 5, 3) := by decide +kernel
theorem zd_Acts_read_33 : decode zm_Acts_read.2.1 33 = .ok (.iload_n 3, 1) := by decide +kernel
theorem zd_Acts_read_34 : decode zm_Acts_read.2.1 34 = .ok (.ireturn, 1) := by decide +kernel
theorem zd_Acts_read_35 : decode zm_Acts_read.2.1 35 = .ok (.iinc 3 1, 3) := by decide +kernel
theorem zd_Acts_read_38 : decode zm_Acts_read.2.1 38 = .ok (.goto (-26), 3) := by decide +kernel
theorem zd_Acts_read_41 : decode zm_Acts_read.2.1 41 = .ok (.iload_n 2, 1) := by decide +kernel
theorem zd_Acts_read_42 : decode zm_Acts_read.2.1 42 = .ok (.ifCond .eq 10, 3) := by decide +kernel
theorem zd_Acts_read_45 : decode zm_Acts_read.2.1 45 = .ok (.aload_n 0, 1) := by decide +kernel
theorem zd_Acts_read_46 : decode zm_Acts_read.2.1 46 = .ok (.invokevirtual 29, 3) := by decide +kernel
theorem zd_Acts_read_49 : decode zm_Acts_read.2.1 49 = .ok (.ifCond .eq 7, 3) := by decide +kernel
theorem zd_Acts_read_52 : decode zm_Acts_read.2.1 52 = .ok (.iconst (-1), 1) := by decide +kernel
theorem zd_Acts_read_53 : decode zm_Acts_read.2.1 53 = .ok (.goto 4, 3) := by decide +kernel
theorem zd_Acts_read_56 : decode zm_Acts_read.2.1 56 = .ok (.iload_n 2, 1) := by decide +kernel
theorem zd_Acts_read_57 : decode zm_Acts_read.2.1 57 = .ok (.ireturn, 1) := by decide +kernel
theorem zb_Acts_read_0 {Γ : zG} {σ : zS} {x2 : Int32}  (k : z_J Γ zm_Acts_read 12 [some (.inr (8)), some (.inr (1)), some (.inl (x2)), some (.inl (nI 0))] [] (z_pI (z_pI σ 8 2 (nI 0)) 8 3 (-1))) : z_J Γ zm_Acts_read 0 [some (.inr (8)), some (.inr (1)), some (.inl (x2)), none] [] σ := by
  refine zj_aload_n zd_Acts_read_0 rfl ?_
  refine zj_iconst (v := nI 0) zd_Acts_read_1 (by decide) ?_
  refine zj_putI rfl (by decide) rfl zu_Acts zy_Acts_ok zn_Acts (k := 2) (by decide) rfl rfl zl_Acts_18 rfl rfl zd_Acts_read_2 ?_
  refine zj_aload_n zd_Acts_read_5 rfl ?_
  refine zj_iconst (v := (-1)) zd_Acts_read_6 (by decide) ?_
  refine zj_putI rfl (by decide) rfl zu_Acts zy_Acts_ok zn_Acts (k := 3) (by decide) rfl rfl zl_Acts_22 rfl rfl zd_Acts_read_7 ?_
  refine zj_iconst (v := nI 0) zd_Acts_read_10 (by decide) ?_
  refine zj_istore_n (L' := [some (.inr (8)), some (.inr (1)), some (.inl (x2)), some (.inl (nI 0))]) zd_Acts_read_11 (by decide) rfl ?_
  exact k
theorem zb_Acts_read_12 {Γ : zG} {σ : zS} {x2 x3 : Int32}  (kt : x2 ≤ x3 → z_J Γ zm_Acts_read 41 [some (.inr (8)), none, some (.inl (x2)), none] [] σ) (kf : ¬ x2 ≤ x3 → z_J Γ zm_Acts_read 17 [some (.inr (8)), some (.inr (1)), some (.inl (x2)), some (.inl (x3))] [] σ) : z_J Γ zm_Acts_read 12 [some (.inr (8)), some (.inr (1)), some (.inl (x2)), some (.inl (x3))] [] σ := by
  refine zj_iload_n zd_Acts_read_12 rfl ?_
  refine zj_iload_n zd_Acts_read_13 rfl ?_
  exact zj_icmp_ge zd_Acts_read_14 (by decide) (fun h => (zj_weak (L' := [some (.inr (8)), none, some (.inl (x2)), none]) ⟨rfl, ⟨rfl, trivial⟩⟩ (kt h))) (fun h => (kf h))
theorem zb_Acts_read_17 {Γ : zG} {σ : zS} {x2 x3 : Int32}  (kt : x3 = (nI 60) → z_J Γ zm_Acts_read 33 [none, none, none, some (.inl (x3))] [] σ) (kf : ¬ x3 = (nI 60) → z_J Γ zm_Acts_read 23 [some (.inr (8)), some (.inr (1)), some (.inl (x2)), some (.inl (x3))] [] σ) : z_J Γ zm_Acts_read 17 [some (.inr (8)), some (.inr (1)), some (.inl (x2)), some (.inl (x3))] [] σ := by
  refine zj_iload_n zd_Acts_read_17 rfl ?_
  refine zj_bipush (v := nI 60) zd_Acts_read_18 (by decide) ?_
  exact zj_icmp_eq zd_Acts_read_20 (by decide) (fun h => (zj_weak (L' := [none, none, none, some (.inl (x3))]) ⟨rfl, trivial⟩ (kt h))) (fun h => (kf h))
theorem zb_Acts_read_23 {Γ : zG} {σ : zS} {x2 x3 : Int32} {k1 : Nat} {dc : Nat} {P : Int32 → zS → Prop}  (b1 : z_ix x3 80 k1) (hm : z_Ci dc zm_Acts_takes [.inr (8), .inl (σ.1 1 k1)] σ P) (hdp : dc < z_dep Γ) (k : ∀ r σ1, P r σ1 → z_J Γ zm_Acts_read 30 [some (.inr (8)), some (.inr (1)), some (.inl (x2)), some (.inl (x3))] [.inl (r)] σ1) : z_J Γ zm_Acts_read 23 [some (.inr (8)), some (.inr (1)), some (.inl (x2)), some (.inl (x3))] [] σ := by
  refine zj_aload_n zd_Acts_read_23 rfl ?_
  refine zj_aload_n zd_Acts_read_24 rfl ?_
  refine zj_iload_n zd_Acts_read_25 rfl ?_
  refine zj_caload rfl (by decide) b1 zd_Acts_read_26 ?_
  exact zj_callVi (As := [.inl (σ.1 1 k1)]) hm hdp rfl (by decide) rfl zl_Acts_25 zq_Acts_takes zd_Acts_read_27 rfl (Nat.le_of_ble_eq_true rfl) (fun r σ1 h => (k r σ1 h))
theorem zb_Acts_read_30 {Γ : zG} {σ : zS} {x2 x3 y0 : Int32}  (kt : ¬ y0 = 0 → z_J Γ zm_Acts_read 35 [some (.inr (8)), some (.inr (1)), some (.inl (x2)), some (.inl (x3))] [] σ) (kf : y0 = 0 → z_J Γ zm_Acts_read 33 [none, none, none, some (.inl (x3))] [] σ) : z_J Γ zm_Acts_read 30 [some (.inr (8)), some (.inr (1)), some (.inl (x2)), some (.inl (x3))] [.inl (y0)] σ := by
  exact zj_if_ne zd_Acts_read_30 (by decide) (fun h => (kt h)) (fun h => (zj_weak (L' := [none, none, none, some (.inl (x3))]) ⟨rfl, trivial⟩ (kf h)))
theorem zb_Acts_read_33 {Γ : zG} {σ : zS} {x3 : Int32}  (e : z_end Γ (some (x3)) σ) : z_J Γ zm_Acts_read 33 [none, none, none, some (.inl (x3))] [] σ := by
  refine zj_iload_n zd_Acts_read_33 rfl ?_
  exact zj_ireturn rfl zd_Acts_read_34 e
theorem zb_Acts_read_35 {Γ : zG} {σ : zS} {x2 x3 : Int32}  (k : z_J Γ zm_Acts_read 12 [some (.inr (8)), some (.inr (1)), some (.inl (x2)), some (.inl (x3 + nI 1))] [] σ) : z_J Γ zm_Acts_read 35 [some (.inr (8)), some (.inr (1)), some (.inl (x2)), some (.inl (x3))] [] σ := by
  refine zj_iinc (v := nI 1) (L' := [some (.inr (8)), some (.inr (1)), some (.inl (x2)), some (.inl (x3 + nI 1))]) zd_Acts_read_35 rfl (by decide) (by decide) rfl ?_
  exact zj_goto zd_Acts_read_38 (by decide) k
theorem zb_Acts_read_41 {Γ : zG} {σ : zS} {x2 : Int32}  (kt : x2 = 0 → z_J Γ zm_Acts_read 52 [none, none, none, none] [] σ) (kf : ¬ x2 = 0 → z_J Γ zm_Acts_read 45 [some (.inr (8)), none, some (.inl (x2)), none] [] σ) : z_J Γ zm_Acts_read 41 [some (.inr (8)), none, some (.inl (x2)), none] [] σ := by
  refine zj_iload_n zd_Acts_read_41 rfl ?_
  exact zj_if_eq zd_Acts_read_42 (by decide) (fun h => (zj_weak (L' := [none, none, none, none]) trivial (kt h))) (fun h => (kf h))
theorem zb_Acts_read_45 {Γ : zG} {σ : zS} {x2 : Int32} {dc : Nat} {P : Int32 → zS → Prop}  (hm : z_Ci dc zm_Acts_isWhole [.inr (8)] σ P) (hdp : dc < z_dep Γ) (k : ∀ r σ1, P r σ1 → z_J Γ zm_Acts_read 49 [none, none, some (.inl (x2)), none] [.inl (r)] σ1) : z_J Γ zm_Acts_read 45 [some (.inr (8)), none, some (.inl (x2)), none] [] σ := by
  refine zj_aload_n zd_Acts_read_45 rfl ?_
  exact zj_callVi (As := []) hm hdp rfl (by decide) rfl zl_Acts_29 zq_Acts_isWhole zd_Acts_read_46 rfl (Nat.le_of_ble_eq_true rfl) (fun r σ1 h => (zj_weak (L' := [none, none, some (.inl (x2)), none]) ⟨rfl, trivial⟩ (k r σ1 h)))
theorem zb_Acts_read_49 {Γ : zG} {σ : zS} {x2 y0 : Int32}  (kt : y0 = 0 → z_J Γ zm_Acts_read 56 [none, none, some (.inl (x2)), none] [] σ) (kf : ¬ y0 = 0 → z_J Γ zm_Acts_read 52 [none, none, none, none] [] σ) : z_J Γ zm_Acts_read 49 [none, none, some (.inl (x2)), none] [.inl (y0)] σ := by
  exact zj_if_eq zd_Acts_read_49 (by decide) (fun h => (kt h)) (fun h => (zj_weak (L' := [none, none, none, none]) trivial (kf h)))
theorem zb_Acts_read_52 {Γ : zG} {σ : zS}  (k : z_J Γ zm_Acts_read 57 [none, none, none, none] [.inl ((-1))] σ) : z_J Γ zm_Acts_read 52 [none, none, none, none] [] σ := by
  refine zj_iconst (v := (-1)) zd_Acts_read_52 (by decide) ?_
  exact zj_goto zd_Acts_read_53 (by decide) k
theorem zb_Acts_read_56 {Γ : zG} {σ : zS} {x2 : Int32}  (k : z_J Γ zm_Acts_read 57 [none, none, none, none] [.inl (x2)] σ) : z_J Γ zm_Acts_read 56 [none, none, some (.inl (x2)), none] [] σ := by
  refine zj_iload_n zd_Acts_read_56 rfl ?_
  exact (zj_weak (L' := [none, none, none, none]) trivial k)
theorem zb_Acts_read_57 {Γ : zG} {σ : zS} {y0 : Int32}  (e : z_end Γ (some (y0)) σ) : z_J Γ zm_Acts_read 57 [none, none, none, none] [.inl (y0)] σ := by
  exact zj_ireturn rfl zd_Acts_read_57 e
theorem zd_Acts_takes_0 : decode zm_Acts_takes.2.1 0 = .ok (.aload_n 0, 1) := by decide +kernel
theorem zd_Acts_takes_1 : decode zm_Acts_takes.2.1 1 = .ok (.getfield 22, 3) := by decide +kernel
theorem zd_Acts_takes_4 : decode zm_Acts_takes.2.1 4 = .ok (.iconst (-1), 1) := by decide +kernel
theorem zd_Acts_takes_5 : decode zm_Acts_takes.2.1 5 = .ok (.if_icmp .ne 9, 3) := by decide +kernel
theorem zd_Acts_takes_8 : decode zm_Acts_takes.2.1 8 = .ok (.aload_n 0, 1) := by decide +kernel
theorem zd_Acts_takes_9 : decode zm_Acts_takes.2.1 9 = .ok (.iload_n 1, 1) := by decide +kernel
theorem zd_Acts_takes_10 : decode zm_Acts_takes.2.1 10 = .ok (.invokevirtual 37, 3) := by decide +kernel
theorem zd_Acts_takes_13 : decode zm_Acts_takes.2.1 13 = .ok (.ireturn, 1) := by decide +kernel
theorem zd_Acts_takes_14 : decode zm_Acts_takes.2.1 14 = .ok (.aload_n 0, 1) := by decide +kernel
theorem zd_Acts_takes_15 : decode zm_Acts_takes.2.1 15 = .ok (.getfield 11, 3) := by decide +kernel
theorem zd_Acts_takes_18 : decode zm_Acts_takes.2.1 18 = .ok (.aload_n 0, 1) := by decide +kernel
theorem zd_Acts_takes_19 : decode zm_Acts_takes.2.1 19 = .ok (.getfield 18, 3) := by decide +kernel
theorem zd_Acts_takes_22 : decode zm_Acts_takes.2.1 22 = .ok (.iconst 1, 1) := by decide +kernel
theorem zd_Acts_takes_23 : decode zm_Acts_takes.2.1 23 = .ok (.isub, 1) := by decide +kernel
theorem zd_Acts_takes_24 : decode zm_Acts_takes.2.1 24 = .ok (.iaload, 1) := by decide +kernel
theorem zd_Acts_takes_25 : decode zm_Acts_takes.2.1 25 = .ok (.aload_n 0, 1) := by decide +kernel
theorem zd_Acts_takes_26 : decode zm_Acts_takes.2.1 26 = .ok (.getfield 22, 3) := by decide +kernel
theorem zd_Acts_takes_29 : decode zm_Acts_takes.2.1 29 = .ok (.invokestatic 33, 3) := by decide +kernel
theorem zd_Acts_takes_32 : decode zm_Acts_takes.2.1 32 = .ok (.tableswitch 108 1 3 #[28, 58, 83], 28) := by decide +kernel
theorem zd_Acts_takes_60 : decode zm_Acts_takes.2.1 60 = .ok (.iload_n 1, 1) := by decide +kernel
theorem zd_Acts_takes_61 : decode zm_Acts_takes.2.1 61 = .ok (.bipush 97, 2) := by decide +kernel
theorem zd_Acts_takes_63 : decode zm_Acts_takes.2.1 63 = .ok (.if_icmp .lt 25, 3) := by decide +kernel
theorem zd_Acts_takes_66 : decode zm_Acts_takes.2.1 66 = .ok (.iload_n 1, 1) := by decide +kernel
theorem zd_Acts_takes_67 : decode zm_Acts_takes.2.1 67 = .ok (.bipush 108, 2) := by decide +kernel
theorem zd_Acts_takes_69 : decode zm_Acts_takes.2.1 69 = .ok (.if_icmp .gt 19, 3) := by decide +kernel
theorem zd_Acts_takes_72 : decode zm_Acts_takes.2.1 72 = .ok (.aload_n 0, 1) := by decide +kernel
theorem zd_Acts_takes_73 : decode zm_Acts_takes.2.1 73 = .ok (.iload_n 1, 1) := by decide +kernel
theorem zd_Acts_takes_74 : decode zm_Acts_takes.2.1 74 = .ok (.bipush 97, 2) := by decide +kernel
theorem zd_Acts_takes_76 : decode zm_Acts_takes.2.1 76 = .ok (.isub, 1) := by decide +kernel
theorem zd_Acts_takes_77 : decode zm_Acts_takes.2.1 77 = .ok (.iconst 0, 1) := by decide +kernel
theorem zd_Acts_takes_78 : decode zm_Acts_takes.2.1 78 = .ok (.invokevirtual 40, 3) := by decide +kernel
theorem zd_Acts_takes_81 : decode zm_Acts_takes.2.1 81 = .ok (.ifCond .eq 7, 3) := by decide +kernel
theorem zd_Acts_takes_84 : decode zm_Acts_takes.2.1 84 = .ok (.iconst 1, 1) := by decide +kernel
theorem zd_Acts_takes_85 : decode zm_Acts_takes.2.1 85 = .ok (.goto 4, 3) := by decide +kernel
theorem zd_Acts_takes_88 : decode zm_Acts_takes.2.1 88 = .ok (.iconst 0, 1) := by decide +kernel
theorem zd_Acts_takes_89 : decode zm_Acts_takes.2.1 89 = .ok (.ireturn, 1) := by decide +kernel
theorem zd_Acts_takes_90 : decode zm_Acts_takes.2.1 90 = .ok (.iload_n 1, 1) := by decide +kernel
theorem zd_Acts_takes_91 : decode zm_Acts_takes.2.1 91 = .ok (.invokestatic 44, 3) := by decide +kernel
theorem zd_Acts_takes_94 : decode zm_Acts_takes.2.1 94 = .ok (.ifCond .eq 19, 3) := by decide +kernel
theorem zd_Acts_takes_97 : decode zm_Acts_takes.2.1 97 = .ok (.aload_n 0, 1) := by decide +kernel
theorem zd_Acts_takes_98 : decode zm_Acts_takes.2.1 98 = .ok (.iload_n 1, 1) := by decide +kernel
theorem zd_Acts_takes_99 : decode zm_Acts_takes.2.1 99 = .ok (.bipush 48, 2) := by decide +kernel
theorem zd_Acts_takes_101 : decode zm_Acts_takes.2.1 101 = .ok (.isub, 1) := by decide +kernel
theorem zd_Acts_takes_102 : decode zm_Acts_takes.2.1 102 = .ok (.iconst 0, 1) := by decide +kernel
theorem zd_Acts_takes_103 : decode zm_Acts_takes.2.1 103 = .ok (.invokevirtual 40, 3) := by decide +kernel
theorem zd_Acts_takes_106 : decode zm_Acts_takes.2.1 106 = .ok (.ifCond .eq 7, 3) := by decide +kernel
theorem zd_Acts_takes_109 : decode zm_Acts_takes.2.1 109 = .ok (.iconst 1, 1) := by decide +kernel
theorem zd_Acts_takes_110 : decode zm_Acts_takes.2.1 110 = .ok (.goto 4, 3) := by decide +kernel
theorem zd_Acts_takes_113 : decode zm_Acts_takes.2.1 113 = .ok (.iconst 0, 1) := by decide +kernel
theorem zd_Acts_takes_114 : decode zm_Acts_takes.2.1 114 = .ok (.ireturn, 1) := by decide +kernel
theorem zd_Acts_takes_115 : decode zm_Acts_takes.2.1 115 = .ok (.iload_n 1, 1) := by decide +kernel
theorem zd_Acts_takes_116 : decode zm_Acts_takes.2.1 116 = .ok (.invokestatic 44, 3) := by decide +kernel
theorem zd_Acts_takes_119 : decode zm_Acts_takes.2.1 119 = .ok (.ifCond .eq 19, 3) := by decide +kernel
theorem zd_Acts_takes_122 : decode zm_Acts_takes.2.1 122 = .ok (.aload_n 0, 1) := by decide +kernel
theorem zd_Acts_takes_123 : decode zm_Acts_takes.2.1 123 = .ok (.iload_n 1, 1) := by decide +kernel
theorem zd_Acts_takes_124 : decode zm_Acts_takes.2.1 124 = .ok (.bipush 48, 2) := by decide +kernel
theorem zd_Acts_takes_126 : decode zm_Acts_takes.2.1 126 = .ok (.isub, 1) := by decide +kernel
theorem zd_Acts_takes_127 : decode zm_Acts_takes.2.1 127 = .ok (.iconst 1, 1) := by decide +kernel
theorem zd_Acts_takes_128 : decode zm_Acts_takes.2.1 128 = .ok (.invokevirtual 40, 3) := by decide +kernel
theorem zd_Acts_takes_131 : decode zm_Acts_takes.2.1 131 = .ok (.ifCond .eq 7, 3) := by decide +kernel
theorem zd_Acts_takes_134 : decode zm_Acts_takes.2.1 134 = .ok (.iconst 1, 1) := by decide +kernel
theorem zd_Acts_takes_135 : decode zm_Acts_takes.2.1 135 = .ok (.goto 4, 3) := by decide +kernel
theorem zd_Acts_takes_138 : decode zm_Acts_takes.2.1 138 = .ok (.iconst 0, 1) := by decide +kernel
theorem zd_Acts_takes_139 : decode zm_Acts_takes.2.1 139 = .ok (.ireturn, 1) := by decide +kernel
theorem zd_Acts_takes_140 : decode zm_Acts_takes.2.1 140 = .ok (.iload_n 1, 1) := by decide +kernel
theorem zd_Acts_takes_141 : decode zm_Acts_takes.2.1 141 = .ok (.bipush 59, 2) := by decide +kernel
theorem zd_Acts_takes_143 : decode zm_Acts_takes.2.1 143 = .ok (.if_icmp .ne 10, 3) := by decide +kernel
theorem zd_Acts_takes_146 : decode zm_Acts_takes.2.1 146 = .ok (.aload_n 0, 1) := by decide +kernel
theorem zd_Acts_takes_147 : decode zm_Acts_takes.2.1 147 = .ok (.invokevirtual 47, 3) := by decide +kernel
theorem zd_Acts_takes_150 : decode zm_Acts_takes.2.1 150 = .ok (.goto 8, 3) := by decide +kernel
theorem zd_Acts_takes_153 : decode zm_Acts_takes.2.1 153 = .ok (.aload_n 0, 1) := by decide +kernel
theorem zd_Acts_takes_154 : decode zm_Acts_takes.2.1 154 = .ok (.iload_n 1, 1) := by decide +kernel
theorem zd_Acts_takes_155 : decode zm_Acts_takes.2.1 155 = .ok (.invokevirtual 50, 3) := by decide +kernel
theorem zd_Acts_takes_158 : decode zm_Acts_takes.2.1 158 = .ok (.ireturn, 1) := by decide +kernel
theorem zb_Acts_takes_0 {Γ : zG} {σ : zS} {x1 : Int32}  (kt : ¬ (σ.1 8 3) = (-1) → z_J Γ zm_Acts_takes 14 [some (.inr (8)), some (.inl (x1))] [] σ) (kf : (σ.1 8 3) = (-1) → z_J Γ zm_Acts_takes 8 [some (.inr (8)), some (.inl (x1))] [] σ) : z_J Γ zm_Acts_takes 0 [some (.inr (8)), some (.inl (x1))] [] σ := by
  refine zj_aload_n zd_Acts_takes_0 rfl ?_
  refine zj_getI rfl (by decide) rfl zu_Acts (k := 3) (by decide) rfl zl_Acts_22 zd_Acts_takes_1 ?_
  refine zj_iconst (v := (-1)) zd_Acts_takes_4 (by decide) ?_
  exact zj_icmp_ne zd_Acts_takes_5 (by decide) (fun h => (kt h)) (fun h => (kf h))
theorem zb_Acts_takes_8 {Γ : zG} {σ : zS} {x1 : Int32} {dc : Nat} {P : Int32 → zS → Prop}  (hm : z_Ci dc zm_Acts_begins [.inr (8), .inl (x1)] σ P) (hdp : dc < z_dep Γ) (k : ∀ r σ1, P r σ1 → z_J Γ zm_Acts_takes 13 [none, none] [.inl (r)] σ1) : z_J Γ zm_Acts_takes 8 [some (.inr (8)), some (.inl (x1))] [] σ := by
  refine zj_aload_n zd_Acts_takes_8 rfl ?_
  refine zj_iload_n zd_Acts_takes_9 rfl ?_
  exact zj_callVi (As := [.inl (x1)]) hm hdp rfl (by decide) rfl zl_Acts_37 zq_Acts_begins zd_Acts_takes_10 rfl (Nat.le_of_ble_eq_true rfl) (fun r σ1 h => (zj_weak (L' := [none, none]) trivial (k r σ1 h)))
theorem zb_Acts_takes_13 {Γ : zG} {σ : zS} {y0 : Int32}  (e : z_end Γ (some (y0)) σ) (z1 : y0 = 0 ∨ y0 = 1) : z_J Γ zm_Acts_takes 13 [none, none] [.inl (y0)] σ := by
  exact zj_zreturn rfl z1 zd_Acts_takes_13 e
theorem zb_Acts_takes_14 {Γ : zG} {σ : zS} {x1 : Int32} {k1 : Nat} {dc : Nat} {P : Int32 → zS → Prop}  (b1 : z_ix ((σ.1 8 2) - (nI 1)) 20 k1) (hm : z_Ci dc zm_Acts_partOf [.inl (σ.1 9 k1), .inl (σ.1 8 3)] σ P) (hdp : dc < z_dep Γ) (k : ∀ r σ1, P r σ1 → z_J Γ zm_Acts_takes 32 [some (.inr (8)), some (.inl (x1))] [.inl (r)] σ1) : z_J Γ zm_Acts_takes 14 [some (.inr (8)), some (.inl (x1))] [] σ := by
  refine zj_aload_n zd_Acts_takes_14 rfl ?_
  refine zj_getR rfl (by decide) rfl zu_Acts (k := 0) (by decide) rfl zl_Acts_11 zd_Acts_takes_15 (o' := 9) rfl ?_
  refine zj_aload_n zd_Acts_takes_18 rfl ?_
  refine zj_getI rfl (by decide) rfl zu_Acts (k := 2) (by decide) rfl zl_Acts_18 zd_Acts_takes_19 ?_
  refine zj_iconst (v := nI 1) zd_Acts_takes_22 (by decide) ?_
  refine zj_isub zd_Acts_takes_23 ?_
  refine zj_iaload rfl (by decide) b1 zd_Acts_takes_24 ?_
  refine zj_aload_n zd_Acts_takes_25 rfl ?_
  refine zj_getI rfl (by decide) rfl zu_Acts (k := 3) (by decide) rfl zl_Acts_22 zd_Acts_takes_26 ?_
  exact zj_callSi (As := [.inl (σ.1 9 k1), .inl (σ.1 8 3)]) hm hdp zl_Acts_33 zq_Acts_partOf zd_Acts_takes_29 rfl (Nat.le_of_ble_eq_true rfl) (fun r σ1 h => (k r σ1 h))
theorem zb_Acts_takes_32 {Γ : zG} {σ : zS} {x1 y0 : Int32}  (kd : y0.toInt < 1 ∨ 3 < y0.toInt → z_J Γ zm_Acts_takes 140 [some (.inr (8)), some (.inl (x1))] [] σ) (k1_ : y0 = nI 1 → z_J Γ zm_Acts_takes 60 [some (.inr (8)), some (.inl (x1))] [] σ) (k2_ : y0 = nI 2 → z_J Γ zm_Acts_takes 90 [some (.inr (8)), some (.inl (x1))] [] σ) (k3_ : y0 = nI 3 → z_J Γ zm_Acts_takes 115 [some (.inr (8)), some (.inl (x1))] [] σ) : z_J Γ zm_Acts_takes 32 [some (.inr (8)), some (.inl (x1))] [.inl (y0)] σ := by
  rcases (show (y0.toInt < 1 ∨ 3 < y0.toInt) ∨ y0.toInt = 1 ∨ y0.toInt = 2 ∨ y0.toInt = 3 by omega) with h | h | h | h
  · exact zj_tblOut zd_Acts_takes_32 h (by decide) (kd h)
  · exact zj_tblIn zd_Acts_takes_32 (by omega) (by omega) (by rw [h]; rfl) (by decide) (k1_ (Int32.toInt_inj.mp (by rw [h]; decide)))
  · exact zj_tblIn zd_Acts_takes_32 (by omega) (by omega) (by rw [h]; rfl) (by decide) (k2_ (Int32.toInt_inj.mp (by rw [h]; decide)))
  · exact zj_tblIn zd_Acts_takes_32 (by omega) (by omega) (by rw [h]; rfl) (by decide) (k3_ (Int32.toInt_inj.mp (by rw [h]; decide)))
theorem zb_Acts_takes_60 {Γ : zG} {σ : zS} {x1 : Int32}  (kt : x1 < (nI 97) → z_J Γ zm_Acts_takes 88 [none, none] [] σ) (kf : ¬ x1 < (nI 97) → z_J Γ zm_Acts_takes 66 [some (.inr (8)), some (.inl (x1))] [] σ) : z_J Γ zm_Acts_takes 60 [some (.inr (8)), some (.inl (x1))] [] σ := by
  refine zj_iload_n zd_Acts_takes_60 rfl ?_
  refine zj_bipush (v := nI 97) zd_Acts_takes_61 (by decide) ?_
  exact zj_icmp_lt zd_Acts_takes_63 (by decide) (fun h => (zj_weak (L' := [none, none]) trivial (kt h))) (fun h => (kf h))
theorem zb_Acts_takes_66 {Γ : zG} {σ : zS} {x1 : Int32}  (kt : (nI 108) < x1 → z_J Γ zm_Acts_takes 88 [none, none] [] σ) (kf : ¬ (nI 108) < x1 → z_J Γ zm_Acts_takes 72 [some (.inr (8)), some (.inl (x1))] [] σ) : z_J Γ zm_Acts_takes 66 [some (.inr (8)), some (.inl (x1))] [] σ := by
  refine zj_iload_n zd_Acts_takes_66 rfl ?_
  refine zj_bipush (v := nI 108) zd_Acts_takes_67 (by decide) ?_
  exact zj_icmp_gt zd_Acts_takes_69 (by decide) (fun h => (zj_weak (L' := [none, none]) trivial (kt h))) (fun h => (kf h))
theorem zb_Acts_takes_72 {Γ : zG} {σ : zS} {x1 : Int32} {dc : Nat} {P : Int32 → zS → Prop}  (hm : z_Ci dc zm_Acts_adds [.inr (8), .inl (x1 - (nI 97)), .inl (nI 0)] σ P) (hdp : dc < z_dep Γ) (k : ∀ r σ1, P r σ1 → z_J Γ zm_Acts_takes 81 [none, none] [.inl (r)] σ1) : z_J Γ zm_Acts_takes 72 [some (.inr (8)), some (.inl (x1))] [] σ := by
  refine zj_aload_n zd_Acts_takes_72 rfl ?_
  refine zj_iload_n zd_Acts_takes_73 rfl ?_
  refine zj_bipush (v := nI 97) zd_Acts_takes_74 (by decide) ?_
  refine zj_isub zd_Acts_takes_76 ?_
  refine zj_iconst (v := nI 0) zd_Acts_takes_77 (by decide) ?_
  exact zj_callVi (As := [.inl (x1 - (nI 97)), .inl (nI 0)]) hm hdp rfl (by decide) rfl zl_Acts_40 zq_Acts_adds zd_Acts_takes_78 rfl (Nat.le_of_ble_eq_true rfl) (fun r σ1 h => (zj_weak (L' := [none, none]) trivial (k r σ1 h)))
theorem zb_Acts_takes_81 {Γ : zG} {σ : zS} {y0 : Int32}  (kt : y0 = 0 → z_J Γ zm_Acts_takes 88 [none, none] [] σ) (kf : ¬ y0 = 0 → z_J Γ zm_Acts_takes 84 [none, none] [] σ) : z_J Γ zm_Acts_takes 81 [none, none] [.inl (y0)] σ := by
  exact zj_if_eq zd_Acts_takes_81 (by decide) (fun h => (kt h)) (fun h => (kf h))
theorem zb_Acts_takes_84 {Γ : zG} {σ : zS}  (k : z_J Γ zm_Acts_takes 89 [none, none] [.inl (nI 1)] σ) : z_J Γ zm_Acts_takes 84 [none, none] [] σ := by
  refine zj_iconst (v := nI 1) zd_Acts_takes_84 (by decide) ?_
  exact zj_goto zd_Acts_takes_85 (by decide) k
theorem zb_Acts_takes_88 {Γ : zG} {σ : zS}  (k : z_J Γ zm_Acts_takes 89 [none, none] [.inl (nI 0)] σ) : z_J Γ zm_Acts_takes 88 [none, none] [] σ := by
  refine zj_iconst (v := nI 0) zd_Acts_takes_88 (by decide) ?_
  exact k
theorem zb_Acts_takes_89 {Γ : zG} {σ : zS} {y0 : Int32}  (e : z_end Γ (some (y0)) σ) (z1 : y0 = 0 ∨ y0 = 1) : z_J Γ zm_Acts_takes 89 [none, none] [.inl (y0)] σ := by
  exact zj_zreturn rfl z1 zd_Acts_takes_89 e
theorem zb_Acts_takes_90 {Γ : zG} {σ : zS} {x1 : Int32} {dc : Nat} {P : Int32 → zS → Prop}  (hm : z_Ci dc zm_Walls_isDigit [.inl (x1)] σ P) (hdp : dc < z_dep Γ) (k : ∀ r σ1, P r σ1 → z_J Γ zm_Acts_takes 94 [some (.inr (8)), some (.inl (x1))] [.inl (r)] σ1) : z_J Γ zm_Acts_takes 90 [some (.inr (8)), some (.inl (x1))] [] σ := by
  refine zj_iload_n zd_Acts_takes_90 rfl ?_
  exact zj_callNi (As := [.inl (x1)]) hm hdp (fun _ h => h.2.2) zq_Walls_isDigit zd_Acts_takes_91 rfl (Nat.le_of_ble_eq_true rfl) (fun r σ1 h => (k r σ1 h))
theorem zb_Acts_takes_94 {Γ : zG} {σ : zS} {x1 y0 : Int32}  (kt : y0 = 0 → z_J Γ zm_Acts_takes 113 [none, none] [] σ) (kf : ¬ y0 = 0 → z_J Γ zm_Acts_takes 97 [some (.inr (8)), some (.inl (x1))] [] σ) : z_J Γ zm_Acts_takes 94 [some (.inr (8)), some (.inl (x1))] [.inl (y0)] σ := by
  exact zj_if_eq zd_Acts_takes_94 (by decide) (fun h => (zj_weak (L' := [none, none]) trivial (kt h))) (fun h => (kf h))
theorem zb_Acts_takes_97 {Γ : zG} {σ : zS} {x1 : Int32} {dc : Nat} {P : Int32 → zS → Prop}  (hm : z_Ci dc zm_Acts_adds [.inr (8), .inl (x1 - (nI 48)), .inl (nI 0)] σ P) (hdp : dc < z_dep Γ) (k : ∀ r σ1, P r σ1 → z_J Γ zm_Acts_takes 106 [none, none] [.inl (r)] σ1) : z_J Γ zm_Acts_takes 97 [some (.inr (8)), some (.inl (x1))] [] σ := by
  refine zj_aload_n zd_Acts_takes_97 rfl ?_
  refine zj_iload_n zd_Acts_takes_98 rfl ?_
  refine zj_bipush (v := nI 48) zd_Acts_takes_99 (by decide) ?_
  refine zj_isub zd_Acts_takes_101 ?_
  refine zj_iconst (v := nI 0) zd_Acts_takes_102 (by decide) ?_
  exact zj_callVi (As := [.inl (x1 - (nI 48)), .inl (nI 0)]) hm hdp rfl (by decide) rfl zl_Acts_40 zq_Acts_adds zd_Acts_takes_103 rfl (Nat.le_of_ble_eq_true rfl) (fun r σ1 h => (zj_weak (L' := [none, none]) trivial (k r σ1 h)))
theorem zb_Acts_takes_106 {Γ : zG} {σ : zS} {y0 : Int32}  (kt : y0 = 0 → z_J Γ zm_Acts_takes 113 [none, none] [] σ) (kf : ¬ y0 = 0 → z_J Γ zm_Acts_takes 109 [none, none] [] σ) : z_J Γ zm_Acts_takes 106 [none, none] [.inl (y0)] σ := by
  exact zj_if_eq zd_Acts_takes_106 (by decide) (fun h => (kt h)) (fun h => (kf h))
theorem zb_Acts_takes_109 {Γ : zG} {σ : zS}  (k : z_J Γ zm_Acts_takes 114 [none, none] [.inl (nI 1)] σ) : z_J Γ zm_Acts_takes 109 [none, none] [] σ := by
  refine zj_iconst (v := nI 1) zd_Acts_takes_109 (by decide) ?_
  exact zj_goto zd_Acts_takes_110 (by decide) k
theorem zb_Acts_takes_113 {Γ : zG} {σ : zS}  (k : z_J Γ zm_Acts_takes 114 [none, none] [.inl (nI 0)] σ) : z_J Γ zm_Acts_takes 113 [none, none] [] σ := by
  refine zj_iconst (v := nI 0) zd_Acts_takes_113 (by decide) ?_
  exact k
theorem zb_Acts_takes_114 {Γ : zG} {σ : zS} {y0 : Int32}  (e : z_end Γ (some (y0)) σ) (z1 : y0 = 0 ∨ y0 = 1) : z_J Γ zm_Acts_takes 114 [none, none] [.inl (y0)] σ := by
  exact zj_zreturn rfl z1 zd_Acts_takes_114 e
theorem zb_Acts_takes_115 {Γ : zG} {σ : zS} {x1 : Int32} {dc : Nat} {P : Int32 → zS → Prop}  (hm : z_Ci dc zm_Walls_isDigit [.inl (x1)] σ P) (hdp : dc < z_dep Γ) (k : ∀ r σ1, P r σ1 → z_J Γ zm_Acts_takes 119 [some (.inr (8)), some (.inl (x1))] [.inl (r)] σ1) : z_J Γ zm_Acts_takes 115 [some (.inr (8)), some (.inl (x1))] [] σ := by
  refine zj_iload_n zd_Acts_takes_115 rfl ?_
  exact zj_callNi (As := [.inl (x1)]) hm hdp (fun _ h => h.2.2) zq_Walls_isDigit zd_Acts_takes_116 rfl (Nat.le_of_ble_eq_true rfl) (fun r σ1 h => (k r σ1 h))
theorem zb_Acts_takes_119 {Γ : zG} {σ : zS} {x1 y0 : Int32}  (kt : y0 = 0 → z_J Γ zm_Acts_takes 138 [none, none] [] σ) (kf : ¬ y0 = 0 → z_J Γ zm_Acts_takes 122 [some (.inr (8)), some (.inl (x1))] [] σ) : z_J Γ zm_Acts_takes 119 [some (.inr (8)), some (.inl (x1))] [.inl (y0)] σ := by
  exact zj_if_eq zd_Acts_takes_119 (by decide) (fun h => (zj_weak (L' := [none, none]) trivial (kt h))) (fun h => (kf h))
theorem zb_Acts_takes_122 {Γ : zG} {σ : zS} {x1 : Int32} {dc : Nat} {P : Int32 → zS → Prop}  (hm : z_Ci dc zm_Acts_adds [.inr (8), .inl (x1 - (nI 48)), .inl (nI 1)] σ P) (hdp : dc < z_dep Γ) (k : ∀ r σ1, P r σ1 → z_J Γ zm_Acts_takes 131 [none, none] [.inl (r)] σ1) : z_J Γ zm_Acts_takes 122 [some (.inr (8)), some (.inl (x1))] [] σ := by
  refine zj_aload_n zd_Acts_takes_122 rfl ?_
  refine zj_iload_n zd_Acts_takes_123 rfl ?_
  refine zj_bipush (v := nI 48) zd_Acts_takes_124 (by decide) ?_
  refine zj_isub zd_Acts_takes_126 ?_
  refine zj_iconst (v := nI 1) zd_Acts_takes_127 (by decide) ?_
  exact zj_callVi (As := [.inl (x1 - (nI 48)), .inl (nI 1)]) hm hdp rfl (by decide) rfl zl_Acts_40 zq_Acts_adds zd_Acts_takes_128 rfl (Nat.le_of_ble_eq_true rfl) (fun r σ1 h => (zj_weak (L' := [none, none]) trivial (k r σ1 h)))
theorem zb_Acts_takes_131 {Γ : zG} {σ : zS} {y0 : Int32}  (kt : y0 = 0 → z_J Γ zm_Acts_takes 138 [none, none] [] σ) (kf : ¬ y0 = 0 → z_J Γ zm_Acts_takes 134 [none, none] [] σ) : z_J Γ zm_Acts_takes 131 [none, none] [.inl (y0)] σ := by
  exact zj_if_eq zd_Acts_takes_131 (by decide) (fun h => (kt h)) (fun h => (kf h))
theorem zb_Acts_takes_134 {Γ : zG} {σ : zS}  (k : z_J Γ zm_Acts_takes 139 [none, none] [.inl (nI 1)] σ) : z_J Γ zm_Acts_takes 134 [none, none] [] σ := by
  refine zj_iconst (v := nI 1) zd_Acts_takes_134 (by decide) ?_
  exact zj_goto zd_Acts_takes_135 (by decide) k
theorem zb_Acts_takes_138 {Γ : zG} {σ : zS}  (k : z_J Γ zm_Acts_takes 139 [none, none] [.inl (nI 0)] σ) : z_J Γ zm_Acts_takes 138 [none, none] [] σ := by
  refine zj_iconst (v := nI 0) zd_Acts_takes_138 (by decide) ?_
  exact k
theorem zb_Acts_takes_139 {Γ : zG} {σ : zS} {y0 : Int32}  (e : z_end Γ (some (y0)) σ) (z1 : y0 = 0 ∨ y0 = 1) : z_J Γ zm_Acts_takes 139 [none, none] [.inl (y0)] σ := by
  exact zj_zreturn rfl z1 zd_Acts_takes_139 e
theorem zb_Acts_takes_140 {Γ : zG} {σ : zS} {x1 : Int32}  (kt : ¬ x1 = (nI 59) → z_J Γ zm_Acts_takes 153 [some (.inr (8)), some (.inl (x1))] [] σ) (kf : x1 = (nI 59) → z_J Γ zm_Acts_takes 146 [some (.inr (8)), none] [] σ) : z_J Γ zm_Acts_takes 140 [some (.inr (8)), some (.inl (x1))] [] σ := by
  refine zj_iload_n zd_Acts_takes_140 rfl ?_
  refine zj_bipush (v := nI 59) zd_Acts_takes_141 (by decide) ?_
  exact zj_icmp_ne zd_Acts_takes_143 (by decide) (fun h => (kt h)) (fun h => (zj_weak (L' := [some (.inr (8)), none]) ⟨rfl, trivial⟩ (kf h)))
theorem zb_Acts_takes_146 {Γ : zG} {σ : zS} {dc : Nat} {P : Int32 → zS → Prop}  (hm : z_Ci dc zm_Acts_ends [.inr (8)] σ P) (hdp : dc < z_dep Γ) (k : ∀ r σ1, P r σ1 → z_J Γ zm_Acts_takes 150 [none, none] [.inl (r)] σ1) : z_J Γ zm_Acts_takes 146 [some (.inr (8)), none] [] σ := by
  refine zj_aload_n zd_Acts_takes_146 rfl ?_
  exact zj_callVi (As := []) hm hdp rfl (by decide) rfl zl_Acts_47 zq_Acts_ends zd_Acts_takes_147 rfl (Nat.le_of_ble_eq_true rfl) (fun r σ1 h => (zj_weak (L' := [none, none]) trivial (k r σ1 h)))
theorem zb_Acts_takes_150 {Γ : zG} {σ : zS} {y0 : Int32}  (k : z_J Γ zm_Acts_takes 158 [none, none] [.inl (y0)] σ) : z_J Γ zm_Acts_takes 150 [none, none] [.inl (y0)] σ := by
  exact zj_goto zd_Acts_takes_150 (by decide) k
theorem zb_Acts_takes_153 {Γ : zG} {σ : zS} {x1 : Int32} {dc : Nat} {P : Int32 → zS → Prop}  (hm : z_Ci dc zm_Acts_grows [.inr (8), .inl (x1)] σ P) (hdp : dc < z_dep Γ) (k : ∀ r σ1, P r σ1 → z_J Γ zm_Acts_takes 158 [none, none] [.inl (r)] σ1) : z_J Γ zm_Acts_takes 153 [some (.inr (8)), some (.inl (x1))] [] σ := by
  refine zj_aload_n zd_Acts_takes_153 rfl ?_
  refine zj_iload_n zd_Acts_takes_154 rfl ?_
  exact zj_callVi (As := [.inl (x1)]) hm hdp rfl (by decide) rfl zl_Acts_50 zq_Acts_grows zd_Acts_takes_155 rfl (Nat.le_of_ble_eq_true rfl) (fun r σ1 h => (zj_weak (L' := [none, none]) trivial (k r σ1 h)))
theorem zb_Acts_takes_158 {Γ : zG} {σ : zS} {y0 : Int32}  (e : z_end Γ (some (y0)) σ) (z1 : y0 = 0 ∨ y0 = 1) : z_J Γ zm_Acts_takes 158 [none, none] [.inl (y0)] σ := by
  exact zj_zreturn rfl z1 zd_Acts_takes_158 e
theorem zd_Acts_begins_0 : decode zm_Acts_begins.2.1 0 = .ok (.aload_n 0, 1) := by decide +kernel
theorem zd_Acts_begins_1 : decode zm_Acts_begins.2.1 1 = .ok (.getfield 18, 3) := by decide +kernel
theorem zd_Acts_begins_4 : decode zm_Acts_begins.2.1 4 = .ok (.bipush 20, 2) := by decide +kernel
theorem zd_Acts_begins_6 : decode zm_Acts_begins.2.1 6 = .ok (.if_icmp .eq 33, 3) := by decide +kernel
theorem zd_Acts_begins_9 : decode zm_Acts_begins.2.1 9 = .ok (.iload_n 1, 1) := by decide +kernel
theorem zd_Acts_begins_10 : decode zm_Acts_begins.2.1 10 = .ok (.bipush 108, 2) := by decide +kernel
theorem zd_Acts_begins_12 : decode zm_Acts_begins.2.1 12 = .ok (.if_icmp .eq 29, 3) := by decide +kernel
theorem zd_Acts_begins_15 : decode zm_Acts_begins.2.1 15 = .ok (.iload_n 1, 1) := by decide +kernel
theorem zd_Acts_begins_16 : decode zm_Acts_begins.2.1 16 = .ok (.bipush 111, 2) := by decide +kernel
theorem zd_Acts_begins_18 : decode zm_Acts_begins.2.1 18 = .ok (.if_icmp .eq 23, 3) := by decide +kernel
theorem zd_Acts_begins_21 : decode zm_Acts_begins.2.1 21 = .ok (.iload_n 1, 1) := by decide +kernel
theorem zd_Acts_begins_22 : decode zm_Acts_begins.2.1 22 = .ok (.bipush 114, 2) := by decide +kernel
theorem zd_Acts_begins_24 : decode zm_Acts_begins.2.1 24 = .ok (.if_icmp .eq 17, 3) := by decide +kernel
theorem zd_Acts_begins_27 : decode zm_Acts_begins.2.1 27 = .ok (.iload_n 1, 1) := by decide +kernel
theorem zd_Acts_begins_28 : decode zm_Acts_begins.2.1 28 = .ok (.bipush 115, 2) := by decide +kernel
theorem zd_Acts_begins_30 : decode zm_Acts_begins.2.1 30 = .ok (.if_icmp .eq 11, 3) := by decide +kernel
theorem zd_Acts_begins_33 : decode zm_Acts_begins.2.1 33 = .ok (.iload_n 1, 1) := by decide +kernel
theorem zd_Acts_begins_34 : decode zm_Acts_begins.2.1 34 = .ok (.bipush 100, 2) := by decide +kernel
theorem zd_Acts_begins_36 : decode zm_Acts_begins.2.1 36 = .ok (.if_icmp .eq 5, 3) := by decide +kernel
theorem zd_Acts_begins_39 : decode zm_Acts_begins.2.1 39 = .ok (.iconst 0, 1) := by decide +kernel
theorem zd_Acts_begins_40 : decode zm_Acts_begins.2.1 40 = .ok (.ireturn, 1) := by decide +kernel
theorem zd_Acts_begins_41 : decode zm_Acts_begins.2.1 41 = .ok (.aload_n 0, 1) := by decide +kernel
theorem zd_Acts_begins_42 : decode zm_Acts_begins.2.1 42 = .ok (.getfield 11, 3) := by decide +kernel
theorem zd_Acts_begins_45 : decode zm_Acts_begins.2.1 45 = .ok (.aload_n 0, 1) := by decide +kernel
theorem zd_Acts_begins_46 : decode zm_Acts_begins.2.1 46 = .ok (.getfield 18, 3) := by decide +kernel
theorem zd_Acts_begins_49 : decode zm_Acts_begins.2.1 49 = .ok (.iload_n 1, 1) := by decide +kernel
theorem zd_Acts_begins_50 : decode zm_Acts_begins.2.1 50 = .ok (.iastore, 1) := by decide +kernel
theorem zd_Acts_begins_51 : decode zm_Acts_begins.2.1 51 = .ok (.aload_n 0, 1) := by decide +kernel
theorem zd_Acts_begins_52 : decode zm_Acts_begins.2.1 52 = .ok (.dup, 1) := by decide +kernel
theorem zd_Acts_begins_53 : decode zm_Acts_begins.2.1 53 = .ok (.getfield 18, 3) := by decide +kernel
theorem zd_Acts_begins_56 : decode zm_Acts_begins.2.1 56 = .ok (.iconst 1, 1) := by decide +kernel
theorem zd_Acts_begins_57 : decode zm_Acts_begins.2.1 57 = .ok (.iadd, 1) := by decide +kernel
theorem zd_Acts_begins_58 : decode zm_Acts_begins.2.1 58 = .ok (.putfield 18, 3) := by decide +kernel
theorem zd_Acts_begins_61 : decode zm_Acts_begins.2.1 61 = .ok (.aload_n 0, 1) := by decide +kernel
theorem zd_Acts_begins_62 : decode zm_Acts_begins.2.1 62 = .ok (.iconst 0, 1) := by decide +kernel
theorem zd_Acts_begins_63 : decode zm_Acts_begins.2.1 63 = .ok (.putfield 22, 3) := by decide +kernel
theorem zd_Acts_begins_66 : decode zm_Acts_begins.2.1 66 = .ok (.iconst 1, 1) := by decide +kernel
theorem zd_Acts_begins_67 : decode zm_Acts_begins.2.1 67 = .ok (.ireturn, 1) := by decide +kernel
theorem zb_Acts_begins_0 {Γ : zG} {σ : zS} {x1 : Int32}  (kt : (σ.1 8 2) = (nI 20) → z_J Γ zm_Acts_begins 39 [none, none] [] σ) (kf : ¬ (σ.1 8 2) = (nI 20) → z_J Γ zm_Acts_begins 9 [some (.inr (8)), some (.inl (x1))] [] σ) : z_J Γ zm_Acts_begins 0 [some (.inr (8)), some (.inl (x1))] [] σ := by
  refine zj_aload_n zd_Acts_begins_0 rfl ?_
  refine zj_getI rfl (by decide) rfl zu_Acts (k := 2) (by decide) rfl zl_Acts_18 zd_Acts_begins_1 ?_
  refine zj_bipush (v := nI 20) zd_Acts_begins_4 (by decide) ?_
  exact zj_icmp_eq zd_Acts_begins_6 (by decide) (fun h => (zj_weak (L' := [none, none]) trivial (kt h))) (fun h => (kf h))
theorem zb_Acts_begins_9 {Γ : zG} {σ : zS} {x1 : Int32}  (kt : x1 = (nI 108) → z_J Γ zm_Acts_begins 41 [some (.inr (8)), some (.inl (x1))] [] σ) (kf : ¬ x1 = (nI 108) → z_J Γ zm_Acts_begins 15 [some (.inr (8)), some (.inl (x1))] [] σ) : z_J Γ zm_Acts_begins 9 [some (.inr (8)), some (.inl (x1))] [] σ := by
  refine zj_iload_n zd_Acts_begins_9 rfl ?_
  refine zj_bipush (v := nI 108) zd_Acts_begins_10 (by decide) ?_
  exact zj_icmp_eq zd_Acts_begins_12 (by decide) (fun h => (kt h)) (fun h => (kf h))
theorem zb_Acts_begins_15 {Γ : zG} {σ : zS} {x1 : Int32}  (kt : x1 = (nI 111) → z_J Γ zm_Acts_begins 41 [some (.inr (8)), some (.inl (x1))] [] σ) (kf : ¬ x1 = (nI 111) → z_J Γ zm_Acts_begins 21 [some (.inr (8)), some (.inl (x1))] [] σ) : z_J Γ zm_Acts_begins 15 [some (.inr (8)), some (.inl (x1))] [] σ := by
  refine zj_iload_n zd_Acts_begins_15 rfl ?_
  refine zj_bipush (v := nI 111) zd_Acts_begins_16 (by decide) ?_
  exact zj_icmp_eq zd_Acts_begins_18 (by decide) (fun h => (kt h)) (fun h => (kf h))
theorem zb_Acts_begins_21 {Γ : zG} {σ : zS} {x1 : Int32}  (kt : x1 = (nI 114) → z_J Γ zm_Acts_begins 41 [some (.inr (8)), some (.inl (x1))] [] σ) (kf : ¬ x1 = (nI 114) → z_J Γ zm_Acts_begins 27 [some (.inr (8)), some (.inl (x1))] [] σ) : z_J Γ zm_Acts_begins 21 [some (.inr (8)), some (.inl (x1))] [] σ := by
  refine zj_iload_n zd_Acts_begins_21 rfl ?_
  refine zj_bipush (v := nI 114) zd_Acts_begins_22 (by decide) ?_
  exact zj_icmp_eq zd_Acts_begins_24 (by decide) (fun h => (kt h)) (fun h => (kf h))
theorem zb_Acts_begins_27 {Γ : zG} {σ : zS} {x1 : Int32}  (kt : x1 = (nI 115) → z_J Γ zm_Acts_begins 41 [some (.inr (8)), some (.inl (x1))] [] σ) (kf : ¬ x1 = (nI 115) → z_J Γ zm_Acts_begins 33 [some (.inr (8)), some (.inl (x1))] [] σ) : z_J Γ zm_Acts_begins 27 [some (.inr (8)), some (.inl (x1))] [] σ := by
  refine zj_iload_n zd_Acts_begins_27 rfl ?_
  refine zj_bipush (v := nI 115) zd_Acts_begins_28 (by decide) ?_
  exact zj_icmp_eq zd_Acts_begins_30 (by decide) (fun h => (kt h)) (fun h => (kf h))
theorem zb_Acts_begins_33 {Γ : zG} {σ : zS} {x1 : Int32}  (kt : x1 = (nI 100) → z_J Γ zm_Acts_begins 41 [some (.inr (8)), some (.inl (x1))] [] σ) (kf : ¬ x1 = (nI 100) → z_J Γ zm_Acts_begins 39 [none, none] [] σ) : z_J Γ zm_Acts_begins 33 [some (.inr (8)), some (.inl (x1))] [] σ := by
  refine zj_iload_n zd_Acts_begins_33 rfl ?_
  refine zj_bipush (v := nI 100) zd_Acts_begins_34 (by decide) ?_
  exact zj_icmp_eq zd_Acts_begins_36 (by decide) (fun h => (kt h)) (fun h => (zj_weak (L' := [none, none]) trivial (kf h)))
theorem zb_Acts_begins_39 {Γ : zG} {σ : zS}  (e : z_end Γ (some (nI 0)) σ) : z_J Γ zm_Acts_begins 39 [none, none] [] σ := by
  refine zj_iconst (v := nI 0) zd_Acts_begins_39 (by decide) ?_
  exact zj_zreturn rfl (Or.inl (by decide)) zd_Acts_begins_40 e
theorem zb_Acts_begins_41 {Γ : zG} {σ : zS} {x1 : Int32} {k1 : Nat}  (b1 : z_ix (σ.1 8 2) 20 k1) (e : z_end Γ (some (nI 1)) (z_pI (z_pI (z_pI σ 9 k1 x1) 8 2 (((z_pI σ 9 k1 x1).1 8 2) + (nI 1))) 8 3 (nI 0))) : z_J Γ zm_Acts_begins 41 [some (.inr (8)), some (.inl (x1))] [] σ := by
  refine zj_aload_n zd_Acts_begins_41 rfl ?_
  refine zj_getR rfl (by decide) rfl zu_Acts (k := 0) (by decide) rfl zl_Acts_11 zd_Acts_begins_42 (o' := 9) rfl ?_
  refine zj_aload_n zd_Acts_begins_45 rfl ?_
  refine zj_getI rfl (by decide) rfl zu_Acts (k := 2) (by decide) rfl zl_Acts_18 zd_Acts_begins_46 ?_
  refine zj_iload_n zd_Acts_begins_49 rfl ?_
  refine zj_iastore rfl (by decide) b1 zd_Acts_begins_50 ?_
  refine zj_aload_n zd_Acts_begins_51 rfl ?_
  refine zj_dup zd_Acts_begins_52 ?_
  refine zj_getI rfl (by decide) rfl zu_Acts (k := 2) (by decide) rfl zl_Acts_18 zd_Acts_begins_53 ?_
  refine zj_iconst (v := nI 1) zd_Acts_begins_56 (by decide) ?_
  refine zj_iadd zd_Acts_begins_57 ?_
  refine zj_putI rfl (by decide) rfl zu_Acts zy_Acts_ok zn_Acts (k := 2) (by decide) rfl rfl zl_Acts_18 rfl rfl zd_Acts_begins_58 ?_
  refine zj_aload_n zd_Acts_begins_61 rfl ?_
  refine zj_iconst (v := nI 0) zd_Acts_begins_62 (by decide) ?_
  refine zj_putI rfl (by decide) rfl zu_Acts zy_Acts_ok zn_Acts (k := 3) (by decide) rfl rfl zl_Acts_22 rfl rfl zd_Acts_begins_63 ?_
  refine zj_iconst (v := nI 1) zd_Acts_begins_66 (by decide) ?_
  exact zj_zreturn rfl (Or.inr (by decide)) zd_Acts_begins_67 e
theorem zd_Acts_partOf_0 : decode zm_Acts_partOf.2.1 0 = .ok (.iload_n 0, 1) := by decide +kernel
theorem zd_Acts_partOf_1 : decode zm_Acts_partOf.2.1 1 = .ok (.tableswitch 115 108 115 #[47, 115, 115, 66, 115, 115, 94, 104], 47) := by decide +kernel
theorem zd_Acts_partOf_48 : decode zm_Acts_partOf.2.1 48 = .ok (.iload_n 1, 1) := by decide +kernel
theorem zd_Acts_partOf_49 : decode zm_Acts_partOf.2.1 49 = .ok (.ifCond .ne 7, 3) := by decide +kernel
theorem zd_Acts_partOf_52 : decode zm_Acts_partOf.2.1 52 = .ok (.iconst 1, 1) := by decide +kernel
theorem zd_Acts_partOf_53 : decode zm_Acts_partOf.2.1 53 = .ok (.goto 13, 3) := by decide +kernel
theorem zd_Acts_partOf_56 : decode zm_Acts_partOf.2.1 56 = .ok (.iload_n 1, 1) := by decide +kernel
theorem zd_Acts_partOf_57 : decode zm_Acts_partOf.2.1 57 = .ok (.iconst 1, 1) := by decide +kernel
theorem zd_Acts_partOf_58 : decode zm_Acts_partOf.2.1 58 = .ok (.if_icmp .ne 7, 3) := by decide +kernel
theorem zd_Acts_partOf_61 : decode zm_Acts_partOf.2.1 61 = .ok (.iconst 2, 1) := by decide +kernel
theorem zd_Acts_partOf_62 : decode zm_Acts_partOf.2.1 62 = .ok (.goto 4, 3) := by decide +kernel
theorem zd_Acts_partOf_65 : decode zm_Acts_partOf.2.1 65 = .ok (.iconst 0, 1) := by decide +kernel
theorem zd_Acts_partOf_66 : decode zm_Acts_partOf.2.1 66 = .ok (.ireturn, 1) := by decide +kernel
theorem zd_Acts_partOf_67 : decode zm_Acts_partOf.2.1 67 = .ok (.iload_n 1, 1) := by decide +kernel
theorem zd_Acts_partOf_68 : decode zm_Acts_partOf.2.1 68 = .ok (.ifCond .ne 7, 3) := by decide +kernel
theorem zd_Acts_partOf_71 : decode zm_Acts_partOf.2.1 71 = .ok (.iconst 1, 1) := by decide +kernel
theorem zd_Acts_partOf_72 : decode zm_Acts_partOf.2.1 72 = .ok (.goto 22, 3) := by decide +kernel
theorem zd_Acts_partOf_75 : decode zm_Acts_partOf.2.1 75 = .ok (.iload_n 1, 1) := by decide +kernel
theorem zd_Acts_partOf_76 : decode zm_Acts_partOf.2.1 76 = .ok (.iconst 1, 1) := by decide +kernel
theorem zd_Acts_partOf_77 : decode zm_Acts_partOf.2.1 77 = .ok (.if_icmp .ne 7, 3) := by decide +kernel
theorem zd_Acts_partOf_80 : decode zm_Acts_partOf.2.1 80 = .ok (.iconst 2, 1) := by decide +kernel
theorem zd_Acts_partOf_81 : decode zm_Acts_partOf.2.1 81 = .ok (.goto 13, 3) := by decide +kernel
theorem zd_Acts_partOf_84 : decode zm_Acts_partOf.2.1 84 = .ok (.iload_n 1, 1) := by decide +kernel
theorem zd_Acts_partOf_85 : decode zm_Acts_partOf.2.1 85 = .ok (.iconst 2, 1) := by decide +kernel
theorem zd_Acts_partOf_86 : decode zm_Acts_partOf.2.1 86 = .ok (.if_icmp .ne 7, 3) := by decide +kernel
theorem zd_Acts_partOf_89 : decode zm_Acts_partOf.2.1 89 = .ok (.iconst 3, 1) := by decide +kernel
theorem zd_Acts_partOf_90 : decode zm_Acts_partOf.2.1 90 = .ok (.goto 4, 3) := by decide +kernel
theorem zd_Acts_partOf_93 : decode zm_Acts_partOf.2.1 93 = .ok (.iconst 0, 1) := by decide +kernel
theorem zd_Acts_partOf_94 : decode zm_Acts_partOf.2.1 94 = .ok (.ireturn, 1) := by decide +kernel
theorem zd_Acts_partOf_95 : decode zm_Acts_partOf.2.1 95 = .ok (.iload_n 1, 1) := by decide +kernel
theorem zd_Acts_partOf_96 : decode zm_Acts_partOf.2.1 96 = .ok (.ifCond .ne 7, 3) := by decide +kernel
theorem zd_Acts_partOf_99 : decode zm_Acts_partOf.2.1 99 = .ok (.iconst 1, 1) := by decide +kernel
theorem zd_Acts_partOf_100 : decode zm_Acts_partOf.2.1 100 = .ok (.goto 4, 3) := by decide +kernel
theorem zd_Acts_partOf_103 : decode zm_Acts_partOf.2.1 103 = .ok (.iconst 0, 1) := by decide +kernel
theorem zd_Acts_partOf_104 : decode zm_Acts_partOf.2.1 104 = .ok (.ireturn, 1) := by decide +kernel
theorem zd_Acts_partOf_105 : decode zm_Acts_partOf.2.1 105 = .ok (.iload_n 1, 1) := by decide +kernel
theorem zd_Acts_partOf_106 : decode zm_Acts_partOf.2.1 106 = .ok (.iconst 2, 1) := by decide +kernel
theorem zd_Acts_partOf_107 : decode zm_Acts_partOf.2.1 107 = .ok (.if_icmp .ge 7, 3) := by decide +kernel
theorem zd_Acts_partOf_110 : decode zm_Acts_partOf.2.1 110 = .ok (.iconst 2, 1) := by decide +kernel
theorem zd_Acts_partOf_111 : decode zm_Acts_partOf.2.1 111 = .ok (.goto 4, 3) := by decide +kernel
theorem zd_Acts_partOf_114 : decode zm_Acts_partOf.2.1 114 = .ok (.iconst 0, 1) := by decide +kernel
theorem zd_Acts_partOf_115 : decode zm_Acts_partOf.2.1 115 = .ok (.ireturn, 1) := by decide +kernel
theorem zd_Acts_partOf_116 : decode zm_Acts_partOf.2.1 116 = .ok (.iload_n 1, 1) := by decide +kernel
theorem zd_Acts_partOf_117 : decode zm_Acts_partOf.2.1 117 = .ok (.ifCond .ne 7, 3) := by decide +kernel
theorem zd_Acts_partOf_120 : decode zm_Acts_partOf.2.1 120 = .ok (.iconst 3, 1) := by decide +kernel
theorem zd_Acts_partOf_121 : decode zm_Acts_partOf.2.1 121 = .ok (.goto 4, 3) := by decide +kernel
theorem zd_Acts_partOf_124 : decode zm_Acts_partOf.2.1 124 = .ok (.iconst 0, 1) := by decide +kernel
theorem zd_Acts_partOf_125 : decode zm_Acts_partOf.2.1 125 = .ok (.ireturn, 1) := by decide +kernel
theorem zb_Acts_partOf_0 {Γ : zG} {σ : zS} {x0 x1 : Int32}  (kd : x0.toInt < 108 ∨ 115 < x0.toInt → z_J Γ zm_Acts_partOf 116 [none, some (.inl (x1))] [] σ) (k108_ : x0 = nI 108 → z_J Γ zm_Acts_partOf 48 [none, some (.inl (x1))] [] σ) (k109_ : x0 = nI 109 → z_J Γ zm_Acts_partOf 116 [none, some (.inl (x1))] [] σ) (k110_ : x0 = nI 110 → z_J Γ zm_Acts_partOf 116 [none, some (.inl (x1))] [] σ) (k111_ : x0 = nI 111 → z_J Γ zm_Acts_partOf 67 [none, some (.inl (x1))] [] σ) (k112_ : x0 = nI 112 → z_J Γ zm_Acts_partOf 116 [none, some (.inl (x1))] [] σ) (k113_ : x0 = nI 113 → z_J Γ zm_Acts_partOf 116 [none, some (.inl (x1))] [] σ) (k114_ : x0 = nI 114 → z_J Γ zm_Acts_partOf 95 [none, some (.inl (x1))] [] σ) (k115_ : x0 = nI 115 → z_J Γ zm_Acts_partOf 105 [none, some (.inl (x1))] [] σ) : z_J Γ zm_Acts_partOf 0 [some (.inl (x0)), some (.inl (x1))] [] σ := by
  refine zj_iload_n zd_Acts_partOf_0 rfl ?_
  rcases (show (x0.toInt < 108 ∨ 115 < x0.toInt) ∨ x0.toInt = 108 ∨ x0.toInt = 109 ∨ x0.toInt = 110 ∨ x0.toInt = 111 ∨ x0.toInt = 112 ∨ x0.toInt = 113 ∨ x0.toInt = 114 ∨ x0.toInt = 115 by omega) with h | h | h | h | h | h | h | h | h
  · exact zj_tblOut zd_Acts_partOf_1 h (by decide) (zj_weak (L' := [none, some (.inl (x1))]) ⟨rfl, trivial⟩ (kd h))
  · exact zj_tblIn zd_Acts_partOf_1 (by omega) (by omega) (by rw [h]; rfl) (by decide) (zj_weak (L' := [none, some (.inl (x1))]) ⟨rfl, trivial⟩ (k108_ (Int32.toInt_inj.mp (by rw [h]; decide))))
  · exact zj_tblIn zd_Acts_partOf_1 (by omega) (by omega) (by rw [h]; rfl) (by decide) (zj_weak (L' := [none, some (.inl (x1))]) ⟨rfl, trivial⟩ (k109_ (Int32.toInt_inj.mp (by rw [h]; decide))))
  · exact zj_tblIn zd_Acts_partOf_1 (by omega) (by omega) (by rw [h]; rfl) (by decide) (zj_weak (L' := [none, some (.inl (x1))]) ⟨rfl, trivial⟩ (k110_ (Int32.toInt_inj.mp (by rw [h]; decide))))
  · exact zj_tblIn zd_Acts_partOf_1 (by omega) (by omega) (by rw [h]; rfl) (by decide) (zj_weak (L' := [none, some (.inl (x1))]) ⟨rfl, trivial⟩ (k111_ (Int32.toInt_inj.mp (by rw [h]; decide))))
  · exact zj_tblIn zd_Acts_partOf_1 (by omega) (by omega) (by rw [h]; rfl) (by decide) (zj_weak (L' := [none, some (.inl (x1))]) ⟨rfl, trivial⟩ (k112_ (Int32.toInt_inj.mp (by rw [h]; decide))))
  · exact zj_tblIn zd_Acts_partOf_1 (by omega) (by omega) (by rw [h]; rfl) (by decide) (zj_weak (L' := [none, some (.inl (x1))]) ⟨rfl, trivial⟩ (k113_ (Int32.toInt_inj.mp (by rw [h]; decide))))
  · exact zj_tblIn zd_Acts_partOf_1 (by omega) (by omega) (by rw [h]; rfl) (by decide) (zj_weak (L' := [none, some (.inl (x1))]) ⟨rfl, trivial⟩ (k114_ (Int32.toInt_inj.mp (by rw [h]; decide))))
  · exact zj_tblIn zd_Acts_partOf_1 (by omega) (by omega) (by rw [h]; rfl) (by decide) (zj_weak (L' := [none, some (.inl (x1))]) ⟨rfl, trivial⟩ (k115_ (Int32.toInt_inj.mp (by rw [h]; decide))))
theorem zb_Acts_partOf_48 {Γ : zG} {σ : zS} {x1 : Int32}  (kt : ¬ x1 = 0 → z_J Γ zm_Acts_partOf 56 [none, some (.inl (x1))] [] σ) (kf : x1 = 0 → z_J Γ zm_Acts_partOf 52 [none, none] [] σ) : z_J Γ zm_Acts_partOf 48 [none, some (.inl (x1))] [] σ := by
  refine zj_iload_n zd_Acts_partOf_48 rfl ?_
  exact zj_if_ne zd_Acts_partOf_49 (by decide) (fun h => (kt h)) (fun h => (zj_weak (L' := [none, none]) trivial (kf h)))
theorem zb_Acts_partOf_52 {Γ : zG} {σ : zS}  (k : z_J Γ zm_Acts_partOf 66 [none, none] [.inl (nI 1)] σ) : z_J Γ zm_Acts_partOf 52 [none, none] [] σ := by
  refine zj_iconst (v := nI 1) zd_Acts_partOf_52 (by decide) ?_
  exact zj_goto zd_Acts_partOf_53 (by decide) k
theorem zb_Acts_partOf_56 {Γ : zG} {σ : zS} {x1 : Int32}  (kt : ¬ x1 = (nI 1) → z_J Γ zm_Acts_partOf 65 [none, none] [] σ) (kf : x1 = (nI 1) → z_J Γ zm_Acts_partOf 61 [none, none] [] σ) : z_J Γ zm_Acts_partOf 56 [none, some (.inl (x1))] [] σ := by
  refine zj_iload_n zd_Acts_partOf_56 rfl ?_
  refine zj_iconst (v := nI 1) zd_Acts_partOf_57 (by decide) ?_
  exact zj_icmp_ne zd_Acts_partOf_58 (by decide) (fun h => (zj_weak (L' := [none, none]) trivial (kt h))) (fun h => (zj_weak (L' := [none, none]) trivial (kf h)))
theorem zb_Acts_partOf_61 {Γ : zG} {σ : zS}  (k : z_J Γ zm_Acts_partOf 66 [none, none] [.inl (nI 2)] σ) : z_J Γ zm_Acts_partOf 61 [none, none] [] σ := by
  refine zj_iconst (v := nI 2) zd_Acts_partOf_61 (by decide) ?_
  exact zj_goto zd_Acts_partOf_62 (by decide) k
theorem zb_Acts_partOf_65 {Γ : zG} {σ : zS}  (k : z_J Γ zm_Acts_partOf 66 [none, none] [.inl (nI 0)] σ) : z_J Γ zm_Acts_partOf 65 [none, none] [] σ := by
  refine zj_iconst (v := nI 0) zd_Acts_partOf_65 (by decide) ?_
  exact k
theorem zb_Acts_partOf_66 {Γ : zG} {σ : zS} {y0 : Int32}  (e : z_end Γ (some (y0)) σ) : z_J Γ zm_Acts_partOf 66 [none, none] [.inl (y0)] σ := by
  exact zj_ireturn rfl zd_Acts_partOf_66 e
theorem zb_Acts_partOf_67 {Γ : zG} {σ : zS} {x1 : Int32}  (kt : ¬ x1 = 0 → z_J Γ zm_Acts_partOf 75 [none, some (.inl (x1))] [] σ) (kf : x1 = 0 → z_J Γ zm_Acts_partOf 71 [none, none] [] σ) : z_J Γ zm_Acts_partOf 67 [none, some (.inl (x1))] [] σ := by
  refine zj_iload_n zd_Acts_partOf_67 rfl ?_
  exact zj_if_ne zd_Acts_partOf_68 (by decide) (fun h => (kt h)) (fun h => (zj_weak (L' := [none, none]) trivial (kf h)))
theorem zb_Acts_partOf_71 {Γ : zG} {σ : zS}  (k : z_J Γ zm_Acts_partOf 94 [none, none] [.inl (nI 1)] σ) : z_J Γ zm_Acts_partOf 71 [none, none] [] σ := by
  refine zj_iconst (v := nI 1) zd_Acts_partOf_71 (by decide) ?_
  exact zj_goto zd_Acts_partOf_72 (by decide) k
theorem zb_Acts_partOf_75 {Γ : zG} {σ : zS} {x1 : Int32}  (kt : ¬ x1 = (nI 1) → z_J Γ zm_Acts_partOf 84 [none, some (.inl (x1))] [] σ) (kf : x1 = (nI 1) → z_J Γ zm_Acts_partOf 80 [none, none] [] σ) : z_J Γ zm_Acts_partOf 75 [none, some (.inl (x1))] [] σ := by
  refine zj_iload_n zd_Acts_partOf_75 rfl ?_
  refine zj_iconst (v := nI 1) zd_Acts_partOf_76 (by decide) ?_
  exact zj_icmp_ne zd_Acts_partOf_77 (by decide) (fun h => (kt h)) (fun h => (zj_weak (L' := [none, none]) trivial (kf h)))
theorem zb_Acts_partOf_80 {Γ : zG} {σ : zS}  (k : z_J Γ zm_Acts_partOf 94 [none, none] [.inl (nI 2)] σ) : z_J Γ zm_Acts_partOf 80 [none, none] [] σ := by
  refine zj_iconst (v := nI 2) zd_Acts_partOf_80 (by decide) ?_
  exact zj_goto zd_Acts_partOf_81 (by decide) k
theorem zb_Acts_partOf_84 {Γ : zG} {σ : zS} {x1 : Int32}  (kt : ¬ x1 = (nI 2) → z_J Γ zm_Acts_partOf 93 [none, none] [] σ) (kf : x1 = (nI 2) → z_J Γ zm_Acts_partOf 89 [none, none] [] σ) : z_J Γ zm_Acts_partOf 84 [none, some (.inl (x1))] [] σ := by
  refine zj_iload_n zd_Acts_partOf_84 rfl ?_
  refine zj_iconst (v := nI 2) zd_Acts_partOf_85 (by decide) ?_
  exact zj_icmp_ne zd_Acts_partOf_86 (by decide) (fun h => (zj_weak (L' := [none, none]) trivial (kt h))) (fun h => (zj_weak (L' := [none, none]) trivial (kf h)))
theorem zb_Acts_partOf_89 {Γ : zG} {σ : zS}  (k : z_J Γ zm_Acts_partOf 94 [none, none] [.inl (nI 3)] σ) : z_J Γ zm_Acts_partOf 89 [none, none] [] σ := by
  refine zj_iconst (v := nI 3) zd_Acts_partOf_89 (by decide) ?_
  exact zj_goto zd_Acts_partOf_90 (by decide) k
theorem zb_Acts_partOf_93 {Γ : zG} {σ : zS}  (k : z_J Γ zm_Acts_partOf 94 [none, none] [.inl (nI 0)] σ) : z_J Γ zm_Acts_partOf 93 [none, none] [] σ := by
  refine zj_iconst (v := nI 0) zd_Acts_partOf_93 (by decide) ?_
  exact k
theorem zb_Acts_partOf_94 {Γ : zG} {σ : zS} {y0 : Int32}  (e : z_end Γ (some (y0)) σ) : z_J Γ zm_Acts_partOf 94 [none, none] [.inl (y0)] σ := by
  exact zj_ireturn rfl zd_Acts_partOf_94 e
theorem zb_Acts_partOf_95 {Γ : zG} {σ : zS} {x1 : Int32}  (kt : ¬ x1 = 0 → z_J Γ zm_Acts_partOf 103 [none, none] [] σ) (kf : x1 = 0 → z_J Γ zm_Acts_partOf 99 [none, none] [] σ) : z_J Γ zm_Acts_partOf 95 [none, some (.inl (x1))] [] σ := by
  refine zj_iload_n zd_Acts_partOf_95 rfl ?_
  exact zj_if_ne zd_Acts_partOf_96 (by decide) (fun h => (zj_weak (L' := [none, none]) trivial (kt h))) (fun h => (zj_weak (L' := [none, none]) trivial (kf h)))
theorem zb_Acts_partOf_99 {Γ : zG} {σ : zS}  (k : z_J Γ zm_Acts_partOf 104 [none, none] [.inl (nI 1)] σ) : z_J Γ zm_Acts_partOf 99 [none, none] [] σ := by
  refine zj_iconst (v := nI 1) zd_Acts_partOf_99 (by decide) ?_
  exact zj_goto zd_Acts_partOf_100 (by decide) k
theorem zb_Acts_partOf_103 {Γ : zG} {σ : zS}  (k : z_J Γ zm_Acts_partOf 104 [none, none] [.inl (nI 0)] σ) : z_J Γ zm_Acts_partOf 103 [none, none] [] σ := by
  refine zj_iconst (v := nI 0) zd_Acts_partOf_103 (by decide) ?_
  exact k
theorem zb_Acts_partOf_104 {Γ : zG} {σ : zS} {y0 : Int32}  (e : z_end Γ (some (y0)) σ) : z_J Γ zm_Acts_partOf 104 [none, none] [.inl (y0)] σ := by
  exact zj_ireturn rfl zd_Acts_partOf_104 e
theorem zb_Acts_partOf_105 {Γ : zG} {σ : zS} {x1 : Int32}  (kt : (nI 2) ≤ x1 → z_J Γ zm_Acts_partOf 114 [none, none] [] σ) (kf : ¬ (nI 2) ≤ x1 → z_J Γ zm_Acts_partOf 110 [none, none] [] σ) : z_J Γ zm_Acts_partOf 105 [none, some (.inl (x1))] [] σ := by
  refine zj_iload_n zd_Acts_partOf_105 rfl ?_
  refine zj_iconst (v := nI 2) zd_Acts_partOf_106 (by decide) ?_
  exact zj_icmp_ge zd_Acts_partOf_107 (by decide) (fun h => (zj_weak (L' := [none, none]) trivial (kt h))) (fun h => (zj_weak (L' := [none, none]) trivial (kf h)))
theorem zb_Acts_partOf_110 {Γ : zG} {σ : zS}  (k : z_J Γ zm_Acts_partOf 115 [none, none] [.inl (nI 2)] σ) : z_J Γ zm_Acts_partOf 110 [none, none] [] σ := by
  refine zj_iconst (v := nI 2) zd_Acts_partOf_110 (by decide) ?_
  exact zj_goto zd_Acts_partOf_111 (by decide) k
theorem zb_Acts_partOf_114 {Γ : zG} {σ : zS}  (k : z_J Γ zm_Acts_partOf 115 [none, none] [.inl (nI 0)] σ) : z_J Γ zm_Acts_partOf 114 [none, none] [] σ := by
  refine zj_iconst (v := nI 0) zd_Acts_partOf_114 (by decide) ?_
  exact k
theorem zb_Acts_partOf_115 {Γ : zG} {σ : zS} {y0 : Int32}  (e : z_end Γ (some (y0)) σ) : z_J Γ zm_Acts_partOf 115 [none, none] [.inl (y0)] σ := by
  exact zj_ireturn rfl zd_Acts_partOf_115 e
theorem zb_Acts_partOf_116 {Γ : zG} {σ : zS} {x1 : Int32}  (kt : ¬ x1 = 0 → z_J Γ zm_Acts_partOf 124 [none, none] [] σ) (kf : x1 = 0 → z_J Γ zm_Acts_partOf 120 [none, none] [] σ) : z_J Γ zm_Acts_partOf 116 [none, some (.inl (x1))] [] σ := by
  refine zj_iload_n zd_Acts_partOf_116 rfl ?_
  exact zj_if_ne zd_Acts_partOf_117 (by decide) (fun h => (zj_weak (L' := [none, none]) trivial (kt h))) (fun h => (zj_weak (L' := [none, none]) trivial (kf h)))
theorem zb_Acts_partOf_120 {Γ : zG} {σ : zS}  (k : z_J Γ zm_Acts_partOf 125 [none, none] [.inl (nI 3)] σ) : z_J Γ zm_Acts_partOf 120 [none, none] [] σ := by
  refine zj_iconst (v := nI 3) zd_Acts_partOf_120 (by decide) ?_
  exact zj_goto zd_Acts_partOf_121 (by decide) k
theorem zb_Acts_partOf_124 {Γ : zG} {σ : zS}  (k : z_J Γ zm_Acts_partOf 125 [none, none] [.inl (nI 0)] σ) : z_J Γ zm_Acts_partOf 124 [none, none] [] σ := by
  refine zj_iconst (v := nI 0) zd_Acts_partOf_124 (by decide) ?_
  exact k
theorem zb_Acts_partOf_125 {Γ : zG} {σ : zS} {y0 : Int32}  (e : z_end Γ (some (y0)) σ) : z_J Γ zm_Acts_partOf 125 [none, none] [.inl (y0)] σ := by
  exact zj_ireturn rfl zd_Acts_partOf_125 e
theorem zd_Acts_adds_0 : decode zm_Acts_adds.2.1 0 = .ok (.aload_n 0, 1) := by decide +kernel
theorem zd_Acts_adds_1 : decode zm_Acts_adds.2.1 1 = .ok (.getfield 15, 3) := by decide +kernel
theorem zd_Acts_adds_4 : decode zm_Acts_adds.2.1 4 = .ok (.aload_n 0, 1) := by decide +kernel
theorem zd_Acts_adds_5 : decode zm_Acts_adds.2.1 5 = .ok (.getfield 18, 3) := by decide +kernel
theorem zd_Acts_adds_8 : decode zm_Acts_adds.2.1 8 = .ok (.iconst 1, 1) := by decide +kernel
theorem zd_Acts_adds_9 : decode zm_Acts_adds.2.1 9 = .ok (.isub, 1) := by decide +kernel
theorem zd_Acts_adds_10 : decode zm_Acts_adds.2.1 10 = .ok (.iconst 3, 1) := by decide +kernel
theorem zd_Acts_adds_11 : decode zm_Acts_adds.2.1 11 = .ok (.imul, 1) := by decide +kernel
theorem zd_Acts_adds_12 : decode zm_Acts_adds.2.1 12 = .ok (.aload_n 0, 1) := by decide +kernel
theorem zd_Acts_adds_13 : decode zm_Acts_adds.2.1 13 = .ok (.getfield 22, 3) := by decide +kernel
theorem zd_Acts_adds_16 : decode zm_Acts_adds.2.1 16 = .ok (.iadd, 1) := by decide +kernel
theorem zd_Acts_adds_17 : decode zm_Acts_adds.2.1 17 = .ok (.iload_n 1, 1) := by decide +kernel
theorem zd_Acts_adds_18 : decode zm_Acts_adds.2.1 18 = .ok (.iastore, 1) := by decide +kernel
theorem zd_Acts_adds_19 : decode zm_Acts_adds.2.1 19 = .ok (.aload_n 0, 1) := by decide +kernel
theorem zd_Acts_adds_20 : decode zm_Acts_adds.2.1 20 = .ok (.dup, 1) := by decide +kernel
theorem zd_Acts_adds_21 : decode zm_Acts_adds.2.1 21 = .ok (.getfield 22, 3) := by decide +kernel
theorem zd_Acts_adds_24 : decode zm_Acts_adds.2.1 24 = .ok (.iconst 1, 1) := by decide +kernel
theorem zd_Acts_adds_25 : decode zm_Acts_adds.2.1 25 = .ok (.iadd, 1) := by decide +kernel
theorem zd_Acts_adds_26 : decode zm_Acts_adds.2.1 26 = .ok (.putfield 22, 3) := by decide +kernel
theorem zd_Acts_adds_29 : decode zm_Acts_adds.2.1 29 = .ok (.aload_n 0, 1) := by decide +kernel
theorem zd_Acts_adds_30 : decode zm_Acts_adds.2.1 30 = .ok (.iload_n 2, 1) := by decide +kernel
theorem zd_Acts_adds_31 : decode zm_Acts_adds.2.1 31 = .ok (.putfield 53, 3) := by decide +kernel
theorem zd_Acts_adds_34 : decode zm_Acts_adds.2.1 34 = .ok (.iconst 1, 1) := by decide +kernel
theorem zd_Acts_adds_35 : decode zm_Acts_adds.2.1 35 = .ok (.ireturn, 1) := by decide +kernel
theorem zb_Acts_adds_0 {Γ : zG} {σ : zS} {x1 x2 : Int32} {k1 : Nat}  (b1 : z_ix ((((σ.1 8 2) - (nI 1)) * (nI 3)) + (σ.1 8 3)) 60 k1) (z1 : x2 = 0 ∨ x2 = 1) (e : z_end Γ (some (nI 1)) (z_pI (z_pI (z_pI σ 10 k1 x1) 8 3 (((z_pI σ 10 k1 x1).1 8 3) + (nI 1))) 8 4 x2)) : z_J Γ zm_Acts_adds 0 [some (.inr (8)), some (.inl (x1)), some (.inl (x2))] [] σ := by
  refine zj_aload_n zd_Acts_adds_0 rfl ?_
  refine zj_getR rfl (by decide) rfl zu_Acts (k := 1) (by decide) rfl zl_Acts_15 zd_Acts_adds_1 (o' := 10) rfl ?_
  refine zj_aload_n zd_Acts_adds_4 rfl ?_
  refine zj_getI rfl (by decide) rfl zu_Acts (k := 2) (by decide) rfl zl_Acts_18 zd_Acts_adds_5 ?_
  refine zj_iconst (v := nI 1) zd_Acts_adds_8 (by decide) ?_
  refine zj_isub zd_Acts_adds_9 ?_
  refine zj_iconst (v := nI 3) zd_Acts_adds_10 (by decide) ?_
  refine zj_imul zd_Acts_adds_11 ?_
  refine zj_aload_n zd_Acts_adds_12 rfl ?_
  refine zj_getI rfl (by decide) rfl zu_Acts (k := 3) (by decide) rfl zl_Acts_22 zd_Acts_adds_13 ?_
  refine zj_iadd zd_Acts_adds_16 ?_
  refine zj_iload_n zd_Acts_adds_17 rfl ?_
  refine zj_iastore rfl (by decide) b1 zd_Acts_adds_18 ?_
  refine zj_aload_n zd_Acts_adds_19 rfl ?_
  refine zj_dup zd_Acts_adds_20 ?_
  refine zj_getI rfl (by decide) rfl zu_Acts (k := 3) (by decide) rfl zl_Acts_22 zd_Acts_adds_21 ?_
  refine zj_iconst (v := nI 1) zd_Acts_adds_24 (by decide) ?_
  refine zj_iadd zd_Acts_adds_25 ?_
  refine zj_putI rfl (by decide) rfl zu_Acts zy_Acts_ok zn_Acts (k := 3) (by decide) rfl rfl zl_Acts_22 rfl rfl zd_Acts_adds_26 ?_
  refine zj_aload_n zd_Acts_adds_29 rfl ?_
  refine zj_iload_n zd_Acts_adds_30 rfl ?_
  refine zj_putI rfl (by decide) rfl zu_Acts zy_Acts_ok zn_Acts (k := 4) (by decide) rfl rfl zl_Acts_53 (z_nb z1) (z_fb z1) zd_Acts_adds_31 ?_
  refine zj_iconst (v := nI 1) zd_Acts_adds_34 (by decide) ?_
  exact zj_zreturn rfl (Or.inr (by decide)) zd_Acts_adds_35 e
theorem zd_Acts_ends_0 : decode zm_Acts_ends.2.1 0 = .ok (.aload_n 0, 1) := by decide +kernel
theorem zd_Acts_ends_1 : decode zm_Acts_ends.2.1 1 = .ok (.iconst (-1), 1) := by decide +kernel
theorem zd_Acts_ends_2 : decode zm_Acts_ends.2.1 2 = .ok (.putfield 22, 3) := by decide +kernel
theorem zd_Acts_ends_5 : decode zm_Acts_ends.2.1 5 = .ok (.iconst 1, 1) := by decide +kernel
theorem zd_Acts_ends_6 : decode zm_Acts_ends.2.1 6 = .ok (.ireturn, 1) := by decide +kernel
theorem zb_Acts_ends_0 {Γ : zG} {σ : zS}  (e : z_end Γ (some (nI 1)) (z_pI σ 8 3 (-1))) : z_J Γ zm_Acts_ends 0 [some (.inr (8))] [] σ := by
  refine zj_aload_n zd_Acts_ends_0 rfl ?_
  refine zj_iconst (v := (-1)) zd_Acts_ends_1 (by decide) ?_
  refine zj_putI rfl (by decide) rfl zu_Acts zy_Acts_ok zn_Acts (k := 3) (by decide) rfl rfl zl_Acts_22 rfl rfl zd_Acts_ends_2 ?_
  refine zj_iconst (v := nI 1) zd_Acts_ends_5 (by decide) ?_
  exact zj_zreturn rfl (Or.inr (by decide)) zd_Acts_ends_6 e
theorem zd_Acts_grows_0 : decode zm_Acts_grows.2.1 0 = .ok (.aload_n 0, 1) := by decide +kernel
theorem zd_Acts_grows_1 : decode zm_Acts_grows.2.1 1 = .ok (.getfield 53, 3) := by decide +kernel
theorem zd_Acts_grows_4 : decode zm_Acts_grows.2.1 4 = .ok (.ifCond .eq 10, 3) := by decide +kernel
theorem zd_Acts_grows_7 : decode zm_Acts_grows.2.1 7 = .ok (.iload_n 1, 1) := by decide +kernel
theorem zd_Acts_grows_8 : decode zm_Acts_grows.2.1 8 = .ok (.invokestatic 44, 3) := by decide +kernel
theorem zd_Acts_grows_11 : decode zm_Acts_grows.2.1 11 = .ok (.ifCond .ne 5, 3) := by decide +kernel
theorem zd_Acts_grows_14 : decode zm_Acts_grows.2.1 14 = .ok (.iconst 0, 1) := by decide +kernel
theorem zd_Acts_grows_15 : decode zm_Acts_grows.2.1 15 = .ok (.ireturn, 1) := by decide +kernel
theorem zd_Acts_grows_16 : decode zm_Acts_grows.2.1 16 = .ok (.aload_n 0, 1) := by decide +kernel
theorem zd_Acts_grows_17 : decode zm_Acts_grows.2.1 17 = .ok (.getfield 18, 3) := by decide +kernel
theorem zd_Acts_grows_20 : decode zm_Acts_grows.2.1 20 = .ok (.iconst 1, 1) := by decide +kernel
theorem zd_Acts_grows_21 : decode zm_Acts_grows.2.1 21 = .ok (.isub, 1) := by decide +kernel
theorem zd_Acts_grows_22 : decode zm_Acts_grows.2.1 22 = .ok (.iconst 3, 1) := by decide +kernel
theorem zd_Acts_grows_23 : decode zm_Acts_grows.2.1 23 = .ok (.imul, 1) := by decide +kernel
theorem zd_Acts_grows_24 : decode zm_Acts_grows.2.1 24 = .ok (.aload_n 0, 1) := by decide +kernel
theorem zd_Acts_grows_25 : decode zm_Acts_grows.2.1 25 = .ok (.getfield 22, 3) := by decide +kernel
theorem zd_Acts_grows_28 : decode zm_Acts_grows.2.1 28 = .ok (.iadd, 1) := by decide +kernel
theorem zd_Acts_grows_29 : decode zm_Acts_grows.2.1 29 = .ok (.iconst 1, 1) := by decide +kernel
theorem zd_Acts_grows_30 : decode zm_Acts_grows.2.1 30 = .ok (.isub, 1) := by decide +kernel
theorem zd_Acts_grows_31 : decode zm_Acts_grows.2.1 31 = .ok (.istore_n 2, 1) := by decide +kernel
theorem zd_Acts_grows_32 : decode zm_Acts_grows.2.1 32 = .ok (.aload_n 0, 1) := by decide +kernel
theorem zd_Acts_grows_33 : decode zm_Acts_grows.2.1 33 = .ok (.getfield 15, 3) := by decide +kernel
theorem zd_Acts_grows_36 : decode zm_Acts_grows.2.1 36 = .ok (.iload_n 2, 1) := by decide +kernel
theorem zd_Acts_grows_37 : decode zm_Acts_grows.2.1 37 = .ok (.aload_n 0, 1) := by decide +kernel
theorem zd_Acts_grows_38 : decode zm_Acts_grows.2.1 38 = .ok (.getfield 15, 3) := by decide +kernel
theorem zd_Acts_grows_41 : decode zm_Acts_grows.2.1 41 = .ok (.iload_n 2, 1) := by decide +kernel
theorem zd_Acts_grows_42 : decode zm_Acts_grows.2.1 42 = .ok (.iaload, 1) := by decide +kernel
theorem zd_Acts_grows_43 : decode zm_Acts_grows.2.1 43 = .ok (.bipush 10, 2) := by decide +kernel
theorem zd_Acts_grows_45 : decode zm_Acts_grows.2.1 45 = .ok (.imul, 1) := by decide +kernel
theorem zd_Acts_grows_46 : decode zm_Acts_grows.2.1 46 = .ok (.iload_n 1, 1) := by decide +kernel
theorem zd_Acts_grows_47 : decode zm_Acts_grows.2.1 47 = .ok (.iadd, 1) := by decide +kernel
theorem zd_Acts_grows_48 : decode zm_Acts_grows.2.1 48 = .ok (.bipush 48, 2) := by decide +kernel
theorem zd_Acts_grows_50 : decode zm_Acts_grows.2.1 50 = .ok (.isub, 1) := by decide +kernel
theorem zd_Acts_grows_51 : decode zm_Acts_grows.2.1 51 = .ok (.iastore, 1) := by decide +kernel
theorem zd_Acts_grows_52 : decode zm_Acts_grows.2.1 52 = .ok (.aload_n 0, 1) := by decide +kernel
theorem zd_Acts_grows_53 : decode zm_Acts_grows.2.1 53 = .ok (.iconst 0, 1) := by decide +kernel
theorem zd_Acts_grows_54 : decode zm_Acts_grows.2.1 54 = .ok (.putfield 53, 3) := by decide +kernel
theorem zd_Acts_grows_57 : decode zm_Acts_grows.2.1 57 = .ok (.iconst 1, 1) := by decide +kernel
theorem zd_Acts_grows_58 : decode zm_Acts_grows.2.1 58 = .ok (.ireturn, 1) := by decide +kernel
theorem zb_Acts_grows_0 {Γ : zG} {σ : zS} {x1 : Int32}  (kt : (σ.1 8 4) = 0 → z_J Γ zm_Acts_grows 14 [none, none, none] [] σ) (kf : ¬ (σ.1 8 4) = 0 → z_J Γ zm_Acts_grows 7 [some (.inr (8)), some (.inl (x1)), none] [] σ) : z_J Γ zm_Acts_grows 0 [some (.inr (8)), some (.inl (x1)), none] [] σ := by
  refine zj_aload_n zd_Acts_grows_0 rfl ?_
  refine zj_getI rfl (by decide) rfl zu_Acts (k := 4) (by decide) rfl zl_Acts_53 zd_Acts_grows_1 ?_
  exact zj_if_eq zd_Acts_grows_4 (by decide) (fun h => (zj_weak (L' := [none, none, none]) trivial (kt h))) (fun h => (kf h))
theorem zb_Acts_grows_7 {Γ : zG} {σ : zS} {x1 : Int32} {dc : Nat} {P : Int32 → zS → Prop}  (hm : z_Ci dc zm_Walls_isDigit [.inl (x1)] σ P) (hdp : dc < z_dep Γ) (k : ∀ r σ1, P r σ1 → z_J Γ zm_Acts_grows 11 [some (.inr (8)), some (.inl (x1)), none] [.inl (r)] σ1) : z_J Γ zm_Acts_grows 7 [some (.inr (8)), some (.inl (x1)), none] [] σ := by
  refine zj_iload_n zd_Acts_grows_7 rfl ?_
  exact zj_callNi (As := [.inl (x1)]) hm hdp (fun _ h => h.2.2) zq_Walls_isDigit zd_Acts_grows_8 rfl (Nat.le_of_ble_eq_true rfl) (fun r σ1 h => (k r σ1 h))
theorem zb_Acts_grows_11 {Γ : zG} {σ : zS} {x1 y0 : Int32}  (kt : ¬ y0 = 0 → z_J Γ zm_Acts_grows 16 [some (.inr (8)), some (.inl (x1)), none] [] σ) (kf : y0 = 0 → z_J Γ zm_Acts_grows 14 [none, none, none] [] σ) : z_J Γ zm_Acts_grows 11 [some (.inr (8)), some (.inl (x1)), none] [.inl (y0)] σ := by
  exact zj_if_ne zd_Acts_grows_11 (by decide) (fun h => (kt h)) (fun h => (zj_weak (L' := [none, none, none]) trivial (kf h)))
theorem zb_Acts_grows_14 {Γ : zG} {σ : zS}  (e : z_end Γ (some (nI 0)) σ) : z_J Γ zm_Acts_grows 14 [none, none, none] [] σ := by
  refine zj_iconst (v := nI 0) zd_Acts_grows_14 (by decide) ?_
  exact zj_zreturn rfl (Or.inl (by decide)) zd_Acts_grows_15 e
theorem zb_Acts_grows_16 {Γ : zG} {σ : zS} {x1 : Int32} {k1 k2 : Nat}  (b1 : z_ix (((((σ.1 8 2) - (nI 1)) * (nI 3)) + (σ.1 8 3)) - (nI 1)) 60 k1) (b2 : z_ix (((((σ.1 8 2) - (nI 1)) * (nI 3)) + (σ.1 8 3)) - (nI 1)) 60 k2) (e : z_end Γ (some (nI 1)) (z_pI (z_pI σ 10 k2 ((((σ.1 10 k1) * (nI 10)) + x1) - (nI 48))) 8 4 (nI 0))) : z_J Γ zm_Acts_grows 16 [some (.inr (8)), some (.inl (x1)), none] [] σ := by
  refine zj_aload_n zd_Acts_grows_16 rfl ?_
  refine zj_getI rfl (by decide) rfl zu_Acts (k := 2) (by decide) rfl zl_Acts_18 zd_Acts_grows_17 ?_
  refine zj_iconst (v := nI 1) zd_Acts_grows_20 (by decide) ?_
  refine zj_isub zd_Acts_grows_21 ?_
  refine zj_iconst (v := nI 3) zd_Acts_grows_22 (by decide) ?_
  refine zj_imul zd_Acts_grows_23 ?_
  refine zj_aload_n zd_Acts_grows_24 rfl ?_
  refine zj_getI rfl (by decide) rfl zu_Acts (k := 3) (by decide) rfl zl_Acts_22 zd_Acts_grows_25 ?_
  refine zj_iadd zd_Acts_grows_28 ?_
  refine zj_iconst (v := nI 1) zd_Acts_grows_29 (by decide) ?_
  refine zj_isub zd_Acts_grows_30 ?_
  refine zj_istore_n (L' := [some (.inr (8)), some (.inl (x1)), some (.inl (((((σ.1 8 2) - (nI 1)) * (nI 3)) + (σ.1 8 3)) - (nI 1)))]) zd_Acts_grows_31 (by decide) rfl ?_
  refine zj_aload_n zd_Acts_grows_32 rfl ?_
  refine zj_getR rfl (by decide) rfl zu_Acts (k := 1) (by decide) rfl zl_Acts_15 zd_Acts_grows_33 (o' := 10) rfl ?_
  refine zj_iload_n zd_Acts_grows_36 rfl ?_
  refine zj_aload_n zd_Acts_grows_37 rfl ?_
  refine zj_getR rfl (by decide) rfl zu_Acts (k := 1) (by decide) rfl zl_Acts_15 zd_Acts_grows_38 (o' := 10) rfl ?_
  refine zj_iload_n zd_Acts_grows_41 rfl ?_
  refine zj_iaload rfl (by decide) b1 zd_Acts_grows_42 ?_
  refine zj_bipush (v := nI 10) zd_Acts_grows_43 (by decide) ?_
  refine zj_imul zd_Acts_grows_45 ?_
  refine zj_iload_n zd_Acts_grows_46 rfl ?_
  refine zj_iadd zd_Acts_grows_47 ?_
  refine zj_bipush (v := nI 48) zd_Acts_grows_48 (by decide) ?_
  refine zj_isub zd_Acts_grows_50 ?_
  refine zj_iastore rfl (by decide) b2 zd_Acts_grows_51 ?_
  refine zj_aload_n zd_Acts_grows_52 rfl ?_
  refine zj_iconst (v := nI 0) zd_Acts_grows_53 (by decide) ?_
  refine zj_putI rfl (by decide) rfl zu_Acts zy_Acts_ok zn_Acts (k := 4) (by decide) rfl rfl zl_Acts_53 (z_nb (Or.inl (by decide))) (z_fb (Or.inl (by decide))) zd_Acts_grows_54 ?_
  refine zj_iconst (v := nI 1) zd_Acts_grows_57 (by decide) ?_
  exact zj_zreturn rfl (Or.inr (by decide)) zd_Acts_grows_58 e
theorem zd_Acts_isWhole_0 : decode zm_Acts_isWhole.2.1 0 = .ok (.aload_n 0, 1) := by decide +kernel
theorem zd_Acts_isWhole_1 : decode zm_Acts_isWhole.2.1 1 = .ok (.getfield 22, 3) := by decide +kernel
theorem zd_Acts_isWhole_4 : decode zm_Acts_isWhole.2.1 4 = .ok (.iconst (-1), 1) := by decide +kernel
theorem zd_Acts_isWhole_5 : decode zm_Acts_isWhole.2.1 5 = .ok (.if_icmp .eq 28, 3) := by decide +kernel
theorem zd_Acts_isWhole_8 : decode zm_Acts_isWhole.2.1 8 = .ok (.aload_n 0, 1) := by decide +kernel
theorem zd_Acts_isWhole_9 : decode zm_Acts_isWhole.2.1 9 = .ok (.getfield 11, 3) := by decide +kernel
theorem zd_Acts_isWhole_12 : decode zm_Acts_isWhole.2.1 12 = .ok (.aload_n 0, 1) := by decide +kernel
theorem zd_Acts_isWhole_13 : decode zm_Acts_isWhole.2.1 13 = .ok (.getfield 18, 3) := by decide +kernel
theorem zd_Acts_isWhole_16 : decode zm_Acts_isWhole.2.1 16 = .ok (.iconst 1, 1) := by decide +kernel
theorem zd_Acts_isWhole_17 : decode zm_Acts_isWhole.2.1 17 = .ok (.isub, 1) := by decide +kernel
theorem zd_Acts_isWhole_18 : decode zm_Acts_isWhole.2.1 18 = .ok (.iaload, 1) := by decide +kernel
theorem zd_Acts_isWhole_19 : decode zm_Acts_isWhole.2.1 19 = .ok (.aload_n 0, 1) := by decide +kernel
theorem zd_Acts_isWhole_20 : decode zm_Acts_isWhole.2.1 20 = .ok (.getfield 22, 3) := by decide +kernel
theorem zd_Acts_isWhole_23 : decode zm_Acts_isWhole.2.1 23 = .ok (.invokestatic 33, 3) := by decide +kernel
theorem zd_Acts_isWhole_26 : decode zm_Acts_isWhole.2.1 26 = .ok (.ifCond .ne 7, 3) := by decide +kernel
theorem zd_Acts_isWhole_29 : decode zm_Acts_isWhole.2.1 29 = .ok (.iconst 1, 1) := by decide +kernel
theorem zd_Acts_isWhole_30 : decode zm_Acts_isWhole.2.1 30 = .ok (.goto 4, 3) := by decide +kernel
theorem zd_Acts_isWhole_33 : decode zm_Acts_isWhole.2.1 33 = .ok (.iconst 0, 1) := by decide +kernel
theorem zd_Acts_isWhole_34 : decode zm_Acts_isWhole.2.1 34 = .ok (.ireturn, 1) := by decide +kernel
theorem zb_Acts_isWhole_0 {Γ : zG} {σ : zS}  (kt : (σ.1 8 3) = (-1) → z_J Γ zm_Acts_isWhole 33 [none] [] σ) (kf : ¬ (σ.1 8 3) = (-1) → z_J Γ zm_Acts_isWhole 8 [some (.inr (8))] [] σ) : z_J Γ zm_Acts_isWhole 0 [some (.inr (8))] [] σ := by
  refine zj_aload_n zd_Acts_isWhole_0 rfl ?_
  refine zj_getI rfl (by decide) rfl zu_Acts (k := 3) (by decide) rfl zl_Acts_22 zd_Acts_isWhole_1 ?_
  refine zj_iconst (v := (-1)) zd_Acts_isWhole_4 (by decide) ?_
  exact zj_icmp_eq zd_Acts_isWhole_5 (by decide) (fun h => (zj_weak (L' := [none]) trivial (kt h))) (fun h => (kf h))
theorem zb_Acts_isWhole_8 {Γ : zG} {σ : zS} {k1 : Nat} {dc : Nat} {P : Int32 → zS → Prop}  (b1 : z_ix ((σ.1 8 2) - (nI 1)) 20 k1) (hm : z_Ci dc zm_Acts_partOf [.inl (σ.1 9 k1), .inl (σ.1 8 3)] σ P) (hdp : dc < z_dep Γ) (k : ∀ r σ1, P r σ1 → z_J Γ zm_Acts_isWhole 26 [none] [.inl (r)] σ1) : z_J Γ zm_Acts_isWhole 8 [some (.inr (8))] [] σ := by
  refine zj_aload_n zd_Acts_isWhole_8 rfl ?_
  refine zj_getR rfl (by decide) rfl zu_Acts (k := 0) (by decide) rfl zl_Acts_11 zd_Acts_isWhole_9 (o' := 9) rfl ?_
  refine zj_aload_n zd_Acts_isWhole_12 rfl ?_
  refine zj_getI rfl (by decide) rfl zu_Acts (k := 2) (by decide) rfl zl_Acts_18 zd_Acts_isWhole_13 ?_
  refine zj_iconst (v := nI 1) zd_Acts_isWhole_16 (by decide) ?_
  refine zj_isub zd_Acts_isWhole_17 ?_
  refine zj_iaload rfl (by decide) b1 zd_Acts_isWhole_18 ?_
  refine zj_aload_n zd_Acts_isWhole_19 rfl ?_
  refine zj_getI rfl (by decide) rfl zu_Acts (k := 3) (by decide) rfl zl_Acts_22 zd_Acts_isWhole_20 ?_
  exact zj_callSi (As := [.inl (σ.1 9 k1), .inl (σ.1 8 3)]) hm hdp zl_Acts_33 zq_Acts_partOf zd_Acts_isWhole_23 rfl (Nat.le_of_ble_eq_true rfl) (fun r σ1 h => (zj_weak (L' := [none]) trivial (k r σ1 h)))
theorem zb_Acts_isWhole_26 {Γ : zG} {σ : zS} {y0 : Int32}  (kt : ¬ y0 = 0 → z_J Γ zm_Acts_isWhole 33 [none] [] σ) (kf : y0 = 0 → z_J Γ zm_Acts_isWhole 29 [none] [] σ) : z_J Γ zm_Acts_isWhole 26 [none] [.inl (y0)] σ := by
  exact zj_if_ne zd_Acts_isWhole_26 (by decide) (fun h => (kt h)) (fun h => (kf h))
theorem zb_Acts_isWhole_29 {Γ : zG} {σ : zS}  (k : z_J Γ zm_Acts_isWhole 34 [none] [.inl (nI 1)] σ) : z_J Γ zm_Acts_isWhole 29 [none] [] σ := by
  refine zj_iconst (v := nI 1) zd_Acts_isWhole_29 (by decide) ?_
  exact zj_goto zd_Acts_isWhole_30 (by decide) k
theorem zb_Acts_isWhole_33 {Γ : zG} {σ : zS}  (k : z_J Γ zm_Acts_isWhole 34 [none] [.inl (nI 0)] σ) : z_J Γ zm_Acts_isWhole 33 [none] [] σ := by
  refine zj_iconst (v := nI 0) zd_Acts_isWhole_33 (by decide) ?_
  exact k
theorem zb_Acts_isWhole_34 {Γ : zG} {σ : zS} {y0 : Int32}  (e : z_end Γ (some (y0)) σ) (z1 : y0 = 0 ∨ y0 = 1) : z_J Γ zm_Acts_isWhole 34 [none] [.inl (y0)] σ := by
  exact zj_zreturn rfl z1 zd_Acts_isWhole_34 e
theorem zd_History_clear_0 : decode zm_History_clear.2.1 0 = .ok (.aload_n 0, 1) := by decide +kernel
theorem zd_History_clear_1 : decode zm_History_clear.2.1 1 = .ok (.iconst 0, 1) := by decide +kernel
theorem zd_History_clear_2 : decode zm_History_clear.2.1 2 = .ok (.putfield 26, 3) := by decide +kernel
theorem zd_History_clear_5 : decode zm_History_clear.2.1 5 = .ok (.return_, 1) := by decide +kernel
theorem zb_History_clear_0 {Γ : zG} {σ : zS}  (e : z_end Γ none (z_pI σ 11 2 (nI 0))) : z_J Γ zm_History_clear 0 [some (.inr (11))] [] σ := by
  refine zj_aload_n zd_History_clear_0 rfl ?_
  refine zj_iconst (v := nI 0) zd_History_clear_1 (by decide) ?_
  refine zj_putI rfl (by decide) rfl zu_History zy_History_ok zn_History (k := 2) (by decide) rfl rfl zl_History_26 rfl rfl zd_History_clear_2 ?_
  exact zj_return rfl zd_History_clear_5 e
theorem zd_History_mark_0 : decode zm_History_mark.2.1 0 = .ok (.aload_n 1, 1) := by decide +kernel
theorem zd_History_mark_1 : decode zm_History_mark.2.1 1 = .ok (.aload_n 0, 1) := by decide +kernel
theorem zd_History_mark_2 : decode zm_History_mark.2.1 2 = .ok (.getfield 15, 3) := by decide +kernel
theorem zd_History_mark_5 : decode zm_History_mark.2.1 5 = .ok (.aload_n 0, 1) := by decide +kernel
theorem zd_History_mark_6 : decode zm_History_mark.2.1 6 = .ok (.getfield 18, 3) := by decide +kernel
theorem zd_History_mark_9 : decode zm_History_mark.2.1 9 = .ok (.aaload, 1) := by decide +kernel
theorem zd_History_mark_10 : decode zm_History_mark.2.1 10 = .ok (.invokevirtual 22, 3) := by decide +kernel
theorem zd_History_mark_13 : decode zm_History_mark.2.1 13 = .ok (.return_, 1) := by decide +kernel
theorem zb_History_mark_0 {Γ : zG} {σ : zS} {c1 : Nat} {k1 : Nat} {dc : Nat} {P : zS → Prop} (h_c1 : z_oC c1) (b1 : z_ix (σ.1 11 1) 13 k1) (hm : z_Cv dc zm_City_writePage [.inr (c1), .inr (12 + 1 + k1)] σ P) (hdp : dc < z_dep Γ) (k : ∀ σ1, P σ1 → z_J Γ zm_History_mark 13 [none, none] [] σ1) : z_J Γ zm_History_mark 0 [some (.inr (11)), some (.inr (c1))] [] σ := by
  refine zj_aload_n zd_History_mark_0 rfl ?_
  refine zj_aload_n zd_History_mark_1 rfl ?_
  refine zj_getR rfl (by decide) rfl zu_History (k := 0) (by decide) rfl zl_History_15 zd_History_mark_2 (o' := 12) rfl ?_
  refine zj_aload_n zd_History_mark_5 rfl ?_
  refine zj_getI rfl (by decide) rfl zu_History (k := 1) (by decide) rfl zl_History_18 zd_History_mark_6 ?_
  refine zj_aaload rfl (by decide) b1 zd_History_mark_9 ?_
  exact zj_callVv (As := [.inr (12 + 1 + k1)]) hm hdp (zk_C0 h_c1) (by decide) rfl zl_History_22 zq_City_writePage zd_History_mark_10 rfl (Nat.le_of_ble_eq_true rfl) (fun σ1 h => (zj_weak (L' := [none, none]) trivial (k σ1 h)))
theorem zb_History_mark_13 {Γ : zG} {σ : zS}  (e : z_end Γ none σ) : z_J Γ zm_History_mark 13 [none, none] [] σ := by
  exact zj_return rfl zd_History_mark_13 e
theorem zd_History_keepMark_0 : decode zm_History_keepMark.2.1 0 = .ok (.aload_n 0, 1) := by decide +kernel
theorem zd_History_keepMark_1 : decode zm_History_keepMark.2.1 1 = .ok (.aload_n 0, 1) := by decide +kernel
theorem zd_History_keepMark_2 : decode zm_History_keepMark.2.1 2 = .ok (.getfield 18, 3) := by decide +kernel
theorem zd_History_keepMark_5 : decode zm_History_keepMark.2.1 5 = .ok (.iconst 1, 1) := by decide +kernel
theorem zd_History_keepMark_6 : decode zm_History_keepMark.2.1 6 = .ok (.iadd, 1) := by decide +kernel
theorem zd_History_keepMark_7 : decode zm_History_keepMark.2.1 7 = .ok (.bipush 13, 2) := by decide +kernel
theorem zd_History_keepMark_9 : decode zm_History_keepMark.2.1 9 = .ok (.irem, 1) := by decide +kernel
theorem zd_History_keepMark_10 : decode zm_History_keepMark.2.1 10 = .ok (.putfield 18, 3) := by decide +kernel
theorem zd_History_keepMark_13 : decode zm_History_keepMark.2.1 13 = .ok (.aload_n 0, 1) := by decide +kernel
theorem zd_History_keepMark_14 : decode zm_History_keepMark.2.1 14 = .ok (.aload_n 0, 1) := by decide +kernel
theorem zd_History_keepMark_15 : decode zm_History_keepMark.2.1 15 = .ok (.getfield 26, 3) := by decide +kernel
theorem zd_History_keepMark_18 : decode zm_History_keepMark.2.1 18 = .ok (.iconst 1, 1) := by decide +kernel
theorem zd_History_keepMark_19 : decode zm_History_keepMark.2.1 19 = .ok (.iadd, 1) := by decide +kernel
theorem zd_History_keepMark_20 : decode zm_History_keepMark.2.1 20 = .ok (.bipush 12, 2) := by decide +kernel
theorem zd_History_keepMark_22 : decode zm_History_keepMark.2.1 22 = .ok (.invokestatic 29, 3) := by decide +kernel
theorem zd_History_keepMark_25 : decode zm_History_keepMark.2.1 25 = .ok (.putfield 26, 3) := by decide +kernel
theorem zd_History_keepMark_28 : decode zm_History_keepMark.2.1 28 = .ok (.return_, 1) := by decide +kernel
theorem zb_History_keepMark_0 {Γ : zG} {σ : zS} (hdp : 0 < z_dep Γ) (e : z_end Γ none (z_pI (z_pI σ 11 1 (((σ.1 11 1) + (nI 1)) - ((σ.1 11 1) + (nI 1)) / (nI 13) * (nI 13))) 11 2 (z_min (((z_pI σ 11 1 (((σ.1 11 1) + (nI 1)) - ((σ.1 11 1) + (nI 1)) / (nI 13) * (nI 13))).1 11 2) + (nI 1)) (nI 12)))) : z_J Γ zm_History_keepMark 0 [some (.inr (11))] [] σ := by
  refine zj_aload_n zd_History_keepMark_0 rfl ?_
  refine zj_aload_n zd_History_keepMark_1 rfl ?_
  refine zj_getI rfl (by decide) rfl zu_History (k := 1) (by decide) rfl zl_History_18 zd_History_keepMark_2 ?_
  refine zj_iconst (v := nI 1) zd_History_keepMark_5 (by decide) ?_
  refine zj_iadd zd_History_keepMark_6 ?_
  refine zj_bipush (v := nI 13) zd_History_keepMark_7 (by decide) ?_
  refine zj_irem zd_History_keepMark_9 (by decide) ?_
  refine zj_putI rfl (by decide) rfl zu_History zy_History_ok zn_History (k := 1) (by decide) rfl rfl zl_History_18 rfl rfl zd_History_keepMark_10 ?_
  refine zj_aload_n zd_History_keepMark_13 rfl ?_
  refine zj_aload_n zd_History_keepMark_14 rfl ?_
  refine zj_getI rfl (by decide) rfl zu_History (k := 2) (by decide) rfl zl_History_26 zd_History_keepMark_15 ?_
  refine zj_iconst (v := nI 1) zd_History_keepMark_18 (by decide) ?_
  refine zj_iadd zd_History_keepMark_19 ?_
  refine zj_bipush (v := nI 12) zd_History_keepMark_20 (by decide) ?_
  refine zj_mmin zl_History_29 zx_min_s zx_Math zx_min_c hdp (Nat.le_of_ble_eq_true rfl) zd_History_keepMark_22 ?_
  refine zj_putI rfl (by decide) rfl zu_History zy_History_ok zn_History (k := 2) (by decide) rfl rfl zl_History_26 rfl rfl zd_History_keepMark_25 ?_
  exact zj_return rfl zd_History_keepMark_28 e
theorem zd_History_restore_0 : decode zm_History_restore.2.1 0 = .ok (.aload_n 0, 1) := by decide +kernel
theorem zd_History_restore_1 : decode zm_History_restore.2.1 1 = .ok (.aload_n 0, 1) := by decide +kernel
theorem zd_History_restore_2 : decode zm_History_restore.2.1 2 = .ok (.getfield 18, 3) := by decide +kernel
theorem zd_History_restore_5 : decode zm_History_restore.2.1 5 = .ok (.bipush 13, 2) := by decide +kernel
theorem zd_History_restore_7 : decode zm_History_restore.2.1 7 = .ok (.iadd, 1) := by decide +kernel
theorem zd_History_restore_8 : decode zm_History_restore.2.1 8 = .ok (.iconst 1, 1) := by decide +kernel
theorem zd_History_restore_9 : decode zm_History_restore.2.1 9 = .ok (.isub, 1) := by decide +kernel
theorem zd_History_restore_10 : decode zm_History_restore.2.1 10 = .ok (.bipush 13, 2) := by decide +kernel
theorem zd_History_restore_12 : decode zm_History_restore.2.1 12 = .ok (.irem, 1) := by decide +kernel
theorem zd_History_restore_13 : decode zm_History_restore.2.1 13 = .ok (.putfield 18, 3) := by decide +kernel
theorem zd_History_restore_16 : decode zm_History_restore.2.1 16 = .ok (.aload_n 0, 1) := by decide +kernel
theorem zd_History_restore_17 : decode zm_History_restore.2.1 17 = .ok (.dup, 1) := by decide +kernel
theorem zd_History_restore_18 : decode zm_History_restore.2.1 18 = .ok (.getfield 26, 3) := by decide +kernel
theorem zd_History_restore_21 : decode zm_History_restore.2.1 21 = .ok (.iconst 1, 1) := by decide +kernel
theorem zd_History_restore_22 : decode zm_History_restore.2.1 22 = .ok (.isub, 1) := by decide +kernel
theorem zd_History_restore_23 : decode zm_History_restore.2.1 23 = .ok (.putfield 26, 3) := by decide +kernel
theorem zd_History_restore_26 : decode zm_History_restore.2.1 26 = .ok (.aload_n 1, 1) := by decide +kernel
theorem zd_History_restore_27 : decode zm_History_restore.2.1 27 = .ok (.aload_n 0, 1) := by decide +kernel
theorem zd_History_restore_28 : decode zm_History_restore.2.1 28 = .ok (.getfield 15, 3) := by decide +kernel
theorem zd_History_restore_31 : decode zm_History_restore.2.1 31 = .ok (.aload_n 0, 1) := by decide +kernel
theorem zd_History_restore_32 : decode zm_History_restore.2.1 32 = .ok (.getfield 18, 3) := by decide +kernel
theorem zd_History_restore_35 : decode zm_History_restore.2.1 35 = .ok (.aaload, 1) := by decide +kernel
theorem zd_History_restore_36 : decode zm_History_restore.2.1 36 = .ok (.invokevirtual 35, 3) := by decide +kernel
theorem zd_History_restore_39 : decode zm_History_restore.2.1 39 = .ok (.return_, 1) := by decide +kernel
theorem zb_History_restore_0 {Γ : zG} {σ : zS} {c1 : Nat} {k1 : Nat} {dc : Nat} {P : zS → Prop} (h_c1 : z_oC c1) (b1 : z_ix ((z_pI (z_pI σ 11 1 ((((σ.1 11 1) + (nI 13)) - (nI 1)) - (((σ.1 11 1) + (nI 13)) - (nI 1)) / (nI 13) * (nI 13))) 11 2 (((z_pI σ 11 1 ((((σ.1 11 1) + (nI 13)) - (nI 1)) - (((σ.1 11 1) + (nI 13)) - (nI 1)) / (nI 13) * (nI 13))).1 11 2) - (nI 1))).1 11 1) 13 k1) (hm : z_Cv dc zm_City_readPage [.inr (c1), .inr (12 + 1 + k1)] (z_pI (z_pI σ 11 1 ((((σ.1 11 1) + (nI 13)) - (nI 1)) - (((σ.1 11 1) + (nI 13)) - (nI 1)) / (nI 13) * (nI 13))) 11 2 (((z_pI σ 11 1 ((((σ.1 11 1) + (nI 13)) - (nI 1)) - (((σ.1 11 1) + (nI 13)) - (nI 1)) / (nI 13) * (nI 13))).1 11 2) - (nI 1))) P) (hdp : dc < z_dep Γ) (k : ∀ σ1, P σ1 → z_J Γ zm_History_restore 39 [none, none] [] σ1) : z_J Γ zm_History_restore 0 [some (.inr (11)), some (.inr (c1))] [] σ := by
  refine zj_aload_n zd_History_restore_0 rfl ?_
  refine zj_aload_n zd_History_restore_1 rfl ?_
  refine zj_getI rfl (by decide) rfl zu_History (k := 1) (by decide) rfl zl_History_18 zd_History_restore_2 ?_
  refine zj_bipush (v := nI 13) zd_History_restore_5 (by decide) ?_
  refine zj_iadd zd_History_restore_7 ?_
  refine zj_iconst (v := nI 1) zd_History_restore_8 (by decide) ?_
  refine zj_isub zd_History_restore_9 ?_
  refine zj_bipush (v := nI 13) zd_History_restore_10 (by decide) ?_
  refine zj_irem zd_History_restore_12 (by decide) ?_
  refine zj_putI rfl (by decide) rfl zu_History zy_History_ok zn_History (k := 1) (by decide) rfl rfl zl_History_18 rfl rfl zd_History_restore_13 ?_
  refine zj_aload_n zd_History_restore_16 rfl ?_
  refine zj_dup zd_History_restore_17 ?_
  refine zj_getI rfl (by decide) rfl zu_History (k := 2) (by decide) rfl zl_History_26 zd_History_restore_18 ?_
  refine zj_iconst (v := nI 1) zd_History_restore_21 (by decide) ?_
  refine zj_isub zd_History_restore_22 ?_
  refine zj_putI rfl (by decide) rfl zu_History zy_History_ok zn_History (k := 2) (by decide) rfl rfl zl_History_26 rfl rfl zd_History_restore_23 ?_
  refine zj_aload_n zd_History_restore_26 rfl ?_
  refine zj_aload_n zd_History_restore_27 rfl ?_
  refine zj_getR rfl (by decide) rfl zu_History (k := 0) (by decide) rfl zl_History_15 zd_History_restore_28 (o' := 12) rfl ?_
  refine zj_aload_n zd_History_restore_31 rfl ?_
  refine zj_getI rfl (by decide) rfl zu_History (k := 1) (by decide) rfl zl_History_18 zd_History_restore_32 ?_
  refine zj_aaload rfl (by decide) b1 zd_History_restore_35 ?_
  exact zj_callVv (As := [.inr (12 + 1 + k1)]) hm hdp (zk_C0 h_c1) (by decide) rfl zl_History_35 zq_City_readPage zd_History_restore_36 rfl (Nat.le_of_ble_eq_true rfl) (fun σ1 h => (zj_weak (L' := [none, none]) trivial (k σ1 h)))
theorem zb_History_restore_39 {Γ : zG} {σ : zS}  (e : z_end Γ none σ) : z_J Γ zm_History_restore 39 [none, none] [] σ := by
  exact zj_return rfl zd_History_restore_39 e
theorem zd_Mason_fewest_0 : decode zm_Mason_fewest.2.1 0 = .ok (.aload_n 1, 1) := by decide +kernel
theorem zd_Mason_fewest_1 : decode zm_Mason_fewest.2.1 1 = .ok (.iload_n 3, 1) := by decide +kernel
theorem zd_Mason_fewest_2 : decode zm_Mason_fewest.2.1 2 = .ok (.invokevirtual 25, 3) := by decide +kernel
theorem zd_Mason_fewest_5 : decode zm_Mason_fewest.2.1 5 = .ok (.invokestatic 31, 3) := by decide +kernel
theorem zd_Mason_fewest_8 : decode zm_Mason_fewest.2.1 8 = .ok (.bipush 6, 2) := by decide +kernel
theorem zd_Mason_fewest_10 : decode zm_Mason_fewest.2.1 10 = .ok (.if_icmp .le 6, 3) := by decide +kernel
theorem zd_Mason_fewest_13 : decode zm_Mason_fewest.2.1 13 = .ok (.bipush (-3), 2) := by decide +kernel
theorem zd_Mason_fewest_15 : decode zm_Mason_fewest.2.1 15 = .ok (.ireturn, 1) := by decide +kernel
theorem zd_Mason_fewest_16 : decode zm_Mason_fewest.2.1 16 = .ok (.aload_n 0, 1) := by decide +kernel
theorem zd_Mason_fewest_17 : decode zm_Mason_fewest.2.1 17 = .ok (.iload 4, 2) := by decide +kernel
theorem zd_Mason_fewest_19 : decode zm_Mason_fewest.2.1 19 = .ok (.putfield 36, 3) := by decide +kernel
theorem zd_Mason_fewest_22 : decode zm_Mason_fewest.2.1 22 = .ok (.aload_n 0, 1) := by decide +kernel
theorem zd_Mason_fewest_23 : decode zm_Mason_fewest.2.1 23 = .ok (.aload_n 1, 1) := by decide +kernel
theorem zd_Mason_fewest_24 : decode zm_Mason_fewest.2.1 24 = .ok (.iload_n 3, 1) := by decide +kernel
theorem zd_Mason_fewest_25 : decode zm_Mason_fewest.2.1 25 = .ok (.invokevirtual 39, 3) := by decide +kernel
theorem zd_Mason_fewest_28 : decode zm_Mason_fewest.2.1 28 = .ok (.iconst 0, 1) := by decide +kernel
theorem zd_Mason_fewest_29 : decode zm_Mason_fewest.2.1 29 = .ok (.istore 5, 2) := by decide +kernel
theorem zd_Mason_fewest_31 : decode zm_Mason_fewest.2.1 31 = .ok (.iload 5, 2) := by decide +kernel
theorem zd_Mason_fewest_33 : decode zm_Mason_fewest.2.1 33 = .ok (.aload_n 0, 1) := by decide +kernel
theorem zd_Mason_fewest_34 : decode zm_Mason_fewest.2.1 34 = .ok (.getfield 43, 3) := by decide +kernel
theorem zd_Mason_fewest_37 : decode zm_Mason_fewest.2.1 37 = .ok (.if_icmp .gt 25, 3) := by decide +kernel
theorem zd_Mason_fewest_40 : decode zm_Mason_fewest.2.1 40 = .ok (.aload_n 0, 1) := by decide +kernel
theorem zd_Mason_fewest_41 : decode zm_Mason_fewest.2.1 41 = .ok (.aload_n 1, 1) := by decide +kernel
theorem zd_Mason_fewest_42 : decode zm_Mason_fewest.2.1 42 = .ok (.aload_n 2, 1) := by decide +kernel
theorem zd_Mason_fewest_43 : decode zm_Mason_fewest.2.1 43 = .ok (.iconst 0, 1) := by decide +kernel
theorem zd_Mason_fewest_44 : decode zm_Mason_fewest.2.1 44 = .ok (.iconst 0, 1) := by decide +kernel
theorem zd_Mason_fewest_45 : decode zm_Mason_fewest.2.1 45 = .ok (.iload 5, 2) := by decide +kernel
theorem zd_Mason_fewest_47 : decode zm_Mason_fewest.2.1 47 = .ok (.invokevirtual 46, 3) := by decide +kernel
theorem zd_Mason_fewest_50 : decode zm_Mason_fewest.2.1 50 = .ok (.ifCond .eq 6, 3) := by decide +kernel
theorem zd_Mason_fewest_53 : decode zm_Mason_fewest.2.1 53 = .ok (.iload 5, 2) := by decide +kernel
theorem zd_Mason_fewest_55 : decode zm_Mason_fewest.2.1 55 = .ok (.ireturn, 1) := by decide +kernel
theorem zd_Mason_fewest_56 : decode zm_Mason_fewest.2.1 56 = .ok (.iinc 5 1, 3) := by decide +kernel
theorem zd_Mason_fewest_59 : decode zm_Mason_fewest.2.1 59 = .ok (.goto (-28), 3) := by decide +kernel
theorem zd_Mason_fewest_62 : decode zm_Mason_fewest.2.1 62 = .ok (.bipush (-2), 2) := by decide +kernel
theorem zd_Mason_fewest_64 : decode zm_Mason_fewest.2.1 64 = .ok (.ireturn, 1) := by decide +kernel
theorem zb_Mason_fewest_0 {Γ : zG} {σ : zS} {r2 : Nat} {x3 x4 : Int32} {dc : Nat} {P : Int32 → zS → Prop} (h_r2 : z_oR r2) (hm : z_Ci dc zm_City_bitsWhere [.inr (43), .inl (x3)] σ P) (hdp : dc < z_dep Γ) (k : ∀ r σ1, P r σ1 → z_J Γ zm_Mason_fewest 5 [some (.inr (26)), some (.inr (43)), some (.inr (r2)), some (.inl (x3)), some (.inl (x4)), none] [.inl (r)] σ1) : z_J Γ zm_Mason_fewest 0 [some (.inr (26)), some (.inr (43)), some (.inr (r2)), some (.inl (x3)), some (.inl (x4)), none] [] σ := by
  refine zj_aload_n zd_Mason_fewest_0 rfl ?_
  refine zj_iload_n zd_Mason_fewest_1 rfl ?_
  exact zj_callVi (As := [.inl (x3)]) hm hdp rfl (by decide) rfl zl_Mason_25 zq_City_bitsWhere zd_Mason_fewest_2 rfl (Nat.le_of_ble_eq_true rfl) (fun r σ1 h => (k r σ1 h))
theorem zb_Mason_fewest_5 {Γ : zG} {σ : zS} {r2 : Nat} {x3 x4 y0 : Int32} (h_r2 : z_oR r2) (hdp : 0 < z_dep Γ) (kt : (z_bc y0) ≤ (nI 6) → z_J Γ zm_Mason_fewest 16 [some (.inr (26)), some (.inr (43)), some (.inr (r2)), some (.inl (x3)), some (.inl (x4)), none] [] σ) (kf : ¬ (z_bc y0) ≤ (nI 6) → z_J Γ zm_Mason_fewest 13 [none, none, none, none, none, none] [] σ) : z_J Γ zm_Mason_fewest 5 [some (.inr (26)), some (.inr (43)), some (.inr (r2)), some (.inl (x3)), some (.inl (x4)), none] [.inl (y0)] σ := by
  refine zj_bitc zl_Mason_31 hdp (Nat.le_of_ble_eq_true rfl) zd_Mason_fewest_5 ?_
  refine zj_bipush (v := nI 6) zd_Mason_fewest_8 (by decide) ?_
  exact zj_icmp_le zd_Mason_fewest_10 (by decide) (fun h => (kt h)) (fun h => (zj_weak (L' := [none, none, none, none, none, none]) trivial (kf h)))
theorem zb_Mason_fewest_13 {Γ : zG} {σ : zS}  (e : z_end Γ (some ((-3))) σ) : z_J Γ zm_Mason_fewest 13 [none, none, none, none, none, none] [] σ := by
  refine zj_bipush (v := (-3)) zd_Mason_fewest_13 (by decide) ?_
  exact zj_ireturn rfl zd_Mason_fewest_15 e
theorem zb_Mason_fewest_16 {Γ : zG} {σ : zS} {r2 : Nat} {x3 x4 : Int32} {dc : Nat} {P : zS → Prop} (h_r2 : z_oR r2) (hm : z_Cv dc zm_Mason_stockUp [.inr (26), .inr (43), .inl (x3)] (z_pI σ 26 3 x4) P) (hdp : dc < z_dep Γ) (k : ∀ σ1, P σ1 → z_J Γ zm_Mason_fewest 28 [some (.inr (26)), some (.inr (43)), some (.inr (r2)), none, none, none] [] σ1) : z_J Γ zm_Mason_fewest 16 [some (.inr (26)), some (.inr (43)), some (.inr (r2)), some (.inl (x3)), some (.inl (x4)), none] [] σ := by
  refine zj_aload_n zd_Mason_fewest_16 rfl ?_
  refine zj_iload zd_Mason_fewest_17 rfl ?_
  refine zj_putI rfl (by decide) rfl zu_Mason zy_Mason_ok zn_Mason (k := 3) (by decide) rfl rfl zl_Mason_36 rfl rfl zd_Mason_fewest_19 ?_
  refine zj_aload_n zd_Mason_fewest_22 rfl ?_
  refine zj_aload_n zd_Mason_fewest_23 rfl ?_
  refine zj_iload_n zd_Mason_fewest_24 rfl ?_
  exact zj_callVv (As := [.inr (43), .inl (x3)]) hm hdp rfl (by decide) rfl zl_Mason_39 zq_Mason_stockUp zd_Mason_fewest_25 rfl (Nat.le_of_ble_eq_true rfl) (fun σ1 h => (zj_weak (L' := [some (.inr (26)), some (.inr (43)), some (.inr (r2)), none, none, none]) ⟨rfl, ⟨rfl, ⟨rfl, trivial⟩⟩⟩ (k σ1 h)))
theorem zb_Mason_fewest_28 {Γ : zG} {σ : zS} {r2 : Nat} (h_r2 : z_oR r2) (k : z_J Γ zm_Mason_fewest 31 [some (.inr (26)), some (.inr (43)), some (.inr (r2)), none, none, some (.inl (nI 0))] [] σ) : z_J Γ zm_Mason_fewest 28 [some (.inr (26)), some (.inr (43)), some (.inr (r2)), none, none, none] [] σ := by
  refine zj_iconst (v := nI 0) zd_Mason_fewest_28 (by decide) ?_
  refine zj_istore (L' := [some (.inr (26)), some (.inr (43)), some (.inr (r2)), none, none, some (.inl (nI 0))]) zd_Mason_fewest_29 (by decide) rfl ?_
  exact k
theorem zb_Mason_fewest_31 {Γ : zG} {σ : zS} {r2 : Nat} {x5 : Int32} (h_r2 : z_oR r2) (kt : (σ.1 26 2) < x5 → z_J Γ zm_Mason_fewest 62 [none, none, none, none, none, none] [] σ) (kf : ¬ (σ.1 26 2) < x5 → z_J Γ zm_Mason_fewest 40 [some (.inr (26)), some (.inr (43)), some (.inr (r2)), none, none, some (.inl (x5))] [] σ) : z_J Γ zm_Mason_fewest 31 [some (.inr (26)), some (.inr (43)), some (.inr (r2)), none, none, some (.inl (x5))] [] σ := by
  refine zj_iload zd_Mason_fewest_31 rfl ?_
  refine zj_aload_n zd_Mason_fewest_33 rfl ?_
  refine zj_getI rfl (by decide) rfl zu_Mason (k := 2) (by decide) rfl zl_Mason_43 zd_Mason_fewest_34 ?_
  exact zj_icmp_gt zd_Mason_fewest_37 (by decide) (fun h => (zj_weak (L' := [none, none, none, none, none, none]) trivial (kt h))) (fun h => (kf h))
theorem zb_Mason_fewest_40 {Γ : zG} {σ : zS} {r2 : Nat} {x5 : Int32} {dc : Nat} {P : Int32 → zS → Prop} (h_r2 : z_oR r2) (hm : z_Ci dc zm_Mason_reaches [.inr (26), .inr (43), .inr (r2), .inl (nI 0), .inl (nI 0), .inl (x5)] σ P) (hdp : dc < z_dep Γ) (k : ∀ r σ1, P r σ1 → z_J Γ zm_Mason_fewest 50 [some (.inr (26)), some (.inr (43)), some (.inr (r2)), none, none, some (.inl (x5))] [.inl (r)] σ1) : z_J Γ zm_Mason_fewest 40 [some (.inr (26)), some (.inr (43)), some (.inr (r2)), none, none, some (.inl (x5))] [] σ := by
  refine zj_aload_n zd_Mason_fewest_40 rfl ?_
  refine zj_aload_n zd_Mason_fewest_41 rfl ?_
  refine zj_aload_n zd_Mason_fewest_42 rfl ?_
  refine zj_iconst (v := nI 0) zd_Mason_fewest_43 (by decide) ?_
  refine zj_iconst (v := nI 0) zd_Mason_fewest_44 (by decide) ?_
  refine zj_iload zd_Mason_fewest_45 rfl ?_
  exact zj_callVi (As := [.inr (43), .inr (r2), .inl (nI 0), .inl (nI 0), .inl (x5)]) hm hdp rfl (by decide) rfl zl_Mason_46 zq_Mason_reaches zd_Mason_fewest_47 rfl (Nat.le_of_ble_eq_true rfl) (fun r σ1 h => (k r σ1 h))
theorem zb_Mason_fewest_50 {Γ : zG} {σ : zS} {r2 : Nat} {x5 y0 : Int32} (h_r2 : z_oR r2) (kt : y0 = 0 → z_J Γ zm_Mason_fewest 56 [some (.inr (26)), some (.inr (43)), some (.inr (r2)), none, none, some (.inl (x5))] [] σ) (kf : ¬ y0 = 0 → z_J Γ zm_Mason_fewest 53 [none, none, none, none, none, some (.inl (x5))] [] σ) : z_J Γ zm_Mason_fewest 50 [some (.inr (26)), some (.inr (43)), some (.inr (r2)), none, none, some (.inl (x5))] [.inl (y0)] σ := by
  exact zj_if_eq zd_Mason_fewest_50 (by decide) (fun h => (kt h)) (fun h => (zj_weak (L' := [none, none, none, none, none, some (.inl (x5))]) ⟨rfl, trivial⟩ (kf h)))
theorem zb_Mason_fewest_53 {Γ : zG} {σ : zS} {x5 : Int32}  (e : z_end Γ (some (x5)) σ) : z_J Γ zm_Mason_fewest 53 [none, none, none, none, none, some (.inl (x5))] [] σ := by
  refine zj_iload zd_Mason_fewest_53 rfl ?_
  exact zj_ireturn rfl zd_Mason_fewest_55 e
theorem zb_Mason_fewest_56 {Γ : zG} {σ : zS} {r2 : Nat} {x5 : Int32} (h_r2 : z_oR r2) (k : z_J Γ zm_Mason_fewest 31 [some (.inr (26)), some (.inr (43)), some (.inr (r2)), none, none, some (.inl (x5 + nI 1))] [] σ) : z_J Γ zm_Mason_fewest 56 [some (.inr (26)), some (.inr (43)), some (.inr (r2)), none, none, some (.inl (x5))] [] σ := by
  refine zj_iinc (v := nI 1) (L' := [some (.inr (26)), some (.inr (43)), some (.inr (r2)), none, none, some (.inl (x5 + nI 1))]) zd_Mason_fewest_56 rfl (by decide) (by decide) rfl ?_
  exact zj_goto zd_Mason_fewest_59 (by decide) k
theorem zb_Mason_fewest_62 {Γ : zG} {σ : zS}  (e : z_end Γ (some ((-2))) σ) : z_J Γ zm_Mason_fewest 62 [none, none, none, none, none, none] [] σ := by
  refine zj_bipush (v := (-2)) zd_Mason_fewest_62 (by decide) ?_
  exact zj_ireturn rfl zd_Mason_fewest_64 e
theorem zd_Mason_stockUp_0 : decode zm_Mason_stockUp.2.1 0 = .ok (.aload_n 0, 1) := by decide +kernel
theorem zd_Mason_stockUp_1 : decode zm_Mason_stockUp.2.1 1 = .ok (.iconst 0, 1) := by decide +kernel
theorem zd_Mason_stockUp_2 : decode zm_Mason_stockUp.2.1 2 = .ok (.putfield 43, 3) := by decide +kernel
theorem zd_Mason_stockUp_5 : decode zm_Mason_stockUp.2.1 5 = .ok (.aload_n 0, 1) := by decide +kernel
theorem zd_Mason_stockUp_6 : decode zm_Mason_stockUp.2.1 6 = .ok (.iconst 1, 1) := by decide +kernel
theorem zd_Mason_stockUp_7 : decode zm_Mason_stockUp.2.1 7 = .ok (.putfield 18, 3) := by decide +kernel
theorem zd_Mason_stockUp_10 : decode zm_Mason_stockUp.2.1 10 = .ok (.iconst 0, 1) := by decide +kernel
theorem zd_Mason_stockUp_11 : decode zm_Mason_stockUp.2.1 11 = .ok (.istore_n 3, 1) := by decide +kernel
theorem zd_Mason_stockUp_12 : decode zm_Mason_stockUp.2.1 12 = .ok (.iload_n 3, 1) := by decide +kernel
theorem zd_Mason_stockUp_13 : decode zm_Mason_stockUp.2.1 13 = .ok (.aload_n 1, 1) := by decide +kernel
theorem zd_Mason_stockUp_14 : decode zm_Mason_stockUp.2.1 14 = .ok (.getfield 50, 3) := by decide +kernel
theorem zd_Mason_stockUp_17 : decode zm_Mason_stockUp.2.1 17 = .ok (.if_icmp .ge 71, 3) := by decide +kernel
theorem zd_Mason_stockUp_20 : decode zm_Mason_stockUp.2.1 20 = .ok (.aload_n 1, 1) := by decide +kernel
theorem zd_Mason_stockUp_21 : decode zm_Mason_stockUp.2.1 21 = .ok (.getfield 53, 3) := by decide +kernel
theorem zd_Mason_stockUp_24 : decode zm_Mason_stockUp.2.1 24 = .ok (.iload_n 3, 1) := by decide +kernel
theorem zd_Mason_stockUp_25 : decode zm_Mason_stockUp.2.1 25 = .ok (.iaload, 1) := by decide +kernel
theorem zd_Mason_stockUp_26 : decode zm_Mason_stockUp.2.1 26 = .ok (.iload_n 2, 1) := by decide +kernel
theorem zd_Mason_stockUp_27 : decode zm_Mason_stockUp.2.1 27 = .ok (.if_icmp .ne 55, 3) := by decide +kernel
theorem zd_Mason_stockUp_30 : decode zm_Mason_stockUp.2.1 30 = .ok (.aload_n 0, 1) := by decide +kernel
theorem zd_Mason_stockUp_31 : decode zm_Mason_stockUp.2.1 31 = .ok (.getfield 43, 3) := by decide +kernel
theorem zd_Mason_stockUp_34 : decode zm_Mason_stockUp.2.1 34 = .ok (.bipush 6, 2) := by decide +kernel
theorem zd_Mason_stockUp_36 : decode zm_Mason_stockUp.2.1 36 = .ok (.if_icmp .ge 46, 3) := by decide +kernel
theorem zd_Mason_stockUp_39 : decode zm_Mason_stockUp.2.1 39 = .ok (.aload_n 1, 1) := by decide +kernel
theorem zd_Mason_stockUp_40 : decode zm_Mason_stockUp.2.1 40 = .ok (.iload_n 3, 1) := by decide +kernel
theorem zd_Mason_stockUp_41 : decode zm_Mason_stockUp.2.1 41 = .ok (.iconst 0, 1) := by decide +kernel
theorem zd_Mason_stockUp_42 : decode zm_Mason_stockUp.2.1 42 = .ok (.invokevirtual 56, 3) := by decide +kernel
theorem zd_Mason_stockUp_45 : decode zm_Mason_stockUp.2.1 45 = .ok (.aload_n 0, 1) := by decide +kernel
theorem zd_Mason_stockUp_46 : decode zm_Mason_stockUp.2.1 46 = .ok (.aload_n 0, 1) := by decide +kernel
theorem zd_Mason_stockUp_47 : decode zm_Mason_stockUp.2.1 47 = .ok (.getfield 18, 3) := by decide +kernel
theorem zd_Mason_stockUp_50 : decode zm_Mason_stockUp.2.1 50 = .ok (.aload_n 1, 1) := by decide +kernel
theorem zd_Mason_stockUp_51 : decode zm_Mason_stockUp.2.1 51 = .ok (.getfield 60, 3) := by decide +kernel
theorem zd_Mason_stockUp_54 : decode zm_Mason_stockUp.2.1 54 = .ok (.iload_n 3, 1) := by decide +kernel
theorem zd_Mason_stockUp_55 : decode zm_Mason_stockUp.2.1 55 = .ok (.iaload, 1) := by decide +kernel
theorem zd_Mason_stockUp_56 : decode zm_Mason_stockUp.2.1 56 = .ok (.invokestatic 63, 3) := by decide +kernel
theorem zd_Mason_stockUp_59 : decode zm_Mason_stockUp.2.1 59 = .ok (.putfield 18, 3) := by decide +kernel
theorem zd_Mason_stockUp_62 : decode zm_Mason_stockUp.2.1 62 = .ok (.aload_n 0, 1) := by decide +kernel
theorem zd_Mason_stockUp_63 : decode zm_Mason_stockUp.2.1 63 = .ok (.getfield 15, 3) := by decide +kernel
theorem zd_Mason_stockUp_66 : decode zm_Mason_stockUp.2.1 66 = .ok (.aload_n 0, 1) := by decide +kernel
theorem zd_Mason_stockUp_67 : decode zm_Mason_stockUp.2.1 67 = .ok (.getfield 43, 3) := by decide +kernel
theorem zd_Mason_stockUp_70 : decode zm_Mason_stockUp.2.1 70 = .ok (.iload_n 3, 1) := by decide +kernel
theorem zd_Mason_stockUp_71 : decode zm_Mason_stockUp.2.1 71 = .ok (.iastore, 1) := by decide +kernel
theorem zd_Mason_stockUp_72 : decode zm_Mason_stockUp.2.1 72 = .ok (.aload_n 0, 1) := by decide +kernel
theorem zd_Mason_stockUp_73 : decode zm_Mason_stockUp.2.1 73 = .ok (.dup, 1) := by decide +kernel
theorem zd_Mason_stockUp_74 : decode zm_Mason_stockUp.2.1 74 = .ok (.getfield 43, 3) := by decide +kernel
theorem zd_Mason_stockUp_77 : decode zm_Mason_stockUp.2.1 77 = .ok (.iconst 1, 1) := by decide +kernel
theorem zd_Mason_stockUp_78 : decode zm_Mason_stockUp.2.1 78 = .ok (.iadd, 1) := by decide +kernel
theorem zd_Mason_stockUp_79 : decode zm_Mason_stockUp.2.1 79 = .ok (.putfield 43, 3) := by decide +kernel
theorem zd_Mason_stockUp_82 : decode zm_Mason_stockUp.2.1 82 = .ok (.iinc 3 1, 3) := by decide +kernel
theorem zd_Mason_stockUp_85 : decode zm_Mason_stockUp.2.1 85 = .ok (.goto (-73), 3) := by decide +kernel
theorem zd_Mason_stockUp_88 : decode zm_Mason_stockUp.2.1 88 = .ok (.aload_n 0, 1) := by decide +kernel
theorem zd_Mason_stockUp_89 : decode zm_Mason_stockUp.2.1 89 = .ok (.getfield 22, 3) := by decide +kernel
theorem zd_Mason_stockUp_92 : decode zm_Mason_stockUp.2.1 92 = .ok (.iconst (-1), 1) := by decide +kernel
theorem zd_Mason_stockUp_93 : decode zm_Mason_stockUp.2.1 93 = .ok (.invokestatic 69, 3) := by decide +kernel
theorem zd_Mason_stockUp_96 : decode zm_Mason_stockUp.2.1 96 = .ok (.aload_n 0, 1) := by decide +kernel
theorem zd_Mason_stockUp_97 : decode zm_Mason_stockUp.2.1 97 = .ok (.getfield 22, 3) := by decide +kernel
theorem zd_Mason_stockUp_100 : decode zm_Mason_stockUp.2.1 100 = .ok (.aload_n 0, 1) := by decide +kernel
theorem zd_Mason_stockUp_101 : decode zm_Mason_stockUp.2.1 101 = .ok (.getfield 43, 3) := by decide +kernel
theorem zd_Mason_stockUp_104 : decode zm_Mason_stockUp.2.1 104 = .ok (.bipush 7, 2) := by decide +kernel
theorem zd_Mason_stockUp_106 : decode zm_Mason_stockUp.2.1 106 = .ok (.imul, 1) := by decide +kernel
theorem zd_Mason_stockUp_107 : decode zm_Mason_stockUp.2.1 107 = .ok (.iconst 0, 1) := by decide +kernel
theorem zd_Mason_stockUp_108 : decode zm_Mason_stockUp.2.1 108 = .ok (.iastore, 1) := by decide +kernel
theorem zd_Mason_stockUp_109 : decode zm_Mason_stockUp.2.1 109 = .ok (.aload_n 0, 1) := by decide +kernel
theorem zd_Mason_stockUp_110 : decode zm_Mason_stockUp.2.1 110 = .ok (.getfield 43, 3) := by decide +kernel
theorem zd_Mason_stockUp_113 : decode zm_Mason_stockUp.2.1 113 = .ok (.iconst 1, 1) := by decide +kernel
theorem zd_Mason_stockUp_114 : decode zm_Mason_stockUp.2.1 114 = .ok (.isub, 1) := by decide +kernel
theorem zd_Mason_stockUp_115 : decode zm_Mason_stockUp.2.1 115 = .ok (.istore_n 3, 1) := by decide +kernel
theorem zd_Mason_stockUp_116 : decode zm_Mason_stockUp.2.1 116 = .ok (.iload_n 3, 1) := by decide +kernel
theorem zd_Mason_stockUp_117 : decode zm_Mason_stockUp.2.1 117 = .ok (.ifCond .lt 25, 3) := by decide +kernel
theorem zd_Mason_stockUp_120 : decode zm_Mason_stockUp.2.1 120 = .ok (.aload_n 0, 1) := by decide +kernel
theorem zd_Mason_stockUp_121 : decode zm_Mason_stockUp.2.1 121 = .ok (.iload_n 3, 1) := by decide +kernel
theorem zd_Mason_stockUp_122 : decode zm_Mason_stockUp.2.1 122 = .ok (.aload_n 1, 1) := by decide +kernel
theorem zd_Mason_stockUp_123 : decode zm_Mason_stockUp.2.1 123 = .ok (.getfield 60, 3) := by decide +kernel
theorem zd_Mason_stockUp_126 : decode zm_Mason_stockUp.2.1 126 = .ok (.aload_n 0, 1) := by decide +kernel
theorem zd_Mason_stockUp_127 : decode zm_Mason_stockUp.2.1 127 = .ok (.getfield 15, 3) := by decide +kernel
theorem zd_Mason_stockUp_130 : decode zm_Mason_stockUp.2.1 130 = .ok (.iload_n 3, 1) := by decide +kernel
theorem zd_Mason_stockUp_131 : decode zm_Mason_stockUp.2.1 131 = .ok (.iaload, 1) := by decide +kernel
theorem zd_Mason_stockUp_132 : decode zm_Mason_stockUp.2.1 132 = .ok (.iaload, 1) := by decide +kernel
theorem zd_Mason_stockUp_133 : decode zm_Mason_stockUp.2.1 133 = .ok (.invokevirtual 75, 3) := by decide +kernel
theorem zd_Mason_stockUp_136 : decode zm_Mason_stockUp.2.1 136 = .ok (.iinc 3 (-1), 3) := by decide +kernel
theorem zd_Mason_stockUp_139 : decode zm_Mason_stockUp.2.1 139 = .ok (.goto (-23), 3) := by decide +kernel
theorem zd_Mason_stockUp_142 : decode zm_Mason_stockUp.2.1 142 = .ok (.return_, 1) := by decide +kernel
theorem zb_Mason_stockUp_0 {Γ : zG} {σ : zS} {x2 : Int32}  (k : z_J Γ zm_Mason_stockUp 12 [some (.inr (26)), some (.inr (43)), some (.inl (x2)), some (.inl (nI 0))] [] (z_pI (z_pI σ 26 2 (nI 0)) 26 4 (nI 1))) : z_J Γ zm_Mason_stockUp 0 [some (.inr (26)), some (.inr (43)), some (.inl (x2)), none] [] σ := by
  refine zj_aload_n zd_Mason_stockUp_0 rfl ?_
  refine zj_iconst (v := nI 0) zd_Mason_stockUp_1 (by decide) ?_
  refine zj_putI rfl (by decide) rfl zu_Mason zy_Mason_ok zn_Mason (k := 2) (by decide) rfl rfl zl_Mason_43 rfl rfl zd_Mason_stockUp_2 ?_
  refine zj_aload_n zd_Mason_stockUp_5 rfl ?_
  refine zj_iconst (v := nI 1) zd_Mason_stockUp_6 (by decide) ?_
  refine zj_putI rfl (by decide) rfl zu_Mason zy_Mason_ok zn_Mason (k := 4) (by decide) rfl rfl zl_Mason_18 rfl rfl zd_Mason_stockUp_7 ?_
  refine zj_iconst (v := nI 0) zd_Mason_stockUp_10 (by decide) ?_
  refine zj_istore_n (L' := [some (.inr (26)), some (.inr (43)), some (.inl (x2)), some (.inl (nI 0))]) zd_Mason_stockUp_11 (by decide) rfl ?_
  exact k
theorem zb_Mason_stockUp_12 {Γ : zG} {σ : zS} {x2 x3 : Int32}  (kt : (σ.1 43 0) ≤ x3 → z_J Γ zm_Mason_stockUp 88 [some (.inr (26)), some (.inr (43)), none, none] [] σ) (kf : ¬ (σ.1 43 0) ≤ x3 → z_J Γ zm_Mason_stockUp 20 [some (.inr (26)), some (.inr (43)), some (.inl (x2)), some (.inl (x3))] [] σ) : z_J Γ zm_Mason_stockUp 12 [some (.inr (26)), some (.inr (43)), some (.inl (x2)), some (.inl (x3))] [] σ := by
  refine zj_iload_n zd_Mason_stockUp_12 rfl ?_
  refine zj_aload_n zd_Mason_stockUp_13 rfl ?_
  refine zj_getI rfl (by decide) rfl zu_City (k := 0) (by decide) rfl zl_Mason_50 zd_Mason_stockUp_14 ?_
  exact zj_icmp_ge zd_Mason_stockUp_17 (by decide) (fun h => (zj_weak (L' := [some (.inr (26)), some (.inr (43)), none, none]) ⟨rfl, ⟨rfl, trivial⟩⟩ (kt h))) (fun h => (kf h))
theorem zb_Mason_stockUp_20 {Γ : zG} {σ : zS} {x2 x3 : Int32} {k1 : Nat}  (b1 : z_ix x3 12 k1) (kt : ¬ (σ.1 46 k1) = x2 → z_J Γ zm_Mason_stockUp 82 [some (.inr (26)), some (.inr (43)), some (.inl (x2)), some (.inl (x3))] [] σ) (kf : (σ.1 46 k1) = x2 → z_J Γ zm_Mason_stockUp 30 [some (.inr (26)), some (.inr (43)), some (.inl (x2)), some (.inl (x3))] [] σ) : z_J Γ zm_Mason_stockUp 20 [some (.inr (26)), some (.inr (43)), some (.inl (x2)), some (.inl (x3))] [] σ := by
  refine zj_aload_n zd_Mason_stockUp_20 rfl ?_
  refine zj_getR rfl (by decide) rfl zu_City (k := 3) (by decide) rfl zl_Mason_53 zd_Mason_stockUp_21 (o' := 46) rfl ?_
  refine zj_iload_n zd_Mason_stockUp_24 rfl ?_
  refine zj_iaload rfl (by decide) b1 zd_Mason_stockUp_25 ?_
  refine zj_iload_n zd_Mason_stockUp_26 rfl ?_
  exact zj_icmp_ne zd_Mason_stockUp_27 (by decide) (fun h => (kt h)) (fun h => (kf h))
theorem zb_Mason_stockUp_30 {Γ : zG} {σ : zS} {x2 x3 : Int32}  (kt : (nI 6) ≤ (σ.1 26 2) → z_J Γ zm_Mason_stockUp 82 [some (.inr (26)), some (.inr (43)), some (.inl (x2)), some (.inl (x3))] [] σ) (kf : ¬ (nI 6) ≤ (σ.1 26 2) → z_J Γ zm_Mason_stockUp 39 [some (.inr (26)), some (.inr (43)), some (.inl (x2)), some (.inl (x3))] [] σ) : z_J Γ zm_Mason_stockUp 30 [some (.inr (26)), some (.inr (43)), some (.inl (x2)), some (.inl (x3))] [] σ := by
  refine zj_aload_n zd_Mason_stockUp_30 rfl ?_
  refine zj_getI rfl (by decide) rfl zu_Mason (k := 2) (by decide) rfl zl_Mason_43 zd_Mason_stockUp_31 ?_
  refine zj_bipush (v := nI 6) zd_Mason_stockUp_34 (by decide) ?_
  exact zj_icmp_ge zd_Mason_stockUp_36 (by decide) (fun h => (kt h)) (fun h => (kf h))
theorem zb_Mason_stockUp_39 {Γ : zG} {σ : zS} {x2 x3 : Int32} {dc : Nat} {P : zS → Prop}  (hm : z_Cv dc zm_City_lift [.inr (43), .inl (x3), .inl (nI 0)] σ P) (hdp : dc < z_dep Γ) (k : ∀ σ1, P σ1 → z_J Γ zm_Mason_stockUp 45 [some (.inr (26)), some (.inr (43)), some (.inl (x2)), some (.inl (x3))] [] σ1) : z_J Γ zm_Mason_stockUp 39 [some (.inr (26)), some (.inr (43)), some (.inl (x2)), some (.inl (x3))] [] σ := by
  refine zj_aload_n zd_Mason_stockUp_39 rfl ?_
  refine zj_iload_n zd_Mason_stockUp_40 rfl ?_
  refine zj_iconst (v := nI 0) zd_Mason_stockUp_41 (by decide) ?_
  exact zj_callVv (As := [.inl (x3), .inl (nI 0)]) hm hdp rfl (by decide) rfl zl_Mason_56 zq_City_lift zd_Mason_stockUp_42 rfl (Nat.le_of_ble_eq_true rfl) (fun σ1 h => (k σ1 h))
theorem zb_Mason_stockUp_45 {Γ : zG} {σ : zS} {x2 x3 : Int32} {k1 k2 : Nat} (hdp : 0 < z_dep Γ) (b1 : z_ix x3 12 k1) (b2 : z_ix ((z_pI σ 26 4 (z_max (σ.1 26 4) (σ.1 44 k1))).1 26 2) 6 k2) (k : z_J Γ zm_Mason_stockUp 82 [some (.inr (26)), some (.inr (43)), some (.inl (x2)), some (.inl (x3))] [] (z_pI (z_pI (z_pI σ 26 4 (z_max (σ.1 26 4) (σ.1 44 k1))) 28 k2 x3) 26 2 (((z_pI (z_pI σ 26 4 (z_max (σ.1 26 4) (σ.1 44 k1))) 28 k2 x3).1 26 2) + (nI 1)))) : z_J Γ zm_Mason_stockUp 45 [some (.inr (26)), some (.inr (43)), some (.inl (x2)), some (.inl (x3))] [] σ := by
  refine zj_aload_n zd_Mason_stockUp_45 rfl ?_
  refine zj_aload_n zd_Mason_stockUp_46 rfl ?_
  refine zj_getI rfl (by decide) rfl zu_Mason (k := 4) (by decide) rfl zl_Mason_18 zd_Mason_stockUp_47 ?_
  refine zj_aload_n zd_Mason_stockUp_50 rfl ?_
  refine zj_getR rfl (by decide) rfl zu_City (k := 1) (by decide) rfl zl_Mason_60 zd_Mason_stockUp_51 (o' := 44) rfl ?_
  refine zj_iload_n zd_Mason_stockUp_54 rfl ?_
  refine zj_iaload rfl (by decide) b1 zd_Mason_stockUp_55 ?_
  refine zj_mmax zl_Mason_63 zx_max_s zx_Math zx_max_c hdp (Nat.le_of_ble_eq_true rfl) zd_Mason_stockUp_56 ?_
  refine zj_putI rfl (by decide) rfl zu_Mason zy_Mason_ok zn_Mason (k := 4) (by decide) rfl rfl zl_Mason_18 rfl rfl zd_Mason_stockUp_59 ?_
  refine zj_aload_n zd_Mason_stockUp_62 rfl ?_
  refine zj_getR rfl (by decide) rfl zu_Mason (k := 1) (by decide) rfl zl_Mason_15 zd_Mason_stockUp_63 (o' := 28) rfl ?_
  refine zj_aload_n zd_Mason_stockUp_66 rfl ?_
  refine zj_getI rfl (by decide) rfl zu_Mason (k := 2) (by decide) rfl zl_Mason_43 zd_Mason_stockUp_67 ?_
  refine zj_iload_n zd_Mason_stockUp_70 rfl ?_
  refine zj_iastore rfl (by decide) b2 zd_Mason_stockUp_71 ?_
  refine zj_aload_n zd_Mason_stockUp_72 rfl ?_
  refine zj_dup zd_Mason_stockUp_73 ?_
  refine zj_getI rfl (by decide) rfl zu_Mason (k := 2) (by decide) rfl zl_Mason_43 zd_Mason_stockUp_74 ?_
  refine zj_iconst (v := nI 1) zd_Mason_stockUp_77 (by decide) ?_
  refine zj_iadd zd_Mason_stockUp_78 ?_
  refine zj_putI rfl (by decide) rfl zu_Mason zy_Mason_ok zn_Mason (k := 2) (by decide) rfl rfl zl_Mason_43 rfl rfl zd_Mason_stockUp_79 ?_
  exact k
theorem zb_Mason_stockUp_82 {Γ : zG} {σ : zS} {x2 x3 : Int32}  (k : z_J Γ zm_Mason_stockUp 12 [some (.inr (26)), some (.inr (43)), some (.inl (x2)), some (.inl (x3 + nI 1))] [] σ) : z_J Γ zm_Mason_stockUp 82 [some (.inr (26)), some (.inr (43)), some (.inl (x2)), some (.inl (x3))] [] σ := by
  refine zj_iinc (v := nI 1) (L' := [some (.inr (26)), some (.inr (43)), some (.inl (x2)), some (.inl (x3 + nI 1))]) zd_Mason_stockUp_82 rfl (by decide) (by decide) rfl ?_
  exact zj_goto zd_Mason_stockUp_85 (by decide) k
theorem zb_Mason_stockUp_88 {Γ : zG} {σ : zS} (hdp : 0 < z_dep Γ) (k : z_J Γ zm_Mason_stockUp 96 [some (.inr (26)), some (.inr (43)), none, none] [] (z_pA σ 29 (z_fil 49 (-1) (σ.1 29)))) : z_J Γ zm_Mason_stockUp 88 [some (.inr (26)), some (.inr (43)), none, none] [] σ := by
  refine zj_aload_n zd_Mason_stockUp_88 rfl ?_
  refine zj_getR rfl (by decide) rfl zu_Mason (k := 5) (by decide) rfl zl_Mason_22 zd_Mason_stockUp_89 (o' := 29) rfl ?_
  refine zj_iconst (v := (-1)) zd_Mason_stockUp_92 (by decide) ?_
  refine zj_fill zl_Mason_69 rfl (by decide) hdp (Nat.le_of_ble_eq_true rfl) zd_Mason_stockUp_93 ?_
  exact k
theorem zb_Mason_stockUp_96 {Γ : zG} {σ : zS} {k1 : Nat}  (b1 : z_ix ((σ.1 26 2) * (nI 7)) 49 k1) (k : z_J Γ zm_Mason_stockUp 116 [some (.inr (26)), some (.inr (43)), none, some (.inl (((z_pI σ 29 k1 (nI 0)).1 26 2) - (nI 1)))] [] (z_pI σ 29 k1 (nI 0))) : z_J Γ zm_Mason_stockUp 96 [some (.inr (26)), some (.inr (43)), none, none] [] σ := by
  refine zj_aload_n zd_Mason_stockUp_96 rfl ?_
  refine zj_getR rfl (by decide) rfl zu_Mason (k := 5) (by decide) rfl zl_Mason_22 zd_Mason_stockUp_97 (o' := 29) rfl ?_
  refine zj_aload_n zd_Mason_stockUp_100 rfl ?_
  refine zj_getI rfl (by decide) rfl zu_Mason (k := 2) (by decide) rfl zl_Mason_43 zd_Mason_stockUp_101 ?_
  refine zj_bipush (v := nI 7) zd_Mason_stockUp_104 (by decide) ?_
  refine zj_imul zd_Mason_stockUp_106 ?_
  refine zj_iconst (v := nI 0) zd_Mason_stockUp_107 (by decide) ?_
  refine zj_iastore rfl (by decide) b1 zd_Mason_stockUp_108 ?_
  refine zj_aload_n zd_Mason_stockUp_109 rfl ?_
  refine zj_getI rfl (by decide) rfl zu_Mason (k := 2) (by decide) rfl zl_Mason_43 zd_Mason_stockUp_110 ?_
  refine zj_iconst (v := nI 1) zd_Mason_stockUp_113 (by decide) ?_
  refine zj_isub zd_Mason_stockUp_114 ?_
  refine zj_istore_n (L' := [some (.inr (26)), some (.inr (43)), none, some (.inl (((z_pI σ 29 k1 (nI 0)).1 26 2) - (nI 1)))]) zd_Mason_stockUp_115 (by decide) rfl ?_
  exact k
theorem zb_Mason_stockUp_116 {Γ : zG} {σ : zS} {x3 : Int32}  (kt : x3 < 0 → z_J Γ zm_Mason_stockUp 142 [none, none, none, none] [] σ) (kf : ¬ x3 < 0 → z_J Γ zm_Mason_stockUp 120 [some (.inr (26)), some (.inr (43)), none, some (.inl (x3))] [] σ) : z_J Γ zm_Mason_stockUp 116 [some (.inr (26)), some (.inr (43)), none, some (.inl (x3))] [] σ := by
  refine zj_iload_n zd_Mason_stockUp_116 rfl ?_
  exact zj_if_lt zd_Mason_stockUp_117 (by decide) (fun h => (zj_weak (L' := [none, none, none, none]) trivial (kt h))) (fun h => (kf h))
theorem zb_Mason_stockUp_120 {Γ : zG} {σ : zS} {x3 : Int32} {k1 k2 : Nat} {dc : Nat} {P : zS → Prop}  (b1 : z_ix x3 6 k1) (b2 : z_ix (σ.1 28 k1) 12 k2) (hm : z_Cv dc zm_Mason_addUp [.inr (26), .inl (x3), .inl (σ.1 44 k2)] σ P) (hdp : dc < z_dep Γ) (k : ∀ σ1, P σ1 → z_J Γ zm_Mason_stockUp 136 [some (.inr (26)), some (.inr (43)), none, some (.inl (x3))] [] σ1) : z_J Γ zm_Mason_stockUp 120 [some (.inr (26)), some (.inr (43)), none, some (.inl (x3))] [] σ := by
  refine zj_aload_n zd_Mason_stockUp_120 rfl ?_
  refine zj_iload_n zd_Mason_stockUp_121 rfl ?_
  refine zj_aload_n zd_Mason_stockUp_122 rfl ?_
  refine zj_getR rfl (by decide) rfl zu_City (k := 1) (by decide) rfl zl_Mason_60 zd_Mason_stockUp_123 (o' := 44) rfl ?_
  refine zj_aload_n zd_Mason_stockUp_126 rfl ?_
  refine zj_getR rfl (by decide) rfl zu_Mason (k := 1) (by decide) rfl zl_Mason_15 zd_Mason_stockUp_127 (o' := 28) rfl ?_
  refine zj_iload_n zd_Mason_stockUp_130 rfl ?_
  refine zj_iaload rfl (by decide) b1 zd_Mason_stockUp_131 ?_
  refine zj_iaload rfl (by decide) b2 zd_Mason_stockUp_132 ?_
  exact zj_callVv (As := [.inl (x3), .inl (σ.1 44 k2)]) hm hdp rfl (by decide) rfl zl_Mason_75 zq_Mason_addUp zd_Mason_stockUp_133 rfl (Nat.le_of_ble_eq_true rfl) (fun σ1 h => (k σ1 h))
theorem zb_Mason_stockUp_136 {Γ : zG} {σ : zS} {x3 : Int32}  (k : z_J Γ zm_Mason_stockUp 116 [some (.inr (26)), some (.inr (43)), none, some (.inl (x3 + (-1)))] [] σ) : z_J Γ zm_Mason_stockUp 136 [some (.inr (26)), some (.inr (43)), none, some (.inl (x3))] [] σ := by
  refine zj_iinc (v := (-1)) (L' := [some (.inr (26)), some (.inr (43)), none, some (.inl (x3 + (-1)))]) zd_Mason_stockUp_136 rfl (by decide) (by decide) rfl ?_
  exact zj_goto zd_Mason_stockUp_139 (by decide) k
theorem zb_Mason_stockUp_142 {Γ : zG} {σ : zS}  (e : z_end Γ none σ) : z_J Γ zm_Mason_stockUp 142 [none, none, none, none] [] σ := by
  exact zj_return rfl zd_Mason_stockUp_142 e
theorem zd_Mason_addUp_0 : decode zm_Mason_addUp.2.1 0 = .ok (.aload_n 0, 1) := by decide +kernel
theorem zd_Mason_addUp_1 : decode zm_Mason_addUp.2.1 1 = .ok (.getfield 22, 3) := by decide +kernel
theorem zd_Mason_addUp_4 : decode zm_Mason_addUp.2.1 4 = .ok (.iload_n 1, 1) := by decide +kernel
theorem zd_Mason_addUp_5 : decode zm_Mason_addUp.2.1 5 = .ok (.bipush 7, 2) := by decide +kernel
theorem zd_Mason_addUp_7 : decode zm_Mason_addUp.2.1 7 = .ok (.imul, 1) := by decide +kernel
theorem zd_Mason_addUp_8 : decode zm_Mason_addUp.2.1 8 = .ok (.iconst 0, 1) := by decide +kernel
theorem zd_Mason_addUp_9 : decode zm_Mason_addUp.2.1 9 = .ok (.iastore, 1) := by decide +kernel
theorem zd_Mason_addUp_10 : decode zm_Mason_addUp.2.1 10 = .ok (.iconst 1, 1) := by decide +kernel
theorem zd_Mason_addUp_11 : decode zm_Mason_addUp.2.1 11 = .ok (.istore_n 3, 1) := by decide +kernel
theorem zd_Mason_addUp_12 : decode zm_Mason_addUp.2.1 12 = .ok (.iload_n 3, 1) := by decide +kernel
theorem zd_Mason_addUp_13 : decode zm_Mason_addUp.2.1 13 = .ok (.aload_n 0, 1) := by decide +kernel
theorem zd_Mason_addUp_14 : decode zm_Mason_addUp.2.1 14 = .ok (.getfield 43, 3) := by decide +kernel
theorem zd_Mason_addUp_17 : decode zm_Mason_addUp.2.1 17 = .ok (.iload_n 1, 1) := by decide +kernel
theorem zd_Mason_addUp_18 : decode zm_Mason_addUp.2.1 18 = .ok (.isub, 1) := by decide +kernel
theorem zd_Mason_addUp_19 : decode zm_Mason_addUp.2.1 19 = .ok (.if_icmp .gt 57, 3) := by decide +kernel
theorem zd_Mason_addUp_22 : decode zm_Mason_addUp.2.1 22 = .ok (.iload_n 2, 1) := by decide +kernel
theorem zd_Mason_addUp_23 : decode zm_Mason_addUp.2.1 23 = .ok (.aload_n 0, 1) := by decide +kernel
theorem zd_Mason_addUp_24 : decode zm_Mason_addUp.2.1 24 = .ok (.getfield 22, 3) := by decide +kernel
theorem zd_Mason_addUp_27 : decode zm_Mason_addUp.2.1 27 = .ok (.iload_n 1, 1) := by decide +kernel
theorem zd_Mason_addUp_28 : decode zm_Mason_addUp.2.1 28 = .ok (.iconst 1, 1) := by decide +kernel
theorem zd_Mason_addUp_29 : decode zm_Mason_addUp.2.1 29 = .ok (.iadd, 1) := by decide +kernel
theorem zd_Mason_addUp_30 : decode zm_Mason_addUp.2.1 30 = .ok (.bipush 7, 2) := by decide +kernel
theorem zd_Mason_addUp_32 : decode zm_Mason_addUp.2.1 32 = .ok (.imul, 1) := by decide +kernel
theorem zd_Mason_addUp_33 : decode zm_Mason_addUp.2.1 33 = .ok (.iload_n 3, 1) := by decide +kernel
theorem zd_Mason_addUp_34 : decode zm_Mason_addUp.2.1 34 = .ok (.iadd, 1) := by decide +kernel
theorem zd_Mason_addUp_35 : decode zm_Mason_addUp.2.1 35 = .ok (.iconst 1, 1) := by decide +kernel
theorem zd_Mason_addUp_36 : decode zm_Mason_addUp.2.1 36 = .ok (.isub, 1) := by decide +kernel
theorem zd_Mason_addUp_37 : decode zm_Mason_addUp.2.1 37 = .ok (.iaload, 1) := by decide +kernel
theorem zd_Mason_addUp_38 : decode zm_Mason_addUp.2.1 38 = .ok (.iadd, 1) := by decide +kernel
theorem zd_Mason_addUp_39 : decode zm_Mason_addUp.2.1 39 = .ok (.istore 4, 2) := by decide +kernel
theorem zd_Mason_addUp_41 : decode zm_Mason_addUp.2.1 41 = .ok (.aload_n 0, 1) := by decide +kernel
theorem zd_Mason_addUp_42 : decode zm_Mason_addUp.2.1 42 = .ok (.getfield 22, 3) := by decide +kernel
theorem zd_Mason_addUp_45 : decode zm_Mason_addUp.2.1 45 = .ok (.iload_n 1, 1) := by decide +kernel
theorem zd_Mason_addUp_46 : decode zm_Mason_addUp.2.1 46 = .ok (.bipush 7, 2) := by decide +kernel
theorem zd_Mason_addUp_48 : decode zm_Mason_addUp.2.1 48 = .ok (.imul, 1) := by decide +kernel
theorem zd_Mason_addUp_49 : decode zm_Mason_addUp.2.1 49 = .ok (.iload_n 3, 1) := by decide +kernel
theorem zd_Mason_addUp_50 : decode zm_Mason_addUp.2.1 50 = .ok (.iadd, 1) := by decide +kernel
theorem zd_Mason_addUp_51 : decode zm_Mason_addUp.2.1 51 = .ok (.iload 4, 2) := by decide +kernel
theorem zd_Mason_addUp_53 : decode zm_Mason_addUp.2.1 53 = .ok (.aload_n 0, 1) := by decide +kernel
theorem zd_Mason_addUp_54 : decode zm_Mason_addUp.2.1 54 = .ok (.getfield 22, 3) := by decide +kernel
theorem zd_Mason_addUp_57 : decode zm_Mason_addUp.2.1 57 = .ok (.iload_n 1, 1) := by decide +kernel
theorem zd_Mason_addUp_58 : decode zm_Mason_addUp.2.1 58 = .ok (.iconst 1, 1) := by decide +kernel
theorem zd_Mason_addUp_59 : decode zm_Mason_addUp.2.1 59 = .ok (.iadd, 1) := by decide +kernel
theorem zd_Mason_addUp_60 : decode zm_Mason_addUp.2.1 60 = .ok (.bipush 7, 2) := by decide +kernel
theorem zd_Mason_addUp_62 : decode zm_Mason_addUp.2.1 62 = .ok (.imul, 1) := by decide +kernel
theorem zd_Mason_addUp_63 : decode zm_Mason_addUp.2.1 63 = .ok (.iload_n 3, 1) := by decide +kernel
theorem zd_Mason_addUp_64 : decode zm_Mason_addUp.2.1 64 = .ok (.iadd, 1) := by decide +kernel
theorem zd_Mason_addUp_65 : decode zm_Mason_addUp.2.1 65 = .ok (.iaload, 1) := by decide +kernel
theorem zd_Mason_addUp_66 : decode zm_Mason_addUp.2.1 66 = .ok (.invokestatic 63, 3) := by decide +kernel
theorem zd_Mason_addUp_69 : decode zm_Mason_addUp.2.1 69 = .ok (.iastore, 1) := by decide +kernel
theorem zd_Mason_addUp_70 : decode zm_Mason_addUp.2.1 70 = .ok (.iinc 3 1, 3) := by decide +kernel
theorem zd_Mason_addUp_73 : decode zm_Mason_addUp.2.1 73 = .ok (.goto (-61), 3) := by decide +kernel
theorem zd_Mason_addUp_76 : decode zm_Mason_addUp.2.1 76 = .ok (.return_, 1) := by decide +kernel
theorem zb_Mason_addUp_0 {Γ : zG} {σ : zS} {x1 x2 : Int32} {k1 : Nat}  (b1 : z_ix (x1 * (nI 7)) 49 k1) (k : z_J Γ zm_Mason_addUp 12 [some (.inr (26)), some (.inl (x1)), some (.inl (x2)), some (.inl (nI 1)), none] [] (z_pI σ 29 k1 (nI 0))) : z_J Γ zm_Mason_addUp 0 [some (.inr (26)), some (.inl (x1)), some (.inl (x2)), none, none] [] σ := by
  refine zj_aload_n zd_Mason_addUp_0 rfl ?_
  refine zj_getR rfl (by decide) rfl zu_Mason (k := 5) (by decide) rfl zl_Mason_22 zd_Mason_addUp_1 (o' := 29) rfl ?_
  refine zj_iload_n zd_Mason_addUp_4 rfl ?_
  refine zj_bipush (v := nI 7) zd_Mason_addUp_5 (by decide) ?_
  refine zj_imul zd_Mason_addUp_7 ?_
  refine zj_iconst (v := nI 0) zd_Mason_addUp_8 (by decide) ?_
  refine zj_iastore rfl (by decide) b1 zd_Mason_addUp_9 ?_
  refine zj_iconst (v := nI 1) zd_Mason_addUp_10 (by decide) ?_
  refine zj_istore_n (L' := [some (.inr (26)), some (.inl (x1)), some (.inl (x2)), some (.inl (nI 1)), none]) zd_Mason_addUp_11 (by decide) rfl ?_
  exact k
theorem zb_Mason_addUp_12 {Γ : zG} {σ : zS} {x1 x2 x3 : Int32}  (kt : ((σ.1 26 2) - x1) < x3 → z_J Γ zm_Mason_addUp 76 [none, none, none, none, none] [] σ) (kf : ¬ ((σ.1 26 2) - x1) < x3 → z_J Γ zm_Mason_addUp 22 [some (.inr (26)), some (.inl (x1)), some (.inl (x2)), some (.inl (x3)), none] [] σ) : z_J Γ zm_Mason_addUp 12 [some (.inr (26)), some (.inl (x1)), some (.inl (x2)), some (.inl (x3)), none] [] σ := by
  refine zj_iload_n zd_Mason_addUp_12 rfl ?_
  refine zj_aload_n zd_Mason_addUp_13 rfl ?_
  refine zj_getI rfl (by decide) rfl zu_Mason (k := 2) (by decide) rfl zl_Mason_43 zd_Mason_addUp_14 ?_
  refine zj_iload_n zd_Mason_addUp_17 rfl ?_
  refine zj_isub zd_Mason_addUp_18 ?_
  exact zj_icmp_gt zd_Mason_addUp_19 (by decide) (fun h => (zj_weak (L' := [none, none, none, none, none]) trivial (kt h))) (fun h => (kf h))
theorem zb_Mason_addUp_22 {Γ : zG} {σ : zS} {x1 x2 x3 : Int32} {k1 k2 k3 : Nat} (hdp : 0 < z_dep Γ) (b1 : z_ix ((((x1 + (nI 1)) * (nI 7)) + x3) - (nI 1)) 49 k1) (b2 : z_ix (((x1 + (nI 1)) * (nI 7)) + x3) 49 k2) (b3 : z_ix ((x1 * (nI 7)) + x3) 49 k3) (k : z_J Γ zm_Mason_addUp 12 [some (.inr (26)), some (.inl (x1)), some (.inl (x2)), some (.inl (x3 + nI 1)), none] [] (z_pI σ 29 k3 (z_max (x2 + (σ.1 29 k1)) (σ.1 29 k2)))) : z_J Γ zm_Mason_addUp 22 [some (.inr (26)), some (.inl (x1)), some (.inl (x2)), some (.inl (x3)), none] [] σ := by
  refine zj_iload_n zd_Mason_addUp_22 rfl ?_
  refine zj_aload_n zd_Mason_addUp_23 rfl ?_
  refine zj_getR rfl (by decide) rfl zu_Mason (k := 5) (by decide) rfl zl_Mason_22 zd_Mason_addUp_24 (o' := 29) rfl ?_
  refine zj_iload_n zd_Mason_addUp_27 rfl ?_
  refine zj_iconst (v := nI 1) zd_Mason_addUp_28 (by decide) ?_
  refine zj_iadd zd_Mason_addUp_29 ?_
  refine zj_bipush (v := nI 7) zd_Mason_addUp_30 (by decide) ?_
  refine zj_imul zd_Mason_addUp_32 ?_
  refine zj_iload_n zd_Mason_addUp_33 rfl ?_
  refine zj_iadd zd_Mason_addUp_34 ?_
  refine zj_iconst (v := nI 1) zd_Mason_addUp_35 (by decide) ?_
  refine zj_isub zd_Mason_addUp_36 ?_
  refine zj_iaload rfl (by decide) b1 zd_Mason_addUp_37 ?_
  refine zj_iadd zd_Mason_addUp_38 ?_
  refine zj_istore (L' := [some (.inr (26)), some (.inl (x1)), some (.inl (x2)), some (.inl (x3)), some (.inl (x2 + (σ.1 29 k1)))]) zd_Mason_addUp_39 (by decide) rfl ?_
  refine zj_aload_n zd_Mason_addUp_41 rfl ?_
  refine zj_getR rfl (by decide) rfl zu_Mason (k := 5) (by decide) rfl zl_Mason_22 zd_Mason_addUp_42 (o' := 29) rfl ?_
  refine zj_iload_n zd_Mason_addUp_45 rfl ?_
  refine zj_bipush (v := nI 7) zd_Mason_addUp_46 (by decide) ?_
  refine zj_imul zd_Mason_addUp_48 ?_
  refine zj_iload_n zd_Mason_addUp_49 rfl ?_
  refine zj_iadd zd_Mason_addUp_50 ?_
  refine zj_iload zd_Mason_addUp_51 rfl ?_
  refine zj_aload_n zd_Mason_addUp_53 rfl ?_
  refine zj_getR rfl (by decide) rfl zu_Mason (k := 5) (by decide) rfl zl_Mason_22 zd_Mason_addUp_54 (o' := 29) rfl ?_
  refine zj_iload_n zd_Mason_addUp_57 rfl ?_
  refine zj_iconst (v := nI 1) zd_Mason_addUp_58 (by decide) ?_
  refine zj_iadd zd_Mason_addUp_59 ?_
  refine zj_bipush (v := nI 7) zd_Mason_addUp_60 (by decide) ?_
  refine zj_imul zd_Mason_addUp_62 ?_
  refine zj_iload_n zd_Mason_addUp_63 rfl ?_
  refine zj_iadd zd_Mason_addUp_64 ?_
  refine zj_iaload rfl (by decide) b2 zd_Mason_addUp_65 ?_
  refine zj_mmax zl_Mason_63 zx_max_s zx_Math zx_max_c hdp (Nat.le_of_ble_eq_true rfl) zd_Mason_addUp_66 ?_
  refine zj_iastore rfl (by decide) b3 zd_Mason_addUp_69 ?_
  refine zj_iinc (v := nI 1) (L' := [some (.inr (26)), some (.inl (x1)), some (.inl (x2)), some (.inl (x3 + nI 1)), some (.inl (x2 + (σ.1 29 k1)))]) zd_Mason_addUp_70 rfl (by decide) (by decide) rfl ?_
  exact zj_goto zd_Mason_addUp_73 (by decide) (zj_weak (L' := [some (.inr (26)), some (.inl (x1)), some (.inl (x2)), some (.inl (x3 + nI 1)), none]) ⟨rfl, ⟨rfl, ⟨rfl, ⟨rfl, trivial⟩⟩⟩⟩ k)
theorem zb_Mason_addUp_76 {Γ : zG} {σ : zS}  (e : z_end Γ none σ) : z_J Γ zm_Mason_addUp 76 [none, none, none, none, none] [] σ := by
  exact zj_return rfl zd_Mason_addUp_76 e
theorem zd_Mason_reaches_0 : decode zm_Mason_reaches.2.1 0 = .ok (.aload_n 0, 1) := by decide +kernel
theorem zd_Mason_reaches_1 : decode zm_Mason_reaches.2.1 1 = .ok (.aload_n 1, 1) := by decide +kernel
theorem zd_Mason_reaches_2 : decode zm_Mason_reaches.2.1 2 = .ok (.iload_n 3, 1) := by decide +kernel
theorem zd_Mason_reaches_3 : decode zm_Mason_reaches.2.1 3 = .ok (.iload 5, 2) := by decide +kernel
theorem zd_Mason_reaches_5 : decode zm_Mason_reaches.2.1 5 = .ok (.iload 4, 2) := by decide +kernel
theorem zd_Mason_reaches_7 : decode zm_Mason_reaches.2.1 7 = .ok (.isub, 1) := by decide +kernel
theorem zd_Mason_reaches_8 : decode zm_Mason_reaches.2.1 8 = .ok (.invokevirtual 78, 3) := by decide +kernel
theorem zd_Mason_reaches_11 : decode zm_Mason_reaches.2.1 11 = .ok (.ifCond .ne 5, 3) := by decide +kernel
theorem zd_Mason_reaches_14 : decode zm_Mason_reaches.2.1 14 = .ok (.iconst 0, 1) := by decide +kernel
theorem zd_Mason_reaches_15 : decode zm_Mason_reaches.2.1 15 = .ok (.ireturn, 1) := by decide +kernel
theorem zd_Mason_reaches_16 : decode zm_Mason_reaches.2.1 16 = .ok (.iload 4, 2) := by decide +kernel
theorem zd_Mason_reaches_18 : decode zm_Mason_reaches.2.1 18 = .ok (.iload 5, 2) := by decide +kernel
theorem zd_Mason_reaches_20 : decode zm_Mason_reaches.2.1 20 = .ok (.if_icmp .ne 5, 3) := by decide +kernel
theorem zd_Mason_reaches_23 : decode zm_Mason_reaches.2.1 23 = .ok (.iconst 1, 1) := by decide +kernel
theorem zd_Mason_reaches_24 : decode zm_Mason_reaches.2.1 24 = .ok (.ireturn, 1) := by decide +kernel
theorem zd_Mason_reaches_25 : decode zm_Mason_reaches.2.1 25 = .ok (.iload_n 3, 1) := by decide +kernel
theorem zd_Mason_reaches_26 : decode zm_Mason_reaches.2.1 26 = .ok (.istore 6, 2) := by decide +kernel
theorem zd_Mason_reaches_28 : decode zm_Mason_reaches.2.1 28 = .ok (.iload 6, 2) := by decide +kernel
theorem zd_Mason_reaches_30 : decode zm_Mason_reaches.2.1 30 = .ok (.aload_n 0, 1) := by decide +kernel
theorem zd_Mason_reaches_31 : decode zm_Mason_reaches.2.1 31 = .ok (.getfield 43, 3) := by decide +kernel
theorem zd_Mason_reaches_34 : decode zm_Mason_reaches.2.1 34 = .ok (.if_icmp .ge 122, 3) := by decide +kernel
theorem zd_Mason_reaches_37 : decode zm_Mason_reaches.2.1 37 = .ok (.iconst 0, 1) := by decide +kernel
theorem zd_Mason_reaches_38 : decode zm_Mason_reaches.2.1 38 = .ok (.istore 7, 2) := by decide +kernel
theorem zd_Mason_reaches_40 : decode zm_Mason_reaches.2.1 40 = .ok (.iload 7, 2) := by decide +kernel
theorem zd_Mason_reaches_42 : decode zm_Mason_reaches.2.1 42 = .ok (.aload_n 1, 1) := by decide +kernel
theorem zd_Mason_reaches_43 : decode zm_Mason_reaches.2.1 43 = .ok (.getfield 82, 3) := by decide +kernel
theorem zd_Mason_reaches_46 : decode zm_Mason_reaches.2.1 46 = .ok (.if_icmp .ge 104, 3) := by decide +kernel
theorem zd_Mason_reaches_49 : decode zm_Mason_reaches.2.1 49 = .ok (.aload_n 1, 1) := by decide +kernel
theorem zd_Mason_reaches_50 : decode zm_Mason_reaches.2.1 50 = .ok (.iload 7, 2) := by decide +kernel
theorem zd_Mason_reaches_52 : decode zm_Mason_reaches.2.1 52 = .ok (.invokevirtual 85, 3) := by decide +kernel
theorem zd_Mason_reaches_55 : decode zm_Mason_reaches.2.1 55 = .ok (.aload_n 0, 1) := by decide +kernel
theorem zd_Mason_reaches_56 : decode zm_Mason_reaches.2.1 56 = .ok (.getfield 36, 3) := by decide +kernel
theorem zd_Mason_reaches_59 : decode zm_Mason_reaches.2.1 59 = .ok (.if_icmp .ge 85, 3) := by decide +kernel
theorem zd_Mason_reaches_62 : decode zm_Mason_reaches.2.1 62 = .ok (.aload_n 1, 1) := by decide +kernel
theorem zd_Mason_reaches_63 : decode zm_Mason_reaches.2.1 63 = .ok (.aload_n 0, 1) := by decide +kernel
theorem zd_Mason_reaches_64 : decode zm_Mason_reaches.2.1 64 = .ok (.getfield 15, 3) := by decide +kernel
theorem zd_Mason_reaches_67 : decode zm_Mason_reaches.2.1 67 = .ok (.iload 6, 2) := by decide +kernel
theorem zd_Mason_reaches_69 : decode zm_Mason_reaches.2.1 69 = .ok (.iaload, 1) := by decide +kernel
theorem zd_Mason_reaches_70 : decode zm_Mason_reaches.2.1 70 = .ok (.iload 7, 2) := by decide +kernel
theorem zd_Mason_reaches_72 : decode zm_Mason_reaches.2.1 72 = .ok (.aload_n 2, 1) := by decide +kernel
theorem zd_Mason_reaches_73 : decode zm_Mason_reaches.2.1 73 = .ok (.invokevirtual 88, 3) := by decide +kernel
theorem zd_Mason_reaches_76 : decode zm_Mason_reaches.2.1 76 = .ok (.ifCond .ge 6, 3) := by decide +kernel
theorem zd_Mason_reaches_79 : decode zm_Mason_reaches.2.1 79 = .ok (.goto 65, 3) := by decide +kernel
theorem zd_Mason_reaches_82 : decode zm_Mason_reaches.2.1 82 = .ok (.aload_n 0, 1) := by decide +kernel
theorem zd_Mason_reaches_83 : decode zm_Mason_reaches.2.1 83 = .ok (.getfield 9, 3) := by decide +kernel
theorem zd_Mason_reaches_86 : decode zm_Mason_reaches.2.1 86 = .ok (.iconst 2, 1) := by decide +kernel
theorem zd_Mason_reaches_87 : decode zm_Mason_reaches.2.1 87 = .ok (.iload 4, 2) := by decide +kernel
theorem zd_Mason_reaches_89 : decode zm_Mason_reaches.2.1 89 = .ok (.imul, 1) := by decide +kernel
theorem zd_Mason_reaches_90 : decode zm_Mason_reaches.2.1 90 = .ok (.aload_n 0, 1) := by decide +kernel
theorem zd_Mason_reaches_91 : decode zm_Mason_reaches.2.1 91 = .ok (.getfield 15, 3) := by decide +kernel
theorem zd_Mason_reaches_94 : decode zm_Mason_reaches.2.1 94 = .ok (.iload 6, 2) := by decide +kernel
theorem zd_Mason_reaches_96 : decode zm_Mason_reaches.2.1 96 = .ok (.iaload, 1) := by decide +kernel
theorem zd_Mason_reaches_97 : decode zm_Mason_reaches.2.1 97 = .ok (.iastore, 1) := by decide +kernel
theorem zd_Mason_reaches_98 : decode zm_Mason_reaches.2.1 98 = .ok (.aload_n 0, 1) := by decide +kernel
theorem zd_Mason_reaches_99 : decode zm_Mason_reaches.2.1 99 = .ok (.getfield 9, 3) := by decide +kernel
theorem zd_Mason_reaches_102 : decode zm_Mason_reaches.2.1 102 = .ok (.iconst 2, 1) := by decide +kernel
theorem zd_Mason_reaches_103 : decode zm_Mason_reaches.2.1 103 = .ok (.iload 4, 2) := by decide +kernel
theorem zd_Mason_reaches_105 : decode zm_Mason_reaches.2.1 105 = .ok (.imul, 1) := by decide +kernel
theorem zd_Mason_reaches_106 : decode zm_Mason_reaches.2.1 106 = .ok (.iconst 1, 1) := by decide +kernel
theorem zd_Mason_reaches_107 : decode zm_Mason_reaches.2.1 107 = .ok (.iadd, 1) := by decide +kernel
theorem zd_Mason_reaches_108 : decode zm_Mason_reaches.2.1 108 = .ok (.iload 7, 2) := by decide +kernel
theorem zd_Mason_reaches_110 : decode zm_Mason_reaches.2.1 110 = .ok (.iastore, 1) := by decide +kernel
theorem zd_Mason_reaches_111 : decode zm_Mason_reaches.2.1 111 = .ok (.aload_n 0, 1) := by decide +kernel
theorem zd_Mason_reaches_112 : decode zm_Mason_reaches.2.1 112 = .ok (.aload_n 1, 1) := by decide +kernel
theorem zd_Mason_reaches_113 : decode zm_Mason_reaches.2.1 113 = .ok (.aload_n 2, 1) := by decide +kernel
theorem zd_Mason_reaches_114 : decode zm_Mason_reaches.2.1 114 = .ok (.iload 6, 2) := by decide +kernel
theorem zd_Mason_reaches_116 : decode zm_Mason_reaches.2.1 116 = .ok (.iconst 1, 1) := by decide +kernel
theorem zd_Mason_reaches_117 : decode zm_Mason_reaches.2.1 117 = .ok (.iadd, 1) := by decide +kernel
theorem zd_Mason_reaches_118 : decode zm_Mason_reaches.2.1 118 = .ok (.iload 4, 2) := by decide +kernel
theorem zd_Mason_reaches_120 : decode zm_Mason_reaches.2.1 120 = .ok (.iconst 1, 1) := by decide +kernel
theorem zd_Mason_reaches_121 : decode zm_Mason_reaches.2.1 121 = .ok (.iadd, 1) := by decide +kernel
theorem zd_Mason_reaches_122 : decode zm_Mason_reaches.2.1 122 = .ok (.iload 5, 2) := by decide +kernel
theorem zd_Mason_reaches_124 : decode zm_Mason_reaches.2.1 124 = .ok (.invokevirtual 46, 3) := by decide +kernel
theorem zd_Mason_reaches_127 : decode zm_Mason_reaches.2.1 127 = .ok (.ifCond .eq 5, 3) := by decide +kernel
theorem zd_Mason_reaches_130 : decode zm_Mason_reaches.2.1 130 = .ok (.iconst 1, 1) := by decide +kernel
theorem zd_Mason_reaches_131 : decode zm_Mason_reaches.2.1 131 = .ok (.ireturn, 1) := by decide +kernel
theorem zd_Mason_reaches_132 : decode zm_Mason_reaches.2.1 132 = .ok (.aload_n 1, 1) := by decide +kernel
theorem zd_Mason_reaches_133 : decode zm_Mason_reaches.2.1 133 = .ok (.aload_n 0, 1) := by decide +kernel
theorem zd_Mason_reaches_134 : decode zm_Mason_reaches.2.1 134 = .ok (.getfield 15, 3) := by decide +kernel
theorem zd_Mason_reaches_137 : decode zm_Mason_reaches.2.1 137 = .ok (.iload 6, 2) := by decide +kernel
theorem zd_Mason_reaches_139 : decode zm_Mason_reaches.2.1 139 = .ok (.iaload, 1) := by decide +kernel
theorem zd_Mason_reaches_140 : decode zm_Mason_reaches.2.1 140 = .ok (.iconst 0, 1) := by decide +kernel
theorem zd_Mason_reaches_141 : decode zm_Mason_reaches.2.1 141 = .ok (.invokevirtual 56, 3) := by decide +kernel
theorem zd_Mason_reaches_144 : decode zm_Mason_reaches.2.1 144 = .ok (.iinc 7 1, 3) := by decide +kernel
theorem zd_Mason_reaches_147 : decode zm_Mason_reaches.2.1 147 = .ok (.goto (-107), 3) := by decide +kernel
theorem zd_Mason_reaches_150 : decode zm_Mason_reaches.2.1 150 = .ok (.iinc 6 1, 3) := by decide +kernel
theorem zd_Mason_reaches_153 : decode zm_Mason_reaches.2.1 153 = .ok (.goto (-125), 3) := by decide +kernel
theorem zd_Mason_reaches_156 : decode zm_Mason_reaches.2.1 156 = .ok (.iconst 0, 1) := by decide +kernel
theorem zd_Mason_reaches_157 : decode zm_Mason_reaches.2.1 157 = .ok (.ireturn, 1) := by decide +kernel
theorem zb_Mason_reaches_0 {Γ : zG} {σ : zS} {r2 : Nat} {x3 x4 x5 : Int32} {dc : Nat} {P : Int32 → zS → Prop} (h_r2 : z_oR r2) (hm : z_Ci dc zm_Mason_canReach [.inr (26), .inr (43), .inl (x3), .inl (x5 - x4)] σ P) (hdp : dc < z_dep Γ) (k : ∀ r σ1, P r σ1 → z_J Γ zm_Mason_reaches 11 [some (.inr (26)), some (.inr (43)), some (.inr (r2)), some (.inl (x3)), some (.inl (x4)), some (.inl (x5)), none, none] [.inl (r)] σ1) : z_J Γ zm_Mason_reaches 0 [some (.inr (26)), some (.inr (43)), some (.inr (r2)), some (.inl (x3)), some (.inl (x4)), some (.inl (x5)), none, none] [] σ := by
  refine zj_aload_n zd_Mason_reaches_0 rfl ?_
  refine zj_aload_n zd_Mason_reaches_1 rfl ?_
  refine zj_iload_n zd_Mason_reaches_2 rfl ?_
  refine zj_iload zd_Mason_reaches_3 rfl ?_
  refine zj_iload zd_Mason_reaches_5 rfl ?_
  refine zj_isub zd_Mason_reaches_7 ?_
  exact zj_callVi (As := [.inr (43), .inl (x3), .inl (x5 - x4)]) hm hdp rfl (by decide) rfl zl_Mason_78 zq_Mason_canReach zd_Mason_reaches_8 rfl (Nat.le_of_ble_eq_true rfl) (fun r σ1 h => (k r σ1 h))
theorem zb_Mason_reaches_11 {Γ : zG} {σ : zS} {r2 : Nat} {x3 x4 x5 y0 : Int32} (h_r2 : z_oR r2) (kt : ¬ y0 = 0 → z_J Γ zm_Mason_reaches 16 [some (.inr (26)), some (.inr (43)), some (.inr (r2)), some (.inl (x3)), some (.inl (x4)), some (.inl (x5)), none, none] [] σ) (kf : y0 = 0 → z_J Γ zm_Mason_reaches 14 [none, none, none, none, none, none, none, none] [] σ) : z_J Γ zm_Mason_reaches 11 [some (.inr (26)), some (.inr (43)), some (.inr (r2)), some (.inl (x3)), some (.inl (x4)), some (.inl (x5)), none, none] [.inl (y0)] σ := by
  exact zj_if_ne zd_Mason_reaches_11 (by decide) (fun h => (kt h)) (fun h => (zj_weak (L' := [none, none, none, none, none, none, none, none]) trivial (kf h)))
theorem zb_Mason_reaches_14 {Γ : zG} {σ : zS}  (e : z_end Γ (some (nI 0)) σ) : z_J Γ zm_Mason_reaches 14 [none, none, none, none, none, none, none, none] [] σ := by
  refine zj_iconst (v := nI 0) zd_Mason_reaches_14 (by decide) ?_
  exact zj_zreturn rfl (Or.inl (by decide)) zd_Mason_reaches_15 e
theorem zb_Mason_reaches_16 {Γ : zG} {σ : zS} {r2 : Nat} {x3 x4 x5 : Int32} (h_r2 : z_oR r2) (kt : ¬ x4 = x5 → z_J Γ zm_Mason_reaches 25 [some (.inr (26)), some (.inr (43)), some (.inr (r2)), some (.inl (x3)), some (.inl (x4)), some (.inl (x5)), none, none] [] σ) (kf : x4 = x5 → z_J Γ zm_Mason_reaches 23 [none, none, none, none, none, none, none, none] [] σ) : z_J Γ zm_Mason_reaches 16 [some (.inr (26)), some (.inr (43)), some (.inr (r2)), some (.inl (x3)), some (.inl (x4)), some (.inl (x5)), none, none] [] σ := by
  refine zj_iload zd_Mason_reaches_16 rfl ?_
  refine zj_iload zd_Mason_reaches_18 rfl ?_
  exact zj_icmp_ne zd_Mason_reaches_20 (by decide) (fun h => (kt h)) (fun h => (zj_weak (L' := [none, none, none, none, none, none, none, none]) trivial (kf h)))
theorem zb_Mason_reaches_23 {Γ : zG} {σ : zS}  (e : z_end Γ (some (nI 1)) σ) : z_J Γ zm_Mason_reaches 23 [none, none, none, none, none, none, none, none] [] σ := by
  refine zj_iconst (v := nI 1) zd_Mason_reaches_23 (by decide) ?_
  exact zj_zreturn rfl (Or.inr (by decide)) zd_Mason_reaches_24 e
theorem zb_Mason_reaches_25 {Γ : zG} {σ : zS} {r2 : Nat} {x3 x4 x5 : Int32} (h_r2 : z_oR r2) (k : z_J Γ zm_Mason_reaches 28 [some (.inr (26)), some (.inr (43)), some (.inr (r2)), none, some (.inl (x4)), some (.inl (x5)), some (.inl (x3)), none] [] σ) : z_J Γ zm_Mason_reaches 25 [some (.inr (26)), some (.inr (43)), some (.inr (r2)), some (.inl (x3)), some (.inl (x4)), some (.inl (x5)), none, none] [] σ := by
  refine zj_iload_n zd_Mason_reaches_25 rfl ?_
  refine zj_istore (L' := [some (.inr (26)), some (.inr (43)), some (.inr (r2)), some (.inl (x3)), some (.inl (x4)), some (.inl (x5)), some (.inl (x3)), none]) zd_Mason_reaches_26 (by decide) rfl ?_
  exact (zj_weak (L' := [some (.inr (26)), some (.inr (43)), some (.inr (r2)), none, some (.inl (x4)), some (.inl (x5)), some (.inl (x3)), none]) ⟨rfl, ⟨rfl, ⟨rfl, ⟨rfl, ⟨rfl, ⟨rfl, trivial⟩⟩⟩⟩⟩⟩ k)
theorem zb_Mason_reaches_28 {Γ : zG} {σ : zS} {r2 : Nat} {x4 x5 x6 : Int32} (h_r2 : z_oR r2) (kt : (σ.1 26 2) ≤ x6 → z_J Γ zm_Mason_reaches 156 [none, none, none, none, none, none, none, none] [] σ) (kf : ¬ (σ.1 26 2) ≤ x6 → z_J Γ zm_Mason_reaches 37 [some (.inr (26)), some (.inr (43)), some (.inr (r2)), none, some (.inl (x4)), some (.inl (x5)), some (.inl (x6)), none] [] σ) : z_J Γ zm_Mason_reaches 28 [some (.inr (26)), some (.inr (43)), some (.inr (r2)), none, some (.inl (x4)), some (.inl (x5)), some (.inl (x6)), none] [] σ := by
  refine zj_iload zd_Mason_reaches_28 rfl ?_
  refine zj_aload_n zd_Mason_reaches_30 rfl ?_
  refine zj_getI rfl (by decide) rfl zu_Mason (k := 2) (by decide) rfl zl_Mason_43 zd_Mason_reaches_31 ?_
  exact zj_icmp_ge zd_Mason_reaches_34 (by decide) (fun h => (zj_weak (L' := [none, none, none, none, none, none, none, none]) trivial (kt h))) (fun h => (kf h))
theorem zb_Mason_reaches_37 {Γ : zG} {σ : zS} {r2 : Nat} {x4 x5 x6 : Int32} (h_r2 : z_oR r2) (k : z_J Γ zm_Mason_reaches 40 [some (.inr (26)), some (.inr (43)), some (.inr (r2)), none, some (.inl (x4)), some (.inl (x5)), some (.inl (x6)), some (.inl (nI 0))] [] σ) : z_J Γ zm_Mason_reaches 37 [some (.inr (26)), some (.inr (43)), some (.inr (r2)), none, some (.inl (x4)), some (.inl (x5)), some (.inl (x6)), none] [] σ := by
  refine zj_iconst (v := nI 0) zd_Mason_reaches_37 (by decide) ?_
  refine zj_istore (L' := [some (.inr (26)), some (.inr (43)), some (.inr (r2)), none, some (.inl (x4)), some (.inl (x5)), some (.inl (x6)), some (.inl (nI 0))]) zd_Mason_reaches_38 (by decide) rfl ?_
  exact k
theorem zb_Mason_reaches_40 {Γ : zG} {σ : zS} {r2 : Nat} {x4 x5 x6 x7 : Int32} (h_r2 : z_oR r2) (kt : (σ.1 43 6) ≤ x7 → z_J Γ zm_Mason_reaches 150 [some (.inr (26)), some (.inr (43)), some (.inr (r2)), none, some (.inl (x4)), some (.inl (x5)), some (.inl (x6)), none] [] σ) (kf : ¬ (σ.1 43 6) ≤ x7 → z_J Γ zm_Mason_reaches 49 [some (.inr (26)), some (.inr (43)), some (.inr (r2)), none, some (.inl (x4)), some (.inl (x5)), some (.inl (x6)), some (.inl (x7))] [] σ) : z_J Γ zm_Mason_reaches 40 [some (.inr (26)), some (.inr (43)), some (.inr (r2)), none, some (.inl (x4)), some (.inl (x5)), some (.inl (x6)), some (.inl (x7))] [] σ := by
  refine zj_iload zd_Mason_reaches_40 rfl ?_
  refine zj_aload_n zd_Mason_reaches_42 rfl ?_
  refine zj_getI rfl (by decide) rfl zu_City (k := 6) (by decide) rfl zl_Mason_82 zd_Mason_reaches_43 ?_
  exact zj_icmp_ge zd_Mason_reaches_46 (by decide) (fun h => (zj_weak (L' := [some (.inr (26)), some (.inr (43)), some (.inr (r2)), none, some (.inl (x4)), some (.inl (x5)), some (.inl (x6)), none]) ⟨rfl, ⟨rfl, ⟨rfl, ⟨rfl, ⟨rfl, ⟨rfl, trivial⟩⟩⟩⟩⟩⟩ (kt h))) (fun h => (kf h))
theorem zb_Mason_reaches_49 {Γ : zG} {σ : zS} {r2 : Nat} {x4 x5 x6 x7 : Int32} {dc : Nat} {P : Int32 → zS → Prop} (h_r2 : z_oR r2) (hm : z_Ci dc zm_City_heightOf [.inr (43), .inl (x7)] σ P) (hdp : dc < z_dep Γ) (k : ∀ r σ1, P r σ1 → z_J Γ zm_Mason_reaches 55 [some (.inr (26)), some (.inr (43)), some (.inr (r2)), none, some (.inl (x4)), some (.inl (x5)), some (.inl (x6)), some (.inl (x7))] [.inl (r)] σ1) : z_J Γ zm_Mason_reaches 49 [some (.inr (26)), some (.inr (43)), some (.inr (r2)), none, some (.inl (x4)), some (.inl (x5)), some (.inl (x6)), some (.inl (x7))] [] σ := by
  refine zj_aload_n zd_Mason_reaches_49 rfl ?_
  refine zj_iload zd_Mason_reaches_50 rfl ?_
  exact zj_callVi (As := [.inl (x7)]) hm hdp rfl (by decide) rfl zl_Mason_85 zq_City_heightOf zd_Mason_reaches_52 rfl (Nat.le_of_ble_eq_true rfl) (fun r σ1 h => (k r σ1 h))
theorem zb_Mason_reaches_55 {Γ : zG} {σ : zS} {r2 : Nat} {x4 x5 x6 x7 y0 : Int32} (h_r2 : z_oR r2) (kt : (σ.1 26 3) ≤ y0 → z_J Γ zm_Mason_reaches 144 [some (.inr (26)), some (.inr (43)), some (.inr (r2)), none, some (.inl (x4)), some (.inl (x5)), some (.inl (x6)), some (.inl (x7))] [] σ) (kf : ¬ (σ.1 26 3) ≤ y0 → z_J Γ zm_Mason_reaches 62 [some (.inr (26)), some (.inr (43)), some (.inr (r2)), none, some (.inl (x4)), some (.inl (x5)), some (.inl (x6)), some (.inl (x7))] [] σ) : z_J Γ zm_Mason_reaches 55 [some (.inr (26)), some (.inr (43)), some (.inr (r2)), none, some (.inl (x4)), some (.inl (x5)), some (.inl (x6)), some (.inl (x7))] [.inl (y0)] σ := by
  refine zj_aload_n zd_Mason_reaches_55 rfl ?_
  refine zj_getI rfl (by decide) rfl zu_Mason (k := 3) (by decide) rfl zl_Mason_36 zd_Mason_reaches_56 ?_
  exact zj_icmp_ge zd_Mason_reaches_59 (by decide) (fun h => (kt h)) (fun h => (kf h))
theorem zb_Mason_reaches_62 {Γ : zG} {σ : zS} {r2 : Nat} {x4 x5 x6 x7 : Int32} {k1 : Nat} {dc : Nat} {P : Int32 → zS → Prop} (h_r2 : z_oR r2) (b1 : z_ix x6 6 k1) (hm : z_Ci dc zm_City_layOn [.inr (43), .inl (σ.1 28 k1), .inl (x7), .inr (r2)] σ P) (hdp : dc < z_dep Γ) (k : ∀ r σ1, P r σ1 → z_J Γ zm_Mason_reaches 76 [some (.inr (26)), some (.inr (43)), some (.inr (r2)), none, some (.inl (x4)), some (.inl (x5)), some (.inl (x6)), some (.inl (x7))] [.inl (r)] σ1) : z_J Γ zm_Mason_reaches 62 [some (.inr (26)), some (.inr (43)), some (.inr (r2)), none, some (.inl (x4)), some (.inl (x5)), some (.inl (x6)), some (.inl (x7))] [] σ := by
  refine zj_aload_n zd_Mason_reaches_62 rfl ?_
  refine zj_aload_n zd_Mason_reaches_63 rfl ?_
  refine zj_getR rfl (by decide) rfl zu_Mason (k := 1) (by decide) rfl zl_Mason_15 zd_Mason_reaches_64 (o' := 28) rfl ?_
  refine zj_iload zd_Mason_reaches_67 rfl ?_
  refine zj_iaload rfl (by decide) b1 zd_Mason_reaches_69 ?_
  refine zj_iload zd_Mason_reaches_70 rfl ?_
  refine zj_aload_n zd_Mason_reaches_72 rfl ?_
  exact zj_callVi (As := [.inl (σ.1 28 k1), .inl (x7), .inr (r2)]) hm hdp rfl (by decide) rfl zl_Mason_88 zq_City_layOn zd_Mason_reaches_73 rfl (Nat.le_of_ble_eq_true rfl) (fun r σ1 h => (k r σ1 h))
theorem zb_Mason_reaches_76 {Γ : zG} {σ : zS} {r2 : Nat} {x4 x5 x6 x7 y0 : Int32} (h_r2 : z_oR r2) (kt : 0 ≤ y0 → z_J Γ zm_Mason_reaches 82 [some (.inr (26)), some (.inr (43)), some (.inr (r2)), none, some (.inl (x4)), some (.inl (x5)), some (.inl (x6)), some (.inl (x7))] [] σ) (kf : ¬ 0 ≤ y0 → z_J Γ zm_Mason_reaches 79 [some (.inr (26)), some (.inr (43)), some (.inr (r2)), none, some (.inl (x4)), some (.inl (x5)), some (.inl (x6)), some (.inl (x7))] [] σ) : z_J Γ zm_Mason_reaches 76 [some (.inr (26)), some (.inr (43)), some (.inr (r2)), none, some (.inl (x4)), some (.inl (x5)), some (.inl (x6)), some (.inl (x7))] [.inl (y0)] σ := by
  exact zj_if_ge zd_Mason_reaches_76 (by decide) (fun h => (kt h)) (fun h => (kf h))
theorem zb_Mason_reaches_79 {Γ : zG} {σ : zS} {r2 : Nat} {x4 x5 x6 x7 : Int32} (h_r2 : z_oR r2) (k : z_J Γ zm_Mason_reaches 144 [some (.inr (26)), some (.inr (43)), some (.inr (r2)), none, some (.inl (x4)), some (.inl (x5)), some (.inl (x6)), some (.inl (x7))] [] σ) : z_J Γ zm_Mason_reaches 79 [some (.inr (26)), some (.inr (43)), some (.inr (r2)), none, some (.inl (x4)), some (.inl (x5)), some (.inl (x6)), some (.inl (x7))] [] σ := by
  exact zj_goto zd_Mason_reaches_79 (by decide) k
theorem zb_Mason_reaches_82 {Γ : zG} {σ : zS} {r2 : Nat} {x4 x5 x6 x7 : Int32} {k1 k2 k3 : Nat} {dc : Nat} {P : Int32 → zS → Prop} (h_r2 : z_oR r2) (b1 : z_ix x6 6 k1) (b2 : z_ix ((nI 2) * x4) 12 k2) (b3 : z_ix (((nI 2) * x4) + (nI 1)) 12 k3) (hm : z_Ci dc zm_Mason_reaches [.inr (26), .inr (43), .inr (r2), .inl (x6 + (nI 1)), .inl (x4 + (nI 1)), .inl (x5)] (z_pI (z_pI σ 27 k2 (σ.1 28 k1)) 27 k3 x7) P) (hdp : dc < z_dep Γ) (k : ∀ r σ1, P r σ1 → z_J Γ zm_Mason_reaches 127 [some (.inr (26)), some (.inr (43)), some (.inr (r2)), none, some (.inl (x4)), some (.inl (x5)), some (.inl (x6)), some (.inl (x7))] [.inl (r)] σ1) : z_J Γ zm_Mason_reaches 82 [some (.inr (26)), some (.inr (43)), some (.inr (r2)), none, some (.inl (x4)), some (.inl (x5)), some (.inl (x6)), some (.inl (x7))] [] σ := by
  refine zj_aload_n zd_Mason_reaches_82 rfl ?_
  refine zj_getR rfl (by decide) rfl zu_Mason (k := 0) (by decide) rfl zl_Mason_9 zd_Mason_reaches_83 (o' := 27) rfl ?_
  refine zj_iconst (v := nI 2) zd_Mason_reaches_86 (by decide) ?_
  refine zj_iload zd_Mason_reaches_87 rfl ?_
  refine zj_imul zd_Mason_reaches_89 ?_
  refine zj_aload_n zd_Mason_reaches_90 rfl ?_
  refine zj_getR rfl (by decide) rfl zu_Mason (k := 1) (by decide) rfl zl_Mason_15 zd_Mason_reaches_91 (o' := 28) rfl ?_
  refine zj_iload zd_Mason_reaches_94 rfl ?_
  refine zj_iaload rfl (by decide) b1 zd_Mason_reaches_96 ?_
  refine zj_iastore rfl (by decide) b2 zd_Mason_reaches_97 ?_
  refine zj_aload_n zd_Mason_reaches_98 rfl ?_
  refine zj_getR rfl (by decide) rfl zu_Mason (k := 0) (by decide) rfl zl_Mason_9 zd_Mason_reaches_99 (o' := 27) rfl ?_
  refine zj_iconst (v := nI 2) zd_Mason_reaches_102 (by decide) ?_
  refine zj_iload zd_Mason_reaches_103 rfl ?_
  refine zj_imul zd_Mason_reaches_105 ?_
  refine zj_iconst (v := nI 1) zd_Mason_reaches_106 (by decide) ?_
  refine zj_iadd zd_Mason_reaches_107 ?_
  refine zj_iload zd_Mason_reaches_108 rfl ?_
  refine zj_iastore rfl (by decide) b3 zd_Mason_reaches_110 ?_
  refine zj_aload_n zd_Mason_reaches_111 rfl ?_
  refine zj_aload_n zd_Mason_reaches_112 rfl ?_
  refine zj_aload_n zd_Mason_reaches_113 rfl ?_
  refine zj_iload zd_Mason_reaches_114 rfl ?_
  refine zj_iconst (v := nI 1) zd_Mason_reaches_116 (by decide) ?_
  refine zj_iadd zd_Mason_reaches_117 ?_
  refine zj_iload zd_Mason_reaches_118 rfl ?_
  refine zj_iconst (v := nI 1) zd_Mason_reaches_120 (by decide) ?_
  refine zj_iadd zd_Mason_reaches_121 ?_
  refine zj_iload zd_Mason_reaches_122 rfl ?_
  exact zj_callVi (As := [.inr (43), .inr (r2), .inl (x6 + (nI 1)), .inl (x4 + (nI 1)), .inl (x5)]) hm hdp rfl (by decide) rfl zl_Mason_46 zq_Mason_reaches zd_Mason_reaches_124 rfl (Nat.le_of_ble_eq_true rfl) (fun r σ1 h => (k r σ1 h))
theorem zb_Mason_reaches_127 {Γ : zG} {σ : zS} {r2 : Nat} {x4 x5 x6 x7 y0 : Int32} (h_r2 : z_oR r2) (kt : y0 = 0 → z_J Γ zm_Mason_reaches 132 [some (.inr (26)), some (.inr (43)), some (.inr (r2)), none, some (.inl (x4)), some (.inl (x5)), some (.inl (x6)), some (.inl (x7))] [] σ) (kf : ¬ y0 = 0 → z_J Γ zm_Mason_reaches 130 [none, none, none, none, none, none, none, none] [] σ) : z_J Γ zm_Mason_reaches 127 [some (.inr (26)), some (.inr (43)), some (.inr (r2)), none, some (.inl (x4)), some (.inl (x5)), some (.inl (x6)), some (.inl (x7))] [.inl (y0)] σ := by
  exact zj_if_eq zd_Mason_reaches_127 (by decide) (fun h => (kt h)) (fun h => (zj_weak (L' := [none, none, none, none, none, none, none, none]) trivial (kf h)))
theorem zb_Mason_reaches_130 {Γ : zG} {σ : zS}  (e : z_end Γ (some (nI 1)) σ) : z_J Γ zm_Mason_reaches 130 [none, none, none, none, none, none, none, none] [] σ := by
  refine zj_iconst (v := nI 1) zd_Mason_reaches_130 (by decide) ?_
  exact zj_zreturn rfl (Or.inr (by decide)) zd_Mason_reaches_131 e
theorem zb_Mason_reaches_132 {Γ : zG} {σ : zS} {r2 : Nat} {x4 x5 x6 x7 : Int32} {k1 : Nat} {dc : Nat} {P : zS → Prop} (h_r2 : z_oR r2) (b1 : z_ix x6 6 k1) (hm : z_Cv dc zm_City_lift [.inr (43), .inl (σ.1 28 k1), .inl (nI 0)] σ P) (hdp : dc < z_dep Γ) (k : ∀ σ1, P σ1 → z_J Γ zm_Mason_reaches 144 [some (.inr (26)), some (.inr (43)), some (.inr (r2)), none, some (.inl (x4)), some (.inl (x5)), some (.inl (x6)), some (.inl (x7))] [] σ1) : z_J Γ zm_Mason_reaches 132 [some (.inr (26)), some (.inr (43)), some (.inr (r2)), none, some (.inl (x4)), some (.inl (x5)), some (.inl (x6)), some (.inl (x7))] [] σ := by
  refine zj_aload_n zd_Mason_reaches_132 rfl ?_
  refine zj_aload_n zd_Mason_reaches_133 rfl ?_
  refine zj_getR rfl (by decide) rfl zu_Mason (k := 1) (by decide) rfl zl_Mason_15 zd_Mason_reaches_134 (o' := 28) rfl ?_
  refine zj_iload zd_Mason_reaches_137 rfl ?_
  refine zj_iaload rfl (by decide) b1 zd_Mason_reaches_139 ?_
  refine zj_iconst (v := nI 0) zd_Mason_reaches_140 (by decide) ?_
  exact zj_callVv (As := [.inl (σ.1 28 k1), .inl (nI 0)]) hm hdp rfl (by decide) rfl zl_Mason_56 zq_City_lift zd_Mason_reaches_141 rfl (Nat.le_of_ble_eq_true rfl) (fun σ1 h => (k σ1 h))
theorem zb_Mason_reaches_144 {Γ : zG} {σ : zS} {r2 : Nat} {x4 x5 x6 x7 : Int32} (h_r2 : z_oR r2) (k : z_J Γ zm_Mason_reaches 40 [some (.inr (26)), some (.inr (43)), some (.inr (r2)), none, some (.inl (x4)), some (.inl (x5)), some (.inl (x6)), some (.inl (x7 + nI 1))] [] σ) : z_J Γ zm_Mason_reaches 144 [some (.inr (26)), some (.inr (43)), some (.inr (r2)), none, some (.inl (x4)), some (.inl (x5)), some (.inl (x6)), some (.inl (x7))] [] σ := by
  refine zj_iinc (v := nI 1) (L' := [some (.inr (26)), some (.inr (43)), some (.inr (r2)), none, some (.inl (x4)), some (.inl (x5)), some (.inl (x6)), some (.inl (x7 + nI 1))]) zd_Mason_reaches_144 rfl (by decide) (by decide) rfl ?_
  exact zj_goto zd_Mason_reaches_147 (by decide) k
theorem zb_Mason_reaches_150 {Γ : zG} {σ : zS} {r2 : Nat} {x4 x5 x6 : Int32} (h_r2 : z_oR r2) (k : z_J Γ zm_Mason_reaches 28 [some (.inr (26)), some (.inr (43)), some (.inr (r2)), none, some (.inl (x4)), some (.inl (x5)), some (.inl (x6 + nI 1)), none] [] σ) : z_J Γ zm_Mason_reaches 150 [some (.inr (26)), some (.inr (43)), some (.inr (r2)), none, some (.inl (x4)), some (.inl (x5)), some (.inl (x6)), none] [] σ := by
  refine zj_iinc (v := nI 1) (L' := [some (.inr (26)), some (.inr (43)), some (.inr (r2)), none, some (.inl (x4)), some (.inl (x5)), some (.inl (x6 + nI 1)), none]) zd_Mason_reaches_150 rfl (by decide) (by decide) rfl ?_
  exact zj_goto zd_Mason_reaches_153 (by decide) k
theorem zb_Mason_reaches_156 {Γ : zG} {σ : zS}  (e : z_end Γ (some (nI 0)) σ) : z_J Γ zm_Mason_reaches 156 [none, none, none, none, none, none, none, none] [] σ := by
  refine zj_iconst (v := nI 0) zd_Mason_reaches_156 (by decide) ?_
  exact zj_zreturn rfl (Or.inl (by decide)) zd_Mason_reaches_157 e
theorem zd_Mason_canReach_0 : decode zm_Mason_canReach.2.1 0 = .ok (.iconst 0, 1) := by decide +kernel
theorem zd_Mason_canReach_1 : decode zm_Mason_canReach.2.1 1 = .ok (.istore 4, 2) := by decide +kernel
theorem zd_Mason_canReach_3 : decode zm_Mason_canReach.2.1 3 = .ok (.iconst 0, 1) := by decide +kernel
theorem zd_Mason_canReach_4 : decode zm_Mason_canReach.2.1 4 = .ok (.istore 5, 2) := by decide +kernel
theorem zd_Mason_canReach_6 : decode zm_Mason_canReach.2.1 6 = .ok (.iconst 0, 1) := by decide +kernel
theorem zd_Mason_canReach_7 : decode zm_Mason_canReach.2.1 7 = .ok (.istore 6, 2) := by decide +kernel
theorem zd_Mason_canReach_9 : decode zm_Mason_canReach.2.1 9 = .ok (.iload 6, 2) := by decide +kernel
theorem zd_Mason_canReach_11 : decode zm_Mason_canReach.2.1 11 = .ok (.aload_n 1, 1) := by decide +kernel
theorem zd_Mason_canReach_12 : decode zm_Mason_canReach.2.1 12 = .ok (.getfield 82, 3) := by decide +kernel
theorem zd_Mason_canReach_15 : decode zm_Mason_canReach.2.1 15 = .ok (.if_icmp .ge 76, 3) := by decide +kernel
theorem zd_Mason_canReach_18 : decode zm_Mason_canReach.2.1 18 = .ok (.aload_n 0, 1) := by decide +kernel
theorem zd_Mason_canReach_19 : decode zm_Mason_canReach.2.1 19 = .ok (.getfield 36, 3) := by decide +kernel
theorem zd_Mason_canReach_22 : decode zm_Mason_canReach.2.1 22 = .ok (.aload_n 1, 1) := by decide +kernel
theorem zd_Mason_canReach_23 : decode zm_Mason_canReach.2.1 23 = .ok (.iload 6, 2) := by decide +kernel
theorem zd_Mason_canReach_25 : decode zm_Mason_canReach.2.1 25 = .ok (.invokevirtual 85, 3) := by decide +kernel
theorem zd_Mason_canReach_28 : decode zm_Mason_canReach.2.1 28 = .ok (.isub, 1) := by decide +kernel
theorem zd_Mason_canReach_29 : decode zm_Mason_canReach.2.1 29 = .ok (.istore 7, 2) := by decide +kernel
theorem zd_Mason_canReach_31 : decode zm_Mason_canReach.2.1 31 = .ok (.iload 7, 2) := by decide +kernel
theorem zd_Mason_canReach_33 : decode zm_Mason_canReach.2.1 33 = .ok (.ifCond .gt 6, 3) := by decide +kernel
theorem zd_Mason_canReach_36 : decode zm_Mason_canReach.2.1 36 = .ok (.goto 49, 3) := by decide +kernel
theorem zd_Mason_canReach_39 : decode zm_Mason_canReach.2.1 39 = .ok (.iload 7, 2) := by decide +kernel
theorem zd_Mason_canReach_41 : decode zm_Mason_canReach.2.1 41 = .ok (.aload_n 0, 1) := by decide +kernel
theorem zd_Mason_canReach_42 : decode zm_Mason_canReach.2.1 42 = .ok (.getfield 18, 3) := by decide +kernel
theorem zd_Mason_canReach_45 : decode zm_Mason_canReach.2.1 45 = .ok (.iadd, 1) := by decide +kernel
theorem zd_Mason_canReach_46 : decode zm_Mason_canReach.2.1 46 = .ok (.iconst 1, 1) := by decide +kernel
theorem zd_Mason_canReach_47 : decode zm_Mason_canReach.2.1 47 = .ok (.isub, 1) := by decide +kernel
theorem zd_Mason_canReach_48 : decode zm_Mason_canReach.2.1 48 = .ok (.aload_n 0, 1) := by decide +kernel
theorem zd_Mason_canReach_49 : decode zm_Mason_canReach.2.1 49 = .ok (.getfield 18, 3) := by decide +kernel
theorem zd_Mason_canReach_52 : decode zm_Mason_canReach.2.1 52 = .ok (.idiv, 1) := by decide +kernel
theorem zd_Mason_canReach_53 : decode zm_Mason_canReach.2.1 53 = .ok (.istore 8, 2) := by decide +kernel
theorem zd_Mason_canReach_55 : decode zm_Mason_canReach.2.1 55 = .ok (.iload 8, 2) := by decide +kernel
theorem zd_Mason_canReach_57 : decode zm_Mason_canReach.2.1 57 = .ok (.iconst 4, 1) := by decide +kernel
theorem zd_Mason_canReach_58 : decode zm_Mason_canReach.2.1 58 = .ok (.aload_n 1, 1) := by decide +kernel
theorem zd_Mason_canReach_59 : decode zm_Mason_canReach.2.1 59 = .ok (.getfield 92, 3) := by decide +kernel
theorem zd_Mason_canReach_62 : decode zm_Mason_canReach.2.1 62 = .ok (.iload 6, 2) := by decide +kernel
theorem zd_Mason_canReach_64 : decode zm_Mason_canReach.2.1 64 = .ok (.iaload, 1) := by decide +kernel
theorem zd_Mason_canReach_65 : decode zm_Mason_canReach.2.1 65 = .ok (.isub, 1) := by decide +kernel
theorem zd_Mason_canReach_66 : decode zm_Mason_canReach.2.1 66 = .ok (.if_icmp .le 5, 3) := by decide +kernel
theorem zd_Mason_canReach_69 : decode zm_Mason_canReach.2.1 69 = .ok (.iconst 0, 1) := by decide +kernel
theorem zd_Mason_canReach_70 : decode zm_Mason_canReach.2.1 70 = .ok (.ireturn, 1) := by decide +kernel
theorem zd_Mason_canReach_71 : decode zm_Mason_canReach.2.1 71 = .ok (.iload 4, 2) := by decide +kernel
theorem zd_Mason_canReach_73 : decode zm_Mason_canReach.2.1 73 = .ok (.iload 7, 2) := by decide +kernel
theorem zd_Mason_canReach_75 : decode zm_Mason_canReach.2.1 75 = .ok (.iadd, 1) := by decide +kernel
theorem zd_Mason_canReach_76 : decode zm_Mason_canReach.2.1 76 = .ok (.istore 4, 2) := by decide +kernel
theorem zd_Mason_canReach_78 : decode zm_Mason_canReach.2.1 78 = .ok (.iload 5, 2) := by decide +kernel
theorem zd_Mason_canReach_80 : decode zm_Mason_canReach.2.1 80 = .ok (.iload 8, 2) := by decide +kernel
theorem zd_Mason_canReach_82 : decode zm_Mason_canReach.2.1 82 = .ok (.iadd, 1) := by decide +kernel
theorem zd_Mason_canReach_83 : decode zm_Mason_canReach.2.1 83 = .ok (.istore 5, 2) := by decide +kernel
theorem zd_Mason_canReach_85 : decode zm_Mason_canReach.2.1 85 = .ok (.iinc 6 1, 3) := by decide +kernel
theorem zd_Mason_canReach_88 : decode zm_Mason_canReach.2.1 88 = .ok (.goto (-79), 3) := by decide +kernel
theorem zd_Mason_canReach_91 : decode zm_Mason_canReach.2.1 91 = .ok (.iload 5, 2) := by decide +kernel
theorem zd_Mason_canReach_93 : decode zm_Mason_canReach.2.1 93 = .ok (.iload_n 3, 1) := by decide +kernel
theorem zd_Mason_canReach_94 : decode zm_Mason_canReach.2.1 94 = .ok (.if_icmp .gt 23, 3) := by decide +kernel
theorem zd_Mason_canReach_97 : decode zm_Mason_canReach.2.1 97 = .ok (.iload 4, 2) := by decide +kernel
theorem zd_Mason_canReach_99 : decode zm_Mason_canReach.2.1 99 = .ok (.aload_n 0, 1) := by decide +kernel
theorem zd_Mason_canReach_100 : decode zm_Mason_canReach.2.1 100 = .ok (.getfield 22, 3) := by decide +kernel
theorem zd_Mason_canReach_103 : decode zm_Mason_canReach.2.1 103 = .ok (.iload_n 2, 1) := by decide +kernel
theorem zd_Mason_canReach_104 : decode zm_Mason_canReach.2.1 104 = .ok (.bipush 7, 2) := by decide +kernel
theorem zd_Mason_canReach_106 : decode zm_Mason_canReach.2.1 106 = .ok (.imul, 1) := by decide +kernel
theorem zd_Mason_canReach_107 : decode zm_Mason_canReach.2.1 107 = .ok (.iload_n 3, 1) := by decide +kernel
theorem zd_Mason_canReach_108 : decode zm_Mason_canReach.2.1 108 = .ok (.iadd, 1) := by decide +kernel
theorem zd_Mason_canReach_109 : decode zm_Mason_canReach.2.1 109 = .ok (.iaload, 1) := by decide +kernel
theorem zd_Mason_canReach_110 : decode zm_Mason_canReach.2.1 110 = .ok (.if_icmp .gt 7, 3) := by decide +kernel
theorem zd_Mason_canReach_113 : decode zm_Mason_canReach.2.1 113 = .ok (.iconst 1, 1) := by decide +kernel
theorem zd_Mason_canReach_114 : decode zm_Mason_canReach.2.1 114 = .ok (.goto 4, 3) := by decide +kernel
theorem zd_Mason_canReach_117 : decode zm_Mason_canReach.2.1 117 = .ok (.iconst 0, 1) := by decide +kernel
theorem zd_Mason_canReach_118 : decode zm_Mason_canReach.2.1 118 = .ok (.ireturn, 1) := by decide +kernel
theorem zb_Mason_canReach_0 {Γ : zG} {σ : zS} {x2 x3 : Int32}  (k : z_J Γ zm_Mason_canReach 9 [some (.inr (26)), some (.inr (43)), some (.inl (x2)), some (.inl (x3)), some (.inl (nI 0)), some (.inl (nI 0)), some (.inl (nI 0)), none, none] [] σ) : z_J Γ zm_Mason_canReach 0 [some (.inr (26)), some (.inr (43)), some (.inl (x2)), some (.inl (x3)), none, none, none, none, none] [] σ := by
  refine zj_iconst (v := nI 0) zd_Mason_canReach_0 (by decide) ?_
  refine zj_istore (L' := [some (.inr (26)), some (.inr (43)), some (.inl (x2)), some (.inl (x3)), some (.inl (nI 0)), none, none, none, none]) zd_Mason_canReach_1 (by decide) rfl ?_
  refine zj_iconst (v := nI 0) zd_Mason_canReach_3 (by decide) ?_
  refine zj_istore (L' := [some (.inr (26)), some (.inr (43)), some (.inl (x2)), some (.inl (x3)), some (.inl (nI 0)), some (.inl (nI 0)), none, none, none]) zd_Mason_canReach_4 (by decide) rfl ?_
  refine zj_iconst (v := nI 0) zd_Mason_canReach_6 (by decide) ?_
  refine zj_istore (L' := [some (.inr (26)), some (.inr (43)), some (.inl (x2)), some (.inl (x3)), some (.inl (nI 0)), some (.inl (nI 0)), some (.inl (nI 0)), none, none]) zd_Mason_canReach_7 (by decide) rfl ?_
  exact k
theorem zb_Mason_canReach_9 {Γ : zG} {σ : zS} {x2 x3 x4 x5 x6 : Int32}  (kt : (σ.1 43 6) ≤ x6 → z_J Γ zm_Mason_canReach 91 [some (.inr (26)), none, some (.inl (x2)), some (.inl (x3)), some (.inl (x4)), some (.inl (x5)), none, none, none] [] σ) (kf : ¬ (σ.1 43 6) ≤ x6 → z_J Γ zm_Mason_canReach 18 [some (.inr (26)), some (.inr (43)), some (.inl (x2)), some (.inl (x3)), some (.inl (x4)), some (.inl (x5)), some (.inl (x6)), none, none] [] σ) : z_J Γ zm_Mason_canReach 9 [some (.inr (26)), some (.inr (43)), some (.inl (x2)), some (.inl (x3)), some (.inl (x4)), some (.inl (x5)), some (.inl (x6)), none, none] [] σ := by
  refine zj_iload zd_Mason_canReach_9 rfl ?_
  refine zj_aload_n zd_Mason_canReach_11 rfl ?_
  refine zj_getI rfl (by decide) rfl zu_City (k := 6) (by decide) rfl zl_Mason_82 zd_Mason_canReach_12 ?_
  exact zj_icmp_ge zd_Mason_canReach_15 (by decide) (fun h => (zj_weak (L' := [some (.inr (26)), none, some (.inl (x2)), some (.inl (x3)), some (.inl (x4)), some (.inl (x5)), none, none, none]) ⟨rfl, ⟨rfl, ⟨rfl, ⟨rfl, ⟨rfl, trivial⟩⟩⟩⟩⟩ (kt h))) (fun h => (kf h))
theorem zb_Mason_canReach_18 {Γ : zG} {σ : zS} {x2 x3 x4 x5 x6 : Int32} {dc : Nat} {P : Int32 → zS → Prop}  (hm : z_Ci dc zm_City_heightOf [.inr (43), .inl (x6)] σ P) (hdp : dc < z_dep Γ) (k : ∀ r σ1, P r σ1 → z_J Γ zm_Mason_canReach 28 [some (.inr (26)), some (.inr (43)), some (.inl (x2)), some (.inl (x3)), some (.inl (x4)), some (.inl (x5)), some (.inl (x6)), none, none] [.inl (r), .inl (σ.1 26 3)] σ1) : z_J Γ zm_Mason_canReach 18 [some (.inr (26)), some (.inr (43)), some (.inl (x2)), some (.inl (x3)), some (.inl (x4)), some (.inl (x5)), some (.inl (x6)), none, none] [] σ := by
  refine zj_aload_n zd_Mason_canReach_18 rfl ?_
  refine zj_getI rfl (by decide) rfl zu_Mason (k := 3) (by decide) rfl zl_Mason_36 zd_Mason_canReach_19 ?_
  refine zj_aload_n zd_Mason_canReach_22 rfl ?_
  refine zj_iload zd_Mason_canReach_23 rfl ?_
  exact zj_callVi (As := [.inl (x6)]) hm hdp rfl (by decide) rfl zl_Mason_85 zq_City_heightOf zd_Mason_canReach_25 rfl (Nat.le_of_ble_eq_true rfl) (fun r σ1 h => (k r σ1 h))
theorem zb_Mason_canReach_28 {Γ : zG} {σ : zS} {x2 x3 x4 x5 x6 y0 y1 : Int32}  (kt : 0 < (y1 - y0) → z_J Γ zm_Mason_canReach 39 [some (.inr (26)), some (.inr (43)), some (.inl (x2)), some (.inl (x3)), some (.inl (x4)), some (.inl (x5)), some (.inl (x6)), some (.inl (y1 - y0)), none] [] σ) (kf : ¬ 0 < (y1 - y0) → z_J Γ zm_Mason_canReach 36 [some (.inr (26)), some (.inr (43)), some (.inl (x2)), some (.inl (x3)), some (.inl (x4)), some (.inl (x5)), some (.inl (x6)), none, none] [] σ) : z_J Γ zm_Mason_canReach 28 [some (.inr (26)), some (.inr (43)), some (.inl (x2)), some (.inl (x3)), some (.inl (x4)), some (.inl (x5)), some (.inl (x6)), none, none] [.inl (y0), .inl (y1)] σ := by
  refine zj_isub zd_Mason_canReach_28 ?_
  refine zj_istore (L' := [some (.inr (26)), some (.inr (43)), some (.inl (x2)), some (.inl (x3)), some (.inl (x4)), some (.inl (x5)), some (.inl (x6)), some (.inl (y1 - y0)), none]) zd_Mason_canReach_29 (by decide) rfl ?_
  refine zj_iload zd_Mason_canReach_31 rfl ?_
  exact zj_if_gt zd_Mason_canReach_33 (by decide) (fun h => (kt h)) (fun h => (zj_weak (L' := [some (.inr (26)), some (.inr (43)), some (.inl (x2)), some (.inl (x3)), some (.inl (x4)), some (.inl (x5)), some (.inl (x6)), none, none]) ⟨rfl, ⟨rfl, ⟨rfl, ⟨rfl, ⟨rfl, ⟨rfl, ⟨rfl, trivial⟩⟩⟩⟩⟩⟩⟩ (kf h)))
theorem zb_Mason_canReach_36 {Γ : zG} {σ : zS} {x2 x3 x4 x5 x6 : Int32}  (k : z_J Γ zm_Mason_canReach 85 [some (.inr (26)), some (.inr (43)), some (.inl (x2)), some (.inl (x3)), some (.inl (x4)), some (.inl (x5)), some (.inl (x6)), none, none] [] σ) : z_J Γ zm_Mason_canReach 36 [some (.inr (26)), some (.inr (43)), some (.inl (x2)), some (.inl (x3)), some (.inl (x4)), some (.inl (x5)), some (.inl (x6)), none, none] [] σ := by
  exact zj_goto zd_Mason_canReach_36 (by decide) k
theorem zb_Mason_canReach_39 {Γ : zG} {σ : zS} {x2 x3 x4 x5 x6 x7 : Int32} {k1 : Nat}  (d1 : ¬ (σ.1 26 4) = 0) (b1 : z_ix x6 6 k1) (kt : (((x7 + (σ.1 26 4)) - (nI 1)) / (σ.1 26 4)) ≤ ((nI 4) - (σ.1 49 k1)) → z_J Γ zm_Mason_canReach 71 [some (.inr (26)), some (.inr (43)), some (.inl (x2)), some (.inl (x3)), some (.inl (x4)), some (.inl (x5)), some (.inl (x6)), some (.inl (x7)), some (.inl (((x7 + (σ.1 26 4)) - (nI 1)) / (σ.1 26 4)))] [] σ) (kf : ¬ (((x7 + (σ.1 26 4)) - (nI 1)) / (σ.1 26 4)) ≤ ((nI 4) - (σ.1 49 k1)) → z_J Γ zm_Mason_canReach 69 [none, none, none, none, none, none, none, none, none] [] σ) : z_J Γ zm_Mason_canReach 39 [some (.inr (26)), some (.inr (43)), some (.inl (x2)), some (.inl (x3)), some (.inl (x4)), some (.inl (x5)), some (.inl (x6)), some (.inl (x7)), none] [] σ := by
  refine zj_iload zd_Mason_canReach_39 rfl ?_
  refine zj_aload_n zd_Mason_canReach_41 rfl ?_
  refine zj_getI rfl (by decide) rfl zu_Mason (k := 4) (by decide) rfl zl_Mason_18 zd_Mason_canReach_42 ?_
  refine zj_iadd zd_Mason_canReach_45 ?_
  refine zj_iconst (v := nI 1) zd_Mason_canReach_46 (by decide) ?_
  refine zj_isub zd_Mason_canReach_47 ?_
  refine zj_aload_n zd_Mason_canReach_48 rfl ?_
  refine zj_getI rfl (by decide) rfl zu_Mason (k := 4) (by decide) rfl zl_Mason_18 zd_Mason_canReach_49 ?_
  refine zj_idiv zd_Mason_canReach_52 d1 ?_
  refine zj_istore (L' := [some (.inr (26)), some (.inr (43)), some (.inl (x2)), some (.inl (x3)), some (.inl (x4)), some (.inl (x5)), some (.inl (x6)), some (.inl (x7)), some (.inl (((x7 + (σ.1 26 4)) - (nI 1)) / (σ.1 26 4)))]) zd_Mason_canReach_53 (by decide) rfl ?_
  refine zj_iload zd_Mason_canReach_55 rfl ?_
  refine zj_iconst (v := nI 4) zd_Mason_canReach_57 (by decide) ?_
  refine zj_aload_n zd_Mason_canReach_58 rfl ?_
  refine zj_getR rfl (by decide) rfl zu_City (k := 7) (by decide) rfl zl_Mason_92 zd_Mason_canReach_59 (o' := 49) rfl ?_
  refine zj_iload zd_Mason_canReach_62 rfl ?_
  refine zj_iaload rfl (by decide) b1 zd_Mason_canReach_64 ?_
  refine zj_isub zd_Mason_canReach_65 ?_
  exact zj_icmp_le zd_Mason_canReach_66 (by decide) (fun h => (kt h)) (fun h => (zj_weak (L' := [none, none, none, none, none, none, none, none, none]) trivial (kf h)))
theorem zb_Mason_canReach_69 {Γ : zG} {σ : zS}  (e : z_end Γ (some (nI 0)) σ) : z_J Γ zm_Mason_canReach 69 [none, none, none, none, none, none, none, none, none] [] σ := by
  refine zj_iconst (v := nI 0) zd_Mason_canReach_69 (by decide) ?_
  exact zj_zreturn rfl (Or.inl (by decide)) zd_Mason_canReach_70 e
theorem zb_Mason_canReach_71 {Γ : zG} {σ : zS} {x2 x3 x4 x5 x6 x7 x8 : Int32}  (k : z_J Γ zm_Mason_canReach 85 [some (.inr (26)), some (.inr (43)), some (.inl (x2)), some (.inl (x3)), some (.inl (x4 + x7)), some (.inl (x5 + x8)), some (.inl (x6)), none, none] [] σ) : z_J Γ zm_Mason_canReach 71 [some (.inr (26)), some (.inr (43)), some (.inl (x2)), some (.inl (x3)), some (.inl (x4)), some (.inl (x5)), some (.inl (x6)), some (.inl (x7)), some (.inl (x8))] [] σ := by
  refine zj_iload zd_Mason_canReach_71 rfl ?_
  refine zj_iload zd_Mason_canReach_73 rfl ?_
  refine zj_iadd zd_Mason_canReach_75 ?_
  refine zj_istore (L' := [some (.inr (26)), some (.inr (43)), some (.inl (x2)), some (.inl (x3)), some (.inl (x4 + x7)), some (.inl (x5)), some (.inl (x6)), some (.inl (x7)), some (.inl (x8))]) zd_Mason_canReach_76 (by decide) rfl ?_
  refine zj_iload zd_Mason_canReach_78 rfl ?_
  refine zj_iload zd_Mason_canReach_80 rfl ?_
  refine zj_iadd zd_Mason_canReach_82 ?_
  refine zj_istore (L' := [some (.inr (26)), some (.inr (43)), some (.inl (x2)), some (.inl (x3)), some (.inl (x4 + x7)), some (.inl (x5 + x8)), some (.inl (x6)), some (.inl (x7)), some (.inl (x8))]) zd_Mason_canReach_83 (by decide) rfl ?_
  exact (zj_weak (L' := [some (.inr (26)), some (.inr (43)), some (.inl (x2)), some (.inl (x3)), some (.inl (x4 + x7)), some (.inl (x5 + x8)), some (.inl (x6)), none, none]) ⟨rfl, ⟨rfl, ⟨rfl, ⟨rfl, ⟨rfl, ⟨rfl, ⟨rfl, trivial⟩⟩⟩⟩⟩⟩⟩ k)
theorem zb_Mason_canReach_85 {Γ : zG} {σ : zS} {x2 x3 x4 x5 x6 : Int32}  (k : z_J Γ zm_Mason_canReach 9 [some (.inr (26)), some (.inr (43)), some (.inl (x2)), some (.inl (x3)), some (.inl (x4)), some (.inl (x5)), some (.inl (x6 + nI 1)), none, none] [] σ) : z_J Γ zm_Mason_canReach 85 [some (.inr (26)), some (.inr (43)), some (.inl (x2)), some (.inl (x3)), some (.inl (x4)), some (.inl (x5)), some (.inl (x6)), none, none] [] σ := by
  refine zj_iinc (v := nI 1) (L' := [some (.inr (26)), some (.inr (43)), some (.inl (x2)), some (.inl (x3)), some (.inl (x4)), some (.inl (x5)), some (.inl (x6 + nI 1)), none, none]) zd_Mason_canReach_85 rfl (by decide) (by decide) rfl ?_
  exact zj_goto zd_Mason_canReach_88 (by decide) k
theorem zb_Mason_canReach_91 {Γ : zG} {σ : zS} {x2 x3 x4 x5 : Int32}  (kt : x3 < x5 → z_J Γ zm_Mason_canReach 117 [none, none, none, none, none, none, none, none, none] [] σ) (kf : ¬ x3 < x5 → z_J Γ zm_Mason_canReach 97 [some (.inr (26)), none, some (.inl (x2)), some (.inl (x3)), some (.inl (x4)), none, none, none, none] [] σ) : z_J Γ zm_Mason_canReach 91 [some (.inr (26)), none, some (.inl (x2)), some (.inl (x3)), some (.inl (x4)), some (.inl (x5)), none, none, none] [] σ := by
  refine zj_iload zd_Mason_canReach_91 rfl ?_
  refine zj_iload_n zd_Mason_canReach_93 rfl ?_
  exact zj_icmp_gt zd_Mason_canReach_94 (by decide) (fun h => (zj_weak (L' := [none, none, none, none, none, none, none, none, none]) trivial (kt h))) (fun h => (zj_weak (L' := [some (.inr (26)), none, some (.inl (x2)), some (.inl (x3)), some (.inl (x4)), none, none, none, none]) ⟨rfl, ⟨rfl, ⟨rfl, ⟨rfl, trivial⟩⟩⟩⟩ (kf h)))
theorem zb_Mason_canReach_97 {Γ : zG} {σ : zS} {x2 x3 x4 : Int32} {k1 : Nat}  (b1 : z_ix ((x2 * (nI 7)) + x3) 49 k1) (kt : (σ.1 29 k1) < x4 → z_J Γ zm_Mason_canReach 117 [none, none, none, none, none, none, none, none, none] [] σ) (kf : ¬ (σ.1 29 k1) < x4 → z_J Γ zm_Mason_canReach 113 [none, none, none, none, none, none, none, none, none] [] σ) : z_J Γ zm_Mason_canReach 97 [some (.inr (26)), none, some (.inl (x2)), some (.inl (x3)), some (.inl (x4)), none, none, none, none] [] σ := by
  refine zj_iload zd_Mason_canReach_97 rfl ?_
  refine zj_aload_n zd_Mason_canReach_99 rfl ?_
  refine zj_getR rfl (by decide) rfl zu_Mason (k := 5) (by decide) rfl zl_Mason_22 zd_Mason_canReach_100 (o' := 29) rfl ?_
  refine zj_iload_n zd_Mason_canReach_103 rfl ?_
  refine zj_bipush (v := nI 7) zd_Mason_canReach_104 (by decide) ?_
  refine zj_imul zd_Mason_canReach_106 ?_
  refine zj_iload_n zd_Mason_canReach_107 rfl ?_
  refine zj_iadd zd_Mason_canReach_108 ?_
  refine zj_iaload rfl (by decide) b1 zd_Mason_canReach_109 ?_
  exact zj_icmp_gt zd_Mason_canReach_110 (by decide) (fun h => (zj_weak (L' := [none, none, none, none, none, none, none, none, none]) trivial (kt h))) (fun h => (zj_weak (L' := [none, none, none, none, none, none, none, none, none]) trivial (kf h)))
theorem zb_Mason_canReach_113 {Γ : zG} {σ : zS}  (k : z_J Γ zm_Mason_canReach 118 [none, none, none, none, none, none, none, none, none] [.inl (nI 1)] σ) : z_J Γ zm_Mason_canReach 113 [none, none, none, none, none, none, none, none, none] [] σ := by
  refine zj_iconst (v := nI 1) zd_Mason_canReach_113 (by decide) ?_
  exact zj_goto zd_Mason_canReach_114 (by decide) k
theorem zb_Mason_canReach_117 {Γ : zG} {σ : zS}  (k : z_J Γ zm_Mason_canReach 118 [none, none, none, none, none, none, none, none, none] [.inl (nI 0)] σ) : z_J Γ zm_Mason_canReach 117 [none, none, none, none, none, none, none, none, none] [] σ := by
  refine zj_iconst (v := nI 0) zd_Mason_canReach_117 (by decide) ?_
  exact k
theorem zb_Mason_canReach_118 {Γ : zG} {σ : zS} {y0 : Int32}  (e : z_end Γ (some (y0)) σ) (z1 : y0 = 0 ∨ y0 = 1) : z_J Γ zm_Mason_canReach 118 [none, none, none, none, none, none, none, none, none] [.inl (y0)] σ := by
  exact zj_zreturn rfl z1 zd_Mason_canReach_118 e
theorem zd_Duel_outcome_0 : decode zm_Duel_outcome.2.1 0 = .ok (.aload_n 0, 1) := by decide +kernel
theorem zd_Duel_outcome_1 : decode zm_Duel_outcome.2.1 1 = .ok (.iconst (-1), 1) := by decide +kernel
theorem zd_Duel_outcome_2 : decode zm_Duel_outcome.2.1 2 = .ok (.putfield 9, 3) := by decide +kernel
theorem zd_Duel_outcome_5 : decode zm_Duel_outcome.2.1 5 = .ok (.bipush 100, 2) := by decide +kernel
theorem zd_Duel_outcome_7 : decode zm_Duel_outcome.2.1 7 = .ok (.istore 4, 2) := by decide +kernel
theorem zd_Duel_outcome_9 : decode zm_Duel_outcome.2.1 9 = .ok (.iconst 0, 1) := by decide +kernel
theorem zd_Duel_outcome_10 : decode zm_Duel_outcome.2.1 10 = .ok (.istore 5, 2) := by decide +kernel
theorem zd_Duel_outcome_12 : decode zm_Duel_outcome.2.1 12 = .ok (.iload 5, 2) := by decide +kernel
theorem zd_Duel_outcome_14 : decode zm_Duel_outcome.2.1 14 = .ok (.aload_n 1, 1) := by decide +kernel
theorem zd_Duel_outcome_15 : decode zm_Duel_outcome.2.1 15 = .ok (.getfield 15, 3) := by decide +kernel
theorem zd_Duel_outcome_18 : decode zm_Duel_outcome.2.1 18 = .ok (.if_icmp .ge 71, 3) := by decide +kernel
theorem zd_Duel_outcome_21 : decode zm_Duel_outcome.2.1 21 = .ok (.aload_n 1, 1) := by decide +kernel
theorem zd_Duel_outcome_22 : decode zm_Duel_outcome.2.1 22 = .ok (.iload 5, 2) := by decide +kernel
theorem zd_Duel_outcome_24 : decode zm_Duel_outcome.2.1 24 = .ok (.invokevirtual 20, 3) := by decide +kernel
theorem zd_Duel_outcome_27 : decode zm_Duel_outcome.2.1 27 = .ok (.istore 6, 2) := by decide +kernel
theorem zd_Duel_outcome_29 : decode zm_Duel_outcome.2.1 29 = .ok (.iload 6, 2) := by decide +kernel
theorem zd_Duel_outcome_31 : decode zm_Duel_outcome.2.1 31 = .ok (.iconst (-1), 1) := by decide +kernel
theorem zd_Duel_outcome_32 : decode zm_Duel_outcome.2.1 32 = .ok (.if_icmp .ne 6, 3) := by decide +kernel
theorem zd_Duel_outcome_35 : decode zm_Duel_outcome.2.1 35 = .ok (.goto 48, 3) := by decide +kernel
theorem zd_Duel_outcome_38 : decode zm_Duel_outcome.2.1 38 = .ok (.aload_n 1, 1) := by decide +kernel
theorem zd_Duel_outcome_39 : decode zm_Duel_outcome.2.1 39 = .ok (.iload 6, 2) := by decide +kernel
theorem zd_Duel_outcome_41 : decode zm_Duel_outcome.2.1 41 = .ok (.iconst 3, 1) := by decide +kernel
theorem zd_Duel_outcome_42 : decode zm_Duel_outcome.2.1 42 = .ok (.invokevirtual 24, 3) := by decide +kernel
theorem zd_Duel_outcome_45 : decode zm_Duel_outcome.2.1 45 = .ok (.aload_n 0, 1) := by decide +kernel
theorem zd_Duel_outcome_46 : decode zm_Duel_outcome.2.1 46 = .ok (.aload_n 1, 1) := by decide +kernel
theorem zd_Duel_outcome_47 : decode zm_Duel_outcome.2.1 47 = .ok (.aload_n 2, 1) := by decide +kernel
theorem zd_Duel_outcome_48 : decode zm_Duel_outcome.2.1 48 = .ok (.iload_n 3, 1) := by decide +kernel
theorem zd_Duel_outcome_49 : decode zm_Duel_outcome.2.1 49 = .ok (.iconst 1, 1) := by decide +kernel
theorem zd_Duel_outcome_50 : decode zm_Duel_outcome.2.1 50 = .ok (.isub, 1) := by decide +kernel
theorem zd_Duel_outcome_51 : decode zm_Duel_outcome.2.1 51 = .ok (.iload 4, 2) := by decide +kernel
theorem zd_Duel_outcome_53 : decode zm_Duel_outcome.2.1 53 = .ok (.invokevirtual 28, 3) := by decide +kernel
theorem zd_Duel_outcome_56 : decode zm_Duel_outcome.2.1 56 = .ok (.istore 7, 2) := by decide +kernel
theorem zd_Duel_outcome_58 : decode zm_Duel_outcome.2.1 58 = .ok (.aload_n 1, 1) := by decide +kernel
theorem zd_Duel_outcome_59 : decode zm_Duel_outcome.2.1 59 = .ok (.iload 6, 2) := by decide +kernel
theorem zd_Duel_outcome_61 : decode zm_Duel_outcome.2.1 61 = .ok (.iload 5, 2) := by decide +kernel
theorem zd_Duel_outcome_63 : decode zm_Duel_outcome.2.1 63 = .ok (.invokevirtual 32, 3) := by decide +kernel
theorem zd_Duel_outcome_66 : decode zm_Duel_outcome.2.1 66 = .ok (.iload 7, 2) := by decide +kernel
theorem zd_Duel_outcome_68 : decode zm_Duel_outcome.2.1 68 = .ok (.iload 4, 2) := by decide +kernel
theorem zd_Duel_outcome_70 : decode zm_Duel_outcome.2.1 70 = .ok (.if_icmp .ge 13, 3) := by decide +kernel
theorem zd_Duel_outcome_73 : decode zm_Duel_outcome.2.1 73 = .ok (.iload 7, 2) := by decide +kernel
theorem zd_Duel_outcome_75 : decode zm_Duel_outcome.2.1 75 = .ok (.istore 4, 2) := by decide +kernel
theorem zd_Duel_outcome_77 : decode zm_Duel_outcome.2.1 77 = .ok (.aload_n 0, 1) := by decide +kernel
theorem zd_Duel_outcome_78 : decode zm_Duel_outcome.2.1 78 = .ok (.iload 5, 2) := by decide +kernel
theorem zd_Duel_outcome_80 : decode zm_Duel_outcome.2.1 80 = .ok (.putfield 9, 3) := by decide +kernel
theorem zd_Duel_outcome_83 : decode zm_Duel_outcome.2.1 83 = .ok (.iinc 5 1, 3) := by decide +kernel
theorem zd_Duel_outcome_86 : decode zm_Duel_outcome.2.1 86 = .ok (.goto (-74), 3) := by decide +kernel
theorem zd_Duel_outcome_89 : decode zm_Duel_outcome.2.1 89 = .ok (.aload_n 0, 1) := by decide +kernel
theorem zd_Duel_outcome_90 : decode zm_Duel_outcome.2.1 90 = .ok (.getfield 9, 3) := by decide +kernel
theorem zd_Duel_outcome_93 : decode zm_Duel_outcome.2.1 93 = .ok (.iconst (-1), 1) := by decide +kernel
theorem zd_Duel_outcome_94 : decode zm_Duel_outcome.2.1 94 = .ok (.if_icmp .ne 17, 3) := by decide +kernel
theorem zd_Duel_outcome_97 : decode zm_Duel_outcome.2.1 97 = .ok (.aload_n 0, 1) := by decide +kernel
theorem zd_Duel_outcome_98 : decode zm_Duel_outcome.2.1 98 = .ok (.aload_n 1, 1) := by decide +kernel
theorem zd_Duel_outcome_99 : decode zm_Duel_outcome.2.1 99 = .ok (.aload_n 2, 1) := by decide +kernel
theorem zd_Duel_outcome_100 : decode zm_Duel_outcome.2.1 100 = .ok (.iload_n 3, 1) := by decide +kernel
theorem zd_Duel_outcome_101 : decode zm_Duel_outcome.2.1 101 = .ok (.iconst 1, 1) := by decide +kernel
theorem zd_Duel_outcome_102 : decode zm_Duel_outcome.2.1 102 = .ok (.isub, 1) := by decide +kernel
theorem zd_Duel_outcome_103 : decode zm_Duel_outcome.2.1 103 = .ok (.iload 4, 2) := by decide +kernel
theorem zd_Duel_outcome_105 : decode zm_Duel_outcome.2.1 105 = .ok (.invokevirtual 28, 3) := by decide +kernel
theorem zd_Duel_outcome_108 : decode zm_Duel_outcome.2.1 108 = .ok (.goto 5, 3) := by decide +kernel
theorem zd_Duel_outcome_111 : decode zm_Duel_outcome.2.1 111 = .ok (.iload 4, 2) := by decide +kernel
theorem zd_Duel_outcome_113 : decode zm_Duel_outcome.2.1 113 = .ok (.ireturn, 1) := by decide +kernel
theorem zb_Duel_outcome_0 {Γ : zG} {σ : zS} {r2 : Nat} {x3 : Int32} (h_r2 : z_oR r2) (k : z_J Γ zm_Duel_outcome 12 [some (.inr (30)), some (.inr (43)), some (.inr (r2)), some (.inl (x3)), some (.inl (nI 100)), some (.inl (nI 0)), none, none] [] (z_pI σ 30 0 (-1))) : z_J Γ zm_Duel_outcome 0 [some (.inr (30)), some (.inr (43)), some (.inr (r2)), some (.inl (x3)), none, none, none, none] [] σ := by
  refine zj_aload_n zd_Duel_outcome_0 rfl ?_
  refine zj_iconst (v := (-1)) zd_Duel_outcome_1 (by decide) ?_
  refine zj_putI rfl (by decide) rfl zu_Duel zy_Duel_ok zn_Duel (k := 0) (by decide) rfl rfl zl_Duel_9 rfl rfl zd_Duel_outcome_2 ?_
  refine zj_bipush (v := nI 100) zd_Duel_outcome_5 (by decide) ?_
  refine zj_istore (L' := [some (.inr (30)), some (.inr (43)), some (.inr (r2)), some (.inl (x3)), some (.inl (nI 100)), none, none, none]) zd_Duel_outcome_7 (by decide) rfl ?_
  refine zj_iconst (v := nI 0) zd_Duel_outcome_9 (by decide) ?_
  refine zj_istore (L' := [some (.inr (30)), some (.inr (43)), some (.inr (r2)), some (.inl (x3)), some (.inl (nI 100)), some (.inl (nI 0)), none, none]) zd_Duel_outcome_10 (by decide) rfl ?_
  exact k
theorem zb_Duel_outcome_12 {Γ : zG} {σ : zS} {r2 : Nat} {x3 x4 x5 : Int32} (h_r2 : z_oR r2) (kt : (σ.1 43 6) ≤ x5 → z_J Γ zm_Duel_outcome 89 [some (.inr (30)), some (.inr (43)), some (.inr (r2)), some (.inl (x3)), some (.inl (x4)), none, none, none] [] σ) (kf : ¬ (σ.1 43 6) ≤ x5 → z_J Γ zm_Duel_outcome 21 [some (.inr (30)), some (.inr (43)), some (.inr (r2)), some (.inl (x3)), some (.inl (x4)), some (.inl (x5)), none, none] [] σ) : z_J Γ zm_Duel_outcome 12 [some (.inr (30)), some (.inr (43)), some (.inr (r2)), some (.inl (x3)), some (.inl (x4)), some (.inl (x5)), none, none] [] σ := by
  refine zj_iload zd_Duel_outcome_12 rfl ?_
  refine zj_aload_n zd_Duel_outcome_14 rfl ?_
  refine zj_getI rfl (by decide) rfl zu_City (k := 6) (by decide) rfl zl_Duel_15 zd_Duel_outcome_15 ?_
  exact zj_icmp_ge zd_Duel_outcome_18 (by decide) (fun h => (zj_weak (L' := [some (.inr (30)), some (.inr (43)), some (.inr (r2)), some (.inl (x3)), some (.inl (x4)), none, none, none]) ⟨rfl, ⟨rfl, ⟨rfl, ⟨rfl, ⟨rfl, trivial⟩⟩⟩⟩⟩ (kt h))) (fun h => (kf h))
theorem zb_Duel_outcome_21 {Γ : zG} {σ : zS} {r2 : Nat} {x3 x4 x5 : Int32} {dc : Nat} {P : Int32 → zS → Prop} (h_r2 : z_oR r2) (hm : z_Ci dc zm_City_topOf [.inr (43), .inl (x5)] σ P) (hdp : dc < z_dep Γ) (k : ∀ r σ1, P r σ1 → z_J Γ zm_Duel_outcome 27 [some (.inr (30)), some (.inr (43)), some (.inr (r2)), some (.inl (x3)), some (.inl (x4)), some (.inl (x5)), none, none] [.inl (r)] σ1) : z_J Γ zm_Duel_outcome 21 [some (.inr (30)), some (.inr (43)), some (.inr (r2)), some (.inl (x3)), some (.inl (x4)), some (.inl (x5)), none, none] [] σ := by
  refine zj_aload_n zd_Duel_outcome_21 rfl ?_
  refine zj_iload zd_Duel_outcome_22 rfl ?_
  exact zj_callVi (As := [.inl (x5)]) hm hdp rfl (by decide) rfl zl_Duel_20 zq_City_topOf zd_Duel_outcome_24 rfl (Nat.le_of_ble_eq_true rfl) (fun r σ1 h => (k r σ1 h))
theorem zb_Duel_outcome_27 {Γ : zG} {σ : zS} {r2 : Nat} {x3 x4 x5 y0 : Int32} (h_r2 : z_oR r2) (kt : ¬ y0 = (-1) → z_J Γ zm_Duel_outcome 38 [some (.inr (30)), some (.inr (43)), some (.inr (r2)), some (.inl (x3)), some (.inl (x4)), some (.inl (x5)), some (.inl (y0)), none] [] σ) (kf : y0 = (-1) → z_J Γ zm_Duel_outcome 35 [some (.inr (30)), some (.inr (43)), some (.inr (r2)), some (.inl (x3)), some (.inl (x4)), some (.inl (x5)), none, none] [] σ) : z_J Γ zm_Duel_outcome 27 [some (.inr (30)), some (.inr (43)), some (.inr (r2)), some (.inl (x3)), some (.inl (x4)), some (.inl (x5)), none, none] [.inl (y0)] σ := by
  refine zj_istore (L' := [some (.inr (30)), some (.inr (43)), some (.inr (r2)), some (.inl (x3)), some (.inl (x4)), some (.inl (x5)), some (.inl (y0)), none]) zd_Duel_outcome_27 (by decide) rfl ?_
  refine zj_iload zd_Duel_outcome_29 rfl ?_
  refine zj_iconst (v := (-1)) zd_Duel_outcome_31 (by decide) ?_
  exact zj_icmp_ne zd_Duel_outcome_32 (by decide) (fun h => (kt h)) (fun h => (zj_weak (L' := [some (.inr (30)), some (.inr (43)), some (.inr (r2)), some (.inl (x3)), some (.inl (x4)), some (.inl (x5)), none, none]) ⟨rfl, ⟨rfl, ⟨rfl, ⟨rfl, ⟨rfl, ⟨rfl, trivial⟩⟩⟩⟩⟩⟩ (kf h)))
theorem zb_Duel_outcome_35 {Γ : zG} {σ : zS} {r2 : Nat} {x3 x4 x5 : Int32} (h_r2 : z_oR r2) (k : z_J Γ zm_Duel_outcome 83 [some (.inr (30)), some (.inr (43)), some (.inr (r2)), some (.inl (x3)), some (.inl (x4)), some (.inl (x5)), none, none] [] σ) : z_J Γ zm_Duel_outcome 35 [some (.inr (30)), some (.inr (43)), some (.inr (r2)), some (.inl (x3)), some (.inl (x4)), some (.inl (x5)), none, none] [] σ := by
  exact zj_goto zd_Duel_outcome_35 (by decide) k
theorem zb_Duel_outcome_38 {Γ : zG} {σ : zS} {r2 : Nat} {x3 x4 x5 x6 : Int32} {dc : Nat} {P : zS → Prop} (h_r2 : z_oR r2) (hm : z_Cv dc zm_City_lift [.inr (43), .inl (x6), .inl (nI 3)] σ P) (hdp : dc < z_dep Γ) (k : ∀ σ1, P σ1 → z_J Γ zm_Duel_outcome 45 [some (.inr (30)), some (.inr (43)), some (.inr (r2)), some (.inl (x3)), some (.inl (x4)), some (.inl (x5)), some (.inl (x6)), none] [] σ1) : z_J Γ zm_Duel_outcome 38 [some (.inr (30)), some (.inr (43)), some (.inr (r2)), some (.inl (x3)), some (.inl (x4)), some (.inl (x5)), some (.inl (x6)), none] [] σ := by
  refine zj_aload_n zd_Duel_outcome_38 rfl ?_
  refine zj_iload zd_Duel_outcome_39 rfl ?_
  refine zj_iconst (v := nI 3) zd_Duel_outcome_41 (by decide) ?_
  exact zj_callVv (As := [.inl (x6), .inl (nI 3)]) hm hdp rfl (by decide) rfl zl_Duel_24 zq_City_lift zd_Duel_outcome_42 rfl (Nat.le_of_ble_eq_true rfl) (fun σ1 h => (k σ1 h))
theorem zb_Duel_outcome_45 {Γ : zG} {σ : zS} {r2 : Nat} {x3 x4 x5 x6 : Int32} {dc : Nat} {P : Int32 → zS → Prop} (h_r2 : z_oR r2) (hm : z_Ci dc zm_Duel_afterCity [.inr (30), .inr (43), .inr (r2), .inl (x3 - (nI 1)), .inl (x4)] σ P) (hdp : dc < z_dep Γ) (k : ∀ r σ1, P r σ1 → z_J Γ zm_Duel_outcome 56 [some (.inr (30)), some (.inr (43)), some (.inr (r2)), some (.inl (x3)), some (.inl (x4)), some (.inl (x5)), some (.inl (x6)), none] [.inl (r)] σ1) : z_J Γ zm_Duel_outcome 45 [some (.inr (30)), some (.inr (43)), some (.inr (r2)), some (.inl (x3)), some (.inl (x4)), some (.inl (x5)), some (.inl (x6)), none] [] σ := by
  refine zj_aload_n zd_Duel_outcome_45 rfl ?_
  refine zj_aload_n zd_Duel_outcome_46 rfl ?_
  refine zj_aload_n zd_Duel_outcome_47 rfl ?_
  refine zj_iload_n zd_Duel_outcome_48 rfl ?_
  refine zj_iconst (v := nI 1) zd_Duel_outcome_49 (by decide) ?_
  refine zj_isub zd_Duel_outcome_50 ?_
  refine zj_iload zd_Duel_outcome_51 rfl ?_
  exact zj_callVi (As := [.inr (43), .inr (r2), .inl (x3 - (nI 1)), .inl (x4)]) hm hdp rfl (by decide) rfl zl_Duel_28 zq_Duel_afterCity zd_Duel_outcome_53 rfl (Nat.le_of_ble_eq_true rfl) (fun r σ1 h => (k r σ1 h))
theorem zb_Duel_outcome_56 {Γ : zG} {σ : zS} {r2 : Nat} {x3 x4 x5 x6 y0 : Int32} {dc : Nat} {P : zS → Prop} (h_r2 : z_oR r2) (hm : z_Cv dc zm_City_put [.inr (43), .inl (x6), .inl (x5)] σ P) (hdp : dc < z_dep Γ) (k : ∀ σ1, P σ1 → z_J Γ zm_Duel_outcome 66 [some (.inr (30)), some (.inr (43)), some (.inr (r2)), some (.inl (x3)), some (.inl (x4)), some (.inl (x5)), none, some (.inl (y0))] [] σ1) : z_J Γ zm_Duel_outcome 56 [some (.inr (30)), some (.inr (43)), some (.inr (r2)), some (.inl (x3)), some (.inl (x4)), some (.inl (x5)), some (.inl (x6)), none] [.inl (y0)] σ := by
  refine zj_istore (L' := [some (.inr (30)), some (.inr (43)), some (.inr (r2)), some (.inl (x3)), some (.inl (x4)), some (.inl (x5)), some (.inl (x6)), some (.inl (y0))]) zd_Duel_outcome_56 (by decide) rfl ?_
  refine zj_aload_n zd_Duel_outcome_58 rfl ?_
  refine zj_iload zd_Duel_outcome_59 rfl ?_
  refine zj_iload zd_Duel_outcome_61 rfl ?_
  exact zj_callVv (As := [.inl (x6), .inl (x5)]) hm hdp rfl (by decide) rfl zl_Duel_32 zq_City_put zd_Duel_outcome_63 rfl (Nat.le_of_ble_eq_true rfl) (fun σ1 h => (zj_weak (L' := [some (.inr (30)), some (.inr (43)), some (.inr (r2)), some (.inl (x3)), some (.inl (x4)), some (.inl (x5)), none, some (.inl (y0))]) ⟨rfl, ⟨rfl, ⟨rfl, ⟨rfl, ⟨rfl, ⟨rfl, ⟨rfl, trivial⟩⟩⟩⟩⟩⟩⟩ (k σ1 h)))
theorem zb_Duel_outcome_66 {Γ : zG} {σ : zS} {r2 : Nat} {x3 x4 x5 x7 : Int32} (h_r2 : z_oR r2) (kt : x4 ≤ x7 → z_J Γ zm_Duel_outcome 83 [some (.inr (30)), some (.inr (43)), some (.inr (r2)), some (.inl (x3)), some (.inl (x4)), some (.inl (x5)), none, none] [] σ) (kf : ¬ x4 ≤ x7 → z_J Γ zm_Duel_outcome 73 [some (.inr (30)), some (.inr (43)), some (.inr (r2)), some (.inl (x3)), none, some (.inl (x5)), none, some (.inl (x7))] [] σ) : z_J Γ zm_Duel_outcome 66 [some (.inr (30)), some (.inr (43)), some (.inr (r2)), some (.inl (x3)), some (.inl (x4)), some (.inl (x5)), none, some (.inl (x7))] [] σ := by
  refine zj_iload zd_Duel_outcome_66 rfl ?_
  refine zj_iload zd_Duel_outcome_68 rfl ?_
  exact zj_icmp_ge zd_Duel_outcome_70 (by decide) (fun h => (zj_weak (L' := [some (.inr (30)), some (.inr (43)), some (.inr (r2)), some (.inl (x3)), some (.inl (x4)), some (.inl (x5)), none, none]) ⟨rfl, ⟨rfl, ⟨rfl, ⟨rfl, ⟨rfl, ⟨rfl, trivial⟩⟩⟩⟩⟩⟩ (kt h))) (fun h => (zj_weak (L' := [some (.inr (30)), some (.inr (43)), some (.inr (r2)), some (.inl (x3)), none, some (.inl (x5)), none, some (.inl (x7))]) ⟨rfl, ⟨rfl, ⟨rfl, ⟨rfl, ⟨rfl, ⟨rfl, trivial⟩⟩⟩⟩⟩⟩ (kf h)))
theorem zb_Duel_outcome_73 {Γ : zG} {σ : zS} {r2 : Nat} {x3 x5 x7 : Int32} (h_r2 : z_oR r2) (k : z_J Γ zm_Duel_outcome 83 [some (.inr (30)), some (.inr (43)), some (.inr (r2)), some (.inl (x3)), some (.inl (x7)), some (.inl (x5)), none, none] [] (z_pI σ 30 0 x5)) : z_J Γ zm_Duel_outcome 73 [some (.inr (30)), some (.inr (43)), some (.inr (r2)), some (.inl (x3)), none, some (.inl (x5)), none, some (.inl (x7))] [] σ := by
  refine zj_iload zd_Duel_outcome_73 rfl ?_
  refine zj_istore (L' := [some (.inr (30)), some (.inr (43)), some (.inr (r2)), some (.inl (x3)), some (.inl (x7)), some (.inl (x5)), none, some (.inl (x7))]) zd_Duel_outcome_75 (by decide) rfl ?_
  refine zj_aload_n zd_Duel_outcome_77 rfl ?_
  refine zj_iload zd_Duel_outcome_78 rfl ?_
  refine zj_putI rfl (by decide) rfl zu_Duel zy_Duel_ok zn_Duel (k := 0) (by decide) rfl rfl zl_Duel_9 rfl rfl zd_Duel_outcome_80 ?_
  exact (zj_weak (L' := [some (.inr (30)), some (.inr (43)), some (.inr (r2)), some (.inl (x3)), some (.inl (x7)), some (.inl (x5)), none, none]) ⟨rfl, ⟨rfl, ⟨rfl, ⟨rfl, ⟨rfl, ⟨rfl, trivial⟩⟩⟩⟩⟩⟩ k)
theorem zb_Duel_outcome_83 {Γ : zG} {σ : zS} {r2 : Nat} {x3 x4 x5 : Int32} (h_r2 : z_oR r2) (k : z_J Γ zm_Duel_outcome 12 [some (.inr (30)), some (.inr (43)), some (.inr (r2)), some (.inl (x3)), some (.inl (x4)), some (.inl (x5 + nI 1)), none, none] [] σ) : z_J Γ zm_Duel_outcome 83 [some (.inr (30)), some (.inr (43)), some (.inr (r2)), some (.inl (x3)), some (.inl (x4)), some (.inl (x5)), none, none] [] σ := by
  refine zj_iinc (v := nI 1) (L' := [some (.inr (30)), some (.inr (43)), some (.inr (r2)), some (.inl (x3)), some (.inl (x4)), some (.inl (x5 + nI 1)), none, none]) zd_Duel_outcome_83 rfl (by decide) (by decide) rfl ?_
  exact zj_goto zd_Duel_outcome_86 (by decide) k
theorem zb_Duel_outcome_89 {Γ : zG} {σ : zS} {r2 : Nat} {x3 x4 : Int32} (h_r2 : z_oR r2) (kt : ¬ (σ.1 30 0) = (-1) → z_J Γ zm_Duel_outcome 111 [none, none, none, none, some (.inl (x4)), none, none, none] [] σ) (kf : (σ.1 30 0) = (-1) → z_J Γ zm_Duel_outcome 97 [some (.inr (30)), some (.inr (43)), some (.inr (r2)), some (.inl (x3)), some (.inl (x4)), none, none, none] [] σ) : z_J Γ zm_Duel_outcome 89 [some (.inr (30)), some (.inr (43)), some (.inr (r2)), some (.inl (x3)), some (.inl (x4)), none, none, none] [] σ := by
  refine zj_aload_n zd_Duel_outcome_89 rfl ?_
  refine zj_getI rfl (by decide) rfl zu_Duel (k := 0) (by decide) rfl zl_Duel_9 zd_Duel_outcome_90 ?_
  refine zj_iconst (v := (-1)) zd_Duel_outcome_93 (by decide) ?_
  exact zj_icmp_ne zd_Duel_outcome_94 (by decide) (fun h => (zj_weak (L' := [none, none, none, none, some (.inl (x4)), none, none, none]) ⟨rfl, trivial⟩ (kt h))) (fun h => (kf h))
theorem zb_Duel_outcome_97 {Γ : zG} {σ : zS} {r2 : Nat} {x3 x4 : Int32} {dc : Nat} {P : Int32 → zS → Prop} (h_r2 : z_oR r2) (hm : z_Ci dc zm_Duel_afterCity [.inr (30), .inr (43), .inr (r2), .inl (x3 - (nI 1)), .inl (x4)] σ P) (hdp : dc < z_dep Γ) (k : ∀ r σ1, P r σ1 → z_J Γ zm_Duel_outcome 108 [none, none, none, none, none, none, none, none] [.inl (r)] σ1) : z_J Γ zm_Duel_outcome 97 [some (.inr (30)), some (.inr (43)), some (.inr (r2)), some (.inl (x3)), some (.inl (x4)), none, none, none] [] σ := by
  refine zj_aload_n zd_Duel_outcome_97 rfl ?_
  refine zj_aload_n zd_Duel_outcome_98 rfl ?_
  refine zj_aload_n zd_Duel_outcome_99 rfl ?_
  refine zj_iload_n zd_Duel_outcome_100 rfl ?_
  refine zj_iconst (v := nI 1) zd_Duel_outcome_101 (by decide) ?_
  refine zj_isub zd_Duel_outcome_102 ?_
  refine zj_iload zd_Duel_outcome_103 rfl ?_
  exact zj_callVi (As := [.inr (43), .inr (r2), .inl (x3 - (nI 1)), .inl (x4)]) hm hdp rfl (by decide) rfl zl_Duel_28 zq_Duel_afterCity zd_Duel_outcome_105 rfl (Nat.le_of_ble_eq_true rfl) (fun r σ1 h => (zj_weak (L' := [none, none, none, none, none, none, none, none]) trivial (k r σ1 h)))
theorem zb_Duel_outcome_108 {Γ : zG} {σ : zS} {y0 : Int32}  (k : z_J Γ zm_Duel_outcome 113 [none, none, none, none, none, none, none, none] [.inl (y0)] σ) : z_J Γ zm_Duel_outcome 108 [none, none, none, none, none, none, none, none] [.inl (y0)] σ := by
  exact zj_goto zd_Duel_outcome_108 (by decide) k
theorem zb_Duel_outcome_111 {Γ : zG} {σ : zS} {x4 : Int32}  (k : z_J Γ zm_Duel_outcome 113 [none, none, none, none, none, none, none, none] [.inl (x4)] σ) : z_J Γ zm_Duel_outcome 111 [none, none, none, none, some (.inl (x4)), none, none, none] [] σ := by
  refine zj_iload zd_Duel_outcome_111 rfl ?_
  exact (zj_weak (L' := [none, none, none, none, none, none, none, none]) trivial k)
theorem zb_Duel_outcome_113 {Γ : zG} {σ : zS} {y0 : Int32}  (e : z_end Γ (some (y0)) σ) : z_J Γ zm_Duel_outcome 113 [none, none, none, none, none, none, none, none] [.inl (y0)] σ := by
  exact zj_ireturn rfl zd_Duel_outcome_113 e
theorem zd_Duel_afterCity_0 : decode zm_Duel_afterCity.2.1 0 = .ok (.iload_n 3, 1) := by decide +kernel
theorem zd_Duel_afterCity_1 : decode zm_Duel_afterCity.2.1 1 = .ok (.ifCond .ne 8, 3) := by decide +kernel
theorem zd_Duel_afterCity_4 : decode zm_Duel_afterCity.2.1 4 = .ok (.aload_n 1, 1) := by decide +kernel
theorem zd_Duel_afterCity_5 : decode zm_Duel_afterCity.2.1 5 = .ok (.invokevirtual 35, 3) := by decide +kernel
theorem zd_Duel_afterCity_8 : decode zm_Duel_afterCity.2.1 8 = .ok (.ireturn, 1) := by decide +kernel
theorem zd_Duel_afterCity_9 : decode zm_Duel_afterCity.2.1 9 = .ok (.aload_n 0, 1) := by decide +kernel
theorem zd_Duel_afterCity_10 : decode zm_Duel_afterCity.2.1 10 = .ok (.aload_n 1, 1) := by decide +kernel
theorem zd_Duel_afterCity_11 : decode zm_Duel_afterCity.2.1 11 = .ok (.aload_n 2, 1) := by decide +kernel
theorem zd_Duel_afterCity_12 : decode zm_Duel_afterCity.2.1 12 = .ok (.iload_n 3, 1) := by decide +kernel
theorem zd_Duel_afterCity_13 : decode zm_Duel_afterCity.2.1 13 = .ok (.iconst 1, 1) := by decide +kernel
theorem zd_Duel_afterCity_14 : decode zm_Duel_afterCity.2.1 14 = .ok (.isub, 1) := by decide +kernel
theorem zd_Duel_afterCity_15 : decode zm_Duel_afterCity.2.1 15 = .ok (.iconst (-1), 1) := by decide +kernel
theorem zd_Duel_afterCity_16 : decode zm_Duel_afterCity.2.1 16 = .ok (.invokevirtual 45, 3) := by decide +kernel
theorem zd_Duel_afterCity_19 : decode zm_Duel_afterCity.2.1 19 = .ok (.istore 5, 2) := by decide +kernel
theorem zd_Duel_afterCity_21 : decode zm_Duel_afterCity.2.1 21 = .ok (.aload_n 1, 1) := by decide +kernel
theorem zd_Duel_afterCity_22 : decode zm_Duel_afterCity.2.1 22 = .ok (.invokevirtual 35, 3) := by decide +kernel
theorem zd_Duel_afterCity_25 : decode zm_Duel_afterCity.2.1 25 = .ok (.istore 6, 2) := by decide +kernel
theorem zd_Duel_afterCity_27 : decode zm_Duel_afterCity.2.1 27 = .ok (.iconst 0, 1) := by decide +kernel
theorem zd_Duel_afterCity_28 : decode zm_Duel_afterCity.2.1 28 = .ok (.istore 7, 2) := by decide +kernel
theorem zd_Duel_afterCity_30 : decode zm_Duel_afterCity.2.1 30 = .ok (.iload 7, 2) := by decide +kernel
theorem zd_Duel_afterCity_32 : decode zm_Duel_afterCity.2.1 32 = .ok (.aload_n 1, 1) := by decide +kernel
theorem zd_Duel_afterCity_33 : decode zm_Duel_afterCity.2.1 33 = .ok (.getfield 48, 3) := by decide +kernel
theorem zd_Duel_afterCity_36 : decode zm_Duel_afterCity.2.1 36 = .ok (.if_icmp .ge 110, 3) := by decide +kernel
theorem zd_Duel_afterCity_39 : decode zm_Duel_afterCity.2.1 39 = .ok (.iload 5, 2) := by decide +kernel
theorem zd_Duel_afterCity_41 : decode zm_Duel_afterCity.2.1 41 = .ok (.iload 4, 2) := by decide +kernel
theorem zd_Duel_afterCity_43 : decode zm_Duel_afterCity.2.1 43 = .ok (.if_icmp .ge 103, 3) := by decide +kernel
theorem zd_Duel_afterCity_46 : decode zm_Duel_afterCity.2.1 46 = .ok (.aload_n 1, 1) := by decide +kernel
theorem zd_Duel_afterCity_47 : decode zm_Duel_afterCity.2.1 47 = .ok (.getfield 51, 3) := by decide +kernel
theorem zd_Duel_afterCity_50 : decode zm_Duel_afterCity.2.1 50 = .ok (.iload 7, 2) := by decide +kernel
theorem zd_Duel_afterCity_52 : decode zm_Duel_afterCity.2.1 52 = .ok (.iaload, 1) := by decide +kernel
theorem zd_Duel_afterCity_53 : decode zm_Duel_afterCity.2.1 53 = .ok (.ifCond .eq 6, 3) := by decide +kernel
theorem zd_Duel_afterCity_56 : decode zm_Duel_afterCity.2.1 56 = .ok (.goto 84, 3) := by decide +kernel
theorem zd_Duel_afterCity_59 : decode zm_Duel_afterCity.2.1 59 = .ok (.iconst 0, 1) := by decide +kernel
theorem zd_Duel_afterCity_60 : decode zm_Duel_afterCity.2.1 60 = .ok (.istore 8, 2) := by decide +kernel
theorem zd_Duel_afterCity_62 : decode zm_Duel_afterCity.2.1 62 = .ok (.iload 8, 2) := by decide +kernel
theorem zd_Duel_afterCity_64 : decode zm_Duel_afterCity.2.1 64 = .ok (.aload_n 1, 1) := by decide +kernel
theorem zd_Duel_afterCity_65 : decode zm_Duel_afterCity.2.1 65 = .ok (.getfield 15, 3) := by decide +kernel
theorem zd_Duel_afterCity_68 : decode zm_Duel_afterCity.2.1 68 = .ok (.if_icmp .ge 72, 3) := by decide +kernel
theorem zd_Duel_afterCity_71 : decode zm_Duel_afterCity.2.1 71 = .ok (.iload 5, 2) := by decide +kernel
theorem zd_Duel_afterCity_73 : decode zm_Duel_afterCity.2.1 73 = .ok (.iload 4, 2) := by decide +kernel
theorem zd_Duel_afterCity_75 : decode zm_Duel_afterCity.2.1 75 = .ok (.if_icmp .ge 65, 3) := by decide +kernel
theorem zd_Duel_afterCity_78 : decode zm_Duel_afterCity.2.1 78 = .ok (.iload_n 3, 1) := by decide +kernel
theorem zd_Duel_afterCity_79 : decode zm_Duel_afterCity.2.1 79 = .ok (.iconst 1, 1) := by decide +kernel
theorem zd_Duel_afterCity_80 : decode zm_Duel_afterCity.2.1 80 = .ok (.if_icmp .ne 17, 3) := by decide +kernel
theorem zd_Duel_afterCity_83 : decode zm_Duel_afterCity.2.1 83 = .ok (.aload_n 1, 1) := by decide +kernel
theorem zd_Duel_afterCity_84 : decode zm_Duel_afterCity.2.1 84 = .ok (.iload 8, 2) := by decide +kernel
theorem zd_Duel_afterCity_86 : decode zm_Duel_afterCity.2.1 86 = .ok (.invokevirtual 55, 3) := by decide +kernel
theorem zd_Duel_afterCity_89 : decode zm_Duel_afterCity.2.1 89 = .ok (.iload 6, 2) := by decide +kernel
theorem zd_Duel_afterCity_91 : decode zm_Duel_afterCity.2.1 91 = .ok (.if_icmp .le 6, 3) := by decide +kernel
theorem zd_Duel_afterCity_94 : decode zm_Duel_afterCity.2.1 94 = .ok (.goto 40, 3) := by decide +kernel
theorem zd_Duel_afterCity_97 : decode zm_Duel_afterCity.2.1 97 = .ok (.aload_n 1, 1) := by decide +kernel
theorem zd_Duel_afterCity_98 : decode zm_Duel_afterCity.2.1 98 = .ok (.iload 7, 2) := by decide +kernel
theorem zd_Duel_afterCity_100 : decode zm_Duel_afterCity.2.1 100 = .ok (.iload 8, 2) := by decide +kernel
theorem zd_Duel_afterCity_102 : decode zm_Duel_afterCity.2.1 102 = .ok (.aload_n 2, 1) := by decide +kernel
theorem zd_Duel_afterCity_103 : decode zm_Duel_afterCity.2.1 103 = .ok (.invokevirtual 58, 3) := by decide +kernel
theorem zd_Duel_afterCity_106 : decode zm_Duel_afterCity.2.1 106 = .ok (.ifCond .lt 28, 3) := by decide +kernel
theorem zd_Duel_afterCity_109 : decode zm_Duel_afterCity.2.1 109 = .ok (.iload 5, 2) := by decide +kernel
theorem zd_Duel_afterCity_111 : decode zm_Duel_afterCity.2.1 111 = .ok (.aload_n 0, 1) := by decide +kernel
theorem zd_Duel_afterCity_112 : decode zm_Duel_afterCity.2.1 112 = .ok (.aload_n 1, 1) := by decide +kernel
theorem zd_Duel_afterCity_113 : decode zm_Duel_afterCity.2.1 113 = .ok (.aload_n 2, 1) := by decide +kernel
theorem zd_Duel_afterCity_114 : decode zm_Duel_afterCity.2.1 114 = .ok (.iload_n 3, 1) := by decide +kernel
theorem zd_Duel_afterCity_115 : decode zm_Duel_afterCity.2.1 115 = .ok (.iconst 1, 1) := by decide +kernel
theorem zd_Duel_afterCity_116 : decode zm_Duel_afterCity.2.1 116 = .ok (.isub, 1) := by decide +kernel
theorem zd_Duel_afterCity_117 : decode zm_Duel_afterCity.2.1 117 = .ok (.iload 5, 2) := by decide +kernel
theorem zd_Duel_afterCity_119 : decode zm_Duel_afterCity.2.1 119 = .ok (.invokevirtual 45, 3) := by decide +kernel
theorem zd_Duel_afterCity_122 : decode zm_Duel_afterCity.2.1 122 = .ok (.invokestatic 62, 3) := by decide +kernel
theorem zd_Duel_afterCity_125 : decode zm_Duel_afterCity.2.1 125 = .ok (.istore 5, 2) := by decide +kernel
theorem zd_Duel_afterCity_127 : decode zm_Duel_afterCity.2.1 127 = .ok (.aload_n 1, 1) := by decide +kernel
theorem zd_Duel_afterCity_128 : decode zm_Duel_afterCity.2.1 128 = .ok (.iload 7, 2) := by decide +kernel
theorem zd_Duel_afterCity_130 : decode zm_Duel_afterCity.2.1 130 = .ok (.iconst 0, 1) := by decide +kernel
theorem zd_Duel_afterCity_131 : decode zm_Duel_afterCity.2.1 131 = .ok (.invokevirtual 24, 3) := by decide +kernel
theorem zd_Duel_afterCity_134 : decode zm_Duel_afterCity.2.1 134 = .ok (.iinc 8 1, 3) := by decide +kernel
theorem zd_Duel_afterCity_137 : decode zm_Duel_afterCity.2.1 137 = .ok (.goto (-75), 3) := by decide +kernel
theorem zd_Duel_afterCity_140 : decode zm_Duel_afterCity.2.1 140 = .ok (.iinc 7 1, 3) := by decide +kernel
theorem zd_Duel_afterCity_143 : decode zm_Duel_afterCity.2.1 143 = .ok (.goto (-113), 3) := by decide +kernel
theorem zd_Duel_afterCity_146 : decode zm_Duel_afterCity.2.1 146 = .ok (.iload 5, 2) := by decide +kernel
theorem zd_Duel_afterCity_148 : decode zm_Duel_afterCity.2.1 148 = .ok (.ireturn, 1) := by decide +kernel
theorem zb_Duel_afterCity_0 {Γ : zG} {σ : zS} {r2 : Nat} {x3 x4 : Int32} (h_r2 : z_oR r2) (kt : ¬ x3 = 0 → z_J Γ zm_Duel_afterCity 9 [some (.inr (30)), some (.inr (43)), some (.inr (r2)), some (.inl (x3)), some (.inl (x4)), none, none, none, none] [] σ) (kf : x3 = 0 → z_J Γ zm_Duel_afterCity 4 [none, some (.inr (43)), none, none, none, none, none, none, none] [] σ) : z_J Γ zm_Duel_afterCity 0 [some (.inr (30)), some (.inr (43)), some (.inr (r2)), some (.inl (x3)), some (.inl (x4)), none, none, none, none] [] σ := by
  refine zj_iload_n zd_Duel_afterCity_0 rfl ?_
  exact zj_if_ne zd_Duel_afterCity_1 (by decide) (fun h => (kt h)) (fun h => (zj_weak (L' := [none, some (.inr (43)), none, none, none, none, none, none, none]) ⟨rfl, trivial⟩ (kf h)))
theorem zb_Duel_afterCity_4 {Γ : zG} {σ : zS} {dc : Nat} {P : Int32 → zS → Prop}  (hm : z_Ci dc zm_City_leastHeight [.inr (43)] σ P) (hdp : dc < z_dep Γ) (k : ∀ r σ1, P r σ1 → z_J Γ zm_Duel_afterCity 8 [none, none, none, none, none, none, none, none, none] [.inl (r)] σ1) : z_J Γ zm_Duel_afterCity 4 [none, some (.inr (43)), none, none, none, none, none, none, none] [] σ := by
  refine zj_aload_n zd_Duel_afterCity_4 rfl ?_
  exact zj_callVi (As := []) hm hdp rfl (by decide) rfl zl_Duel_35 zq_City_leastHeight zd_Duel_afterCity_5 rfl (Nat.le_of_ble_eq_true rfl) (fun r σ1 h => (zj_weak (L' := [none, none, none, none, none, none, none, none, none]) trivial (k r σ1 h)))
theorem zb_Duel_afterCity_8 {Γ : zG} {σ : zS} {y0 : Int32}  (e : z_end Γ (some (y0)) σ) : z_J Γ zm_Duel_afterCity 8 [none, none, none, none, none, none, none, none, none] [.inl (y0)] σ := by
  exact zj_ireturn rfl zd_Duel_afterCity_8 e
theorem zb_Duel_afterCity_9 {Γ : zG} {σ : zS} {r2 : Nat} {x3 x4 : Int32} {dc : Nat} {P : Int32 → zS → Prop} (h_r2 : z_oR r2) (hm : z_Ci dc zm_Duel_afterEnemy [.inr (30), .inr (43), .inr (r2), .inl (x3 - (nI 1)), .inl ((-1))] σ P) (hdp : dc < z_dep Γ) (k : ∀ r σ1, P r σ1 → z_J Γ zm_Duel_afterCity 19 [some (.inr (30)), some (.inr (43)), some (.inr (r2)), some (.inl (x3)), some (.inl (x4)), none, none, none, none] [.inl (r)] σ1) : z_J Γ zm_Duel_afterCity 9 [some (.inr (30)), some (.inr (43)), some (.inr (r2)), some (.inl (x3)), some (.inl (x4)), none, none, none, none] [] σ := by
  refine zj_aload_n zd_Duel_afterCity_9 rfl ?_
  refine zj_aload_n zd_Duel_afterCity_10 rfl ?_
  refine zj_aload_n zd_Duel_afterCity_11 rfl ?_
  refine zj_iload_n zd_Duel_afterCity_12 rfl ?_
  refine zj_iconst (v := nI 1) zd_Duel_afterCity_13 (by decide) ?_
  refine zj_isub zd_Duel_afterCity_14 ?_
  refine zj_iconst (v := (-1)) zd_Duel_afterCity_15 (by decide) ?_
  exact zj_callVi (As := [.inr (43), .inr (r2), .inl (x3 - (nI 1)), .inl ((-1))]) hm hdp rfl (by decide) rfl zl_Duel_45 zq_Duel_afterEnemy zd_Duel_afterCity_16 rfl (Nat.le_of_ble_eq_true rfl) (fun r σ1 h => (k r σ1 h))
theorem zb_Duel_afterCity_19 {Γ : zG} {σ : zS} {r2 : Nat} {x3 x4 y0 : Int32} {dc : Nat} {P : Int32 → zS → Prop} (h_r2 : z_oR r2) (hm : z_Ci dc zm_City_leastHeight [.inr (43)] σ P) (hdp : dc < z_dep Γ) (k : ∀ r σ1, P r σ1 → z_J Γ zm_Duel_afterCity 25 [some (.inr (30)), some (.inr (43)), some (.inr (r2)), some (.inl (x3)), some (.inl (x4)), some (.inl (y0)), none, none, none] [.inl (r)] σ1) : z_J Γ zm_Duel_afterCity 19 [some (.inr (30)), some (.inr (43)), some (.inr (r2)), some (.inl (x3)), some (.inl (x4)), none, none, none, none] [.inl (y0)] σ := by
  refine zj_istore (L' := [some (.inr (30)), some (.inr (43)), some (.inr (r2)), some (.inl (x3)), some (.inl (x4)), some (.inl (y0)), none, none, none]) zd_Duel_afterCity_19 (by decide) rfl ?_
  refine zj_aload_n zd_Duel_afterCity_21 rfl ?_
  exact zj_callVi (As := []) hm hdp rfl (by decide) rfl zl_Duel_35 zq_City_leastHeight zd_Duel_afterCity_22 rfl (Nat.le_of_ble_eq_true rfl) (fun r σ1 h => (k r σ1 h))
theorem zb_Duel_afterCity_25 {Γ : zG} {σ : zS} {r2 : Nat} {x3 x4 x5 y0 : Int32} (h_r2 : z_oR r2) (k : z_J Γ zm_Duel_afterCity 30 [some (.inr (30)), some (.inr (43)), some (.inr (r2)), some (.inl (x3)), some (.inl (x4)), some (.inl (x5)), some (.inl (y0)), some (.inl (nI 0)), none] [] σ) : z_J Γ zm_Duel_afterCity 25 [some (.inr (30)), some (.inr (43)), some (.inr (r2)), some (.inl (x3)), some (.inl (x4)), some (.inl (x5)), none, none, none] [.inl (y0)] σ := by
  refine zj_istore (L' := [some (.inr (30)), some (.inr (43)), some (.inr (r2)), some (.inl (x3)), some (.inl (x4)), some (.inl (x5)), some (.inl (y0)), none, none]) zd_Duel_afterCity_25 (by decide) rfl ?_
  refine zj_iconst (v := nI 0) zd_Duel_afterCity_27 (by decide) ?_
  refine zj_istore (L' := [some (.inr (30)), some (.inr (43)), some (.inr (r2)), some (.inl (x3)), some (.inl (x4)), some (.inl (x5)), some (.inl (y0)), some (.inl (nI 0)), none]) zd_Duel_afterCity_28 (by decide) rfl ?_
  exact k
theorem zb_Duel_afterCity_30 {Γ : zG} {σ : zS} {r2 : Nat} {x3 x4 x5 x6 x7 : Int32} (h_r2 : z_oR r2) (kt : (σ.1 43 0) ≤ x7 → z_J Γ zm_Duel_afterCity 146 [none, none, none, none, none, some (.inl (x5)), none, none, none] [] σ) (kf : ¬ (σ.1 43 0) ≤ x7 → z_J Γ zm_Duel_afterCity 39 [some (.inr (30)), some (.inr (43)), some (.inr (r2)), some (.inl (x3)), some (.inl (x4)), some (.inl (x5)), some (.inl (x6)), some (.inl (x7)), none] [] σ) : z_J Γ zm_Duel_afterCity 30 [some (.inr (30)), some (.inr (43)), some (.inr (r2)), some (.inl (x3)), some (.inl (x4)), some (.inl (x5)), some (.inl (x6)), some (.inl (x7)), none] [] σ := by
  refine zj_iload zd_Duel_afterCity_30 rfl ?_
  refine zj_aload_n zd_Duel_afterCity_32 rfl ?_
  refine zj_getI rfl (by decide) rfl zu_City (k := 0) (by decide) rfl zl_Duel_48 zd_Duel_afterCity_33 ?_
  exact zj_icmp_ge zd_Duel_afterCity_36 (by decide) (fun h => (zj_weak (L' := [none, none, none, none, none, some (.inl (x5)), none, none, none]) ⟨rfl, trivial⟩ (kt h))) (fun h => (kf h))
theorem zb_Duel_afterCity_39 {Γ : zG} {σ : zS} {r2 : Nat} {x3 x4 x5 x6 x7 : Int32} (h_r2 : z_oR r2) (kt : x4 ≤ x5 → z_J Γ zm_Duel_afterCity 146 [none, none, none, none, none, some (.inl (x5)), none, none, none] [] σ) (kf : ¬ x4 ≤ x5 → z_J Γ zm_Duel_afterCity 46 [some (.inr (30)), some (.inr (43)), some (.inr (r2)), some (.inl (x3)), some (.inl (x4)), some (.inl (x5)), some (.inl (x6)), some (.inl (x7)), none] [] σ) : z_J Γ zm_Duel_afterCity 39 [some (.inr (30)), some (.inr (43)), some (.inr (r2)), some (.inl (x3)), some (.inl (x4)), some (.inl (x5)), some (.inl (x6)), some (.inl (x7)), none] [] σ := by
  refine zj_iload zd_Duel_afterCity_39 rfl ?_
  refine zj_iload zd_Duel_afterCity_41 rfl ?_
  exact zj_icmp_ge zd_Duel_afterCity_43 (by decide) (fun h => (zj_weak (L' := [none, none, none, none, none, some (.inl (x5)), none, none, none]) ⟨rfl, trivial⟩ (kt h))) (fun h => (kf h))
theorem zb_Duel_afterCity_46 {Γ : zG} {σ : zS} {r2 : Nat} {x3 x4 x5 x6 x7 : Int32} {k1 : Nat} (h_r2 : z_oR r2) (b1 : z_ix x7 12 k1) (kt : (σ.1 46 k1) = 0 → z_J Γ zm_Duel_afterCity 59 [some (.inr (30)), some (.inr (43)), some (.inr (r2)), some (.inl (x3)), some (.inl (x4)), some (.inl (x5)), some (.inl (x6)), some (.inl (x7)), none] [] σ) (kf : ¬ (σ.1 46 k1) = 0 → z_J Γ zm_Duel_afterCity 56 [some (.inr (30)), some (.inr (43)), some (.inr (r2)), some (.inl (x3)), some (.inl (x4)), some (.inl (x5)), some (.inl (x6)), some (.inl (x7)), none] [] σ) : z_J Γ zm_Duel_afterCity 46 [some (.inr (30)), some (.inr (43)), some (.inr (r2)), some (.inl (x3)), some (.inl (x4)), some (.inl (x5)), some (.inl (x6)), some (.inl (x7)), none] [] σ := by
  refine zj_aload_n zd_Duel_afterCity_46 rfl ?_
  refine zj_getR rfl (by decide) rfl zu_City (k := 3) (by decide) rfl zl_Duel_51 zd_Duel_afterCity_47 (o' := 46) rfl ?_
  refine zj_iload zd_Duel_afterCity_50 rfl ?_
  refine zj_iaload rfl (by decide) b1 zd_Duel_afterCity_52 ?_
  exact zj_if_eq zd_Duel_afterCity_53 (by decide) (fun h => (kt h)) (fun h => (kf h))
theorem zb_Duel_afterCity_56 {Γ : zG} {σ : zS} {r2 : Nat} {x3 x4 x5 x6 x7 : Int32} (h_r2 : z_oR r2) (k : z_J Γ zm_Duel_afterCity 140 [some (.inr (30)), some (.inr (43)), some (.inr (r2)), some (.inl (x3)), some (.inl (x4)), some (.inl (x5)), some (.inl (x6)), some (.inl (x7)), none] [] σ) : z_J Γ zm_Duel_afterCity 56 [some (.inr (30)), some (.inr (43)), some (.inr (r2)), some (.inl (x3)), some (.inl (x4)), some (.inl (x5)), some (.inl (x6)), some (.inl (x7)), none] [] σ := by
  exact zj_goto zd_Duel_afterCity_56 (by decide) k
theorem zb_Duel_afterCity_59 {Γ : zG} {σ : zS} {r2 : Nat} {x3 x4 x5 x6 x7 : Int32} (h_r2 : z_oR r2) (k : z_J Γ zm_Duel_afterCity 62 [some (.inr (30)), some (.inr (43)), some (.inr (r2)), some (.inl (x3)), some (.inl (x4)), some (.inl (x5)), some (.inl (x6)), some (.inl (x7)), some (.inl (nI 0))] [] σ) : z_J Γ zm_Duel_afterCity 59 [some (.inr (30)), some (.inr (43)), some (.inr (r2)), some (.inl (x3)), some (.inl (x4)), some (.inl (x5)), some (.inl (x6)), some (.inl (x7)), none] [] σ := by
  refine zj_iconst (v := nI 0) zd_Duel_afterCity_59 (by decide) ?_
  refine zj_istore (L' := [some (.inr (30)), some (.inr (43)), some (.inr (r2)), some (.inl (x3)), some (.inl (x4)), some (.inl (x5)), some (.inl (x6)), some (.inl (x7)), some (.inl (nI 0))]) zd_Duel_afterCity_60 (by decide) rfl ?_
  exact k
theorem zb_Duel_afterCity_62 {Γ : zG} {σ : zS} {r2 : Nat} {x3 x4 x5 x6 x7 x8 : Int32} (h_r2 : z_oR r2) (kt : (σ.1 43 6) ≤ x8 → z_J Γ zm_Duel_afterCity 140 [some (.inr (30)), some (.inr (43)), some (.inr (r2)), some (.inl (x3)), some (.inl (x4)), some (.inl (x5)), some (.inl (x6)), some (.inl (x7)), none] [] σ) (kf : ¬ (σ.1 43 6) ≤ x8 → z_J Γ zm_Duel_afterCity 71 [some (.inr (30)), some (.inr (43)), some (.inr (r2)), some (.inl (x3)), some (.inl (x4)), some (.inl (x5)), some (.inl (x6)), some (.inl (x7)), some (.inl (x8))] [] σ) : z_J Γ zm_Duel_afterCity 62 [some (.inr (30)), some (.inr (43)), some (.inr (r2)), some (.inl (x3)), some (.inl (x4)), some (.inl (x5)), some (.inl (x6)), some (.inl (x7)), some (.inl (x8))] [] σ := by
  refine zj_iload zd_Duel_afterCity_62 rfl ?_
  refine zj_aload_n zd_Duel_afterCity_64 rfl ?_
  refine zj_getI rfl (by decide) rfl zu_City (k := 6) (by decide) rfl zl_Duel_15 zd_Duel_afterCity_65 ?_
  exact zj_icmp_ge zd_Duel_afterCity_68 (by decide) (fun h => (zj_weak (L' := [some (.inr (30)), some (.inr (43)), some (.inr (r2)), some (.inl (x3)), some (.inl (x4)), some (.inl (x5)), some (.inl (x6)), some (.inl (x7)), none]) ⟨rfl, ⟨rfl, ⟨rfl, ⟨rfl, ⟨rfl, ⟨rfl, ⟨rfl, ⟨rfl, trivial⟩⟩⟩⟩⟩⟩⟩⟩ (kt h))) (fun h => (kf h))
theorem zb_Duel_afterCity_71 {Γ : zG} {σ : zS} {r2 : Nat} {x3 x4 x5 x6 x7 x8 : Int32} (h_r2 : z_oR r2) (kt : x4 ≤ x5 → z_J Γ zm_Duel_afterCity 140 [some (.inr (30)), some (.inr (43)), some (.inr (r2)), some (.inl (x3)), some (.inl (x4)), some (.inl (x5)), some (.inl (x6)), some (.inl (x7)), none] [] σ) (kf : ¬ x4 ≤ x5 → z_J Γ zm_Duel_afterCity 78 [some (.inr (30)), some (.inr (43)), some (.inr (r2)), some (.inl (x3)), some (.inl (x4)), some (.inl (x5)), some (.inl (x6)), some (.inl (x7)), some (.inl (x8))] [] σ) : z_J Γ zm_Duel_afterCity 71 [some (.inr (30)), some (.inr (43)), some (.inr (r2)), some (.inl (x3)), some (.inl (x4)), some (.inl (x5)), some (.inl (x6)), some (.inl (x7)), some (.inl (x8))] [] σ := by
  refine zj_iload zd_Duel_afterCity_71 rfl ?_
  refine zj_iload zd_Duel_afterCity_73 rfl ?_
  exact zj_icmp_ge zd_Duel_afterCity_75 (by decide) (fun h => (zj_weak (L' := [some (.inr (30)), some (.inr (43)), some (.inr (r2)), some (.inl (x3)), some (.inl (x4)), some (.inl (x5)), some (.inl (x6)), some (.inl (x7)), none]) ⟨rfl, ⟨rfl, ⟨rfl, ⟨rfl, ⟨rfl, ⟨rfl, ⟨rfl, ⟨rfl, trivial⟩⟩⟩⟩⟩⟩⟩⟩ (kt h))) (fun h => (kf h))
theorem zb_Duel_afterCity_78 {Γ : zG} {σ : zS} {r2 : Nat} {x3 x4 x5 x6 x7 x8 : Int32} (h_r2 : z_oR r2) (kt : ¬ x3 = (nI 1) → z_J Γ zm_Duel_afterCity 97 [some (.inr (30)), some (.inr (43)), some (.inr (r2)), some (.inl (x3)), some (.inl (x4)), some (.inl (x5)), some (.inl (x6)), some (.inl (x7)), some (.inl (x8))] [] σ) (kf : x3 = (nI 1) → z_J Γ zm_Duel_afterCity 83 [some (.inr (30)), some (.inr (43)), some (.inr (r2)), some (.inl (x3)), some (.inl (x4)), some (.inl (x5)), some (.inl (x6)), some (.inl (x7)), some (.inl (x8))] [] σ) : z_J Γ zm_Duel_afterCity 78 [some (.inr (30)), some (.inr (43)), some (.inr (r2)), some (.inl (x3)), some (.inl (x4)), some (.inl (x5)), some (.inl (x6)), some (.inl (x7)), some (.inl (x8))] [] σ := by
  refine zj_iload_n zd_Duel_afterCity_78 rfl ?_
  refine zj_iconst (v := nI 1) zd_Duel_afterCity_79 (by decide) ?_
  exact zj_icmp_ne zd_Duel_afterCity_80 (by decide) (fun h => (kt h)) (fun h => (kf h))
theorem zb_Duel_afterCity_83 {Γ : zG} {σ : zS} {r2 : Nat} {x3 x4 x5 x6 x7 x8 : Int32} {dc : Nat} {P : Int32 → zS → Prop} (h_r2 : z_oR r2) (hm : z_Ci dc zm_City_heightOf [.inr (43), .inl (x8)] σ P) (hdp : dc < z_dep Γ) (k : ∀ r σ1, P r σ1 → z_J Γ zm_Duel_afterCity 89 [some (.inr (30)), some (.inr (43)), some (.inr (r2)), some (.inl (x3)), some (.inl (x4)), some (.inl (x5)), some (.inl (x6)), some (.inl (x7)), some (.inl (x8))] [.inl (r)] σ1) : z_J Γ zm_Duel_afterCity 83 [some (.inr (30)), some (.inr (43)), some (.inr (r2)), some (.inl (x3)), some (.inl (x4)), some (.inl (x5)), some (.inl (x6)), some (.inl (x7)), some (.inl (x8))] [] σ := by
  refine zj_aload_n zd_Duel_afterCity_83 rfl ?_
  refine zj_iload zd_Duel_afterCity_84 rfl ?_
  exact zj_callVi (As := [.inl (x8)]) hm hdp rfl (by decide) rfl zl_Duel_55 zq_City_heightOf zd_Duel_afterCity_86 rfl (Nat.le_of_ble_eq_true rfl) (fun r σ1 h => (k r σ1 h))
theorem zb_Duel_afterCity_89 {Γ : zG} {σ : zS} {r2 : Nat} {x3 x4 x5 x6 x7 x8 y0 : Int32} (h_r2 : z_oR r2) (kt : y0 ≤ x6 → z_J Γ zm_Duel_afterCity 97 [some (.inr (30)), some (.inr (43)), some (.inr (r2)), some (.inl (x3)), some (.inl (x4)), some (.inl (x5)), some (.inl (x6)), some (.inl (x7)), some (.inl (x8))] [] σ) (kf : ¬ y0 ≤ x6 → z_J Γ zm_Duel_afterCity 94 [some (.inr (30)), some (.inr (43)), some (.inr (r2)), some (.inl (x3)), some (.inl (x4)), some (.inl (x5)), some (.inl (x6)), some (.inl (x7)), some (.inl (x8))] [] σ) : z_J Γ zm_Duel_afterCity 89 [some (.inr (30)), some (.inr (43)), some (.inr (r2)), some (.inl (x3)), some (.inl (x4)), some (.inl (x5)), some (.inl (x6)), some (.inl (x7)), some (.inl (x8))] [.inl (y0)] σ := by
  refine zj_iload zd_Duel_afterCity_89 rfl ?_
  exact zj_icmp_le zd_Duel_afterCity_91 (by decide) (fun h => (kt h)) (fun h => (kf h))
theorem zb_Duel_afterCity_94 {Γ : zG} {σ : zS} {r2 : Nat} {x3 x4 x5 x6 x7 x8 : Int32} (h_r2 : z_oR r2) (k : z_J Γ zm_Duel_afterCity 134 [some (.inr (30)), some (.inr (43)), some (.inr (r2)), some (.inl (x3)), some (.inl (x4)), some (.inl (x5)), some (.inl (x6)), some (.inl (x7)), some (.inl (x8))] [] σ) : z_J Γ zm_Duel_afterCity 94 [some (.inr (30)), some (.inr (43)), some (.inr (r2)), some (.inl (x3)), some (.inl (x4)), some (.inl (x5)), some (.inl (x6)), some (.inl (x7)), some (.inl (x8))] [] σ := by
  exact zj_goto zd_Duel_afterCity_94 (by decide) k
theorem zb_Duel_afterCity_97 {Γ : zG} {σ : zS} {r2 : Nat} {x3 x4 x5 x6 x7 x8 : Int32} {dc : Nat} {P : Int32 → zS → Prop} (h_r2 : z_oR r2) (hm : z_Ci dc zm_City_layOn [.inr (43), .inl (x7), .inl (x8), .inr (r2)] σ P) (hdp : dc < z_dep Γ) (k : ∀ r σ1, P r σ1 → z_J Γ zm_Duel_afterCity 106 [some (.inr (30)), some (.inr (43)), some (.inr (r2)), some (.inl (x3)), some (.inl (x4)), some (.inl (x5)), some (.inl (x6)), some (.inl (x7)), some (.inl (x8))] [.inl (r)] σ1) : z_J Γ zm_Duel_afterCity 97 [some (.inr (30)), some (.inr (43)), some (.inr (r2)), some (.inl (x3)), some (.inl (x4)), some (.inl (x5)), some (.inl (x6)), some (.inl (x7)), some (.inl (x8))] [] σ := by
  refine zj_aload_n zd_Duel_afterCity_97 rfl ?_
  refine zj_iload zd_Duel_afterCity_98 rfl ?_
  refine zj_iload zd_Duel_afterCity_100 rfl ?_
  refine zj_aload_n zd_Duel_afterCity_102 rfl ?_
  exact zj_callVi (As := [.inl (x7), .inl (x8), .inr (r2)]) hm hdp rfl (by decide) rfl zl_Duel_58 zq_City_layOn zd_Duel_afterCity_103 rfl (Nat.le_of_ble_eq_true rfl) (fun r σ1 h => (k r σ1 h))
theorem zb_Duel_afterCity_106 {Γ : zG} {σ : zS} {r2 : Nat} {x3 x4 x5 x6 x7 x8 y0 : Int32} (h_r2 : z_oR r2) (kt : y0 < 0 → z_J Γ zm_Duel_afterCity 134 [some (.inr (30)), some (.inr (43)), some (.inr (r2)), some (.inl (x3)), some (.inl (x4)), some (.inl (x5)), some (.inl (x6)), some (.inl (x7)), some (.inl (x8))] [] σ) (kf : ¬ y0 < 0 → z_J Γ zm_Duel_afterCity 109 [some (.inr (30)), some (.inr (43)), some (.inr (r2)), some (.inl (x3)), some (.inl (x4)), some (.inl (x5)), some (.inl (x6)), some (.inl (x7)), some (.inl (x8))] [] σ) : z_J Γ zm_Duel_afterCity 106 [some (.inr (30)), some (.inr (43)), some (.inr (r2)), some (.inl (x3)), some (.inl (x4)), some (.inl (x5)), some (.inl (x6)), some (.inl (x7)), some (.inl (x8))] [.inl (y0)] σ := by
  exact zj_if_lt zd_Duel_afterCity_106 (by decide) (fun h => (kt h)) (fun h => (kf h))
theorem zb_Duel_afterCity_109 {Γ : zG} {σ : zS} {r2 : Nat} {x3 x4 x5 x6 x7 x8 : Int32} {dc : Nat} {P : Int32 → zS → Prop} (h_r2 : z_oR r2) (hm : z_Ci dc zm_Duel_afterEnemy [.inr (30), .inr (43), .inr (r2), .inl (x3 - (nI 1)), .inl (x5)] σ P) (hdp : dc < z_dep Γ) (k : ∀ r σ1, P r σ1 → z_J Γ zm_Duel_afterCity 122 [some (.inr (30)), some (.inr (43)), some (.inr (r2)), some (.inl (x3)), some (.inl (x4)), none, some (.inl (x6)), some (.inl (x7)), some (.inl (x8))] [.inl (r), .inl (x5)] σ1) : z_J Γ zm_Duel_afterCity 109 [some (.inr (30)), some (.inr (43)), some (.inr (r2)), some (.inl (x3)), some (.inl (x4)), some (.inl (x5)), some (.inl (x6)), some (.inl (x7)), some (.inl (x8))] [] σ := by
  refine zj_iload zd_Duel_afterCity_109 rfl ?_
  refine zj_aload_n zd_Duel_afterCity_111 rfl ?_
  refine zj_aload_n zd_Duel_afterCity_112 rfl ?_
  refine zj_aload_n zd_Duel_afterCity_113 rfl ?_
  refine zj_iload_n zd_Duel_afterCity_114 rfl ?_
  refine zj_iconst (v := nI 1) zd_Duel_afterCity_115 (by decide) ?_
  refine zj_isub zd_Duel_afterCity_116 ?_
  refine zj_iload zd_Duel_afterCity_117 rfl ?_
  exact zj_callVi (As := [.inr (43), .inr (r2), .inl (x3 - (nI 1)), .inl (x5)]) hm hdp rfl (by decide) rfl zl_Duel_45 zq_Duel_afterEnemy zd_Duel_afterCity_119 rfl (Nat.le_of_ble_eq_true rfl) (fun r σ1 h => (zj_weak (L' := [some (.inr (30)), some (.inr (43)), some (.inr (r2)), some (.inl (x3)), some (.inl (x4)), none, some (.inl (x6)), some (.inl (x7)), some (.inl (x8))]) ⟨rfl, ⟨rfl, ⟨rfl, ⟨rfl, ⟨rfl, ⟨rfl, ⟨rfl, ⟨rfl, trivial⟩⟩⟩⟩⟩⟩⟩⟩ (k r σ1 h)))
theorem zb_Duel_afterCity_122 {Γ : zG} {σ : zS} {r2 : Nat} {x3 x4 x6 x7 x8 y0 y1 : Int32} {dc : Nat} {P : zS → Prop} (h_r2 : z_oR r2) (hm : z_Cv dc zm_City_lift [.inr (43), .inl (x7), .inl (nI 0)] σ P) (hdp : dc < z_dep Γ) (k : ∀ σ1, P σ1 → z_J Γ zm_Duel_afterCity 134 [some (.inr (30)), some (.inr (43)), some (.inr (r2)), some (.inl (x3)), some (.inl (x4)), some (.inl (z_max y1 y0)), some (.inl (x6)), some (.inl (x7)), some (.inl (x8))] [] σ1) : z_J Γ zm_Duel_afterCity 122 [some (.inr (30)), some (.inr (43)), some (.inr (r2)), some (.inl (x3)), some (.inl (x4)), none, some (.inl (x6)), some (.inl (x7)), some (.inl (x8))] [.inl (y0), .inl (y1)] σ := by
  refine zj_mmax zl_Duel_62 zx_max_s zx_Math zx_max_c (Nat.lt_of_le_of_lt (Nat.zero_le _) hdp) (Nat.le_of_ble_eq_true rfl) zd_Duel_afterCity_122 ?_
  refine zj_istore (L' := [some (.inr (30)), some (.inr (43)), some (.inr (r2)), some (.inl (x3)), some (.inl (x4)), some (.inl (z_max y1 y0)), some (.inl (x6)), some (.inl (x7)), some (.inl (x8))]) zd_Duel_afterCity_125 (by decide) rfl ?_
  refine zj_aload_n zd_Duel_afterCity_127 rfl ?_
  refine zj_iload zd_Duel_afterCity_128 rfl ?_
  refine zj_iconst (v := nI 0) zd_Duel_afterCity_130 (by decide) ?_
  exact zj_callVv (As := [.inl (x7), .inl (nI 0)]) hm hdp rfl (by decide) rfl zl_Duel_24 zq_City_lift zd_Duel_afterCity_131 rfl (Nat.le_of_ble_eq_true rfl) (fun σ1 h => (k σ1 h))
theorem zb_Duel_afterCity_134 {Γ : zG} {σ : zS} {r2 : Nat} {x3 x4 x5 x6 x7 x8 : Int32} (h_r2 : z_oR r2) (k : z_J Γ zm_Duel_afterCity 62 [some (.inr (30)), some (.inr (43)), some (.inr (r2)), some (.inl (x3)), some (.inl (x4)), some (.inl (x5)), some (.inl (x6)), some (.inl (x7)), some (.inl (x8 + nI 1))] [] σ) : z_J Γ zm_Duel_afterCity 134 [some (.inr (30)), some (.inr (43)), some (.inr (r2)), some (.inl (x3)), some (.inl (x4)), some (.inl (x5)), some (.inl (x6)), some (.inl (x7)), some (.inl (x8))] [] σ := by
  refine zj_iinc (v := nI 1) (L' := [some (.inr (30)), some (.inr (43)), some (.inr (r2)), some (.inl (x3)), some (.inl (x4)), some (.inl (x5)), some (.inl (x6)), some (.inl (x7)), some (.inl (x8 + nI 1))]) zd_Duel_afterCity_134 rfl (by decide) (by decide) rfl ?_
  exact zj_goto zd_Duel_afterCity_137 (by decide) k
theorem zb_Duel_afterCity_140 {Γ : zG} {σ : zS} {r2 : Nat} {x3 x4 x5 x6 x7 : Int32} (h_r2 : z_oR r2) (k : z_J Γ zm_Duel_afterCity 30 [some (.inr (30)), some (.inr (43)), some (.inr (r2)), some (.inl (x3)), some (.inl (x4)), some (.inl (x5)), some (.inl (x6)), some (.inl (x7 + nI 1)), none] [] σ) : z_J Γ zm_Duel_afterCity 140 [some (.inr (30)), some (.inr (43)), some (.inr (r2)), some (.inl (x3)), some (.inl (x4)), some (.inl (x5)), some (.inl (x6)), some (.inl (x7)), none] [] σ := by
  refine zj_iinc (v := nI 1) (L' := [some (.inr (30)), some (.inr (43)), some (.inr (r2)), some (.inl (x3)), some (.inl (x4)), some (.inl (x5)), some (.inl (x6)), some (.inl (x7 + nI 1)), none]) zd_Duel_afterCity_140 rfl (by decide) (by decide) rfl ?_
  exact zj_goto zd_Duel_afterCity_143 (by decide) k
theorem zb_Duel_afterCity_146 {Γ : zG} {σ : zS} {x5 : Int32}  (e : z_end Γ (some (x5)) σ) : z_J Γ zm_Duel_afterCity 146 [none, none, none, none, none, some (.inl (x5)), none, none, none] [] σ := by
  refine zj_iload zd_Duel_afterCity_146 rfl ?_
  exact zj_ireturn rfl zd_Duel_afterCity_148 e
theorem zd_Duel_afterEnemy_0 : decode zm_Duel_afterEnemy.2.1 0 = .ok (.iload_n 3, 1) := by decide +kernel
theorem zd_Duel_afterEnemy_1 : decode zm_Duel_afterEnemy.2.1 1 = .ok (.ifCond .ne 8, 3) := by decide +kernel
theorem zd_Duel_afterEnemy_4 : decode zm_Duel_afterEnemy.2.1 4 = .ok (.aload_n 1, 1) := by decide +kernel
theorem zd_Duel_afterEnemy_5 : decode zm_Duel_afterEnemy.2.1 5 = .ok (.invokevirtual 35, 3) := by decide +kernel
theorem zd_Duel_afterEnemy_8 : decode zm_Duel_afterEnemy.2.1 8 = .ok (.ireturn, 1) := by decide +kernel
theorem zd_Duel_afterEnemy_9 : decode zm_Duel_afterEnemy.2.1 9 = .ok (.bipush 100, 2) := by decide +kernel
theorem zd_Duel_afterEnemy_11 : decode zm_Duel_afterEnemy.2.1 11 = .ok (.istore 5, 2) := by decide +kernel
theorem zd_Duel_afterEnemy_13 : decode zm_Duel_afterEnemy.2.1 13 = .ok (.iconst 0, 1) := by decide +kernel
theorem zd_Duel_afterEnemy_14 : decode zm_Duel_afterEnemy.2.1 14 = .ok (.istore 6, 2) := by decide +kernel
theorem zd_Duel_afterEnemy_16 : decode zm_Duel_afterEnemy.2.1 16 = .ok (.iconst 0, 1) := by decide +kernel
theorem zd_Duel_afterEnemy_17 : decode zm_Duel_afterEnemy.2.1 17 = .ok (.istore 7, 2) := by decide +kernel
theorem zd_Duel_afterEnemy_19 : decode zm_Duel_afterEnemy.2.1 19 = .ok (.iload 7, 2) := by decide +kernel
theorem zd_Duel_afterEnemy_21 : decode zm_Duel_afterEnemy.2.1 21 = .ok (.aload_n 1, 1) := by decide +kernel
theorem zd_Duel_afterEnemy_22 : decode zm_Duel_afterEnemy.2.1 22 = .ok (.getfield 15, 3) := by decide +kernel
theorem zd_Duel_afterEnemy_25 : decode zm_Duel_afterEnemy.2.1 25 = .ok (.if_icmp .ge 69, 3) := by decide +kernel
theorem zd_Duel_afterEnemy_28 : decode zm_Duel_afterEnemy.2.1 28 = .ok (.iload 5, 2) := by decide +kernel
theorem zd_Duel_afterEnemy_30 : decode zm_Duel_afterEnemy.2.1 30 = .ok (.iload 4, 2) := by decide +kernel
theorem zd_Duel_afterEnemy_32 : decode zm_Duel_afterEnemy.2.1 32 = .ok (.if_icmp .le 62, 3) := by decide +kernel
theorem zd_Duel_afterEnemy_35 : decode zm_Duel_afterEnemy.2.1 35 = .ok (.aload_n 1, 1) := by decide +kernel
theorem zd_Duel_afterEnemy_36 : decode zm_Duel_afterEnemy.2.1 36 = .ok (.iload 7, 2) := by decide +kernel
theorem zd_Duel_afterEnemy_38 : decode zm_Duel_afterEnemy.2.1 38 = .ok (.invokevirtual 20, 3) := by decide +kernel
theorem zd_Duel_afterEnemy_41 : decode zm_Duel_afterEnemy.2.1 41 = .ok (.istore 8, 2) := by decide +kernel
theorem zd_Duel_afterEnemy_43 : decode zm_Duel_afterEnemy.2.1 43 = .ok (.iload 8, 2) := by decide +kernel
theorem zd_Duel_afterEnemy_45 : decode zm_Duel_afterEnemy.2.1 45 = .ok (.iconst (-1), 1) := by decide +kernel
theorem zd_Duel_afterEnemy_46 : decode zm_Duel_afterEnemy.2.1 46 = .ok (.if_icmp .ne 6, 3) := by decide +kernel
theorem zd_Duel_afterEnemy_49 : decode zm_Duel_afterEnemy.2.1 49 = .ok (.goto 39, 3) := by decide +kernel
theorem zd_Duel_afterEnemy_52 : decode zm_Duel_afterEnemy.2.1 52 = .ok (.iconst 1, 1) := by decide +kernel
theorem zd_Duel_afterEnemy_53 : decode zm_Duel_afterEnemy.2.1 53 = .ok (.istore 6, 2) := by decide +kernel
theorem zd_Duel_afterEnemy_55 : decode zm_Duel_afterEnemy.2.1 55 = .ok (.aload_n 1, 1) := by decide +kernel
theorem zd_Duel_afterEnemy_56 : decode zm_Duel_afterEnemy.2.1 56 = .ok (.iload 8, 2) := by decide +kernel
theorem zd_Duel_afterEnemy_58 : decode zm_Duel_afterEnemy.2.1 58 = .ok (.iconst 3, 1) := by decide +kernel
theorem zd_Duel_afterEnemy_59 : decode zm_Duel_afterEnemy.2.1 59 = .ok (.invokevirtual 24, 3) := by decide +kernel
theorem zd_Duel_afterEnemy_62 : decode zm_Duel_afterEnemy.2.1 62 = .ok (.iload 5, 2) := by decide +kernel
theorem zd_Duel_afterEnemy_64 : decode zm_Duel_afterEnemy.2.1 64 = .ok (.aload_n 0, 1) := by decide +kernel
theorem zd_Duel_afterEnemy_65 : decode zm_Duel_afterEnemy.2.1 65 = .ok (.aload_n 1, 1) := by decide +kernel
theorem zd_Duel_afterEnemy_66 : decode zm_Duel_afterEnemy.2.1 66 = .ok (.aload_n 2, 1) := by decide +kernel
theorem zd_Duel_afterEnemy_67 : decode zm_Duel_afterEnemy.2.1 67 = .ok (.iload_n 3, 1) := by decide +kernel
theorem zd_Duel_afterEnemy_68 : decode zm_Duel_afterEnemy.2.1 68 = .ok (.iconst 1, 1) := by decide +kernel
theorem zd_Duel_afterEnemy_69 : decode zm_Duel_afterEnemy.2.1 69 = .ok (.isub, 1) := by decide +kernel
theorem zd_Duel_afterEnemy_70 : decode zm_Duel_afterEnemy.2.1 70 = .ok (.iload 5, 2) := by decide +kernel
theorem zd_Duel_afterEnemy_72 : decode zm_Duel_afterEnemy.2.1 72 = .ok (.invokevirtual 28, 3) := by decide +kernel
theorem zd_Duel_afterEnemy_75 : decode zm_Duel_afterEnemy.2.1 75 = .ok (.invokestatic 39, 3) := by decide +kernel
theorem zd_Duel_afterEnemy_78 : decode zm_Duel_afterEnemy.2.1 78 = .ok (.istore 5, 2) := by decide +kernel
theorem zd_Duel_afterEnemy_80 : decode zm_Duel_afterEnemy.2.1 80 = .ok (.aload_n 1, 1) := by decide +kernel
theorem zd_Duel_afterEnemy_81 : decode zm_Duel_afterEnemy.2.1 81 = .ok (.iload 8, 2) := by decide +kernel
theorem zd_Duel_afterEnemy_83 : decode zm_Duel_afterEnemy.2.1 83 = .ok (.iload 7, 2) := by decide +kernel
theorem zd_Duel_afterEnemy_85 : decode zm_Duel_afterEnemy.2.1 85 = .ok (.invokevirtual 32, 3) := by decide +kernel
theorem zd_Duel_afterEnemy_88 : decode zm_Duel_afterEnemy.2.1 88 = .ok (.iinc 7 1, 3) := by decide +kernel
theorem zd_Duel_afterEnemy_91 : decode zm_Duel_afterEnemy.2.1 91 = .ok (.goto (-72), 3) := by decide +kernel
theorem zd_Duel_afterEnemy_94 : decode zm_Duel_afterEnemy.2.1 94 = .ok (.iload 6, 2) := by decide +kernel
theorem zd_Duel_afterEnemy_96 : decode zm_Duel_afterEnemy.2.1 96 = .ok (.ifCond .eq 8, 3) := by decide +kernel
theorem zd_Duel_afterEnemy_99 : decode zm_Duel_afterEnemy.2.1 99 = .ok (.iload 5, 2) := by decide +kernel
theorem zd_Duel_afterEnemy_101 : decode zm_Duel_afterEnemy.2.1 101 = .ok (.goto 14, 3) := by decide +kernel
theorem zd_Duel_afterEnemy_104 : decode zm_Duel_afterEnemy.2.1 104 = .ok (.aload_n 0, 1) := by decide +kernel
theorem zd_Duel_afterEnemy_105 : decode zm_Duel_afterEnemy.2.1 105 = .ok (.aload_n 1, 1) := by decide +kernel
theorem zd_Duel_afterEnemy_106 : decode zm_Duel_afterEnemy.2.1 106 = .ok (.aload_n 2, 1) := by decide +kernel
theorem zd_Duel_afterEnemy_107 : decode zm_Duel_afterEnemy.2.1 107 = .ok (.iload_n 3, 1) := by decide +kernel
theorem zd_Duel_afterEnemy_108 : decode zm_Duel_afterEnemy.2.1 108 = .ok (.iconst 1, 1) := by decide +kernel
theorem zd_Duel_afterEnemy_109 : decode zm_Duel_afterEnemy.2.1 109 = .ok (.isub, 1) := by decide +kernel
theorem zd_Duel_afterEnemy_110 : decode zm_Duel_afterEnemy.2.1 110 = .ok (.iload 5, 2) := by decide +kernel
theorem zd_Duel_afterEnemy_112 : decode zm_Duel_afterEnemy.2.1 112 = .ok (.invokevirtual 28, 3) := by decide +kernel
theorem zd_Duel_afterEnemy_115 : decode zm_Duel_afterEnemy.2.1 115 = .ok (.ireturn, 1) := by decide +kernel
theorem zb_Duel_afterEnemy_0 {Γ : zG} {σ : zS} {r2 : Nat} {x3 x4 : Int32} (h_r2 : z_oR r2) (kt : ¬ x3 = 0 → z_J Γ zm_Duel_afterEnemy 9 [some (.inr (30)), some (.inr (43)), some (.inr (r2)), some (.inl (x3)), some (.inl (x4)), none, none, none, none] [] σ) (kf : x3 = 0 → z_J Γ zm_Duel_afterEnemy 4 [none, some (.inr (43)), none, none, none, none, none, none, none] [] σ) : z_J Γ zm_Duel_afterEnemy 0 [some (.inr (30)), some (.inr (43)), some (.inr (r2)), some (.inl (x3)), some (.inl (x4)), none, none, none, none] [] σ := by
  refine zj_iload_n zd_Duel_afterEnemy_0 rfl ?_
  exact zj_if_ne zd_Duel_afterEnemy_1 (by decide) (fun h => (kt h)) (fun h => (zj_weak (L' := [none, some (.inr (43)), none, none, none, none, none, none, none]) ⟨rfl, trivial⟩ (kf h)))
theorem zb_Duel_afterEnemy_4 {Γ : zG} {σ : zS} {dc : Nat} {P : Int32 → zS → Prop}  (hm : z_Ci dc zm_City_leastHeight [.inr (43)] σ P) (hdp : dc < z_dep Γ) (k : ∀ r σ1, P r σ1 → z_J Γ zm_Duel_afterEnemy 8 [none, none, none, none, none, none, none, none, none] [.inl (r)] σ1) : z_J Γ zm_Duel_afterEnemy 4 [none, some (.inr (43)), none, none, none, none, none, none, none] [] σ := by
  refine zj_aload_n zd_Duel_afterEnemy_4 rfl ?_
  exact zj_callVi (As := []) hm hdp rfl (by decide) rfl zl_Duel_35 zq_City_leastHeight zd_Duel_afterEnemy_5 rfl (Nat.le_of_ble_eq_true rfl) (fun r σ1 h => (zj_weak (L' := [none, none, none, none, none, none, none, none, none]) trivial (k r σ1 h)))
theorem zb_Duel_afterEnemy_8 {Γ : zG} {σ : zS} {y0 : Int32}  (e : z_end Γ (some (y0)) σ) : z_J Γ zm_Duel_afterEnemy 8 [none, none, none, none, none, none, none, none, none] [.inl (y0)] σ := by
  exact zj_ireturn rfl zd_Duel_afterEnemy_8 e
theorem zb_Duel_afterEnemy_9 {Γ : zG} {σ : zS} {r2 : Nat} {x3 x4 : Int32} (h_r2 : z_oR r2) (k : z_J Γ zm_Duel_afterEnemy 19 [some (.inr (30)), some (.inr (43)), some (.inr (r2)), some (.inl (x3)), some (.inl (x4)), some (.inl (nI 100)), some (.inl (nI 0)), some (.inl (nI 0)), none] [] σ) : z_J Γ zm_Duel_afterEnemy 9 [some (.inr (30)), some (.inr (43)), some (.inr (r2)), some (.inl (x3)), some (.inl (x4)), none, none, none, none] [] σ := by
  refine zj_bipush (v := nI 100) zd_Duel_afterEnemy_9 (by decide) ?_
  refine zj_istore (L' := [some (.inr (30)), some (.inr (43)), some (.inr (r2)), some (.inl (x3)), some (.inl (x4)), some (.inl (nI 100)), none, none, none]) zd_Duel_afterEnemy_11 (by decide) rfl ?_
  refine zj_iconst (v := nI 0) zd_Duel_afterEnemy_13 (by decide) ?_
  refine zj_istore (L' := [some (.inr (30)), some (.inr (43)), some (.inr (r2)), some (.inl (x3)), some (.inl (x4)), some (.inl (nI 100)), some (.inl (nI 0)), none, none]) zd_Duel_afterEnemy_14 (by decide) rfl ?_
  refine zj_iconst (v := nI 0) zd_Duel_afterEnemy_16 (by decide) ?_
  refine zj_istore (L' := [some (.inr (30)), some (.inr (43)), some (.inr (r2)), some (.inl (x3)), some (.inl (x4)), some (.inl (nI 100)), some (.inl (nI 0)), some (.inl (nI 0)), none]) zd_Duel_afterEnemy_17 (by decide) rfl ?_
  exact k
theorem zb_Duel_afterEnemy_19 {Γ : zG} {σ : zS} {r2 : Nat} {x3 x4 x5 x6 x7 : Int32} (h_r2 : z_oR r2) (kt : (σ.1 43 6) ≤ x7 → z_J Γ zm_Duel_afterEnemy 94 [some (.inr (30)), some (.inr (43)), some (.inr (r2)), some (.inl (x3)), none, some (.inl (x5)), some (.inl (x6)), none, none] [] σ) (kf : ¬ (σ.1 43 6) ≤ x7 → z_J Γ zm_Duel_afterEnemy 28 [some (.inr (30)), some (.inr (43)), some (.inr (r2)), some (.inl (x3)), some (.inl (x4)), some (.inl (x5)), some (.inl (x6)), some (.inl (x7)), none] [] σ) : z_J Γ zm_Duel_afterEnemy 19 [some (.inr (30)), some (.inr (43)), some (.inr (r2)), some (.inl (x3)), some (.inl (x4)), some (.inl (x5)), some (.inl (x6)), some (.inl (x7)), none] [] σ := by
  refine zj_iload zd_Duel_afterEnemy_19 rfl ?_
  refine zj_aload_n zd_Duel_afterEnemy_21 rfl ?_
  refine zj_getI rfl (by decide) rfl zu_City (k := 6) (by decide) rfl zl_Duel_15 zd_Duel_afterEnemy_22 ?_
  exact zj_icmp_ge zd_Duel_afterEnemy_25 (by decide) (fun h => (zj_weak (L' := [some (.inr (30)), some (.inr (43)), some (.inr (r2)), some (.inl (x3)), none, some (.inl (x5)), some (.inl (x6)), none, none]) ⟨rfl, ⟨rfl, ⟨rfl, ⟨rfl, ⟨rfl, ⟨rfl, trivial⟩⟩⟩⟩⟩⟩ (kt h))) (fun h => (kf h))
theorem zb_Duel_afterEnemy_28 {Γ : zG} {σ : zS} {r2 : Nat} {x3 x4 x5 x6 x7 : Int32} (h_r2 : z_oR r2) (kt : x5 ≤ x4 → z_J Γ zm_Duel_afterEnemy 94 [some (.inr (30)), some (.inr (43)), some (.inr (r2)), some (.inl (x3)), none, some (.inl (x5)), some (.inl (x6)), none, none] [] σ) (kf : ¬ x5 ≤ x4 → z_J Γ zm_Duel_afterEnemy 35 [some (.inr (30)), some (.inr (43)), some (.inr (r2)), some (.inl (x3)), some (.inl (x4)), some (.inl (x5)), some (.inl (x6)), some (.inl (x7)), none] [] σ) : z_J Γ zm_Duel_afterEnemy 28 [some (.inr (30)), some (.inr (43)), some (.inr (r2)), some (.inl (x3)), some (.inl (x4)), some (.inl (x5)), some (.inl (x6)), some (.inl (x7)), none] [] σ := by
  refine zj_iload zd_Duel_afterEnemy_28 rfl ?_
  refine zj_iload zd_Duel_afterEnemy_30 rfl ?_
  exact zj_icmp_le zd_Duel_afterEnemy_32 (by decide) (fun h => (zj_weak (L' := [some (.inr (30)), some (.inr (43)), some (.inr (r2)), some (.inl (x3)), none, some (.inl (x5)), some (.inl (x6)), none, none]) ⟨rfl, ⟨rfl, ⟨rfl, ⟨rfl, ⟨rfl, ⟨rfl, trivial⟩⟩⟩⟩⟩⟩ (kt h))) (fun h => (kf h))
theorem zb_Duel_afterEnemy_35 {Γ : zG} {σ : zS} {r2 : Nat} {x3 x4 x5 x6 x7 : Int32} {dc : Nat} {P : Int32 → zS → Prop} (h_r2 : z_oR r2) (hm : z_Ci dc zm_City_topOf [.inr (43), .inl (x7)] σ P) (hdp : dc < z_dep Γ) (k : ∀ r σ1, P r σ1 → z_J Γ zm_Duel_afterEnemy 41 [some (.inr (30)), some (.inr (43)), some (.inr (r2)), some (.inl (x3)), some (.inl (x4)), some (.inl (x5)), some (.inl (x6)), some (.inl (x7)), none] [.inl (r)] σ1) : z_J Γ zm_Duel_afterEnemy 35 [some (.inr (30)), some (.inr (43)), some (.inr (r2)), some (.inl (x3)), some (.inl (x4)), some (.inl (x5)), some (.inl (x6)), some (.inl (x7)), none] [] σ := by
  refine zj_aload_n zd_Duel_afterEnemy_35 rfl ?_
  refine zj_iload zd_Duel_afterEnemy_36 rfl ?_
  exact zj_callVi (As := [.inl (x7)]) hm hdp rfl (by decide) rfl zl_Duel_20 zq_City_topOf zd_Duel_afterEnemy_38 rfl (Nat.le_of_ble_eq_true rfl) (fun r σ1 h => (k r σ1 h))
theorem zb_Duel_afterEnemy_41 {Γ : zG} {σ : zS} {r2 : Nat} {x3 x4 x5 x6 x7 y0 : Int32} (h_r2 : z_oR r2) (kt : ¬ y0 = (-1) → z_J Γ zm_Duel_afterEnemy 52 [some (.inr (30)), some (.inr (43)), some (.inr (r2)), some (.inl (x3)), some (.inl (x4)), some (.inl (x5)), none, some (.inl (x7)), some (.inl (y0))] [] σ) (kf : y0 = (-1) → z_J Γ zm_Duel_afterEnemy 49 [some (.inr (30)), some (.inr (43)), some (.inr (r2)), some (.inl (x3)), some (.inl (x4)), some (.inl (x5)), some (.inl (x6)), some (.inl (x7)), none] [] σ) : z_J Γ zm_Duel_afterEnemy 41 [some (.inr (30)), some (.inr (43)), some (.inr (r2)), some (.inl (x3)), some (.inl (x4)), some (.inl (x5)), some (.inl (x6)), some (.inl (x7)), none] [.inl (y0)] σ := by
  refine zj_istore (L' := [some (.inr (30)), some (.inr (43)), some (.inr (r2)), some (.inl (x3)), some (.inl (x4)), some (.inl (x5)), some (.inl (x6)), some (.inl (x7)), some (.inl (y0))]) zd_Duel_afterEnemy_41 (by decide) rfl ?_
  refine zj_iload zd_Duel_afterEnemy_43 rfl ?_
  refine zj_iconst (v := (-1)) zd_Duel_afterEnemy_45 (by decide) ?_
  exact zj_icmp_ne zd_Duel_afterEnemy_46 (by decide) (fun h => (zj_weak (L' := [some (.inr (30)), some (.inr (43)), some (.inr (r2)), some (.inl (x3)), some (.inl (x4)), some (.inl (x5)), none, some (.inl (x7)), some (.inl (y0))]) ⟨rfl, ⟨rfl, ⟨rfl, ⟨rfl, ⟨rfl, ⟨rfl, ⟨rfl, ⟨rfl, trivial⟩⟩⟩⟩⟩⟩⟩⟩ (kt h))) (fun h => (zj_weak (L' := [some (.inr (30)), some (.inr (43)), some (.inr (r2)), some (.inl (x3)), some (.inl (x4)), some (.inl (x5)), some (.inl (x6)), some (.inl (x7)), none]) ⟨rfl, ⟨rfl, ⟨rfl, ⟨rfl, ⟨rfl, ⟨rfl, ⟨rfl, ⟨rfl, trivial⟩⟩⟩⟩⟩⟩⟩⟩ (kf h)))
theorem zb_Duel_afterEnemy_49 {Γ : zG} {σ : zS} {r2 : Nat} {x3 x4 x5 x6 x7 : Int32} (h_r2 : z_oR r2) (k : z_J Γ zm_Duel_afterEnemy 88 [some (.inr (30)), some (.inr (43)), some (.inr (r2)), some (.inl (x3)), some (.inl (x4)), some (.inl (x5)), some (.inl (x6)), some (.inl (x7)), none] [] σ) : z_J Γ zm_Duel_afterEnemy 49 [some (.inr (30)), some (.inr (43)), some (.inr (r2)), some (.inl (x3)), some (.inl (x4)), some (.inl (x5)), some (.inl (x6)), some (.inl (x7)), none] [] σ := by
  exact zj_goto zd_Duel_afterEnemy_49 (by decide) k
theorem zb_Duel_afterEnemy_52 {Γ : zG} {σ : zS} {r2 : Nat} {x3 x4 x5 x7 x8 : Int32} {dc : Nat} {P : zS → Prop} (h_r2 : z_oR r2) (hm : z_Cv dc zm_City_lift [.inr (43), .inl (x8), .inl (nI 3)] σ P) (hdp : dc < z_dep Γ) (k : ∀ σ1, P σ1 → z_J Γ zm_Duel_afterEnemy 62 [some (.inr (30)), some (.inr (43)), some (.inr (r2)), some (.inl (x3)), some (.inl (x4)), some (.inl (x5)), some (.inl (nI 1)), some (.inl (x7)), some (.inl (x8))] [] σ1) : z_J Γ zm_Duel_afterEnemy 52 [some (.inr (30)), some (.inr (43)), some (.inr (r2)), some (.inl (x3)), some (.inl (x4)), some (.inl (x5)), none, some (.inl (x7)), some (.inl (x8))] [] σ := by
  refine zj_iconst (v := nI 1) zd_Duel_afterEnemy_52 (by decide) ?_
  refine zj_istore (L' := [some (.inr (30)), some (.inr (43)), some (.inr (r2)), some (.inl (x3)), some (.inl (x4)), some (.inl (x5)), some (.inl (nI 1)), some (.inl (x7)), some (.inl (x8))]) zd_Duel_afterEnemy_53 (by decide) rfl ?_
  refine zj_aload_n zd_Duel_afterEnemy_55 rfl ?_
  refine zj_iload zd_Duel_afterEnemy_56 rfl ?_
  refine zj_iconst (v := nI 3) zd_Duel_afterEnemy_58 (by decide) ?_
  exact zj_callVv (As := [.inl (x8), .inl (nI 3)]) hm hdp rfl (by decide) rfl zl_Duel_24 zq_City_lift zd_Duel_afterEnemy_59 rfl (Nat.le_of_ble_eq_true rfl) (fun σ1 h => (k σ1 h))
theorem zb_Duel_afterEnemy_62 {Γ : zG} {σ : zS} {r2 : Nat} {x3 x4 x5 x6 x7 x8 : Int32} {dc : Nat} {P : Int32 → zS → Prop} (h_r2 : z_oR r2) (hm : z_Ci dc zm_Duel_afterCity [.inr (30), .inr (43), .inr (r2), .inl (x3 - (nI 1)), .inl (x5)] σ P) (hdp : dc < z_dep Γ) (k : ∀ r σ1, P r σ1 → z_J Γ zm_Duel_afterEnemy 75 [some (.inr (30)), some (.inr (43)), some (.inr (r2)), some (.inl (x3)), some (.inl (x4)), none, some (.inl (x6)), some (.inl (x7)), some (.inl (x8))] [.inl (r), .inl (x5)] σ1) : z_J Γ zm_Duel_afterEnemy 62 [some (.inr (30)), some (.inr (43)), some (.inr (r2)), some (.inl (x3)), some (.inl (x4)), some (.inl (x5)), some (.inl (x6)), some (.inl (x7)), some (.inl (x8))] [] σ := by
  refine zj_iload zd_Duel_afterEnemy_62 rfl ?_
  refine zj_aload_n zd_Duel_afterEnemy_64 rfl ?_
  refine zj_aload_n zd_Duel_afterEnemy_65 rfl ?_
  refine zj_aload_n zd_Duel_afterEnemy_66 rfl ?_
  refine zj_iload_n zd_Duel_afterEnemy_67 rfl ?_
  refine zj_iconst (v := nI 1) zd_Duel_afterEnemy_68 (by decide) ?_
  refine zj_isub zd_Duel_afterEnemy_69 ?_
  refine zj_iload zd_Duel_afterEnemy_70 rfl ?_
  exact zj_callVi (As := [.inr (43), .inr (r2), .inl (x3 - (nI 1)), .inl (x5)]) hm hdp rfl (by decide) rfl zl_Duel_28 zq_Duel_afterCity zd_Duel_afterEnemy_72 rfl (Nat.le_of_ble_eq_true rfl) (fun r σ1 h => (zj_weak (L' := [some (.inr (30)), some (.inr (43)), some (.inr (r2)), some (.inl (x3)), some (.inl (x4)), none, some (.inl (x6)), some (.inl (x7)), some (.inl (x8))]) ⟨rfl, ⟨rfl, ⟨rfl, ⟨rfl, ⟨rfl, ⟨rfl, ⟨rfl, ⟨rfl, trivial⟩⟩⟩⟩⟩⟩⟩⟩ (k r σ1 h)))
theorem zb_Duel_afterEnemy_75 {Γ : zG} {σ : zS} {r2 : Nat} {x3 x4 x6 x7 x8 y0 y1 : Int32} {dc : Nat} {P : zS → Prop} (h_r2 : z_oR r2) (hm : z_Cv dc zm_City_put [.inr (43), .inl (x8), .inl (x7)] σ P) (hdp : dc < z_dep Γ) (k : ∀ σ1, P σ1 → z_J Γ zm_Duel_afterEnemy 88 [some (.inr (30)), some (.inr (43)), some (.inr (r2)), some (.inl (x3)), some (.inl (x4)), some (.inl (z_min y1 y0)), some (.inl (x6)), some (.inl (x7)), none] [] σ1) : z_J Γ zm_Duel_afterEnemy 75 [some (.inr (30)), some (.inr (43)), some (.inr (r2)), some (.inl (x3)), some (.inl (x4)), none, some (.inl (x6)), some (.inl (x7)), some (.inl (x8))] [.inl (y0), .inl (y1)] σ := by
  refine zj_mmin zl_Duel_39 zx_min_s zx_Math zx_min_c (Nat.lt_of_le_of_lt (Nat.zero_le _) hdp) (Nat.le_of_ble_eq_true rfl) zd_Duel_afterEnemy_75 ?_
  refine zj_istore (L' := [some (.inr (30)), some (.inr (43)), some (.inr (r2)), some (.inl (x3)), some (.inl (x4)), some (.inl (z_min y1 y0)), some (.inl (x6)), some (.inl (x7)), some (.inl (x8))]) zd_Duel_afterEnemy_78 (by decide) rfl ?_
  refine zj_aload_n zd_Duel_afterEnemy_80 rfl ?_
  refine zj_iload zd_Duel_afterEnemy_81 rfl ?_
  refine zj_iload zd_Duel_afterEnemy_83 rfl ?_
  exact zj_callVv (As := [.inl (x8), .inl (x7)]) hm hdp rfl (by decide) rfl zl_Duel_32 zq_City_put zd_Duel_afterEnemy_85 rfl (Nat.le_of_ble_eq_true rfl) (fun σ1 h => (zj_weak (L' := [some (.inr (30)), some (.inr (43)), some (.inr (r2)), some (.inl (x3)), some (.inl (x4)), some (.inl (z_min y1 y0)), some (.inl (x6)), some (.inl (x7)), none]) ⟨rfl, ⟨rfl, ⟨rfl, ⟨rfl, ⟨rfl, ⟨rfl, ⟨rfl, ⟨rfl, trivial⟩⟩⟩⟩⟩⟩⟩⟩ (k σ1 h)))
theorem zb_Duel_afterEnemy_88 {Γ : zG} {σ : zS} {r2 : Nat} {x3 x4 x5 x6 x7 : Int32} (h_r2 : z_oR r2) (k : z_J Γ zm_Duel_afterEnemy 19 [some (.inr (30)), some (.inr (43)), some (.inr (r2)), some (.inl (x3)), some (.inl (x4)), some (.inl (x5)), some (.inl (x6)), some (.inl (x7 + nI 1)), none] [] σ) : z_J Γ zm_Duel_afterEnemy 88 [some (.inr (30)), some (.inr (43)), some (.inr (r2)), some (.inl (x3)), some (.inl (x4)), some (.inl (x5)), some (.inl (x6)), some (.inl (x7)), none] [] σ := by
  refine zj_iinc (v := nI 1) (L' := [some (.inr (30)), some (.inr (43)), some (.inr (r2)), some (.inl (x3)), some (.inl (x4)), some (.inl (x5)), some (.inl (x6)), some (.inl (x7 + nI 1)), none]) zd_Duel_afterEnemy_88 rfl (by decide) (by decide) rfl ?_
  exact zj_goto zd_Duel_afterEnemy_91 (by decide) k
theorem zb_Duel_afterEnemy_94 {Γ : zG} {σ : zS} {r2 : Nat} {x3 x5 x6 : Int32} (h_r2 : z_oR r2) (kt : x6 = 0 → z_J Γ zm_Duel_afterEnemy 104 [some (.inr (30)), some (.inr (43)), some (.inr (r2)), some (.inl (x3)), none, some (.inl (x5)), none, none, none] [] σ) (kf : ¬ x6 = 0 → z_J Γ zm_Duel_afterEnemy 99 [none, none, none, none, none, some (.inl (x5)), none, none, none] [] σ) : z_J Γ zm_Duel_afterEnemy 94 [some (.inr (30)), some (.inr (43)), some (.inr (r2)), some (.inl (x3)), none, some (.inl (x5)), some (.inl (x6)), none, none] [] σ := by
  refine zj_iload zd_Duel_afterEnemy_94 rfl ?_
  exact zj_if_eq zd_Duel_afterEnemy_96 (by decide) (fun h => (zj_weak (L' := [some (.inr (30)), some (.inr (43)), some (.inr (r2)), some (.inl (x3)), none, some (.inl (x5)), none, none, none]) ⟨rfl, ⟨rfl, ⟨rfl, ⟨rfl, ⟨rfl, trivial⟩⟩⟩⟩⟩ (kt h))) (fun h => (zj_weak (L' := [none, none, none, none, none, some (.inl (x5)), none, none, none]) ⟨rfl, trivial⟩ (kf h)))
theorem zb_Duel_afterEnemy_99 {Γ : zG} {σ : zS} {x5 : Int32}  (k : z_J Γ zm_Duel_afterEnemy 115 [none, none, none, none, none, none, none, none, none] [.inl (x5)] σ) : z_J Γ zm_Duel_afterEnemy 99 [none, none, none, none, none, some (.inl (x5)), none, none, none] [] σ := by
  refine zj_iload zd_Duel_afterEnemy_99 rfl ?_
  exact zj_goto zd_Duel_afterEnemy_101 (by decide) (zj_weak (L' := [none, none, none, none, none, none, none, none, none]) trivial k)
theorem zb_Duel_afterEnemy_104 {Γ : zG} {σ : zS} {r2 : Nat} {x3 x5 : Int32} {dc : Nat} {P : Int32 → zS → Prop} (h_r2 : z_oR r2) (hm : z_Ci dc zm_Duel_afterCity [.inr (30), .inr (43), .inr (r2), .inl (x3 - (nI 1)), .inl (x5)] σ P) (hdp : dc < z_dep Γ) (k : ∀ r σ1, P r σ1 → z_J Γ zm_Duel_afterEnemy 115 [none, none, none, none, none, none, none, none, none] [.inl (r)] σ1) : z_J Γ zm_Duel_afterEnemy 104 [some (.inr (30)), some (.inr (43)), some (.inr (r2)), some (.inl (x3)), none, some (.inl (x5)), none, none, none] [] σ := by
  refine zj_aload_n zd_Duel_afterEnemy_104 rfl ?_
  refine zj_aload_n zd_Duel_afterEnemy_105 rfl ?_
  refine zj_aload_n zd_Duel_afterEnemy_106 rfl ?_
  refine zj_iload_n zd_Duel_afterEnemy_107 rfl ?_
  refine zj_iconst (v := nI 1) zd_Duel_afterEnemy_108 (by decide) ?_
  refine zj_isub zd_Duel_afterEnemy_109 ?_
  refine zj_iload zd_Duel_afterEnemy_110 rfl ?_
  exact zj_callVi (As := [.inr (43), .inr (r2), .inl (x3 - (nI 1)), .inl (x5)]) hm hdp rfl (by decide) rfl zl_Duel_28 zq_Duel_afterCity zd_Duel_afterEnemy_112 rfl (Nat.le_of_ble_eq_true rfl) (fun r σ1 h => (zj_weak (L' := [none, none, none, none, none, none, none, none, none]) trivial (k r σ1 h)))
theorem zb_Duel_afterEnemy_115 {Γ : zG} {σ : zS} {y0 : Int32}  (e : z_end Γ (some (y0)) σ) : z_J Γ zm_Duel_afterEnemy 115 [none, none, none, none, none, none, none, none, none] [.inl (y0)] σ := by
  exact zj_ireturn rfl zd_Duel_afterEnemy_115 e
theorem zd_Orders_countThose_0 : decode zm_Orders_countThose.2.1 0 = .ok (.aload_n 0, 1) := by decide +kernel
theorem zd_Orders_countThose_1 : decode zm_Orders_countThose.2.1 1 = .ok (.iconst 0, 1) := by decide +kernel
theorem zd_Orders_countThose_2 : decode zm_Orders_countThose.2.1 2 = .ok (.putfield 15, 3) := by decide +kernel
theorem zd_Orders_countThose_5 : decode zm_Orders_countThose.2.1 5 = .ok (.aload_n 1, 1) := by decide +kernel
theorem zd_Orders_countThose_6 : decode zm_Orders_countThose.2.1 6 = .ok (.getfield 19, 3) := by decide +kernel
theorem zd_Orders_countThose_9 : decode zm_Orders_countThose.2.1 9 = .ok (.iload 4, 2) := by decide +kernel
theorem zd_Orders_countThose_11 : decode zm_Orders_countThose.2.1 11 = .ok (.iload_n 3, 1) := by decide +kernel
theorem zd_Orders_countThose_12 : decode zm_Orders_countThose.2.1 12 = .ok (.invokestatic 24, 3) := by decide +kernel
theorem zd_Orders_countThose_15 : decode zm_Orders_countThose.2.1 15 = .ok (.iconst 4, 1) := by decide +kernel
theorem zd_Orders_countThose_16 : decode zm_Orders_countThose.2.1 16 = .ok (.invokestatic 30, 3) := by decide +kernel
theorem zd_Orders_countThose_19 : decode zm_Orders_countThose.2.1 19 = .ok (.iastore, 1) := by decide +kernel
theorem zd_Orders_countThose_20 : decode zm_Orders_countThose.2.1 20 = .ok (.aload_n 0, 1) := by decide +kernel
theorem zd_Orders_countThose_21 : decode zm_Orders_countThose.2.1 21 = .ok (.aload_n 1, 1) := by decide +kernel
theorem zd_Orders_countThose_22 : decode zm_Orders_countThose.2.1 22 = .ok (.aload_n 2, 1) := by decide +kernel
theorem zd_Orders_countThose_23 : decode zm_Orders_countThose.2.1 23 = .ok (.iload_n 3, 1) := by decide +kernel
theorem zd_Orders_countThose_24 : decode zm_Orders_countThose.2.1 24 = .ok (.iload 4, 2) := by decide +kernel
theorem zd_Orders_countThose_26 : decode zm_Orders_countThose.2.1 26 = .ok (.iconst 0, 1) := by decide +kernel
theorem zd_Orders_countThose_27 : decode zm_Orders_countThose.2.1 27 = .ok (.invokevirtual 36, 3) := by decide +kernel
theorem zd_Orders_countThose_30 : decode zm_Orders_countThose.2.1 30 = .ok (.aload_n 0, 1) := by decide +kernel
theorem zd_Orders_countThose_31 : decode zm_Orders_countThose.2.1 31 = .ok (.getfield 15, 3) := by decide +kernel
theorem zd_Orders_countThose_34 : decode zm_Orders_countThose.2.1 34 = .ok (.ireturn, 1) := by decide +kernel
theorem zb_Orders_countThose_0 {Γ : zG} {σ : zS} {r2 : Nat} {x3 x4 : Int32} {k1 : Nat} {dc : Nat} {P : zS → Prop} (h_r2 : z_oR r2) (b1 : z_ix x4 6 k1) (hm : z_Cv dc zm_Orders_order [.inr (31), .inr (43), .inr (r2), .inl (x3), .inl (x4), .inl (nI 0)] (z_pI (z_pI σ 31 1 (nI 0)) 49 k1 (z_min (z_bc x3) (nI 4))) P) (hdp : dc < z_dep Γ) (k : ∀ σ1, P σ1 → z_J Γ zm_Orders_countThose 30 [some (.inr (31)), none, none, none, none] [] σ1) : z_J Γ zm_Orders_countThose 0 [some (.inr (31)), some (.inr (43)), some (.inr (r2)), some (.inl (x3)), some (.inl (x4))] [] σ := by
  refine zj_aload_n zd_Orders_countThose_0 rfl ?_
  refine zj_iconst (v := nI 0) zd_Orders_countThose_1 (by decide) ?_
  refine zj_putI rfl (by decide) rfl zu_Orders zy_Orders_ok zn_Orders (k := 1) (by decide) rfl rfl zl_Orders_15 rfl rfl zd_Orders_countThose_2 ?_
  refine zj_aload_n zd_Orders_countThose_5 rfl ?_
  refine zj_getR rfl (by decide) rfl zu_City (k := 7) (by decide) rfl zl_Orders_19 zd_Orders_countThose_6 (o' := 49) rfl ?_
  refine zj_iload zd_Orders_countThose_9 rfl ?_
  refine zj_iload_n zd_Orders_countThose_11 rfl ?_
  refine zj_bitc zl_Orders_24 (Nat.lt_of_le_of_lt (Nat.zero_le _) hdp) (Nat.le_of_ble_eq_true rfl) zd_Orders_countThose_12 ?_
  refine zj_iconst (v := nI 4) zd_Orders_countThose_15 (by decide) ?_
  refine zj_mmin zl_Orders_30 zx_min_s zx_Math zx_min_c (Nat.lt_of_le_of_lt (Nat.zero_le _) hdp) (Nat.le_of_ble_eq_true rfl) zd_Orders_countThose_16 ?_
  refine zj_iastore rfl (by decide) b1 zd_Orders_countThose_19 ?_
  refine zj_aload_n zd_Orders_countThose_20 rfl ?_
  refine zj_aload_n zd_Orders_countThose_21 rfl ?_
  refine zj_aload_n zd_Orders_countThose_22 rfl ?_
  refine zj_iload_n zd_Orders_countThose_23 rfl ?_
  refine zj_iload zd_Orders_countThose_24 rfl ?_
  refine zj_iconst (v := nI 0) zd_Orders_countThose_26 (by decide) ?_
  exact zj_callVv (As := [.inr (43), .inr (r2), .inl (x3), .inl (x4), .inl (nI 0)]) hm hdp rfl (by decide) rfl zl_Orders_36 zq_Orders_order zd_Orders_countThose_27 rfl (Nat.le_of_ble_eq_true rfl) (fun σ1 h => (zj_weak (L' := [some (.inr (31)), none, none, none, none]) ⟨rfl, trivial⟩ (k σ1 h)))
theorem zb_Orders_countThose_30 {Γ : zG} {σ : zS}  (e : z_end Γ (some (σ.1 31 1)) σ) : z_J Γ zm_Orders_countThose 30 [some (.inr (31)), none, none, none, none] [] σ := by
  refine zj_aload_n zd_Orders_countThose_30 rfl ?_
  refine zj_getI rfl (by decide) rfl zu_Orders (k := 1) (by decide) rfl zl_Orders_15 zd_Orders_countThose_31 ?_
  exact zj_ireturn rfl zd_Orders_countThose_34 e
theorem zd_Orders_order_0 : decode zm_Orders_order.2.1 0 = .ok (.iload 5, 2) := by decide +kernel
theorem zd_Orders_order_2 : decode zm_Orders_order.2.1 2 = .ok (.aload_n 1, 1) := by decide +kernel
theorem zd_Orders_order_3 : decode zm_Orders_order.2.1 3 = .ok (.getfield 19, 3) := by decide +kernel
theorem zd_Orders_order_6 : decode zm_Orders_order.2.1 6 = .ok (.iload 4, 2) := by decide +kernel
theorem zd_Orders_order_8 : decode zm_Orders_order.2.1 8 = .ok (.iaload, 1) := by decide +kernel
theorem zd_Orders_order_9 : decode zm_Orders_order.2.1 9 = .ok (.if_icmp .ne 12, 3) := by decide +kernel
theorem zd_Orders_order_12 : decode zm_Orders_order.2.1 12 = .ok (.aload_n 0, 1) := by decide +kernel
theorem zd_Orders_order_13 : decode zm_Orders_order.2.1 13 = .ok (.aload_n 1, 1) := by decide +kernel
theorem zd_Orders_order_14 : decode zm_Orders_order.2.1 14 = .ok (.aload_n 2, 1) := by decide +kernel
theorem zd_Orders_order_15 : decode zm_Orders_order.2.1 15 = .ok (.iload 4, 2) := by decide +kernel
theorem zd_Orders_order_17 : decode zm_Orders_order.2.1 17 = .ok (.invokevirtual 40, 3) := by decide +kernel
theorem zd_Orders_order_20 : decode zm_Orders_order.2.1 20 = .ok (.return_, 1) := by decide +kernel
theorem zd_Orders_order_21 : decode zm_Orders_order.2.1 21 = .ok (.iconst 0, 1) := by decide +kernel
theorem zd_Orders_order_22 : decode zm_Orders_order.2.1 22 = .ok (.istore 6, 2) := by decide +kernel
theorem zd_Orders_order_24 : decode zm_Orders_order.2.1 24 = .ok (.iload 6, 2) := by decide +kernel
theorem zd_Orders_order_26 : decode zm_Orders_order.2.1 26 = .ok (.aload_n 1, 1) := by decide +kernel
theorem zd_Orders_order_27 : decode zm_Orders_order.2.1 27 = .ok (.getfield 44, 3) := by decide +kernel
theorem zd_Orders_order_30 : decode zm_Orders_order.2.1 30 = .ok (.if_icmp .ge 53, 3) := by decide +kernel
theorem zd_Orders_order_33 : decode zm_Orders_order.2.1 33 = .ok (.iload_n 3, 1) := by decide +kernel
theorem zd_Orders_order_34 : decode zm_Orders_order.2.1 34 = .ok (.iload 6, 2) := by decide +kernel
theorem zd_Orders_order_36 : decode zm_Orders_order.2.1 36 = .ok (.ishr, 1) := by decide +kernel
theorem zd_Orders_order_37 : decode zm_Orders_order.2.1 37 = .ok (.iconst 1, 1) := by decide +kernel
theorem zd_Orders_order_38 : decode zm_Orders_order.2.1 38 = .ok (.iand, 1) := by decide +kernel
theorem zd_Orders_order_39 : decode zm_Orders_order.2.1 39 = .ok (.iconst 1, 1) := by decide +kernel
theorem zd_Orders_order_40 : decode zm_Orders_order.2.1 40 = .ok (.if_icmp .ne 37, 3) := by decide +kernel
theorem zd_Orders_order_43 : decode zm_Orders_order.2.1 43 = .ok (.aload_n 1, 1) := by decide +kernel
theorem zd_Orders_order_44 : decode zm_Orders_order.2.1 44 = .ok (.getfield 47, 3) := by decide +kernel
theorem zd_Orders_order_47 : decode zm_Orders_order.2.1 47 = .ok (.iload 4, 2) := by decide +kernel
theorem zd_Orders_order_49 : decode zm_Orders_order.2.1 49 = .ok (.iconst 4, 1) := by decide +kernel
theorem zd_Orders_order_50 : decode zm_Orders_order.2.1 50 = .ok (.imul, 1) := by decide +kernel
theorem zd_Orders_order_51 : decode zm_Orders_order.2.1 51 = .ok (.iload 5, 2) := by decide +kernel
theorem zd_Orders_order_53 : decode zm_Orders_order.2.1 53 = .ok (.iadd, 1) := by decide +kernel
theorem zd_Orders_order_54 : decode zm_Orders_order.2.1 54 = .ok (.iload 6, 2) := by decide +kernel
theorem zd_Orders_order_56 : decode zm_Orders_order.2.1 56 = .ok (.iastore, 1) := by decide +kernel
theorem zd_Orders_order_57 : decode zm_Orders_order.2.1 57 = .ok (.aload_n 0, 1) := by decide +kernel
theorem zd_Orders_order_58 : decode zm_Orders_order.2.1 58 = .ok (.aload_n 1, 1) := by decide +kernel
theorem zd_Orders_order_59 : decode zm_Orders_order.2.1 59 = .ok (.aload_n 2, 1) := by decide +kernel
theorem zd_Orders_order_60 : decode zm_Orders_order.2.1 60 = .ok (.iload_n 3, 1) := by decide +kernel
theorem zd_Orders_order_61 : decode zm_Orders_order.2.1 61 = .ok (.iconst 1, 1) := by decide +kernel
theorem zd_Orders_order_62 : decode zm_Orders_order.2.1 62 = .ok (.iload 6, 2) := by decide +kernel
theorem zd_Orders_order_64 : decode zm_Orders_order.2.1 64 = .ok (.ishl, 1) := by decide +kernel
theorem zd_Orders_order_65 : decode zm_Orders_order.2.1 65 = .ok (.iconst (-1), 1) := by decide +kernel
theorem zd_Orders_order_66 : decode zm_Orders_order.2.1 66 = .ok (.ixor, 1) := by decide +kernel
theorem zd_Orders_order_67 : decode zm_Orders_order.2.1 67 = .ok (.iand, 1) := by decide +kernel
theorem zd_Orders_order_68 : decode zm_Orders_order.2.1 68 = .ok (.iload 4, 2) := by decide +kernel
theorem zd_Orders_order_70 : decode zm_Orders_order.2.1 70 = .ok (.iload 5, 2) := by decide +kernel
theorem zd_Orders_order_72 : decode zm_Orders_order.2.1 72 = .ok (.iconst 1, 1) := by decide +kernel
theorem zd_Orders_order_73 : decode zm_Orders_order.2.1 73 = .ok (.iadd, 1) := by decide +kernel
theorem zd_Orders_order_74 : decode zm_Orders_order.2.1 74 = .ok (.invokevirtual 36, 3) := by decide +kernel
theorem zd_Orders_order_77 : decode zm_Orders_order.2.1 77 = .ok (.iinc 6 1, 3) := by decide +kernel
theorem zd_Orders_order_80 : decode zm_Orders_order.2.1 80 = .ok (.goto (-56), 3) := by decide +kernel
theorem zd_Orders_order_83 : decode zm_Orders_order.2.1 83 = .ok (.return_, 1) := by decide +kernel
theorem zb_Orders_order_0 {Γ : zG} {σ : zS} {r2 : Nat} {x3 x4 x5 : Int32} {k1 : Nat} (h_r2 : z_oR r2) (b1 : z_ix x4 6 k1) (kt : ¬ x5 = (σ.1 49 k1) → z_J Γ zm_Orders_order 21 [some (.inr (31)), some (.inr (43)), some (.inr (r2)), some (.inl (x3)), some (.inl (x4)), some (.inl (x5)), none] [] σ) (kf : x5 = (σ.1 49 k1) → z_J Γ zm_Orders_order 12 [some (.inr (31)), some (.inr (43)), some (.inr (r2)), none, some (.inl (x4)), none, none] [] σ) : z_J Γ zm_Orders_order 0 [some (.inr (31)), some (.inr (43)), some (.inr (r2)), some (.inl (x3)), some (.inl (x4)), some (.inl (x5)), none] [] σ := by
  refine zj_iload zd_Orders_order_0 rfl ?_
  refine zj_aload_n zd_Orders_order_2 rfl ?_
  refine zj_getR rfl (by decide) rfl zu_City (k := 7) (by decide) rfl zl_Orders_19 zd_Orders_order_3 (o' := 49) rfl ?_
  refine zj_iload zd_Orders_order_6 rfl ?_
  refine zj_iaload rfl (by decide) b1 zd_Orders_order_8 ?_
  exact zj_icmp_ne zd_Orders_order_9 (by decide) (fun h => (kt h)) (fun h => (zj_weak (L' := [some (.inr (31)), some (.inr (43)), some (.inr (r2)), none, some (.inl (x4)), none, none]) ⟨rfl, ⟨rfl, ⟨rfl, ⟨rfl, trivial⟩⟩⟩⟩ (kf h)))
theorem zb_Orders_order_12 {Γ : zG} {σ : zS} {r2 : Nat} {x4 : Int32} {dc : Nat} {P : zS → Prop} (h_r2 : z_oR r2) (hm : z_Cv dc zm_Orders_weigh [.inr (31), .inr (43), .inr (r2), .inl (x4)] σ P) (hdp : dc < z_dep Γ) (k : ∀ σ1, P σ1 → z_J Γ zm_Orders_order 20 [none, none, none, none, none, none, none] [] σ1) : z_J Γ zm_Orders_order 12 [some (.inr (31)), some (.inr (43)), some (.inr (r2)), none, some (.inl (x4)), none, none] [] σ := by
  refine zj_aload_n zd_Orders_order_12 rfl ?_
  refine zj_aload_n zd_Orders_order_13 rfl ?_
  refine zj_aload_n zd_Orders_order_14 rfl ?_
  refine zj_iload zd_Orders_order_15 rfl ?_
  exact zj_callVv (As := [.inr (43), .inr (r2), .inl (x4)]) hm hdp rfl (by decide) rfl zl_Orders_40 zq_Orders_weigh zd_Orders_order_17 rfl (Nat.le_of_ble_eq_true rfl) (fun σ1 h => (zj_weak (L' := [none, none, none, none, none, none, none]) trivial (k σ1 h)))
theorem zb_Orders_order_20 {Γ : zG} {σ : zS}  (e : z_end Γ none σ) : z_J Γ zm_Orders_order 20 [none, none, none, none, none, none, none] [] σ := by
  exact zj_return rfl zd_Orders_order_20 e
theorem zb_Orders_order_21 {Γ : zG} {σ : zS} {r2 : Nat} {x3 x4 x5 : Int32} (h_r2 : z_oR r2) (k : z_J Γ zm_Orders_order 24 [some (.inr (31)), some (.inr (43)), some (.inr (r2)), some (.inl (x3)), some (.inl (x4)), some (.inl (x5)), some (.inl (nI 0))] [] σ) : z_J Γ zm_Orders_order 21 [some (.inr (31)), some (.inr (43)), some (.inr (r2)), some (.inl (x3)), some (.inl (x4)), some (.inl (x5)), none] [] σ := by
  refine zj_iconst (v := nI 0) zd_Orders_order_21 (by decide) ?_
  refine zj_istore (L' := [some (.inr (31)), some (.inr (43)), some (.inr (r2)), some (.inl (x3)), some (.inl (x4)), some (.inl (x5)), some (.inl (nI 0))]) zd_Orders_order_22 (by decide) rfl ?_
  exact k
theorem zb_Orders_order_24 {Γ : zG} {σ : zS} {r2 : Nat} {x3 x4 x5 x6 : Int32} (h_r2 : z_oR r2) (kt : (σ.1 43 0) ≤ x6 → z_J Γ zm_Orders_order 83 [none, none, none, none, none, none, none] [] σ) (kf : ¬ (σ.1 43 0) ≤ x6 → z_J Γ zm_Orders_order 33 [some (.inr (31)), some (.inr (43)), some (.inr (r2)), some (.inl (x3)), some (.inl (x4)), some (.inl (x5)), some (.inl (x6))] [] σ) : z_J Γ zm_Orders_order 24 [some (.inr (31)), some (.inr (43)), some (.inr (r2)), some (.inl (x3)), some (.inl (x4)), some (.inl (x5)), some (.inl (x6))] [] σ := by
  refine zj_iload zd_Orders_order_24 rfl ?_
  refine zj_aload_n zd_Orders_order_26 rfl ?_
  refine zj_getI rfl (by decide) rfl zu_City (k := 0) (by decide) rfl zl_Orders_44 zd_Orders_order_27 ?_
  exact zj_icmp_ge zd_Orders_order_30 (by decide) (fun h => (zj_weak (L' := [none, none, none, none, none, none, none]) trivial (kt h))) (fun h => (kf h))
theorem zb_Orders_order_33 {Γ : zG} {σ : zS} {r2 : Nat} {x3 x4 x5 x6 : Int32} (h_r2 : z_oR r2) (kt : ¬ ((x3 >>> (x6 &&& 31)) &&& (nI 1)) = (nI 1) → z_J Γ zm_Orders_order 77 [some (.inr (31)), some (.inr (43)), some (.inr (r2)), some (.inl (x3)), some (.inl (x4)), some (.inl (x5)), some (.inl (x6))] [] σ) (kf : ((x3 >>> (x6 &&& 31)) &&& (nI 1)) = (nI 1) → z_J Γ zm_Orders_order 43 [some (.inr (31)), some (.inr (43)), some (.inr (r2)), some (.inl (x3)), some (.inl (x4)), some (.inl (x5)), some (.inl (x6))] [] σ) : z_J Γ zm_Orders_order 33 [some (.inr (31)), some (.inr (43)), some (.inr (r2)), some (.inl (x3)), some (.inl (x4)), some (.inl (x5)), some (.inl (x6))] [] σ := by
  refine zj_iload_n zd_Orders_order_33 rfl ?_
  refine zj_iload zd_Orders_order_34 rfl ?_
  refine zj_ishr zd_Orders_order_36 ?_
  refine zj_iconst (v := nI 1) zd_Orders_order_37 (by decide) ?_
  refine zj_iand zd_Orders_order_38 ?_
  refine zj_iconst (v := nI 1) zd_Orders_order_39 (by decide) ?_
  exact zj_icmp_ne zd_Orders_order_40 (by decide) (fun h => (kt h)) (fun h => (kf h))
theorem zb_Orders_order_43 {Γ : zG} {σ : zS} {r2 : Nat} {x3 x4 x5 x6 : Int32} {k1 : Nat} {dc : Nat} {P : zS → Prop} (h_r2 : z_oR r2) (b1 : z_ix ((x4 * (nI 4)) + x5) 24 k1) (hm : z_Cv dc zm_Orders_order [.inr (31), .inr (43), .inr (r2), .inl (x3 &&& (((nI 1) <<< (x6 &&& 31)) ^^^ (-1))), .inl (x4), .inl (x5 + (nI 1))] (z_pI σ 50 k1 x6) P) (hdp : dc < z_dep Γ) (k : ∀ σ1, P σ1 → z_J Γ zm_Orders_order 77 [some (.inr (31)), some (.inr (43)), some (.inr (r2)), some (.inl (x3)), some (.inl (x4)), some (.inl (x5)), some (.inl (x6))] [] σ1) : z_J Γ zm_Orders_order 43 [some (.inr (31)), some (.inr (43)), some (.inr (r2)), some (.inl (x3)), some (.inl (x4)), some (.inl (x5)), some (.inl (x6))] [] σ := by
  refine zj_aload_n zd_Orders_order_43 rfl ?_
  refine zj_getR rfl (by decide) rfl zu_City (k := 8) (by decide) rfl zl_Orders_47 zd_Orders_order_44 (o' := 50) rfl ?_
  refine zj_iload zd_Orders_order_47 rfl ?_
  refine zj_iconst (v := nI 4) zd_Orders_order_49 (by decide) ?_
  refine zj_imul zd_Orders_order_50 ?_
  refine zj_iload zd_Orders_order_51 rfl ?_
  refine zj_iadd zd_Orders_order_53 ?_
  refine zj_iload zd_Orders_order_54 rfl ?_
  refine zj_iastore rfl (by decide) b1 zd_Orders_order_56 ?_
  refine zj_aload_n zd_Orders_order_57 rfl ?_
  refine zj_aload_n zd_Orders_order_58 rfl ?_
  refine zj_aload_n zd_Orders_order_59 rfl ?_
  refine zj_iload_n zd_Orders_order_60 rfl ?_
  refine zj_iconst (v := nI 1) zd_Orders_order_61 (by decide) ?_
  refine zj_iload zd_Orders_order_62 rfl ?_
  refine zj_ishl zd_Orders_order_64 ?_
  refine zj_iconst (v := (-1)) zd_Orders_order_65 (by decide) ?_
  refine zj_ixor zd_Orders_order_66 ?_
  refine zj_iand zd_Orders_order_67 ?_
  refine zj_iload zd_Orders_order_68 rfl ?_
  refine zj_iload zd_Orders_order_70 rfl ?_
  refine zj_iconst (v := nI 1) zd_Orders_order_72 (by decide) ?_
  refine zj_iadd zd_Orders_order_73 ?_
  exact zj_callVv (As := [.inr (43), .inr (r2), .inl (x3 &&& (((nI 1) <<< (x6 &&& 31)) ^^^ (-1))), .inl (x4), .inl (x5 + (nI 1))]) hm hdp rfl (by decide) rfl zl_Orders_36 zq_Orders_order zd_Orders_order_74 rfl (Nat.le_of_ble_eq_true rfl) (fun σ1 h => (k σ1 h))
theorem zb_Orders_order_77 {Γ : zG} {σ : zS} {r2 : Nat} {x3 x4 x5 x6 : Int32} (h_r2 : z_oR r2) (k : z_J Γ zm_Orders_order 24 [some (.inr (31)), some (.inr (43)), some (.inr (r2)), some (.inl (x3)), some (.inl (x4)), some (.inl (x5)), some (.inl (x6 + nI 1))] [] σ) : z_J Γ zm_Orders_order 77 [some (.inr (31)), some (.inr (43)), some (.inr (r2)), some (.inl (x3)), some (.inl (x4)), some (.inl (x5)), some (.inl (x6))] [] σ := by
  refine zj_iinc (v := nI 1) (L' := [some (.inr (31)), some (.inr (43)), some (.inr (r2)), some (.inl (x3)), some (.inl (x4)), some (.inl (x5)), some (.inl (x6 + nI 1))]) zd_Orders_order_77 rfl (by decide) (by decide) rfl ?_
  exact zj_goto zd_Orders_order_80 (by decide) k
theorem zb_Orders_order_83 {Γ : zG} {σ : zS}  (e : z_end Γ none σ) : z_J Γ zm_Orders_order 83 [none, none, none, none, none, none, none] [] σ := by
  exact zj_return rfl zd_Orders_order_83 e
theorem zd_Orders_weigh_0 : decode zm_Orders_weigh.2.1 0 = .ok (.aload_n 1, 1) := by decide +kernel
theorem zd_Orders_weigh_1 : decode zm_Orders_weigh.2.1 1 = .ok (.iload_n 3, 1) := by decide +kernel
theorem zd_Orders_weigh_2 : decode zm_Orders_weigh.2.1 2 = .ok (.aload_n 2, 1) := by decide +kernel
theorem zd_Orders_weigh_3 : decode zm_Orders_weigh.2.1 3 = .ok (.invokevirtual 50, 3) := by decide +kernel
theorem zd_Orders_weigh_6 : decode zm_Orders_weigh.2.1 6 = .ok (.ifCond .ne 4, 3) := by decide +kernel
theorem zd_Orders_weigh_9 : decode zm_Orders_weigh.2.1 9 = .ok (.return_, 1) := by decide +kernel
theorem zd_Orders_weigh_10 : decode zm_Orders_weigh.2.1 10 = .ok (.aload_n 0, 1) := by decide +kernel
theorem zd_Orders_weigh_11 : decode zm_Orders_weigh.2.1 11 = .ok (.getfield 15, 3) := by decide +kernel
theorem zd_Orders_weigh_14 : decode zm_Orders_weigh.2.1 14 = .ok (.ifCond .ne 24, 3) := by decide +kernel
theorem zd_Orders_weigh_17 : decode zm_Orders_weigh.2.1 17 = .ok (.aload_n 1, 1) := by decide +kernel
theorem zd_Orders_weigh_18 : decode zm_Orders_weigh.2.1 18 = .ok (.getfield 47, 3) := by decide +kernel
theorem zd_Orders_weigh_21 : decode zm_Orders_weigh.2.1 21 = .ok (.iload_n 3, 1) := by decide +kernel
theorem zd_Orders_weigh_22 : decode zm_Orders_weigh.2.1 22 = .ok (.iconst 4, 1) := by decide +kernel
theorem zd_Orders_weigh_23 : decode zm_Orders_weigh.2.1 23 = .ok (.imul, 1) := by decide +kernel
theorem zd_Orders_weigh_24 : decode zm_Orders_weigh.2.1 24 = .ok (.aload_n 0, 1) := by decide +kernel
theorem zd_Orders_weigh_25 : decode zm_Orders_weigh.2.1 25 = .ok (.getfield 9, 3) := by decide +kernel
theorem zd_Orders_weigh_28 : decode zm_Orders_weigh.2.1 28 = .ok (.iconst 0, 1) := by decide +kernel
theorem zd_Orders_weigh_29 : decode zm_Orders_weigh.2.1 29 = .ok (.aload_n 1, 1) := by decide +kernel
theorem zd_Orders_weigh_30 : decode zm_Orders_weigh.2.1 30 = .ok (.getfield 19, 3) := by decide +kernel
theorem zd_Orders_weigh_33 : decode zm_Orders_weigh.2.1 33 = .ok (.iload_n 3, 1) := by decide +kernel
theorem zd_Orders_weigh_34 : decode zm_Orders_weigh.2.1 34 = .ok (.iaload, 1) := by decide +kernel
theorem zd_Orders_weigh_35 : decode zm_Orders_weigh.2.1 35 = .ok (.invokestatic 54, 3) := by decide +kernel
theorem zd_Orders_weigh_38 : decode zm_Orders_weigh.2.1 38 = .ok (.aload_n 0, 1) := by decide +kernel
theorem zd_Orders_weigh_39 : decode zm_Orders_weigh.2.1 39 = .ok (.dup, 1) := by decide +kernel
theorem zd_Orders_weigh_40 : decode zm_Orders_weigh.2.1 40 = .ok (.getfield 15, 3) := by decide +kernel
theorem zd_Orders_weigh_43 : decode zm_Orders_weigh.2.1 43 = .ok (.iconst 1, 1) := by decide +kernel
theorem zd_Orders_weigh_44 : decode zm_Orders_weigh.2.1 44 = .ok (.iadd, 1) := by decide +kernel
theorem zd_Orders_weigh_45 : decode zm_Orders_weigh.2.1 45 = .ok (.putfield 15, 3) := by decide +kernel
theorem zd_Orders_weigh_48 : decode zm_Orders_weigh.2.1 48 = .ok (.return_, 1) := by decide +kernel
theorem zb_Orders_weigh_0 {Γ : zG} {σ : zS} {r2 : Nat} {x3 : Int32} {dc : Nat} {P : Int32 → zS → Prop} (h_r2 : z_oR r2) (hm : z_Ci dc zm_City_holdsUp [.inr (43), .inl (x3), .inr (r2)] σ P) (hdp : dc < z_dep Γ) (k : ∀ r σ1, P r σ1 → z_J Γ zm_Orders_weigh 6 [some (.inr (31)), some (.inr (43)), none, some (.inl (x3))] [.inl (r)] σ1) : z_J Γ zm_Orders_weigh 0 [some (.inr (31)), some (.inr (43)), some (.inr (r2)), some (.inl (x3))] [] σ := by
  refine zj_aload_n zd_Orders_weigh_0 rfl ?_
  refine zj_iload_n zd_Orders_weigh_1 rfl ?_
  refine zj_aload_n zd_Orders_weigh_2 rfl ?_
  exact zj_callVi (As := [.inl (x3), .inr (r2)]) hm hdp rfl (by decide) rfl zl_Orders_50 zq_City_holdsUp zd_Orders_weigh_3 rfl (Nat.le_of_ble_eq_true rfl) (fun r σ1 h => (zj_weak (L' := [some (.inr (31)), some (.inr (43)), none, some (.inl (x3))]) ⟨rfl, ⟨rfl, ⟨rfl, trivial⟩⟩⟩ (k r σ1 h)))
theorem zb_Orders_weigh_6 {Γ : zG} {σ : zS} {x3 y0 : Int32}  (kt : ¬ y0 = 0 → z_J Γ zm_Orders_weigh 10 [some (.inr (31)), some (.inr (43)), none, some (.inl (x3))] [] σ) (kf : y0 = 0 → z_J Γ zm_Orders_weigh 9 [none, none, none, none] [] σ) : z_J Γ zm_Orders_weigh 6 [some (.inr (31)), some (.inr (43)), none, some (.inl (x3))] [.inl (y0)] σ := by
  exact zj_if_ne zd_Orders_weigh_6 (by decide) (fun h => (kt h)) (fun h => (zj_weak (L' := [none, none, none, none]) trivial (kf h)))
theorem zb_Orders_weigh_9 {Γ : zG} {σ : zS}  (e : z_end Γ none σ) : z_J Γ zm_Orders_weigh 9 [none, none, none, none] [] σ := by
  exact zj_return rfl zd_Orders_weigh_9 e
theorem zb_Orders_weigh_10 {Γ : zG} {σ : zS} {x3 : Int32}  (kt : ¬ (σ.1 31 1) = 0 → z_J Γ zm_Orders_weigh 38 [some (.inr (31)), none, none, none] [] σ) (kf : (σ.1 31 1) = 0 → z_J Γ zm_Orders_weigh 17 [some (.inr (31)), some (.inr (43)), none, some (.inl (x3))] [] σ) : z_J Γ zm_Orders_weigh 10 [some (.inr (31)), some (.inr (43)), none, some (.inl (x3))] [] σ := by
  refine zj_aload_n zd_Orders_weigh_10 rfl ?_
  refine zj_getI rfl (by decide) rfl zu_Orders (k := 1) (by decide) rfl zl_Orders_15 zd_Orders_weigh_11 ?_
  exact zj_if_ne zd_Orders_weigh_14 (by decide) (fun h => (zj_weak (L' := [some (.inr (31)), none, none, none]) ⟨rfl, trivial⟩ (kt h))) (fun h => (kf h))
theorem zb_Orders_weigh_17 {Γ : zG} {σ : zS} {x3 : Int32} {k1 i1 j1 l1 : Nat} (hdp : 0 < z_dep Γ) (b1 : z_ix x3 6 k1) (p1 : x3 * (nI 4) = nI i1) (q1 : nI 0 = nI j1) (r1 : σ.1 49 k1 = nI l1) (s1 : i1 + l1 ≤ 24) (t1 : j1 + l1 ≤ 4) (k : z_J Γ zm_Orders_weigh 38 [some (.inr (31)), none, none, none] [] (z_pA σ 32 (va_cpy (σ.1 50) (σ.1 32) i1 j1 l1))) : z_J Γ zm_Orders_weigh 17 [some (.inr (31)), some (.inr (43)), none, some (.inl (x3))] [] σ := by
  refine zj_aload_n zd_Orders_weigh_17 rfl ?_
  refine zj_getR rfl (by decide) rfl zu_City (k := 8) (by decide) rfl zl_Orders_47 zd_Orders_weigh_18 (o' := 50) rfl ?_
  refine zj_iload_n zd_Orders_weigh_21 rfl ?_
  refine zj_iconst (v := nI 4) zd_Orders_weigh_22 (by decide) ?_
  refine zj_imul zd_Orders_weigh_23 ?_
  refine zj_aload_n zd_Orders_weigh_24 rfl ?_
  refine zj_getR rfl (by decide) rfl zu_Orders (k := 0) (by decide) rfl zl_Orders_9 zd_Orders_weigh_25 (o' := 32) rfl ?_
  refine zj_iconst (v := nI 0) zd_Orders_weigh_28 (by decide) ?_
  refine zj_aload_n zd_Orders_weigh_29 rfl ?_
  refine zj_getR rfl (by decide) rfl zu_City (k := 7) (by decide) rfl zl_Orders_19 zd_Orders_weigh_30 (o' := 49) rfl ?_
  refine zj_iload_n zd_Orders_weigh_33 rfl ?_
  refine zj_iaload rfl (by decide) b1 zd_Orders_weigh_34 ?_
  refine zj_acopy zl_Orders_54 zx_acopy_n zx_acopy_s zx_System rfl rfl (by decide) (by decide) p1 q1 r1 s1 t1 hdp (Nat.le_of_ble_eq_true rfl) zd_Orders_weigh_35 ?_
  exact (zj_weak (L' := [some (.inr (31)), none, none, none]) ⟨rfl, trivial⟩ k)
theorem zb_Orders_weigh_38 {Γ : zG} {σ : zS}  (e : z_end Γ none (z_pI σ 31 1 ((σ.1 31 1) + (nI 1)))) : z_J Γ zm_Orders_weigh 38 [some (.inr (31)), none, none, none] [] σ := by
  refine zj_aload_n zd_Orders_weigh_38 rfl ?_
  refine zj_dup zd_Orders_weigh_39 ?_
  refine zj_getI rfl (by decide) rfl zu_Orders (k := 1) (by decide) rfl zl_Orders_15 zd_Orders_weigh_40 ?_
  refine zj_iconst (v := nI 1) zd_Orders_weigh_43 (by decide) ?_
  refine zj_iadd zd_Orders_weigh_44 ?_
  refine zj_putI rfl (by decide) rfl zu_Orders zy_Orders_ok zn_Orders (k := 1) (by decide) rfl rfl zl_Orders_15 rfl rfl zd_Orders_weigh_45 ?_
  exact zj_return rfl zd_Orders_weigh_48 e
