theorem zd_Rule_setUsual_0 : decode zm_Rule_setUsual.2.1 0 = .ok (.aload_n 0, 1) := by decide +kernel
theorem zd_Rule_setUsual_1 : decode zm_Rule_setUsual.2.1 1 = .ok (.getfield 9, 3) := by decide +kernel
theorem zd_Rule_setUsual_4 : decode zm_Rule_setUsual.2.1 4 = .ok (.iconst 0, 1) := by decide +kernel
theorem zd_Rule_setUsual_5 : decode zm_Rule_setUsual.2.1 5 = .ok (.sipush 1116, 3) := by decide +kernel
theorem zd_Rule_setUsual_8 : decode zm_Rule_setUsual.2.1 8 = .ok (.iastore, 1) := by decide +kernel
theorem zd_Rule_setUsual_9 : decode zm_Rule_setUsual.2.1 9 = .ok (.aload_n 0, 1) := by decide +kernel
theorem zd_Rule_setUsual_10 : decode zm_Rule_setUsual.2.1 10 = .ok (.getfield 9, 3) := by decide +kernel
theorem zd_Rule_setUsual_13 : decode zm_Rule_setUsual.2.1 13 = .ok (.iconst 1, 1) := by decide +kernel
theorem zd_Rule_setUsual_14 : decode zm_Rule_setUsual.2.1 14 = .ok (.iconst 4, 1) := by decide +kernel
theorem zd_Rule_setUsual_15 : decode zm_Rule_setUsual.2.1 15 = .ok (.iastore, 1) := by decide +kernel
theorem zd_Rule_setUsual_16 : decode zm_Rule_setUsual.2.1 16 = .ok (.aload_n 0, 1) := by decide +kernel
theorem zd_Rule_setUsual_17 : decode zm_Rule_setUsual.2.1 17 = .ok (.getfield 9, 3) := by decide +kernel
theorem zd_Rule_setUsual_20 : decode zm_Rule_setUsual.2.1 20 = .ok (.iconst 2, 1) := by decide +kernel
theorem zd_Rule_setUsual_21 : decode zm_Rule_setUsual.2.1 21 = .ok (.sipush 2042, 3) := by decide +kernel
theorem zd_Rule_setUsual_24 : decode zm_Rule_setUsual.2.1 24 = .ok (.iastore, 1) := by decide +kernel
theorem zd_Rule_setUsual_25 : decode zm_Rule_setUsual.2.1 25 = .ok (.aload_n 0, 1) := by decide +kernel
theorem zd_Rule_setUsual_26 : decode zm_Rule_setUsual.2.1 26 = .ok (.iconst 3, 1) := by decide +kernel
theorem zd_Rule_setUsual_27 : decode zm_Rule_setUsual.2.1 27 = .ok (.putfield 28, 3) := by decide +kernel
theorem zd_Rule_setUsual_30 : decode zm_Rule_setUsual.2.1 30 = .ok (.return_, 1) := by decide +kernel
theorem zb_Rule_setUsual_0 {Γ : zG} {σ : zS} {o : Nat} {k1 k2 k3 : Nat} (h_o : z_oR o) (b1 : z_ix (nI 0) 40 k1) (b2 : z_ix (nI 1) 40 k2) (b3 : z_ix (nI 2) 40 k3) (e : z_end Γ none (z_pI (z_pI (z_pI (z_pI σ (o + 1) k1 (nI 1116)) (o + 1) k2 (nI 4)) (o + 1) k3 (nI 2042)) o 1 (nI 3))) : z_J Γ zm_Rule_setUsual 0 [some (.inr (o))] [] σ := by
  refine zj_aload_n zd_Rule_setUsual_0 rfl ?_
  refine zj_getR (zk_R0 h_o) (by decide) rfl zu_Rule (k := 0) (by decide) rfl zl_Rule_9 zd_Rule_setUsual_1 (o' := o + 1) rfl ?_
  refine zj_iconst (v := nI 0) zd_Rule_setUsual_4 (by decide) ?_
  refine zj_sipush (v := nI 1116) zd_Rule_setUsual_5 (by decide) ?_
  refine zj_iastore (zk_R1 h_o) (by decide) b1 zd_Rule_setUsual_8 ?_
  refine zj_aload_n zd_Rule_setUsual_9 rfl ?_
  refine zj_getR (zk_R0 h_o) (by decide) rfl zu_Rule (k := 0) (by decide) rfl zl_Rule_9 zd_Rule_setUsual_10 (o' := o + 1) rfl ?_
  refine zj_iconst (v := nI 1) zd_Rule_setUsual_13 (by decide) ?_
  refine zj_iconst (v := nI 4) zd_Rule_setUsual_14 (by decide) ?_
  refine zj_iastore (zk_R1 h_o) (by decide) b2 zd_Rule_setUsual_15 ?_
  refine zj_aload_n zd_Rule_setUsual_16 rfl ?_
  refine zj_getR (zk_R0 h_o) (by decide) rfl zu_Rule (k := 0) (by decide) rfl zl_Rule_9 zd_Rule_setUsual_17 (o' := o + 1) rfl ?_
  refine zj_iconst (v := nI 2) zd_Rule_setUsual_20 (by decide) ?_
  refine zj_sipush (v := nI 2042) zd_Rule_setUsual_21 (by decide) ?_
  refine zj_iastore (zk_R1 h_o) (by decide) b3 zd_Rule_setUsual_24 ?_
  refine zj_aload_n zd_Rule_setUsual_25 rfl ?_
  refine zj_iconst (v := nI 3) zd_Rule_setUsual_26 (by decide) ?_
  refine zj_putI (zk_R0 h_o) (by decide) rfl zu_Rule zy_Rule_ok zn_Rule (k := 1) (by decide) rfl rfl zl_Rule_28 rfl rfl zd_Rule_setUsual_27 ?_
  exact zj_return rfl zd_Rule_setUsual_30 e
theorem zd_Rule_worth_0 : decode zm_Rule_worth.2.1 0 = .ok (.iconst 0, 1) := by decide +kernel
theorem zd_Rule_worth_1 : decode zm_Rule_worth.2.1 1 = .ok (.istore 7, 2) := by decide +kernel
theorem zd_Rule_worth_3 : decode zm_Rule_worth.2.1 3 = .ok (.iconst 0, 1) := by decide +kernel
theorem zd_Rule_worth_4 : decode zm_Rule_worth.2.1 4 = .ok (.istore 8, 2) := by decide +kernel
theorem zd_Rule_worth_6 : decode zm_Rule_worth.2.1 6 = .ok (.iload 8, 2) := by decide +kernel
theorem zd_Rule_worth_8 : decode zm_Rule_worth.2.1 8 = .ok (.aload_n 0, 1) := by decide +kernel
theorem zd_Rule_worth_9 : decode zm_Rule_worth.2.1 9 = .ok (.getfield 28, 3) := by decide +kernel
theorem zd_Rule_worth_12 : decode zm_Rule_worth.2.1 12 = .ok (.if_icmp .ge 147, 3) := by decide +kernel
theorem zd_Rule_worth_15 : decode zm_Rule_worth.2.1 15 = .ok (.aload_n 0, 1) := by decide +kernel
theorem zd_Rule_worth_16 : decode zm_Rule_worth.2.1 16 = .ok (.getfield 9, 3) := by decide +kernel
theorem zd_Rule_worth_19 : decode zm_Rule_worth.2.1 19 = .ok (.iload 8, 2) := by decide +kernel
theorem zd_Rule_worth_21 : decode zm_Rule_worth.2.1 21 = .ok (.iaload, 1) := by decide +kernel
theorem zd_Rule_worth_22 : decode zm_Rule_worth.2.1 22 = .ok (.istore 9, 2) := by decide +kernel
theorem zd_Rule_worth_24 : decode zm_Rule_worth.2.1 24 = .ok (.iload 9, 2) := by decide +kernel
theorem zd_Rule_worth_26 : decode zm_Rule_worth.2.1 26 = .ok (.sipush 1000, 3) := by decide +kernel
theorem zd_Rule_worth_29 : decode zm_Rule_worth.2.1 29 = .ok (.if_icmp .ge 18, 3) := by decide +kernel
theorem zd_Rule_worth_32 : decode zm_Rule_worth.2.1 32 = .ok (.aload_n 0, 1) := by decide +kernel
theorem zd_Rule_worth_33 : decode zm_Rule_worth.2.1 33 = .ok (.getfield 15, 3) := by decide +kernel
theorem zd_Rule_worth_36 : decode zm_Rule_worth.2.1 36 = .ok (.iload 7, 2) := by decide +kernel
theorem zd_Rule_worth_38 : decode zm_Rule_worth.2.1 38 = .ok (.iload 9, 2) := by decide +kernel
theorem zd_Rule_worth_40 : decode zm_Rule_worth.2.1 40 = .ok (.iastore, 1) := by decide +kernel
theorem zd_Rule_worth_41 : decode zm_Rule_worth.2.1 41 = .ok (.iinc 7 1, 3) := by decide +kernel
theorem zd_Rule_worth_44 : decode zm_Rule_worth.2.1 44 = .ok (.goto 109, 3) := by decide +kernel
theorem zd_Rule_worth_47 : decode zm_Rule_worth.2.1 47 = .ok (.iload 9, 2) := by decide +kernel
theorem zd_Rule_worth_49 : decode zm_Rule_worth.2.1 49 = .ok (.sipush 2000, 3) := by decide +kernel
theorem zd_Rule_worth_52 : decode zm_Rule_worth.2.1 52 = .ok (.if_icmp .ge 34, 3) := by decide +kernel
theorem zd_Rule_worth_55 : decode zm_Rule_worth.2.1 55 = .ok (.aload_n 0, 1) := by decide +kernel
theorem zd_Rule_worth_56 : decode zm_Rule_worth.2.1 56 = .ok (.getfield 15, 3) := by decide +kernel
theorem zd_Rule_worth_59 : decode zm_Rule_worth.2.1 59 = .ok (.iload 7, 2) := by decide +kernel
theorem zd_Rule_worth_61 : decode zm_Rule_worth.2.1 61 = .ok (.iload 9, 2) := by decide +kernel
theorem zd_Rule_worth_63 : decode zm_Rule_worth.2.1 63 = .ok (.sipush 1000, 3) := by decide +kernel
theorem zd_Rule_worth_66 : decode zm_Rule_worth.2.1 66 = .ok (.isub, 1) := by decide +kernel
theorem zd_Rule_worth_67 : decode zm_Rule_worth.2.1 67 = .ok (.iload_n 1, 1) := by decide +kernel
theorem zd_Rule_worth_68 : decode zm_Rule_worth.2.1 68 = .ok (.iload_n 2, 1) := by decide +kernel
theorem zd_Rule_worth_69 : decode zm_Rule_worth.2.1 69 = .ok (.iload_n 3, 1) := by decide +kernel
theorem zd_Rule_worth_70 : decode zm_Rule_worth.2.1 70 = .ok (.iload 4, 2) := by decide +kernel
theorem zd_Rule_worth_72 : decode zm_Rule_worth.2.1 72 = .ok (.iload 5, 2) := by decide +kernel
theorem zd_Rule_worth_74 : decode zm_Rule_worth.2.1 74 = .ok (.iload 6, 2) := by decide +kernel
theorem zd_Rule_worth_76 : decode zm_Rule_worth.2.1 76 = .ok (.invokestatic 53, 3) := by decide +kernel
theorem zd_Rule_worth_79 : decode zm_Rule_worth.2.1 79 = .ok (.iastore, 1) := by decide +kernel
theorem zd_Rule_worth_80 : decode zm_Rule_worth.2.1 80 = .ok (.iinc 7 1, 3) := by decide +kernel
theorem zd_Rule_worth_83 : decode zm_Rule_worth.2.1 83 = .ok (.goto 70, 3) := by decide +kernel
theorem zd_Rule_worth_86 : decode zm_Rule_worth.2.1 86 = .ok (.iload 9, 2) := by decide +kernel
theorem zd_Rule_worth_88 : decode zm_Rule_worth.2.1 88 = .ok (.sipush 2256, 3) := by decide +kernel
theorem zd_Rule_worth_91 : decode zm_Rule_worth.2.1 91 = .ok (.if_icmp .ne 25, 3) := by decide +kernel
theorem zd_Rule_worth_94 : decode zm_Rule_worth.2.1 94 = .ok (.aload_n 0, 1) := by decide +kernel
theorem zd_Rule_worth_95 : decode zm_Rule_worth.2.1 95 = .ok (.getfield 15, 3) := by decide +kernel
theorem zd_Rule_worth_98 : decode zm_Rule_worth.2.1 98 = .ok (.iload 7, 2) := by decide +kernel
theorem zd_Rule_worth_100 : decode zm_Rule_worth.2.1 100 = .ok (.iconst 1, 1) := by decide +kernel
theorem zd_Rule_worth_101 : decode zm_Rule_worth.2.1 101 = .ok (.isub, 1) := by decide +kernel
theorem zd_Rule_worth_102 : decode zm_Rule_worth.2.1 102 = .ok (.aload_n 0, 1) := by decide +kernel
theorem zd_Rule_worth_103 : decode zm_Rule_worth.2.1 103 = .ok (.getfield 15, 3) := by decide +kernel
theorem zd_Rule_worth_106 : decode zm_Rule_worth.2.1 106 = .ok (.iload 7, 2) := by decide +kernel
theorem zd_Rule_worth_108 : decode zm_Rule_worth.2.1 108 = .ok (.iconst 1, 1) := by decide +kernel
theorem zd_Rule_worth_109 : decode zm_Rule_worth.2.1 109 = .ok (.isub, 1) := by decide +kernel
theorem zd_Rule_worth_110 : decode zm_Rule_worth.2.1 110 = .ok (.iaload, 1) := by decide +kernel
theorem zd_Rule_worth_111 : decode zm_Rule_worth.2.1 111 = .ok (.ineg, 1) := by decide +kernel
theorem zd_Rule_worth_112 : decode zm_Rule_worth.2.1 112 = .ok (.iastore, 1) := by decide +kernel
theorem zd_Rule_worth_113 : decode zm_Rule_worth.2.1 113 = .ok (.goto 40, 3) := by decide +kernel
theorem zd_Rule_worth_116 : decode zm_Rule_worth.2.1 116 = .ok (.iinc 7 (-1), 3) := by decide +kernel
theorem zd_Rule_worth_119 : decode zm_Rule_worth.2.1 119 = .ok (.aload_n 0, 1) := by decide +kernel
theorem zd_Rule_worth_120 : decode zm_Rule_worth.2.1 120 = .ok (.getfield 15, 3) := by decide +kernel
theorem zd_Rule_worth_123 : decode zm_Rule_worth.2.1 123 = .ok (.iload 7, 2) := by decide +kernel
theorem zd_Rule_worth_125 : decode zm_Rule_worth.2.1 125 = .ok (.iconst 1, 1) := by decide +kernel
theorem zd_Rule_worth_126 : decode zm_Rule_worth.2.1 126 = .ok (.isub, 1) := by decide +kernel
theorem zd_Rule_worth_127 : decode zm_Rule_worth.2.1 127 = .ok (.iload 9, 2) := by decide +kernel
theorem zd_Rule_worth_129 : decode zm_Rule_worth.2.1 129 = .ok (.sipush 2000, 3) := by decide +kernel
theorem zd_Rule_worth_132 : decode zm_Rule_worth.2.1 132 = .ok (.isub, 1) := by decide +kernel
theorem zd_Rule_worth_133 : decode zm_Rule_worth.2.1 133 = .ok (.aload_n 0, 1) := by decide +kernel
theorem zd_Rule_worth_134 : decode zm_Rule_worth.2.1 134 = .ok (.getfield 15, 3) := by decide +kernel
theorem zd_Rule_worth_137 : decode zm_Rule_worth.2.1 137 = .ok (.iload 7, 2) := by decide +kernel
theorem zd_Rule_worth_139 : decode zm_Rule_worth.2.1 139 = .ok (.iconst 1, 1) := by decide +kernel
theorem zd_Rule_worth_140 : decode zm_Rule_worth.2.1 140 = .ok (.isub, 1) := by decide +kernel
theorem zd_Rule_worth_141 : decode zm_Rule_worth.2.1 141 = .ok (.iaload, 1) := by decide +kernel
theorem zd_Rule_worth_142 : decode zm_Rule_worth.2.1 142 = .ok (.aload_n 0, 1) := by decide +kernel
theorem zd_Rule_worth_143 : decode zm_Rule_worth.2.1 143 = .ok (.getfield 15, 3) := by decide +kernel
theorem zd_Rule_worth_146 : decode zm_Rule_worth.2.1 146 = .ok (.iload 7, 2) := by decide +kernel
theorem zd_Rule_worth_148 : decode zm_Rule_worth.2.1 148 = .ok (.iaload, 1) := by decide +kernel
theorem zd_Rule_worth_149 : decode zm_Rule_worth.2.1 149 = .ok (.invokestatic 57, 3) := by decide +kernel
theorem zd_Rule_worth_152 : decode zm_Rule_worth.2.1 152 = .ok (.iastore, 1) := by decide +kernel
theorem zd_Rule_worth_153 : decode zm_Rule_worth.2.1 153 = .ok (.iinc 8 1, 3) := by decide +kernel
theorem zd_Rule_worth_156 : decode zm_Rule_worth.2.1 156 = .ok (.goto (-150), 3) := by decide +kernel
theorem zd_Rule_worth_159 : decode zm_Rule_worth.2.1 159 = .ok (.aload_n 0, 1) := by decide +kernel
theorem zd_Rule_worth_160 : decode zm_Rule_worth.2.1 160 = .ok (.getfield 15, 3) := by decide +kernel
theorem zd_Rule_worth_163 : decode zm_Rule_worth.2.1 163 = .ok (.iconst 0, 1) := by decide +kernel
theorem zd_Rule_worth_164 : decode zm_Rule_worth.2.1 164 = .ok (.iaload, 1) := by decide +kernel
theorem zd_Rule_worth_165 : decode zm_Rule_worth.2.1 165 = .ok (.ireturn, 1) := by decide +kernel
theorem zb_Rule_worth_0 {Γ : zG} {σ : zS} {o : Nat} {x1 x2 x3 x4 x5 x6 : Int32} (h_o : z_oR o) (k : z_J Γ zm_Rule_worth 6 [some (.inr (o)), some (.inl (x1)), some (.inl (x2)), some (.inl (x3)), some (.inl (x4)), some (.inl (x5)), some (.inl (x6)), some (.inl (nI 0)), some (.inl (nI 0)), none] [] σ) : z_J Γ zm_Rule_worth 0 [some (.inr (o)), some (.inl (x1)), some (.inl (x2)), some (.inl (x3)), some (.inl (x4)), some (.inl (x5)), some (.inl (x6)), none, none, none] [] σ := by
  refine zj_iconst (v := nI 0) zd_Rule_worth_0 (by decide) ?_
  refine zj_istore (L' := [some (.inr (o)), some (.inl (x1)), some (.inl (x2)), some (.inl (x3)), some (.inl (x4)), some (.inl (x5)), some (.inl (x6)), some (.inl (nI 0)), none, none]) zd_Rule_worth_1 (by decide) rfl ?_
  refine zj_iconst (v := nI 0) zd_Rule_worth_3 (by decide) ?_
  refine zj_istore (L' := [some (.inr (o)), some (.inl (x1)), some (.inl (x2)), some (.inl (x3)), some (.inl (x4)), some (.inl (x5)), some (.inl (x6)), some (.inl (nI 0)), some (.inl (nI 0)), none]) zd_Rule_worth_4 (by decide) rfl ?_
  exact k
theorem zb_Rule_worth_6 {Γ : zG} {σ : zS} {o : Nat} {x1 x2 x3 x4 x5 x6 x7 x8 : Int32} (h_o : z_oR o) (kt : (σ.1 o 1) ≤ x8 → z_J Γ zm_Rule_worth 159 [some (.inr (o)), none, none, none, none, none, none, none, none, none] [] σ) (kf : ¬ (σ.1 o 1) ≤ x8 → z_J Γ zm_Rule_worth 15 [some (.inr (o)), some (.inl (x1)), some (.inl (x2)), some (.inl (x3)), some (.inl (x4)), some (.inl (x5)), some (.inl (x6)), some (.inl (x7)), some (.inl (x8)), none] [] σ) : z_J Γ zm_Rule_worth 6 [some (.inr (o)), some (.inl (x1)), some (.inl (x2)), some (.inl (x3)), some (.inl (x4)), some (.inl (x5)), some (.inl (x6)), some (.inl (x7)), some (.inl (x8)), none] [] σ := by
  refine zj_iload zd_Rule_worth_6 rfl ?_
  refine zj_aload_n zd_Rule_worth_8 rfl ?_
  refine zj_getI (zk_R0 h_o) (by decide) rfl zu_Rule (k := 1) (by decide) rfl zl_Rule_28 zd_Rule_worth_9 ?_
  exact zj_icmp_ge zd_Rule_worth_12 (by decide) (fun h => (zj_weak (L' := [some (.inr (o)), none, none, none, none, none, none, none, none, none]) ⟨rfl, trivial⟩ (kt h))) (fun h => (kf h))
theorem zb_Rule_worth_15 {Γ : zG} {σ : zS} {o : Nat} {x1 x2 x3 x4 x5 x6 x7 x8 : Int32} {k1 : Nat} (h_o : z_oR o) (b1 : z_ix x8 40 k1) (kt : (nI 1000) ≤ (σ.1 (o + 1) k1) → z_J Γ zm_Rule_worth 47 [some (.inr (o)), some (.inl (x1)), some (.inl (x2)), some (.inl (x3)), some (.inl (x4)), some (.inl (x5)), some (.inl (x6)), some (.inl (x7)), some (.inl (x8)), some (.inl (σ.1 (o + 1) k1))] [] σ) (kf : ¬ (nI 1000) ≤ (σ.1 (o + 1) k1) → z_J Γ zm_Rule_worth 32 [some (.inr (o)), some (.inl (x1)), some (.inl (x2)), some (.inl (x3)), some (.inl (x4)), some (.inl (x5)), some (.inl (x6)), some (.inl (x7)), some (.inl (x8)), some (.inl (σ.1 (o + 1) k1))] [] σ) : z_J Γ zm_Rule_worth 15 [some (.inr (o)), some (.inl (x1)), some (.inl (x2)), some (.inl (x3)), some (.inl (x4)), some (.inl (x5)), some (.inl (x6)), some (.inl (x7)), some (.inl (x8)), none] [] σ := by
  refine zj_aload_n zd_Rule_worth_15 rfl ?_
  refine zj_getR (zk_R0 h_o) (by decide) rfl zu_Rule (k := 0) (by decide) rfl zl_Rule_9 zd_Rule_worth_16 (o' := o + 1) rfl ?_
  refine zj_iload zd_Rule_worth_19 rfl ?_
  refine zj_iaload (zk_R1 h_o) (by decide) b1 zd_Rule_worth_21 ?_
  refine zj_istore (L' := [some (.inr (o)), some (.inl (x1)), some (.inl (x2)), some (.inl (x3)), some (.inl (x4)), some (.inl (x5)), some (.inl (x6)), some (.inl (x7)), some (.inl (x8)), some (.inl (σ.1 (o + 1) k1))]) zd_Rule_worth_22 (by decide) rfl ?_
  refine zj_iload zd_Rule_worth_24 rfl ?_
  refine zj_sipush (v := nI 1000) zd_Rule_worth_26 (by decide) ?_
  exact zj_icmp_ge zd_Rule_worth_29 (by decide) (fun h => (kt h)) (fun h => (kf h))
theorem zb_Rule_worth_32 {Γ : zG} {σ : zS} {o : Nat} {x1 x2 x3 x4 x5 x6 x7 x8 x9 : Int32} {k1 : Nat} (h_o : z_oR o) (b1 : z_ix x7 40 k1) (k : z_J Γ zm_Rule_worth 153 [some (.inr (o)), some (.inl (x1)), some (.inl (x2)), some (.inl (x3)), some (.inl (x4)), some (.inl (x5)), some (.inl (x6)), some (.inl (x7 + nI 1)), some (.inl (x8)), none] [] (z_pI σ (o + 2) k1 x9)) : z_J Γ zm_Rule_worth 32 [some (.inr (o)), some (.inl (x1)), some (.inl (x2)), some (.inl (x3)), some (.inl (x4)), some (.inl (x5)), some (.inl (x6)), some (.inl (x7)), some (.inl (x8)), some (.inl (x9))] [] σ := by
  refine zj_aload_n zd_Rule_worth_32 rfl ?_
  refine zj_getR (zk_R0 h_o) (by decide) rfl zu_Rule (k := 2) (by decide) rfl zl_Rule_15 zd_Rule_worth_33 (o' := o + 2) rfl ?_
  refine zj_iload zd_Rule_worth_36 rfl ?_
  refine zj_iload zd_Rule_worth_38 rfl ?_
  refine zj_iastore (zk_R2 h_o) (by decide) b1 zd_Rule_worth_40 ?_
  refine zj_iinc (v := nI 1) (L' := [some (.inr (o)), some (.inl (x1)), some (.inl (x2)), some (.inl (x3)), some (.inl (x4)), some (.inl (x5)), some (.inl (x6)), some (.inl (x7 + nI 1)), some (.inl (x8)), some (.inl (x9))]) zd_Rule_worth_41 rfl (by decide) (by decide) rfl ?_
  exact zj_goto zd_Rule_worth_44 (by decide) (zj_weak (L' := [some (.inr (o)), some (.inl (x1)), some (.inl (x2)), some (.inl (x3)), some (.inl (x4)), some (.inl (x5)), some (.inl (x6)), some (.inl (x7 + nI 1)), some (.inl (x8)), none]) ⟨rfl, ⟨rfl, ⟨rfl, ⟨rfl, ⟨rfl, ⟨rfl, ⟨rfl, ⟨rfl, ⟨rfl, trivial⟩⟩⟩⟩⟩⟩⟩⟩⟩ k)
theorem zb_Rule_worth_47 {Γ : zG} {σ : zS} {o : Nat} {x1 x2 x3 x4 x5 x6 x7 x8 x9 : Int32} (h_o : z_oR o) (kt : (nI 2000) ≤ x9 → z_J Γ zm_Rule_worth 86 [some (.inr (o)), some (.inl (x1)), some (.inl (x2)), some (.inl (x3)), some (.inl (x4)), some (.inl (x5)), some (.inl (x6)), some (.inl (x7)), some (.inl (x8)), some (.inl (x9))] [] σ) (kf : ¬ (nI 2000) ≤ x9 → z_J Γ zm_Rule_worth 55 [some (.inr (o)), some (.inl (x1)), some (.inl (x2)), some (.inl (x3)), some (.inl (x4)), some (.inl (x5)), some (.inl (x6)), some (.inl (x7)), some (.inl (x8)), some (.inl (x9))] [] σ) : z_J Γ zm_Rule_worth 47 [some (.inr (o)), some (.inl (x1)), some (.inl (x2)), some (.inl (x3)), some (.inl (x4)), some (.inl (x5)), some (.inl (x6)), some (.inl (x7)), some (.inl (x8)), some (.inl (x9))] [] σ := by
  refine zj_iload zd_Rule_worth_47 rfl ?_
  refine zj_sipush (v := nI 2000) zd_Rule_worth_49 (by decide) ?_
  exact zj_icmp_ge zd_Rule_worth_52 (by decide) (fun h => (kt h)) (fun h => (kf h))
theorem zb_Rule_worth_55 {Γ : zG} {σ : zS} {o : Nat} {x1 x2 x3 x4 x5 x6 x7 x8 x9 : Int32} {dc : Nat} {P : Int32 → zS → Prop} (h_o : z_oR o) (hm : z_Ci dc zm_Rule_named [.inl (x9 - (nI 1000)), .inl (x1), .inl (x2), .inl (x3), .inl (x4), .inl (x5), .inl (x6)] σ P) (hdp : dc < z_dep Γ) (k : ∀ r σ1, P r σ1 → z_J Γ zm_Rule_worth 79 [some (.inr (o)), some (.inl (x1)), some (.inl (x2)), some (.inl (x3)), some (.inl (x4)), some (.inl (x5)), some (.inl (x6)), some (.inl (x7)), some (.inl (x8)), none] [.inl (r), .inl (x7), .inr (o + 2)] σ1) : z_J Γ zm_Rule_worth 55 [some (.inr (o)), some (.inl (x1)), some (.inl (x2)), some (.inl (x3)), some (.inl (x4)), some (.inl (x5)), some (.inl (x6)), some (.inl (x7)), some (.inl (x8)), some (.inl (x9))] [] σ := by
  refine zj_aload_n zd_Rule_worth_55 rfl ?_
  refine zj_getR (zk_R0 h_o) (by decide) rfl zu_Rule (k := 2) (by decide) rfl zl_Rule_15 zd_Rule_worth_56 (o' := o + 2) rfl ?_
  refine zj_iload zd_Rule_worth_59 rfl ?_
  refine zj_iload zd_Rule_worth_61 rfl ?_
  refine zj_sipush (v := nI 1000) zd_Rule_worth_63 (by decide) ?_
  refine zj_isub zd_Rule_worth_66 ?_
  refine zj_iload_n zd_Rule_worth_67 rfl ?_
  refine zj_iload_n zd_Rule_worth_68 rfl ?_
  refine zj_iload_n zd_Rule_worth_69 rfl ?_
  refine zj_iload zd_Rule_worth_70 rfl ?_
  refine zj_iload zd_Rule_worth_72 rfl ?_
  refine zj_iload zd_Rule_worth_74 rfl ?_
  exact zj_callSi (As := [.inl (x9 - (nI 1000)), .inl (x1), .inl (x2), .inl (x3), .inl (x4), .inl (x5), .inl (x6)]) hm hdp zl_Rule_53 zq_Rule_named zd_Rule_worth_76 rfl (Nat.le_of_ble_eq_true rfl) (fun r σ1 h => (zj_weak (L' := [some (.inr (o)), some (.inl (x1)), some (.inl (x2)), some (.inl (x3)), some (.inl (x4)), some (.inl (x5)), some (.inl (x6)), some (.inl (x7)), some (.inl (x8)), none]) ⟨rfl, ⟨rfl, ⟨rfl, ⟨rfl, ⟨rfl, ⟨rfl, ⟨rfl, ⟨rfl, ⟨rfl, trivial⟩⟩⟩⟩⟩⟩⟩⟩⟩ (k r σ1 h)))
theorem zb_Rule_worth_79 {Γ : zG} {σ : zS} {o : Nat} {x1 x2 x3 x4 x5 x6 x7 x8 y0 y1 : Int32} {k1 : Nat} (h_o : z_oR o) (b1 : z_ix y1 40 k1) (k : z_J Γ zm_Rule_worth 153 [some (.inr (o)), some (.inl (x1)), some (.inl (x2)), some (.inl (x3)), some (.inl (x4)), some (.inl (x5)), some (.inl (x6)), some (.inl (x7 + nI 1)), some (.inl (x8)), none] [] (z_pI σ (o + 2) k1 y0)) : z_J Γ zm_Rule_worth 79 [some (.inr (o)), some (.inl (x1)), some (.inl (x2)), some (.inl (x3)), some (.inl (x4)), some (.inl (x5)), some (.inl (x6)), some (.inl (x7)), some (.inl (x8)), none] [.inl (y0), .inl (y1), .inr (o + 2)] σ := by
  refine zj_iastore (zk_R2 h_o) (by decide) b1 zd_Rule_worth_79 ?_
  refine zj_iinc (v := nI 1) (L' := [some (.inr (o)), some (.inl (x1)), some (.inl (x2)), some (.inl (x3)), some (.inl (x4)), some (.inl (x5)), some (.inl (x6)), some (.inl (x7 + nI 1)), some (.inl (x8)), none]) zd_Rule_worth_80 rfl (by decide) (by decide) rfl ?_
  exact zj_goto zd_Rule_worth_83 (by decide) k
theorem zb_Rule_worth_86 {Γ : zG} {σ : zS} {o : Nat} {x1 x2 x3 x4 x5 x6 x7 x8 x9 : Int32} (h_o : z_oR o) (kt : ¬ x9 = (nI 2256) → z_J Γ zm_Rule_worth 116 [some (.inr (o)), some (.inl (x1)), some (.inl (x2)), some (.inl (x3)), some (.inl (x4)), some (.inl (x5)), some (.inl (x6)), some (.inl (x7)), some (.inl (x8)), some (.inl (x9))] [] σ) (kf : x9 = (nI 2256) → z_J Γ zm_Rule_worth 94 [some (.inr (o)), some (.inl (x1)), some (.inl (x2)), some (.inl (x3)), some (.inl (x4)), some (.inl (x5)), some (.inl (x6)), some (.inl (x7)), some (.inl (x8)), none] [] σ) : z_J Γ zm_Rule_worth 86 [some (.inr (o)), some (.inl (x1)), some (.inl (x2)), some (.inl (x3)), some (.inl (x4)), some (.inl (x5)), some (.inl (x6)), some (.inl (x7)), some (.inl (x8)), some (.inl (x9))] [] σ := by
  refine zj_iload zd_Rule_worth_86 rfl ?_
  refine zj_sipush (v := nI 2256) zd_Rule_worth_88 (by decide) ?_
  exact zj_icmp_ne zd_Rule_worth_91 (by decide) (fun h => (kt h)) (fun h => (zj_weak (L' := [some (.inr (o)), some (.inl (x1)), some (.inl (x2)), some (.inl (x3)), some (.inl (x4)), some (.inl (x5)), some (.inl (x6)), some (.inl (x7)), some (.inl (x8)), none]) ⟨rfl, ⟨rfl, ⟨rfl, ⟨rfl, ⟨rfl, ⟨rfl, ⟨rfl, ⟨rfl, ⟨rfl, trivial⟩⟩⟩⟩⟩⟩⟩⟩⟩ (kf h)))
theorem zb_Rule_worth_94 {Γ : zG} {σ : zS} {o : Nat} {x1 x2 x3 x4 x5 x6 x7 x8 : Int32} {k1 k2 : Nat} (h_o : z_oR o) (b1 : z_ix (x7 - (nI 1)) 40 k1) (b2 : z_ix (x7 - (nI 1)) 40 k2) (k : z_J Γ zm_Rule_worth 153 [some (.inr (o)), some (.inl (x1)), some (.inl (x2)), some (.inl (x3)), some (.inl (x4)), some (.inl (x5)), some (.inl (x6)), some (.inl (x7)), some (.inl (x8)), none] [] (z_pI σ (o + 2) k2 (-(σ.1 (o + 2) k1)))) : z_J Γ zm_Rule_worth 94 [some (.inr (o)), some (.inl (x1)), some (.inl (x2)), some (.inl (x3)), some (.inl (x4)), some (.inl (x5)), some (.inl (x6)), some (.inl (x7)), some (.inl (x8)), none] [] σ := by
  refine zj_aload_n zd_Rule_worth_94 rfl ?_
  refine zj_getR (zk_R0 h_o) (by decide) rfl zu_Rule (k := 2) (by decide) rfl zl_Rule_15 zd_Rule_worth_95 (o' := o + 2) rfl ?_
  refine zj_iload zd_Rule_worth_98 rfl ?_
  refine zj_iconst (v := nI 1) zd_Rule_worth_100 (by decide) ?_
  refine zj_isub zd_Rule_worth_101 ?_
  refine zj_aload_n zd_Rule_worth_102 rfl ?_
  refine zj_getR (zk_R0 h_o) (by decide) rfl zu_Rule (k := 2) (by decide) rfl zl_Rule_15 zd_Rule_worth_103 (o' := o + 2) rfl ?_
  refine zj_iload zd_Rule_worth_106 rfl ?_
  refine zj_iconst (v := nI 1) zd_Rule_worth_108 (by decide) ?_
  refine zj_isub zd_Rule_worth_109 ?_
  refine zj_iaload (zk_R2 h_o) (by decide) b1 zd_Rule_worth_110 ?_
  refine zj_ineg zd_Rule_worth_111 ?_
  refine zj_iastore (zk_R2 h_o) (by decide) b2 zd_Rule_worth_112 ?_
  exact zj_goto zd_Rule_worth_113 (by decide) k
theorem zb_Rule_worth_116 {Γ : zG} {σ : zS} {o : Nat} {x1 x2 x3 x4 x5 x6 x7 x8 x9 : Int32} {k1 k2 : Nat} {dc : Nat} {P : Int32 → zS → Prop} (h_o : z_oR o) (b1 : z_ix ((x7 + (-1)) - (nI 1)) 40 k1) (b2 : z_ix (x7 + (-1)) 40 k2) (hm : z_Ci dc zm_Rule_joined [.inl (x9 - (nI 2000)), .inl (σ.1 (o + 2) k1), .inl (σ.1 (o + 2) k2)] σ P) (hdp : dc < z_dep Γ) (k : ∀ r σ1, P r σ1 → z_J Γ zm_Rule_worth 152 [some (.inr (o)), some (.inl (x1)), some (.inl (x2)), some (.inl (x3)), some (.inl (x4)), some (.inl (x5)), some (.inl (x6)), some (.inl (x7 + (-1))), some (.inl (x8)), none] [.inl (r), .inl ((x7 + (-1)) - (nI 1)), .inr (o + 2)] σ1) : z_J Γ zm_Rule_worth 116 [some (.inr (o)), some (.inl (x1)), some (.inl (x2)), some (.inl (x3)), some (.inl (x4)), some (.inl (x5)), some (.inl (x6)), some (.inl (x7)), some (.inl (x8)), some (.inl (x9))] [] σ := by
  refine zj_iinc (v := (-1)) (L' := [some (.inr (o)), some (.inl (x1)), some (.inl (x2)), some (.inl (x3)), some (.inl (x4)), some (.inl (x5)), some (.inl (x6)), some (.inl (x7 + (-1))), some (.inl (x8)), some (.inl (x9))]) zd_Rule_worth_116 rfl (by decide) (by decide) rfl ?_
  refine zj_aload_n zd_Rule_worth_119 rfl ?_
  refine zj_getR (zk_R0 h_o) (by decide) rfl zu_Rule (k := 2) (by decide) rfl zl_Rule_15 zd_Rule_worth_120 (o' := o + 2) rfl ?_
  refine zj_iload zd_Rule_worth_123 rfl ?_
  refine zj_iconst (v := nI 1) zd_Rule_worth_125 (by decide) ?_
  refine zj_isub zd_Rule_worth_126 ?_
  refine zj_iload zd_Rule_worth_127 rfl ?_
  refine zj_sipush (v := nI 2000) zd_Rule_worth_129 (by decide) ?_
  refine zj_isub zd_Rule_worth_132 ?_
  refine zj_aload_n zd_Rule_worth_133 rfl ?_
  refine zj_getR (zk_R0 h_o) (by decide) rfl zu_Rule (k := 2) (by decide) rfl zl_Rule_15 zd_Rule_worth_134 (o' := o + 2) rfl ?_
  refine zj_iload zd_Rule_worth_137 rfl ?_
  refine zj_iconst (v := nI 1) zd_Rule_worth_139 (by decide) ?_
  refine zj_isub zd_Rule_worth_140 ?_
  refine zj_iaload (zk_R2 h_o) (by decide) b1 zd_Rule_worth_141 ?_
  refine zj_aload_n zd_Rule_worth_142 rfl ?_
  refine zj_getR (zk_R0 h_o) (by decide) rfl zu_Rule (k := 2) (by decide) rfl zl_Rule_15 zd_Rule_worth_143 (o' := o + 2) rfl ?_
  refine zj_iload zd_Rule_worth_146 rfl ?_
  refine zj_iaload (zk_R2 h_o) (by decide) b2 zd_Rule_worth_148 ?_
  exact zj_callSi (As := [.inl (x9 - (nI 2000)), .inl (σ.1 (o + 2) k1), .inl (σ.1 (o + 2) k2)]) hm hdp zl_Rule_57 zq_Rule_joined zd_Rule_worth_149 rfl (Nat.le_of_ble_eq_true rfl) (fun r σ1 h => (zj_weak (L' := [some (.inr (o)), some (.inl (x1)), some (.inl (x2)), some (.inl (x3)), some (.inl (x4)), some (.inl (x5)), some (.inl (x6)), some (.inl (x7 + (-1))), some (.inl (x8)), none]) ⟨rfl, ⟨rfl, ⟨rfl, ⟨rfl, ⟨rfl, ⟨rfl, ⟨rfl, ⟨rfl, ⟨rfl, trivial⟩⟩⟩⟩⟩⟩⟩⟩⟩ (k r σ1 h)))
theorem zb_Rule_worth_152 {Γ : zG} {σ : zS} {o : Nat} {x1 x2 x3 x4 x5 x6 x7 x8 y0 y1 : Int32} {k1 : Nat} (h_o : z_oR o) (b1 : z_ix y1 40 k1) (k : z_J Γ zm_Rule_worth 153 [some (.inr (o)), some (.inl (x1)), some (.inl (x2)), some (.inl (x3)), some (.inl (x4)), some (.inl (x5)), some (.inl (x6)), some (.inl (x7)), some (.inl (x8)), none] [] (z_pI σ (o + 2) k1 y0)) : z_J Γ zm_Rule_worth 152 [some (.inr (o)), some (.inl (x1)), some (.inl (x2)), some (.inl (x3)), some (.inl (x4)), some (.inl (x5)), some (.inl (x6)), some (.inl (x7)), some (.inl (x8)), none] [.inl (y0), .inl (y1), .inr (o + 2)] σ := by
  refine zj_iastore (zk_R2 h_o) (by decide) b1 zd_Rule_worth_152 ?_
  exact k
theorem zb_Rule_worth_153 {Γ : zG} {σ : zS} {o : Nat} {x1 x2 x3 x4 x5 x6 x7 x8 : Int32} (h_o : z_oR o) (k : z_J Γ zm_Rule_worth 6 [some (.inr (o)), some (.inl (x1)), some (.inl (x2)), some (.inl (x3)), some (.inl (x4)), some (.inl (x5)), some (.inl (x6)), some (.inl (x7)), some (.inl (x8 + nI 1)), none] [] σ) : z_J Γ zm_Rule_worth 153 [some (.inr (o)), some (.inl (x1)), some (.inl (x2)), some (.inl (x3)), some (.inl (x4)), some (.inl (x5)), some (.inl (x6)), some (.inl (x7)), some (.inl (x8)), none] [] σ := by
  refine zj_iinc (v := nI 1) (L' := [some (.inr (o)), some (.inl (x1)), some (.inl (x2)), some (.inl (x3)), some (.inl (x4)), some (.inl (x5)), some (.inl (x6)), some (.inl (x7)), some (.inl (x8 + nI 1)), none]) zd_Rule_worth_153 rfl (by decide) (by decide) rfl ?_
  exact zj_goto zd_Rule_worth_156 (by decide) k
theorem zb_Rule_worth_159 {Γ : zG} {σ : zS} {o : Nat} {k1 : Nat} (h_o : z_oR o) (b1 : z_ix (nI 0) 40 k1) (e : z_end Γ (some (σ.1 (o + 2) k1)) σ) : z_J Γ zm_Rule_worth 159 [some (.inr (o)), none, none, none, none, none, none, none, none, none] [] σ := by
  refine zj_aload_n zd_Rule_worth_159 rfl ?_
  refine zj_getR (zk_R0 h_o) (by decide) rfl zu_Rule (k := 2) (by decide) rfl zl_Rule_15 zd_Rule_worth_160 (o' := o + 2) rfl ?_
  refine zj_iconst (v := nI 0) zd_Rule_worth_163 (by decide) ?_
  refine zj_iaload (zk_R2 h_o) (by decide) b1 zd_Rule_worth_164 ?_
  exact zj_ireturn rfl zd_Rule_worth_165 e
theorem zd_Rule_named_0 : decode zm_Rule_named.2.1 0 = .ok (.iload_n 0, 1) := by decide +kernel
theorem zd_Rule_named_1 : decode zm_Rule_named.2.1 1 = .ok (.lookupswitch 63 #[(99, 55), (107, 57), (110, 60), (116, 51), (119, 53)], 51) := by decide +kernel
theorem zd_Rule_named_52 : decode zm_Rule_named.2.1 52 = .ok (.iload_n 1, 1) := by decide +kernel
theorem zd_Rule_named_53 : decode zm_Rule_named.2.1 53 = .ok (.ireturn, 1) := by decide +kernel
theorem zd_Rule_named_54 : decode zm_Rule_named.2.1 54 = .ok (.iload_n 2, 1) := by decide +kernel
theorem zd_Rule_named_55 : decode zm_Rule_named.2.1 55 = .ok (.ireturn, 1) := by decide +kernel
theorem zd_Rule_named_56 : decode zm_Rule_named.2.1 56 = .ok (.iload_n 3, 1) := by decide +kernel
theorem zd_Rule_named_57 : decode zm_Rule_named.2.1 57 = .ok (.ireturn, 1) := by decide +kernel
theorem zd_Rule_named_58 : decode zm_Rule_named.2.1 58 = .ok (.iload 4, 2) := by decide +kernel
theorem zd_Rule_named_60 : decode zm_Rule_named.2.1 60 = .ok (.ireturn, 1) := by decide +kernel
theorem zd_Rule_named_61 : decode zm_Rule_named.2.1 61 = .ok (.iload 5, 2) := by decide +kernel
theorem zd_Rule_named_63 : decode zm_Rule_named.2.1 63 = .ok (.ireturn, 1) := by decide +kernel
theorem zd_Rule_named_64 : decode zm_Rule_named.2.1 64 = .ok (.iload 6, 2) := by decide +kernel
theorem zd_Rule_named_66 : decode zm_Rule_named.2.1 66 = .ok (.ireturn, 1) := by decide +kernel
theorem zb_Rule_named_0 {Γ : zG} {σ : zS} {x0 x1 x2 x3 x4 x5 x6 : Int32}  (kd : x0.toInt ≠ 99 → x0.toInt ≠ 107 → x0.toInt ≠ 110 → x0.toInt ≠ 116 → x0.toInt ≠ 119 → z_J Γ zm_Rule_named 64 [none, none, none, none, none, none, some (.inl (x6))] [] σ) (k99_ : x0 = nI 99 → z_J Γ zm_Rule_named 56 [none, none, none, some (.inl (x3)), none, none, none] [] σ) (k107_ : x0 = nI 107 → z_J Γ zm_Rule_named 58 [none, none, none, none, some (.inl (x4)), none, none] [] σ) (k110_ : x0 = nI 110 → z_J Γ zm_Rule_named 61 [none, none, none, none, none, some (.inl (x5)), none] [] σ) (k116_ : x0 = nI 116 → z_J Γ zm_Rule_named 52 [none, some (.inl (x1)), none, none, none, none, none] [] σ) (k119_ : x0 = nI 119 → z_J Γ zm_Rule_named 54 [none, none, some (.inl (x2)), none, none, none, none] [] σ) : z_J Γ zm_Rule_named 0 [some (.inl (x0)), some (.inl (x1)), some (.inl (x2)), some (.inl (x3)), some (.inl (x4)), some (.inl (x5)), some (.inl (x6))] [] σ := by
  refine zj_iload_n zd_Rule_named_0 rfl ?_
  by_cases h99 : x0.toInt = 99
  · exact zj_look (off := 55) zd_Rule_named_1 (by decide) (by rw [h99] <;> rfl) (by decide) (zj_weak (L' := [none, none, none, some (.inl (x3)), none, none, none]) ⟨rfl, trivial⟩ (k99_ (Int32.toInt_inj.mp (by rw [h99]; decide))))
  by_cases h107 : x0.toInt = 107
  · exact zj_look (off := 57) zd_Rule_named_1 (by decide) (by rw [h107] <;> rfl) (by decide) (zj_weak (L' := [none, none, none, none, some (.inl (x4)), none, none]) ⟨rfl, trivial⟩ (k107_ (Int32.toInt_inj.mp (by rw [h107]; decide))))
  by_cases h110 : x0.toInt = 110
  · exact zj_look (off := 60) zd_Rule_named_1 (by decide) (by rw [h110] <;> rfl) (by decide) (zj_weak (L' := [none, none, none, none, none, some (.inl (x5)), none]) ⟨rfl, trivial⟩ (k110_ (Int32.toInt_inj.mp (by rw [h110]; decide))))
  by_cases h116 : x0.toInt = 116
  · exact zj_look (off := 51) zd_Rule_named_1 (by decide) (by rw [h116] <;> rfl) (by decide) (zj_weak (L' := [none, some (.inl (x1)), none, none, none, none, none]) ⟨rfl, trivial⟩ (k116_ (Int32.toInt_inj.mp (by rw [h116]; decide))))
  by_cases h119 : x0.toInt = 119
  · exact zj_look (off := 53) zd_Rule_named_1 (by decide) (by rw [h119] <;> rfl) (by decide) (zj_weak (L' := [none, none, some (.inl (x2)), none, none, none, none]) ⟨rfl, trivial⟩ (k119_ (Int32.toInt_inj.mp (by rw [h119]; decide))))
  exact zj_look (off := 63) zd_Rule_named_1 (by decide) (by generalize x0.toInt = z at h99 h107 h110 h116 h119 ⊢; simp [Op.lookupswitch.offset, Ne.symm h99, Ne.symm h107, Ne.symm h110, Ne.symm h116, Ne.symm h119]) (by decide) (zj_weak (L' := [none, none, none, none, none, none, some (.inl (x6))]) ⟨rfl, trivial⟩ (kd h99 h107 h110 h116 h119))
theorem zb_Rule_named_52 {Γ : zG} {σ : zS} {x1 : Int32}  (e : z_end Γ (some (x1)) σ) : z_J Γ zm_Rule_named 52 [none, some (.inl (x1)), none, none, none, none, none] [] σ := by
  refine zj_iload_n zd_Rule_named_52 rfl ?_
  exact zj_ireturn rfl zd_Rule_named_53 e
theorem zb_Rule_named_54 {Γ : zG} {σ : zS} {x2 : Int32}  (e : z_end Γ (some (x2)) σ) : z_J Γ zm_Rule_named 54 [none, none, some (.inl (x2)), none, none, none, none] [] σ := by
  refine zj_iload_n zd_Rule_named_54 rfl ?_
  exact zj_ireturn rfl zd_Rule_named_55 e
theorem zb_Rule_named_56 {Γ : zG} {σ : zS} {x3 : Int32}  (e : z_end Γ (some (x3)) σ) : z_J Γ zm_Rule_named 56 [none, none, none, some (.inl (x3)), none, none, none] [] σ := by
  refine zj_iload_n zd_Rule_named_56 rfl ?_
  exact zj_ireturn rfl zd_Rule_named_57 e
theorem zb_Rule_named_58 {Γ : zG} {σ : zS} {x4 : Int32}  (e : z_end Γ (some (x4)) σ) : z_J Γ zm_Rule_named 58 [none, none, none, none, some (.inl (x4)), none, none] [] σ := by
  refine zj_iload zd_Rule_named_58 rfl ?_
  exact zj_ireturn rfl zd_Rule_named_60 e
theorem zb_Rule_named_61 {Γ : zG} {σ : zS} {x5 : Int32}  (e : z_end Γ (some (x5)) σ) : z_J Γ zm_Rule_named 61 [none, none, none, none, none, some (.inl (x5)), none] [] σ := by
  refine zj_iload zd_Rule_named_61 rfl ?_
  exact zj_ireturn rfl zd_Rule_named_63 e
theorem zb_Rule_named_64 {Γ : zG} {σ : zS} {x6 : Int32}  (e : z_end Γ (some (x6)) σ) : z_J Γ zm_Rule_named 64 [none, none, none, none, none, none, some (.inl (x6))] [] σ := by
  refine zj_iload zd_Rule_named_64 rfl ?_
  exact zj_ireturn rfl zd_Rule_named_66 e
theorem zd_Rule_joined_0 : decode zm_Rule_joined.2.1 0 = .ok (.iload_n 0, 1) := by decide +kernel
theorem zd_Rule_joined_1 : decode zm_Rule_joined.2.1 1 = .ok (.lookupswitch 105 #[(42, 67), (43, 59), (45, 63), (47, 71), (60, 83), (62, 94)], 59) := by decide +kernel
theorem zd_Rule_joined_60 : decode zm_Rule_joined.2.1 60 = .ok (.iload_n 1, 1) := by decide +kernel
theorem zd_Rule_joined_61 : decode zm_Rule_joined.2.1 61 = .ok (.iload_n 2, 1) := by decide +kernel
theorem zd_Rule_joined_62 : decode zm_Rule_joined.2.1 62 = .ok (.iadd, 1) := by decide +kernel
theorem zd_Rule_joined_63 : decode zm_Rule_joined.2.1 63 = .ok (.ireturn, 1) := by decide +kernel
theorem zd_Rule_joined_64 : decode zm_Rule_joined.2.1 64 = .ok (.iload_n 1, 1) := by decide +kernel
theorem zd_Rule_joined_65 : decode zm_Rule_joined.2.1 65 = .ok (.iload_n 2, 1) := by decide +kernel
theorem zd_Rule_joined_66 : decode zm_Rule_joined.2.1 66 = .ok (.isub, 1) := by decide +kernel
theorem zd_Rule_joined_67 : decode zm_Rule_joined.2.1 67 = .ok (.ireturn, 1) := by decide +kernel
theorem zd_Rule_joined_68 : decode zm_Rule_joined.2.1 68 = .ok (.iload_n 1, 1) := by decide +kernel
theorem zd_Rule_joined_69 : decode zm_Rule_joined.2.1 69 = .ok (.iload_n 2, 1) := by decide +kernel
theorem zd_Rule_joined_70 : decode zm_Rule_joined.2.1 70 = .ok (.imul, 1) := by decide +kernel
theorem zd_Rule_joined_71 : decode zm_Rule_joined.2.1 71 = .ok (.ireturn, 1) := by decide +kernel
theorem zd_Rule_joined_72 : decode zm_Rule_joined.2.1 72 = .ok (.iload_n 2, 1) := by decide +kernel
theorem zd_Rule_joined_73 : decode zm_Rule_joined.2.1 73 = .ok (.ifCond .ne 7, 3) := by decide +kernel
theorem zd_Rule_joined_76 : decode zm_Rule_joined.2.1 76 = .ok (.iconst 0, 1) := by decide +kernel
theorem zd_Rule_joined_77 : decode zm_Rule_joined.2.1 77 = .ok (.goto 6, 3) := by decide +kernel
theorem zd_Rule_joined_80 : decode zm_Rule_joined.2.1 80 = .ok (.iload_n 1, 1) := by decide +kernel
theorem zd_Rule_joined_81 : decode zm_Rule_joined.2.1 81 = .ok (.iload_n 2, 1) := by decide +kernel
theorem zd_Rule_joined_82 : decode zm_Rule_joined.2.1 82 = .ok (.idiv, 1) := by decide +kernel
theorem zd_Rule_joined_83 : decode zm_Rule_joined.2.1 83 = .ok (.ireturn, 1) := by decide +kernel
theorem zd_Rule_joined_84 : decode zm_Rule_joined.2.1 84 = .ok (.iload_n 1, 1) := by decide +kernel
theorem zd_Rule_joined_85 : decode zm_Rule_joined.2.1 85 = .ok (.iload_n 2, 1) := by decide +kernel
theorem zd_Rule_joined_86 : decode zm_Rule_joined.2.1 86 = .ok (.if_icmp .ge 7, 3) := by decide +kernel
theorem zd_Rule_joined_89 : decode zm_Rule_joined.2.1 89 = .ok (.iconst 1, 1) := by decide +kernel
theorem zd_Rule_joined_90 : decode zm_Rule_joined.2.1 90 = .ok (.goto 4, 3) := by decide +kernel
theorem zd_Rule_joined_93 : decode zm_Rule_joined.2.1 93 = .ok (.iconst 0, 1) := by decide +kernel
theorem zd_Rule_joined_94 : decode zm_Rule_joined.2.1 94 = .ok (.ireturn, 1) := by decide +kernel
theorem zd_Rule_joined_95 : decode zm_Rule_joined.2.1 95 = .ok (.iload_n 1, 1) := by decide +kernel
theorem zd_Rule_joined_96 : decode zm_Rule_joined.2.1 96 = .ok (.iload_n 2, 1) := by decide +kernel
theorem zd_Rule_joined_97 : decode zm_Rule_joined.2.1 97 = .ok (.if_icmp .le 7, 3) := by decide +kernel
theorem zd_Rule_joined_100 : decode zm_Rule_joined.2.1 100 = .ok (.iconst 1, 1) := by decide +kernel
theorem zd_Rule_joined_101 : decode zm_Rule_joined.2.1 101 = .ok (.goto 4, 3) := by decide +kernel
theorem zd_Rule_joined_104 : decode zm_Rule_joined.2.1 104 = .ok (.iconst 0, 1) := by decide +kernel
theorem zd_Rule_joined_105 : decode zm_Rule_joined.2.1 105 = .ok (.ireturn, 1) := by decide +kernel
theorem zd_Rule_joined_106 : decode zm_Rule_joined.2.1 106 = .ok (.iload_n 1, 1) := by decide +kernel
theorem zd_Rule_joined_107 : decode zm_Rule_joined.2.1 107 = .ok (.iload_n 2, 1) := by decide +kernel
theorem zd_Rule_joined_108 : decode zm_Rule_joined.2.1 108 = .ok (.if_icmp .ne 7, 3) := by decide +kernel
theorem zd_Rule_joined_111 : decode zm_Rule_joined.2.1 111 = .ok (.iconst 1, 1) := by decide +kernel
theorem zd_Rule_joined_112 : decode zm_Rule_joined.2.1 112 = .ok (.goto 4, 3) := by decide +kernel
theorem zd_Rule_joined_115 : decode zm_Rule_joined.2.1 115 = .ok (.iconst 0, 1) := by decide +kernel
theorem zd_Rule_joined_116 : decode zm_Rule_joined.2.1 116 = .ok (.ireturn, 1) := by decide +kernel
theorem zb_Rule_joined_0 {Γ : zG} {σ : zS} {x0 x1 x2 : Int32}  (kd : x0.toInt ≠ 42 → x0.toInt ≠ 43 → x0.toInt ≠ 45 → x0.toInt ≠ 47 → x0.toInt ≠ 60 → x0.toInt ≠ 62 → z_J Γ zm_Rule_joined 106 [none, some (.inl (x1)), some (.inl (x2))] [] σ) (k42_ : x0 = nI 42 → z_J Γ zm_Rule_joined 68 [none, some (.inl (x1)), some (.inl (x2))] [] σ) (k43_ : x0 = nI 43 → z_J Γ zm_Rule_joined 60 [none, some (.inl (x1)), some (.inl (x2))] [] σ) (k45_ : x0 = nI 45 → z_J Γ zm_Rule_joined 64 [none, some (.inl (x1)), some (.inl (x2))] [] σ) (k47_ : x0 = nI 47 → z_J Γ zm_Rule_joined 72 [none, some (.inl (x1)), some (.inl (x2))] [] σ) (k60_ : x0 = nI 60 → z_J Γ zm_Rule_joined 84 [none, some (.inl (x1)), some (.inl (x2))] [] σ) (k62_ : x0 = nI 62 → z_J Γ zm_Rule_joined 95 [none, some (.inl (x1)), some (.inl (x2))] [] σ) : z_J Γ zm_Rule_joined 0 [some (.inl (x0)), some (.inl (x1)), some (.inl (x2))] [] σ := by
  refine zj_iload_n zd_Rule_joined_0 rfl ?_
  by_cases h42 : x0.toInt = 42
  · exact zj_look (off := 67) zd_Rule_joined_1 (by decide) (by rw [h42] <;> rfl) (by decide) (zj_weak (L' := [none, some (.inl (x1)), some (.inl (x2))]) ⟨rfl, ⟨rfl, trivial⟩⟩ (k42_ (Int32.toInt_inj.mp (by rw [h42]; decide))))
  by_cases h43 : x0.toInt = 43
  · exact zj_look (off := 59) zd_Rule_joined_1 (by decide) (by rw [h43] <;> rfl) (by decide) (zj_weak (L' := [none, some (.inl (x1)), some (.inl (x2))]) ⟨rfl, ⟨rfl, trivial⟩⟩ (k43_ (Int32.toInt_inj.mp (by rw [h43]; decide))))
  by_cases h45 : x0.toInt = 45
  · exact zj_look (off := 63) zd_Rule_joined_1 (by decide) (by rw [h45] <;> rfl) (by decide) (zj_weak (L' := [none, some (.inl (x1)), some (.inl (x2))]) ⟨rfl, ⟨rfl, trivial⟩⟩ (k45_ (Int32.toInt_inj.mp (by rw [h45]; decide))))
  by_cases h47 : x0.toInt = 47
  · exact zj_look (off := 71) zd_Rule_joined_1 (by decide) (by rw [h47] <;> rfl) (by decide) (zj_weak (L' := [none, some (.inl (x1)), some (.inl (x2))]) ⟨rfl, ⟨rfl, trivial⟩⟩ (k47_ (Int32.toInt_inj.mp (by rw [h47]; decide))))
  by_cases h60 : x0.toInt = 60
  · exact zj_look (off := 83) zd_Rule_joined_1 (by decide) (by rw [h60] <;> rfl) (by decide) (zj_weak (L' := [none, some (.inl (x1)), some (.inl (x2))]) ⟨rfl, ⟨rfl, trivial⟩⟩ (k60_ (Int32.toInt_inj.mp (by rw [h60]; decide))))
  by_cases h62 : x0.toInt = 62
  · exact zj_look (off := 94) zd_Rule_joined_1 (by decide) (by rw [h62] <;> rfl) (by decide) (zj_weak (L' := [none, some (.inl (x1)), some (.inl (x2))]) ⟨rfl, ⟨rfl, trivial⟩⟩ (k62_ (Int32.toInt_inj.mp (by rw [h62]; decide))))
  exact zj_look (off := 105) zd_Rule_joined_1 (by decide) (by generalize x0.toInt = z at h42 h43 h45 h47 h60 h62 ⊢; simp [Op.lookupswitch.offset, Ne.symm h42, Ne.symm h43, Ne.symm h45, Ne.symm h47, Ne.symm h60, Ne.symm h62]) (by decide) (zj_weak (L' := [none, some (.inl (x1)), some (.inl (x2))]) ⟨rfl, ⟨rfl, trivial⟩⟩ (kd h42 h43 h45 h47 h60 h62))
theorem zb_Rule_joined_60 {Γ : zG} {σ : zS} {x1 x2 : Int32}  (e : z_end Γ (some (x1 + x2)) σ) : z_J Γ zm_Rule_joined 60 [none, some (.inl (x1)), some (.inl (x2))] [] σ := by
  refine zj_iload_n zd_Rule_joined_60 rfl ?_
  refine zj_iload_n zd_Rule_joined_61 rfl ?_
  refine zj_iadd zd_Rule_joined_62 ?_
  exact zj_ireturn rfl zd_Rule_joined_63 e
theorem zb_Rule_joined_64 {Γ : zG} {σ : zS} {x1 x2 : Int32}  (e : z_end Γ (some (x1 - x2)) σ) : z_J Γ zm_Rule_joined 64 [none, some (.inl (x1)), some (.inl (x2))] [] σ := by
  refine zj_iload_n zd_Rule_joined_64 rfl ?_
  refine zj_iload_n zd_Rule_joined_65 rfl ?_
  refine zj_isub zd_Rule_joined_66 ?_
  exact zj_ireturn rfl zd_Rule_joined_67 e
theorem zb_Rule_joined_68 {Γ : zG} {σ : zS} {x1 x2 : Int32}  (e : z_end Γ (some (x1 * x2)) σ) : z_J Γ zm_Rule_joined 68 [none, some (.inl (x1)), some (.inl (x2))] [] σ := by
  refine zj_iload_n zd_Rule_joined_68 rfl ?_
  refine zj_iload_n zd_Rule_joined_69 rfl ?_
  refine zj_imul zd_Rule_joined_70 ?_
  exact zj_ireturn rfl zd_Rule_joined_71 e
theorem zb_Rule_joined_72 {Γ : zG} {σ : zS} {x1 x2 : Int32}  (kt : ¬ x2 = 0 → z_J Γ zm_Rule_joined 80 [none, some (.inl (x1)), some (.inl (x2))] [] σ) (kf : x2 = 0 → z_J Γ zm_Rule_joined 76 [none, none, none] [] σ) : z_J Γ zm_Rule_joined 72 [none, some (.inl (x1)), some (.inl (x2))] [] σ := by
  refine zj_iload_n zd_Rule_joined_72 rfl ?_
  exact zj_if_ne zd_Rule_joined_73 (by decide) (fun h => (kt h)) (fun h => (zj_weak (L' := [none, none, none]) trivial (kf h)))
theorem zb_Rule_joined_76 {Γ : zG} {σ : zS}  (k : z_J Γ zm_Rule_joined 83 [none, none, none] [.inl (nI 0)] σ) : z_J Γ zm_Rule_joined 76 [none, none, none] [] σ := by
  refine zj_iconst (v := nI 0) zd_Rule_joined_76 (by decide) ?_
  exact zj_goto zd_Rule_joined_77 (by decide) k
theorem zb_Rule_joined_80 {Γ : zG} {σ : zS} {x1 x2 : Int32}  (d1 : ¬ x2 = 0) (k : z_J Γ zm_Rule_joined 83 [none, none, none] [.inl (x1 / x2)] σ) : z_J Γ zm_Rule_joined 80 [none, some (.inl (x1)), some (.inl (x2))] [] σ := by
  refine zj_iload_n zd_Rule_joined_80 rfl ?_
  refine zj_iload_n zd_Rule_joined_81 rfl ?_
  refine zj_idiv zd_Rule_joined_82 d1 ?_
  exact (zj_weak (L' := [none, none, none]) trivial k)
theorem zb_Rule_joined_83 {Γ : zG} {σ : zS} {y0 : Int32}  (e : z_end Γ (some (y0)) σ) : z_J Γ zm_Rule_joined 83 [none, none, none] [.inl (y0)] σ := by
  exact zj_ireturn rfl zd_Rule_joined_83 e
theorem zb_Rule_joined_84 {Γ : zG} {σ : zS} {x1 x2 : Int32}  (kt : x2 ≤ x1 → z_J Γ zm_Rule_joined 93 [none, none, none] [] σ) (kf : ¬ x2 ≤ x1 → z_J Γ zm_Rule_joined 89 [none, none, none] [] σ) : z_J Γ zm_Rule_joined 84 [none, some (.inl (x1)), some (.inl (x2))] [] σ := by
  refine zj_iload_n zd_Rule_joined_84 rfl ?_
  refine zj_iload_n zd_Rule_joined_85 rfl ?_
  exact zj_icmp_ge zd_Rule_joined_86 (by decide) (fun h => (zj_weak (L' := [none, none, none]) trivial (kt h))) (fun h => (zj_weak (L' := [none, none, none]) trivial (kf h)))
theorem zb_Rule_joined_89 {Γ : zG} {σ : zS}  (k : z_J Γ zm_Rule_joined 94 [none, none, none] [.inl (nI 1)] σ) : z_J Γ zm_Rule_joined 89 [none, none, none] [] σ := by
  refine zj_iconst (v := nI 1) zd_Rule_joined_89 (by decide) ?_
  exact zj_goto zd_Rule_joined_90 (by decide) k
theorem zb_Rule_joined_93 {Γ : zG} {σ : zS}  (k : z_J Γ zm_Rule_joined 94 [none, none, none] [.inl (nI 0)] σ) : z_J Γ zm_Rule_joined 93 [none, none, none] [] σ := by
  refine zj_iconst (v := nI 0) zd_Rule_joined_93 (by decide) ?_
  exact k
theorem zb_Rule_joined_94 {Γ : zG} {σ : zS} {y0 : Int32}  (e : z_end Γ (some (y0)) σ) : z_J Γ zm_Rule_joined 94 [none, none, none] [.inl (y0)] σ := by
  exact zj_ireturn rfl zd_Rule_joined_94 e
theorem zb_Rule_joined_95 {Γ : zG} {σ : zS} {x1 x2 : Int32}  (kt : x1 ≤ x2 → z_J Γ zm_Rule_joined 104 [none, none, none] [] σ) (kf : ¬ x1 ≤ x2 → z_J Γ zm_Rule_joined 100 [none, none, none] [] σ) : z_J Γ zm_Rule_joined 95 [none, some (.inl (x1)), some (.inl (x2))] [] σ := by
  refine zj_iload_n zd_Rule_joined_95 rfl ?_
  refine zj_iload_n zd_Rule_joined_96 rfl ?_
  exact zj_icmp_le zd_Rule_joined_97 (by decide) (fun h => (zj_weak (L' := [none, none, none]) trivial (kt h))) (fun h => (zj_weak (L' := [none, none, none]) trivial (kf h)))
theorem zb_Rule_joined_100 {Γ : zG} {σ : zS}  (k : z_J Γ zm_Rule_joined 105 [none, none, none] [.inl (nI 1)] σ) : z_J Γ zm_Rule_joined 100 [none, none, none] [] σ := by
  refine zj_iconst (v := nI 1) zd_Rule_joined_100 (by decide) ?_
  exact zj_goto zd_Rule_joined_101 (by decide) k
theorem zb_Rule_joined_104 {Γ : zG} {σ : zS}  (k : z_J Γ zm_Rule_joined 105 [none, none, none] [.inl (nI 0)] σ) : z_J Γ zm_Rule_joined 104 [none, none, none] [] σ := by
  refine zj_iconst (v := nI 0) zd_Rule_joined_104 (by decide) ?_
  exact k
theorem zb_Rule_joined_105 {Γ : zG} {σ : zS} {y0 : Int32}  (e : z_end Γ (some (y0)) σ) : z_J Γ zm_Rule_joined 105 [none, none, none] [.inl (y0)] σ := by
  exact zj_ireturn rfl zd_Rule_joined_105 e
theorem zb_Rule_joined_106 {Γ : zG} {σ : zS} {x1 x2 : Int32}  (kt : ¬ x1 = x2 → z_J Γ zm_Rule_joined 115 [none, none, none] [] σ) (kf : x1 = x2 → z_J Γ zm_Rule_joined 111 [none, none, none] [] σ) : z_J Γ zm_Rule_joined 106 [none, some (.inl (x1)), some (.inl (x2))] [] σ := by
  refine zj_iload_n zd_Rule_joined_106 rfl ?_
  refine zj_iload_n zd_Rule_joined_107 rfl ?_
  exact zj_icmp_ne zd_Rule_joined_108 (by decide) (fun h => (zj_weak (L' := [none, none, none]) trivial (kt h))) (fun h => (zj_weak (L' := [none, none, none]) trivial (kf h)))
theorem zb_Rule_joined_111 {Γ : zG} {σ : zS}  (k : z_J Γ zm_Rule_joined 116 [none, none, none] [.inl (nI 1)] σ) : z_J Γ zm_Rule_joined 111 [none, none, none] [] σ := by
  refine zj_iconst (v := nI 1) zd_Rule_joined_111 (by decide) ?_
  exact zj_goto zd_Rule_joined_112 (by decide) k
theorem zb_Rule_joined_115 {Γ : zG} {σ : zS}  (k : z_J Γ zm_Rule_joined 116 [none, none, none] [.inl (nI 0)] σ) : z_J Γ zm_Rule_joined 115 [none, none, none] [] σ := by
  refine zj_iconst (v := nI 0) zd_Rule_joined_115 (by decide) ?_
  exact k
theorem zb_Rule_joined_116 {Γ : zG} {σ : zS} {y0 : Int32}  (e : z_end Γ (some (y0)) σ) : z_J Γ zm_Rule_joined 116 [none, none, none] [.inl (y0)] σ := by
  exact zj_ireturn rfl zd_Rule_joined_116 e
theorem zd_Rule_read_0 : decode zm_Rule_read.2.1 0 = .ok (.aload_n 0, 1) := by decide +kernel
theorem zd_Rule_read_1 : decode zm_Rule_read.2.1 1 = .ok (.iconst 0, 1) := by decide +kernel
theorem zd_Rule_read_2 : decode zm_Rule_read.2.1 2 = .ok (.putfield 28, 3) := by decide +kernel
theorem zd_Rule_read_5 : decode zm_Rule_read.2.1 5 = .ok (.aload_n 0, 1) := by decide +kernel
theorem zd_Rule_read_6 : decode zm_Rule_read.2.1 6 = .ok (.iconst 0, 1) := by decide +kernel
theorem zd_Rule_read_7 : decode zm_Rule_read.2.1 7 = .ok (.putfield 32, 3) := by decide +kernel
theorem zd_Rule_read_10 : decode zm_Rule_read.2.1 10 = .ok (.aload_n 0, 1) := by decide +kernel
theorem zd_Rule_read_11 : decode zm_Rule_read.2.1 11 = .ok (.iconst 0, 1) := by decide +kernel
theorem zd_Rule_read_12 : decode zm_Rule_read.2.1 12 = .ok (.putfield 35, 3) := by decide +kernel
theorem zd_Rule_read_15 : decode zm_Rule_read.2.1 15 = .ok (.aload_n 0, 1) := by decide +kernel
theorem zd_Rule_read_16 : decode zm_Rule_read.2.1 16 = .ok (.iconst 0, 1) := by decide +kernel
theorem zd_Rule_read_17 : decode zm_Rule_read.2.1 17 = .ok (.putfield 38, 3) := by decide +kernel
theorem zd_Rule_read_20 : decode zm_Rule_read.2.1 20 = .ok (.aload_n 0, 1) := by decide +kernel
theorem zd_Rule_read_21 : decode zm_Rule_read.2.1 21 = .ok (.getfield 21, 3) := by decide +kernel
theorem zd_Rule_read_24 : decode zm_Rule_read.2.1 24 = .ok (.iconst 0, 1) := by decide +kernel
theorem zd_Rule_read_25 : decode zm_Rule_read.2.1 25 = .ok (.iconst 0, 1) := by decide +kernel
theorem zd_Rule_read_26 : decode zm_Rule_read.2.1 26 = .ok (.bastore, 1) := by decide +kernel
theorem zd_Rule_read_27 : decode zm_Rule_read.2.1 27 = .ok (.aload_n 0, 1) := by decide +kernel
theorem zd_Rule_read_28 : decode zm_Rule_read.2.1 28 = .ok (.iconst 1, 1) := by decide +kernel
theorem zd_Rule_read_29 : decode zm_Rule_read.2.1 29 = .ok (.putfield 41, 3) := by decide +kernel
theorem zd_Rule_read_32 : decode zm_Rule_read.2.1 32 = .ok (.iconst 0, 1) := by decide +kernel
theorem zd_Rule_read_33 : decode zm_Rule_read.2.1 33 = .ok (.istore_n 3, 1) := by decide +kernel
theorem zd_Rule_read_34 : decode zm_Rule_read.2.1 34 = .ok (.iload_n 3, 1) := by decide +kernel
theorem zd_Rule_read_35 : decode zm_Rule_read.2.1 35 = .ok (.iload_n 2, 1) := by decide +kernel
theorem zd_Rule_read_36 : decode zm_Rule_read.2.1 36 = .ok (.if_icmp .ge 27, 3) := by decide +kernel
theorem zd_Rule_read_39 : decode zm_Rule_read.2.1 39 = .ok (.iload_n 3, 1) := by decide +kernel
theorem zd_Rule_read_40 : decode zm_Rule_read.2.1 40 = .ok (.bipush 40, 2) := by decide +kernel
theorem zd_Rule_read_42 : decode zm_Rule_read.2.1 42 = .ok (.if_icmp .eq 13, 3) := by decide +kernel
theorem zd_Rule_read_45 : decode zm_Rule_read.2.1 45 = .ok (.aload_n 0, 1) := by decide +kernel
theorem zd_Rule_read_46 : decode zm_Rule_read.2.1 46 = .ok (.aload_n 1, 1) := by decide +kernel
theorem zd_Rule_read_47 : decode zm_Rule_read.2.1 47 = .ok (.iload_n 3, 1) := by decide +kernel
theorem zd_Rule_read_48 : decode zm_Rule_read.2.1 48 = .ok (.caload, 1) := by decide +kernel
theorem zd_Rule_read_49 : decode zm_Rule_read.2.1 49 = .ok (.invokevirtual 45, 3) := by decide +kernel
theorem zd_Rule_read_52 : decode zm_Rule_read.2.1 52 = .ok (.ifCond .ne 5, 3) := by decide +kernel
theorem zd_Rule_read_55 : decode zm_Rule_read.2.1 55 = .ok (.iload_n 3, 1) := by decide +kernel
theorem zd_Rule_read_56 : decode zm_Rule_read.2.1 56 = .ok (.ireturn, 1) := by decide +kernel
theorem zd_Rule_read_57 : decode zm_Rule_read.2.1 57 = .ok (.iinc 3 1, 3) := by decide +kernel
theorem zd_Rule_read_60 : decode zm_Rule_read.2.1 60 = .ok (.goto (-26), 3) := by decide +kernel
theorem zd_Rule_read_63 : decode zm_Rule_read.2.1 63 = .ok (.aload_n 0, 1) := by decide +kernel
theorem zd_Rule_read_64 : decode zm_Rule_read.2.1 64 = .ok (.getfield 41, 3) := by decide +kernel
theorem zd_Rule_read_67 : decode zm_Rule_read.2.1 67 = .ok (.ifCond .ne 10, 3) := by decide +kernel
theorem zd_Rule_read_70 : decode zm_Rule_read.2.1 70 = .ok (.aload_n 0, 1) := by decide +kernel
theorem zd_Rule_read_71 : decode zm_Rule_read.2.1 71 = .ok (.getfield 35, 3) := by decide +kernel
theorem zd_Rule_read_74 : decode zm_Rule_read.2.1 74 = .ok (.ifCond .le 5, 3) := by decide +kernel
theorem zd_Rule_read_77 : decode zm_Rule_read.2.1 77 = .ok (.iload_n 2, 1) := by decide +kernel
theorem zd_Rule_read_78 : decode zm_Rule_read.2.1 78 = .ok (.ireturn, 1) := by decide +kernel
theorem zd_Rule_read_79 : decode zm_Rule_read.2.1 79 = .ok (.aload_n 0, 1) := by decide +kernel
theorem zd_Rule_read_80 : decode zm_Rule_read.2.1 80 = .ok (.iconst 1, 1) := by decide +kernel
theorem zd_Rule_read_81 : decode zm_Rule_read.2.1 81 = .ok (.invokevirtual 49, 3) := by decide +kernel
theorem zd_Rule_read_84 : decode zm_Rule_read.2.1 84 = .ok (.iconst (-1), 1) := by decide +kernel
theorem zd_Rule_read_85 : decode zm_Rule_read.2.1 85 = .ok (.ireturn, 1) := by decide +kernel
theorem zb_Rule_read_0 {Γ : zG} {σ : zS} {o : Nat} {x2 : Int32} {k1 : Nat} (h_o : z_oR o) (b1 : z_ix (nI 0) 5 k1) (k : z_J Γ zm_Rule_read 34 [some (.inr (o)), some (.inr (1)), some (.inl (x2)), some (.inl (nI 0))] [] (z_pI (z_pI (z_pI (z_pI (z_pI (z_pI σ o 1 (nI 0)) o 4 (nI 0)) o 6 (nI 0)) o 7 (nI 0)) (o + 4) k1 (vp_nar .boolean (nI 0))) o 8 (nI 1))) : z_J Γ zm_Rule_read 0 [some (.inr (o)), some (.inr (1)), some (.inl (x2)), none] [] σ := by
  refine zj_aload_n zd_Rule_read_0 rfl ?_
  refine zj_iconst (v := nI 0) zd_Rule_read_1 (by decide) ?_
  refine zj_putI (zk_R0 h_o) (by decide) rfl zu_Rule zy_Rule_ok zn_Rule (k := 1) (by decide) rfl rfl zl_Rule_28 rfl rfl zd_Rule_read_2 ?_
  refine zj_aload_n zd_Rule_read_5 rfl ?_
  refine zj_iconst (v := nI 0) zd_Rule_read_6 (by decide) ?_
  refine zj_putI (zk_R0 h_o) (by decide) rfl zu_Rule zy_Rule_ok zn_Rule (k := 4) (by decide) rfl rfl zl_Rule_32 rfl rfl zd_Rule_read_7 ?_
  refine zj_aload_n zd_Rule_read_10 rfl ?_
  refine zj_iconst (v := nI 0) zd_Rule_read_11 (by decide) ?_
  refine zj_putI (zk_R0 h_o) (by decide) rfl zu_Rule zy_Rule_ok zn_Rule (k := 6) (by decide) rfl rfl zl_Rule_35 rfl rfl zd_Rule_read_12 ?_
  refine zj_aload_n zd_Rule_read_15 rfl ?_
  refine zj_iconst (v := nI 0) zd_Rule_read_16 (by decide) ?_
  refine zj_putI (zk_R0 h_o) (by decide) rfl zu_Rule zy_Rule_ok zn_Rule (k := 7) (by decide) rfl rfl zl_Rule_38 rfl rfl zd_Rule_read_17 ?_
  refine zj_aload_n zd_Rule_read_20 rfl ?_
  refine zj_getR (zk_R0 h_o) (by decide) rfl zu_Rule (k := 5) (by decide) rfl zl_Rule_21 zd_Rule_read_21 (o' := o + 4) rfl ?_
  refine zj_iconst (v := nI 0) zd_Rule_read_24 (by decide) ?_
  refine zj_iconst (v := nI 0) zd_Rule_read_25 (by decide) ?_
  refine zj_zastore (zk_R4 h_o) (by decide) b1 zd_Rule_read_26 ?_
  refine zj_aload_n zd_Rule_read_27 rfl ?_
  refine zj_iconst (v := nI 1) zd_Rule_read_28 (by decide) ?_
  refine zj_putI (zk_R0 h_o) (by decide) rfl zu_Rule zy_Rule_ok zn_Rule (k := 8) (by decide) rfl rfl zl_Rule_41 (z_nb (Or.inr (by decide))) (z_fb (Or.inr (by decide))) zd_Rule_read_29 ?_
  refine zj_iconst (v := nI 0) zd_Rule_read_32 (by decide) ?_
  refine zj_istore_n (L' := [some (.inr (o)), some (.inr (1)), some (.inl (x2)), some (.inl (nI 0))]) zd_Rule_read_33 (by decide) rfl ?_
  exact k
theorem zb_Rule_read_34 {Γ : zG} {σ : zS} {o : Nat} {x2 x3 : Int32} (h_o : z_oR o) (kt : x2 ≤ x3 → z_J Γ zm_Rule_read 63 [some (.inr (o)), none, some (.inl (x2)), none] [] σ) (kf : ¬ x2 ≤ x3 → z_J Γ zm_Rule_read 39 [some (.inr (o)), some (.inr (1)), some (.inl (x2)), some (.inl (x3))] [] σ) : z_J Γ zm_Rule_read 34 [some (.inr (o)), some (.inr (1)), some (.inl (x2)), some (.inl (x3))] [] σ := by
  refine zj_iload_n zd_Rule_read_34 rfl ?_
  refine zj_iload_n zd_Rule_read_35 rfl ?_
  exact zj_icmp_ge zd_Rule_read_36 (by decide) (fun h => (zj_weak (L' := [some (.inr (o)), none, some (.inl (x2)), none]) ⟨rfl, ⟨rfl, trivial⟩⟩ (kt h))) (fun h => (kf h))
theorem zb_Rule_read_39 {Γ : zG} {σ : zS} {o : Nat} {x2 x3 : Int32} (h_o : z_oR o) (kt : x3 = (nI 40) → z_J Γ zm_Rule_read 55 [none, none, none, some (.inl (x3))] [] σ) (kf : ¬ x3 = (nI 40) → z_J Γ zm_Rule_read 45 [some (.inr (o)), some (.inr (1)), some (.inl (x2)), some (.inl (x3))] [] σ) : z_J Γ zm_Rule_read 39 [some (.inr (o)), some (.inr (1)), some (.inl (x2)), some (.inl (x3))] [] σ := by
  refine zj_iload_n zd_Rule_read_39 rfl ?_
  refine zj_bipush (v := nI 40) zd_Rule_read_40 (by decide) ?_
  exact zj_icmp_eq zd_Rule_read_42 (by decide) (fun h => (zj_weak (L' := [none, none, none, some (.inl (x3))]) ⟨rfl, trivial⟩ (kt h))) (fun h => (kf h))
theorem zb_Rule_read_45 {Γ : zG} {σ : zS} {o : Nat} {x2 x3 : Int32} {k1 : Nat} {dc : Nat} {P : Int32 → zS → Prop} (h_o : z_oR o) (b1 : z_ix x3 80 k1) (hm : z_Ci dc zm_Rule_takes [.inr (o), .inl (σ.1 1 k1)] σ P) (hdp : dc < z_dep Γ) (k : ∀ r σ1, P r σ1 → z_J Γ zm_Rule_read 52 [some (.inr (o)), some (.inr (1)), some (.inl (x2)), some (.inl (x3))] [.inl (r)] σ1) : z_J Γ zm_Rule_read 45 [some (.inr (o)), some (.inr (1)), some (.inl (x2)), some (.inl (x3))] [] σ := by
  refine zj_aload_n zd_Rule_read_45 rfl ?_
  refine zj_aload_n zd_Rule_read_46 rfl ?_
  refine zj_iload_n zd_Rule_read_47 rfl ?_
  refine zj_caload rfl (by decide) b1 zd_Rule_read_48 ?_
  exact zj_callVi (As := [.inl (σ.1 1 k1)]) hm hdp (zk_R0 h_o) (by decide) rfl zl_Rule_45 zq_Rule_takes zd_Rule_read_49 rfl (Nat.le_of_ble_eq_true rfl) (fun r σ1 h => (k r σ1 h))
theorem zb_Rule_read_52 {Γ : zG} {σ : zS} {o : Nat} {x2 x3 y0 : Int32} (h_o : z_oR o) (kt : ¬ y0 = 0 → z_J Γ zm_Rule_read 57 [some (.inr (o)), some (.inr (1)), some (.inl (x2)), some (.inl (x3))] [] σ) (kf : y0 = 0 → z_J Γ zm_Rule_read 55 [none, none, none, some (.inl (x3))] [] σ) : z_J Γ zm_Rule_read 52 [some (.inr (o)), some (.inr (1)), some (.inl (x2)), some (.inl (x3))] [.inl (y0)] σ := by
  exact zj_if_ne zd_Rule_read_52 (by decide) (fun h => (kt h)) (fun h => (zj_weak (L' := [none, none, none, some (.inl (x3))]) ⟨rfl, trivial⟩ (kf h)))
theorem zb_Rule_read_55 {Γ : zG} {σ : zS} {x3 : Int32}  (e : z_end Γ (some (x3)) σ) : z_J Γ zm_Rule_read 55 [none, none, none, some (.inl (x3))] [] σ := by
  refine zj_iload_n zd_Rule_read_55 rfl ?_
  exact zj_ireturn rfl zd_Rule_read_56 e
theorem zb_Rule_read_57 {Γ : zG} {σ : zS} {o : Nat} {x2 x3 : Int32} (h_o : z_oR o) (k : z_J Γ zm_Rule_read 34 [some (.inr (o)), some (.inr (1)), some (.inl (x2)), some (.inl (x3 + nI 1))] [] σ) : z_J Γ zm_Rule_read 57 [some (.inr (o)), some (.inr (1)), some (.inl (x2)), some (.inl (x3))] [] σ := by
  refine zj_iinc (v := nI 1) (L' := [some (.inr (o)), some (.inr (1)), some (.inl (x2)), some (.inl (x3 + nI 1))]) zd_Rule_read_57 rfl (by decide) (by decide) rfl ?_
  exact zj_goto zd_Rule_read_60 (by decide) k
theorem zb_Rule_read_63 {Γ : zG} {σ : zS} {o : Nat} {x2 : Int32} (h_o : z_oR o) (kt : ¬ (σ.1 o 8) = 0 → z_J Γ zm_Rule_read 77 [none, none, some (.inl (x2)), none] [] σ) (kf : (σ.1 o 8) = 0 → z_J Γ zm_Rule_read 70 [some (.inr (o)), none, some (.inl (x2)), none] [] σ) : z_J Γ zm_Rule_read 63 [some (.inr (o)), none, some (.inl (x2)), none] [] σ := by
  refine zj_aload_n zd_Rule_read_63 rfl ?_
  refine zj_getI (zk_R0 h_o) (by decide) rfl zu_Rule (k := 8) (by decide) rfl zl_Rule_41 zd_Rule_read_64 ?_
  exact zj_if_ne zd_Rule_read_67 (by decide) (fun h => (zj_weak (L' := [none, none, some (.inl (x2)), none]) ⟨rfl, trivial⟩ (kt h))) (fun h => (kf h))
theorem zb_Rule_read_70 {Γ : zG} {σ : zS} {o : Nat} {x2 : Int32} (h_o : z_oR o) (kt : (σ.1 o 6) ≤ 0 → z_J Γ zm_Rule_read 79 [some (.inr (o)), none, none, none] [] σ) (kf : ¬ (σ.1 o 6) ≤ 0 → z_J Γ zm_Rule_read 77 [none, none, some (.inl (x2)), none] [] σ) : z_J Γ zm_Rule_read 70 [some (.inr (o)), none, some (.inl (x2)), none] [] σ := by
  refine zj_aload_n zd_Rule_read_70 rfl ?_
  refine zj_getI (zk_R0 h_o) (by decide) rfl zu_Rule (k := 6) (by decide) rfl zl_Rule_35 zd_Rule_read_71 ?_
  exact zj_if_le zd_Rule_read_74 (by decide) (fun h => (zj_weak (L' := [some (.inr (o)), none, none, none]) ⟨rfl, trivial⟩ (kt h))) (fun h => (zj_weak (L' := [none, none, some (.inl (x2)), none]) ⟨rfl, trivial⟩ (kf h)))
theorem zb_Rule_read_77 {Γ : zG} {σ : zS} {x2 : Int32}  (e : z_end Γ (some (x2)) σ) : z_J Γ zm_Rule_read 77 [none, none, some (.inl (x2)), none] [] σ := by
  refine zj_iload_n zd_Rule_read_77 rfl ?_
  exact zj_ireturn rfl zd_Rule_read_78 e
theorem zb_Rule_read_79 {Γ : zG} {σ : zS} {o : Nat} {dc : Nat} {P : zS → Prop} (h_o : z_oR o) (hm : z_Cv dc zm_Rule_release [.inr (o), .inl (nI 1)] σ P) (hdp : dc < z_dep Γ) (k : ∀ σ1, P σ1 → z_J Γ zm_Rule_read 84 [none, none, none, none] [] σ1) : z_J Γ zm_Rule_read 79 [some (.inr (o)), none, none, none] [] σ := by
  refine zj_aload_n zd_Rule_read_79 rfl ?_
  refine zj_iconst (v := nI 1) zd_Rule_read_80 (by decide) ?_
  exact zj_callVv (As := [.inl (nI 1)]) hm hdp (zk_R0 h_o) (by decide) rfl zl_Rule_49 zq_Rule_release zd_Rule_read_81 rfl (Nat.le_of_ble_eq_true rfl) (fun σ1 h => (zj_weak (L' := [none, none, none, none]) trivial (k σ1 h)))
theorem zb_Rule_read_84 {Γ : zG} {σ : zS}  (e : z_end Γ (some ((-1))) σ) : z_J Γ zm_Rule_read 84 [none, none, none, none] [] σ := by
  refine zj_iconst (v := (-1)) zd_Rule_read_84 (by decide) ?_
  exact zj_ireturn rfl zd_Rule_read_85 e
theorem zd_Rule_takes_0 : decode zm_Rule_takes.2.1 0 = .ok (.iload_n 1, 1) := by decide +kernel
theorem zd_Rule_takes_1 : decode zm_Rule_takes.2.1 1 = .ok (.invokestatic 61, 3) := by decide +kernel
theorem zd_Rule_takes_4 : decode zm_Rule_takes.2.1 4 = .ok (.ifCond .eq 12, 3) := by decide +kernel
theorem zd_Rule_takes_7 : decode zm_Rule_takes.2.1 7 = .ok (.aload_n 0, 1) := by decide +kernel
theorem zd_Rule_takes_8 : decode zm_Rule_takes.2.1 8 = .ok (.iload_n 1, 1) := by decide +kernel
theorem zd_Rule_takes_9 : decode zm_Rule_takes.2.1 9 = .ok (.bipush 48, 2) := by decide +kernel
theorem zd_Rule_takes_11 : decode zm_Rule_takes.2.1 11 = .ok (.isub, 1) := by decide +kernel
theorem zd_Rule_takes_12 : decode zm_Rule_takes.2.1 12 = .ok (.invokevirtual 64, 3) := by decide +kernel
theorem zd_Rule_takes_15 : decode zm_Rule_takes.2.1 15 = .ok (.ireturn, 1) := by decide +kernel
theorem zd_Rule_takes_16 : decode zm_Rule_takes.2.1 16 = .ok (.aload_n 0, 1) := by decide +kernel
theorem zd_Rule_takes_17 : decode zm_Rule_takes.2.1 17 = .ok (.iconst 0, 1) := by decide +kernel
theorem zd_Rule_takes_18 : decode zm_Rule_takes.2.1 18 = .ok (.putfield 38, 3) := by decide +kernel
theorem zd_Rule_takes_21 : decode zm_Rule_takes.2.1 21 = .ok (.aload_n 0, 1) := by decide +kernel
theorem zd_Rule_takes_22 : decode zm_Rule_takes.2.1 22 = .ok (.getfield 41, 3) := by decide +kernel
theorem zd_Rule_takes_25 : decode zm_Rule_takes.2.1 25 = .ok (.ifCond .eq 11, 3) := by decide +kernel
theorem zd_Rule_takes_28 : decode zm_Rule_takes.2.1 28 = .ok (.aload_n 0, 1) := by decide +kernel
theorem zd_Rule_takes_29 : decode zm_Rule_takes.2.1 29 = .ok (.iload_n 1, 1) := by decide +kernel
theorem zd_Rule_takes_30 : decode zm_Rule_takes.2.1 30 = .ok (.invokevirtual 68, 3) := by decide +kernel
theorem zd_Rule_takes_33 : decode zm_Rule_takes.2.1 33 = .ok (.goto 8, 3) := by decide +kernel
theorem zd_Rule_takes_36 : decode zm_Rule_takes.2.1 36 = .ok (.aload_n 0, 1) := by decide +kernel
theorem zd_Rule_takes_37 : decode zm_Rule_takes.2.1 37 = .ok (.iload_n 1, 1) := by decide +kernel
theorem zd_Rule_takes_38 : decode zm_Rule_takes.2.1 38 = .ok (.invokevirtual 71, 3) := by decide +kernel
theorem zd_Rule_takes_41 : decode zm_Rule_takes.2.1 41 = .ok (.ireturn, 1) := by decide +kernel
theorem zb_Rule_takes_0 {Γ : zG} {σ : zS} {o : Nat} {x1 : Int32} {dc : Nat} {P : Int32 → zS → Prop} (h_o : z_oR o) (hm : z_Ci dc zm_Walls_isDigit [.inl (x1)] σ P) (hdp : dc < z_dep Γ) (k : ∀ r σ1, P r σ1 → z_J Γ zm_Rule_takes 4 [some (.inr (o)), some (.inl (x1))] [.inl (r)] σ1) : z_J Γ zm_Rule_takes 0 [some (.inr (o)), some (.inl (x1))] [] σ := by
  refine zj_iload_n zd_Rule_takes_0 rfl ?_
  exact zj_callNi (As := [.inl (x1)]) hm hdp (fun _ h => h.2.1) zq_Walls_isDigit zd_Rule_takes_1 rfl (Nat.le_of_ble_eq_true rfl) (fun r σ1 h => (k r σ1 h))
theorem zb_Rule_takes_4 {Γ : zG} {σ : zS} {o : Nat} {x1 y0 : Int32} (h_o : z_oR o) (kt : y0 = 0 → z_J Γ zm_Rule_takes 16 [some (.inr (o)), some (.inl (x1))] [] σ) (kf : ¬ y0 = 0 → z_J Γ zm_Rule_takes 7 [some (.inr (o)), some (.inl (x1))] [] σ) : z_J Γ zm_Rule_takes 4 [some (.inr (o)), some (.inl (x1))] [.inl (y0)] σ := by
  exact zj_if_eq zd_Rule_takes_4 (by decide) (fun h => (kt h)) (fun h => (kf h))
theorem zb_Rule_takes_7 {Γ : zG} {σ : zS} {o : Nat} {x1 : Int32} {dc : Nat} {P : Int32 → zS → Prop} (h_o : z_oR o) (hm : z_Ci dc zm_Rule_takesDigit [.inr (o), .inl (x1 - (nI 48))] σ P) (hdp : dc < z_dep Γ) (k : ∀ r σ1, P r σ1 → z_J Γ zm_Rule_takes 15 [none, none] [.inl (r)] σ1) : z_J Γ zm_Rule_takes 7 [some (.inr (o)), some (.inl (x1))] [] σ := by
  refine zj_aload_n zd_Rule_takes_7 rfl ?_
  refine zj_iload_n zd_Rule_takes_8 rfl ?_
  refine zj_bipush (v := nI 48) zd_Rule_takes_9 (by decide) ?_
  refine zj_isub zd_Rule_takes_11 ?_
  exact zj_callVi (As := [.inl (x1 - (nI 48))]) hm hdp (zk_R0 h_o) (by decide) rfl zl_Rule_64 zq_Rule_takesDigit zd_Rule_takes_12 rfl (Nat.le_of_ble_eq_true rfl) (fun r σ1 h => (zj_weak (L' := [none, none]) trivial (k r σ1 h)))
theorem zb_Rule_takes_15 {Γ : zG} {σ : zS} {y0 : Int32}  (e : z_end Γ (some (y0)) σ) (z1 : y0 = 0 ∨ y0 = 1) : z_J Γ zm_Rule_takes 15 [none, none] [.inl (y0)] σ := by
  exact zj_zreturn rfl z1 zd_Rule_takes_15 e
theorem zb_Rule_takes_16 {Γ : zG} {σ : zS} {o : Nat} {x1 : Int32} (h_o : z_oR o) (kt : ((z_pI σ o 7 (nI 0)).1 o 8) = 0 → z_J Γ zm_Rule_takes 36 [some (.inr (o)), some (.inl (x1))] [] (z_pI σ o 7 (nI 0))) (kf : ¬ ((z_pI σ o 7 (nI 0)).1 o 8) = 0 → z_J Γ zm_Rule_takes 28 [some (.inr (o)), some (.inl (x1))] [] (z_pI σ o 7 (nI 0))) : z_J Γ zm_Rule_takes 16 [some (.inr (o)), some (.inl (x1))] [] σ := by
  refine zj_aload_n zd_Rule_takes_16 rfl ?_
  refine zj_iconst (v := nI 0) zd_Rule_takes_17 (by decide) ?_
  refine zj_putI (zk_R0 h_o) (by decide) rfl zu_Rule zy_Rule_ok zn_Rule (k := 7) (by decide) rfl rfl zl_Rule_38 rfl rfl zd_Rule_takes_18 ?_
  refine zj_aload_n zd_Rule_takes_21 rfl ?_
  refine zj_getI (zk_R0 h_o) (by decide) rfl zu_Rule (k := 8) (by decide) rfl zl_Rule_41 zd_Rule_takes_22 ?_
  exact zj_if_eq zd_Rule_takes_25 (by decide) (fun h => (kt h)) (fun h => (kf h))
theorem zb_Rule_takes_28 {Γ : zG} {σ : zS} {o : Nat} {x1 : Int32} {dc : Nat} {P : Int32 → zS → Prop} (h_o : z_oR o) (hm : z_Ci dc zm_Rule_takesAhead [.inr (o), .inl (x1)] σ P) (hdp : dc < z_dep Γ) (k : ∀ r σ1, P r σ1 → z_J Γ zm_Rule_takes 33 [none, none] [.inl (r)] σ1) : z_J Γ zm_Rule_takes 28 [some (.inr (o)), some (.inl (x1))] [] σ := by
  refine zj_aload_n zd_Rule_takes_28 rfl ?_
  refine zj_iload_n zd_Rule_takes_29 rfl ?_
  exact zj_callVi (As := [.inl (x1)]) hm hdp (zk_R0 h_o) (by decide) rfl zl_Rule_68 zq_Rule_takesAhead zd_Rule_takes_30 rfl (Nat.le_of_ble_eq_true rfl) (fun r σ1 h => (zj_weak (L' := [none, none]) trivial (k r σ1 h)))
theorem zb_Rule_takes_33 {Γ : zG} {σ : zS} {y0 : Int32}  (k : z_J Γ zm_Rule_takes 41 [none, none] [.inl (y0)] σ) : z_J Γ zm_Rule_takes 33 [none, none] [.inl (y0)] σ := by
  exact zj_goto zd_Rule_takes_33 (by decide) k
theorem zb_Rule_takes_36 {Γ : zG} {σ : zS} {o : Nat} {x1 : Int32} {dc : Nat} {P : Int32 → zS → Prop} (h_o : z_oR o) (hm : z_Ci dc zm_Rule_takesBehind [.inr (o), .inl (x1)] σ P) (hdp : dc < z_dep Γ) (k : ∀ r σ1, P r σ1 → z_J Γ zm_Rule_takes 41 [none, none] [.inl (r)] σ1) : z_J Γ zm_Rule_takes 36 [some (.inr (o)), some (.inl (x1))] [] σ := by
  refine zj_aload_n zd_Rule_takes_36 rfl ?_
  refine zj_iload_n zd_Rule_takes_37 rfl ?_
  exact zj_callVi (As := [.inl (x1)]) hm hdp (zk_R0 h_o) (by decide) rfl zl_Rule_71 zq_Rule_takesBehind zd_Rule_takes_38 rfl (Nat.le_of_ble_eq_true rfl) (fun r σ1 h => (zj_weak (L' := [none, none]) trivial (k r σ1 h)))
theorem zb_Rule_takes_41 {Γ : zG} {σ : zS} {y0 : Int32}  (e : z_end Γ (some (y0)) σ) (z1 : y0 = 0 ∨ y0 = 1) : z_J Γ zm_Rule_takes 41 [none, none] [.inl (y0)] σ := by
  exact zj_zreturn rfl z1 zd_Rule_takes_41 e
theorem zd_Rule_takesDigit_0 : decode zm_Rule_takesDigit.2.1 0 = .ok (.aload_n 0, 1) := by decide +kernel
theorem zd_Rule_takesDigit_1 : decode zm_Rule_takesDigit.2.1 1 = .ok (.getfield 38, 3) := by decide +kernel
theorem zd_Rule_takesDigit_4 : decode zm_Rule_takesDigit.2.1 4 = .ok (.iconst 3, 1) := by decide +kernel
theorem zd_Rule_takesDigit_5 : decode zm_Rule_takesDigit.2.1 5 = .ok (.if_icmp .eq 17, 3) := by decide +kernel
theorem zd_Rule_takesDigit_8 : decode zm_Rule_takesDigit.2.1 8 = .ok (.aload_n 0, 1) := by decide +kernel
theorem zd_Rule_takesDigit_9 : decode zm_Rule_takesDigit.2.1 9 = .ok (.getfield 38, 3) := by decide +kernel
theorem zd_Rule_takesDigit_12 : decode zm_Rule_takesDigit.2.1 12 = .ok (.ifCond .ne 12, 3) := by decide +kernel
theorem zd_Rule_takesDigit_15 : decode zm_Rule_takesDigit.2.1 15 = .ok (.aload_n 0, 1) := by decide +kernel
theorem zd_Rule_takesDigit_16 : decode zm_Rule_takesDigit.2.1 16 = .ok (.getfield 41, 3) := by decide +kernel
theorem zd_Rule_takesDigit_19 : decode zm_Rule_takesDigit.2.1 19 = .ok (.ifCond .ne 5, 3) := by decide +kernel
theorem zd_Rule_takesDigit_22 : decode zm_Rule_takesDigit.2.1 22 = .ok (.iconst 0, 1) := by decide +kernel
theorem zd_Rule_takesDigit_23 : decode zm_Rule_takesDigit.2.1 23 = .ok (.ireturn, 1) := by decide +kernel
theorem zd_Rule_takesDigit_24 : decode zm_Rule_takesDigit.2.1 24 = .ok (.aload_n 0, 1) := by decide +kernel
theorem zd_Rule_takesDigit_25 : decode zm_Rule_takesDigit.2.1 25 = .ok (.getfield 38, 3) := by decide +kernel
theorem zd_Rule_takesDigit_28 : decode zm_Rule_takesDigit.2.1 28 = .ok (.ifCond .ne 16, 3) := by decide +kernel
theorem zd_Rule_takesDigit_31 : decode zm_Rule_takesDigit.2.1 31 = .ok (.aload_n 0, 1) := by decide +kernel
theorem zd_Rule_takesDigit_32 : decode zm_Rule_takesDigit.2.1 32 = .ok (.iload_n 1, 1) := by decide +kernel
theorem zd_Rule_takesDigit_33 : decode zm_Rule_takesDigit.2.1 33 = .ok (.invokevirtual 74, 3) := by decide +kernel
theorem zd_Rule_takesDigit_36 : decode zm_Rule_takesDigit.2.1 36 = .ok (.aload_n 0, 1) := by decide +kernel
theorem zd_Rule_takesDigit_37 : decode zm_Rule_takesDigit.2.1 37 = .ok (.iconst 0, 1) := by decide +kernel
theorem zd_Rule_takesDigit_38 : decode zm_Rule_takesDigit.2.1 38 = .ok (.putfield 41, 3) := by decide +kernel
theorem zd_Rule_takesDigit_41 : decode zm_Rule_takesDigit.2.1 41 = .ok (.goto 30, 3) := by decide +kernel
theorem zd_Rule_takesDigit_44 : decode zm_Rule_takesDigit.2.1 44 = .ok (.aload_n 0, 1) := by decide +kernel
theorem zd_Rule_takesDigit_45 : decode zm_Rule_takesDigit.2.1 45 = .ok (.getfield 9, 3) := by decide +kernel
theorem zd_Rule_takesDigit_48 : decode zm_Rule_takesDigit.2.1 48 = .ok (.aload_n 0, 1) := by decide +kernel
theorem zd_Rule_takesDigit_49 : decode zm_Rule_takesDigit.2.1 49 = .ok (.getfield 28, 3) := by decide +kernel
theorem zd_Rule_takesDigit_52 : decode zm_Rule_takesDigit.2.1 52 = .ok (.iconst 1, 1) := by decide +kernel
theorem zd_Rule_takesDigit_53 : decode zm_Rule_takesDigit.2.1 53 = .ok (.isub, 1) := by decide +kernel
theorem zd_Rule_takesDigit_54 : decode zm_Rule_takesDigit.2.1 54 = .ok (.aload_n 0, 1) := by decide +kernel
theorem zd_Rule_takesDigit_55 : decode zm_Rule_takesDigit.2.1 55 = .ok (.getfield 9, 3) := by decide +kernel
theorem zd_Rule_takesDigit_58 : decode zm_Rule_takesDigit.2.1 58 = .ok (.aload_n 0, 1) := by decide +kernel
theorem zd_Rule_takesDigit_59 : decode zm_Rule_takesDigit.2.1 59 = .ok (.getfield 28, 3) := by decide +kernel
theorem zd_Rule_takesDigit_62 : decode zm_Rule_takesDigit.2.1 62 = .ok (.iconst 1, 1) := by decide +kernel
theorem zd_Rule_takesDigit_63 : decode zm_Rule_takesDigit.2.1 63 = .ok (.isub, 1) := by decide +kernel
theorem zd_Rule_takesDigit_64 : decode zm_Rule_takesDigit.2.1 64 = .ok (.iaload, 1) := by decide +kernel
theorem zd_Rule_takesDigit_65 : decode zm_Rule_takesDigit.2.1 65 = .ok (.bipush 10, 2) := by decide +kernel
theorem zd_Rule_takesDigit_67 : decode zm_Rule_takesDigit.2.1 67 = .ok (.imul, 1) := by decide +kernel
theorem zd_Rule_takesDigit_68 : decode zm_Rule_takesDigit.2.1 68 = .ok (.iload_n 1, 1) := by decide +kernel
theorem zd_Rule_takesDigit_69 : decode zm_Rule_takesDigit.2.1 69 = .ok (.iadd, 1) := by decide +kernel
theorem zd_Rule_takesDigit_70 : decode zm_Rule_takesDigit.2.1 70 = .ok (.iastore, 1) := by decide +kernel
theorem zd_Rule_takesDigit_71 : decode zm_Rule_takesDigit.2.1 71 = .ok (.aload_n 0, 1) := by decide +kernel
theorem zd_Rule_takesDigit_72 : decode zm_Rule_takesDigit.2.1 72 = .ok (.dup, 1) := by decide +kernel
theorem zd_Rule_takesDigit_73 : decode zm_Rule_takesDigit.2.1 73 = .ok (.getfield 38, 3) := by decide +kernel
theorem zd_Rule_takesDigit_76 : decode zm_Rule_takesDigit.2.1 76 = .ok (.iconst 1, 1) := by decide +kernel
theorem zd_Rule_takesDigit_77 : decode zm_Rule_takesDigit.2.1 77 = .ok (.iadd, 1) := by decide +kernel
theorem zd_Rule_takesDigit_78 : decode zm_Rule_takesDigit.2.1 78 = .ok (.putfield 38, 3) := by decide +kernel
theorem zd_Rule_takesDigit_81 : decode zm_Rule_takesDigit.2.1 81 = .ok (.iconst 1, 1) := by decide +kernel
theorem zd_Rule_takesDigit_82 : decode zm_Rule_takesDigit.2.1 82 = .ok (.ireturn, 1) := by decide +kernel
theorem zb_Rule_takesDigit_0 {Γ : zG} {σ : zS} {o : Nat} {x1 : Int32} (h_o : z_oR o) (kt : (σ.1 o 7) = (nI 3) → z_J Γ zm_Rule_takesDigit 22 [none, none] [] σ) (kf : ¬ (σ.1 o 7) = (nI 3) → z_J Γ zm_Rule_takesDigit 8 [some (.inr (o)), some (.inl (x1))] [] σ) : z_J Γ zm_Rule_takesDigit 0 [some (.inr (o)), some (.inl (x1))] [] σ := by
  refine zj_aload_n zd_Rule_takesDigit_0 rfl ?_
  refine zj_getI (zk_R0 h_o) (by decide) rfl zu_Rule (k := 7) (by decide) rfl zl_Rule_38 zd_Rule_takesDigit_1 ?_
  refine zj_iconst (v := nI 3) zd_Rule_takesDigit_4 (by decide) ?_
  exact zj_icmp_eq zd_Rule_takesDigit_5 (by decide) (fun h => (zj_weak (L' := [none, none]) trivial (kt h))) (fun h => (kf h))
theorem zb_Rule_takesDigit_8 {Γ : zG} {σ : zS} {o : Nat} {x1 : Int32} (h_o : z_oR o) (kt : ¬ (σ.1 o 7) = 0 → z_J Γ zm_Rule_takesDigit 24 [some (.inr (o)), some (.inl (x1))] [] σ) (kf : (σ.1 o 7) = 0 → z_J Γ zm_Rule_takesDigit 15 [some (.inr (o)), some (.inl (x1))] [] σ) : z_J Γ zm_Rule_takesDigit 8 [some (.inr (o)), some (.inl (x1))] [] σ := by
  refine zj_aload_n zd_Rule_takesDigit_8 rfl ?_
  refine zj_getI (zk_R0 h_o) (by decide) rfl zu_Rule (k := 7) (by decide) rfl zl_Rule_38 zd_Rule_takesDigit_9 ?_
  exact zj_if_ne zd_Rule_takesDigit_12 (by decide) (fun h => (kt h)) (fun h => (kf h))
theorem zb_Rule_takesDigit_15 {Γ : zG} {σ : zS} {o : Nat} {x1 : Int32} (h_o : z_oR o) (kt : ¬ (σ.1 o 8) = 0 → z_J Γ zm_Rule_takesDigit 24 [some (.inr (o)), some (.inl (x1))] [] σ) (kf : (σ.1 o 8) = 0 → z_J Γ zm_Rule_takesDigit 22 [none, none] [] σ) : z_J Γ zm_Rule_takesDigit 15 [some (.inr (o)), some (.inl (x1))] [] σ := by
  refine zj_aload_n zd_Rule_takesDigit_15 rfl ?_
  refine zj_getI (zk_R0 h_o) (by decide) rfl zu_Rule (k := 8) (by decide) rfl zl_Rule_41 zd_Rule_takesDigit_16 ?_
  exact zj_if_ne zd_Rule_takesDigit_19 (by decide) (fun h => (kt h)) (fun h => (zj_weak (L' := [none, none]) trivial (kf h)))
theorem zb_Rule_takesDigit_22 {Γ : zG} {σ : zS}  (e : z_end Γ (some (nI 0)) σ) : z_J Γ zm_Rule_takesDigit 22 [none, none] [] σ := by
  refine zj_iconst (v := nI 0) zd_Rule_takesDigit_22 (by decide) ?_
  exact zj_zreturn rfl (Or.inl (by decide)) zd_Rule_takesDigit_23 e
theorem zb_Rule_takesDigit_24 {Γ : zG} {σ : zS} {o : Nat} {x1 : Int32} (h_o : z_oR o) (kt : ¬ (σ.1 o 7) = 0 → z_J Γ zm_Rule_takesDigit 44 [some (.inr (o)), some (.inl (x1))] [] σ) (kf : (σ.1 o 7) = 0 → z_J Γ zm_Rule_takesDigit 31 [some (.inr (o)), some (.inl (x1))] [] σ) : z_J Γ zm_Rule_takesDigit 24 [some (.inr (o)), some (.inl (x1))] [] σ := by
  refine zj_aload_n zd_Rule_takesDigit_24 rfl ?_
  refine zj_getI (zk_R0 h_o) (by decide) rfl zu_Rule (k := 7) (by decide) rfl zl_Rule_38 zd_Rule_takesDigit_25 ?_
  exact zj_if_ne zd_Rule_takesDigit_28 (by decide) (fun h => (kt h)) (fun h => (kf h))
theorem zb_Rule_takesDigit_31 {Γ : zG} {σ : zS} {o : Nat} {x1 : Int32} {dc : Nat} {P : zS → Prop} (h_o : z_oR o) (hm : z_Cv dc zm_Rule_emit [.inr (o), .inl (x1)] σ P) (hdp : dc < z_dep Γ) (k : ∀ σ1, P σ1 → z_J Γ zm_Rule_takesDigit 36 [some (.inr (o)), none] [] σ1) : z_J Γ zm_Rule_takesDigit 31 [some (.inr (o)), some (.inl (x1))] [] σ := by
  refine zj_aload_n zd_Rule_takesDigit_31 rfl ?_
  refine zj_iload_n zd_Rule_takesDigit_32 rfl ?_
  exact zj_callVv (As := [.inl (x1)]) hm hdp (zk_R0 h_o) (by decide) rfl zl_Rule_74 zq_Rule_emit zd_Rule_takesDigit_33 rfl (Nat.le_of_ble_eq_true rfl) (fun σ1 h => (zj_weak (L' := [some (.inr (o)), none]) ⟨rfl, trivial⟩ (k σ1 h)))
theorem zb_Rule_takesDigit_36 {Γ : zG} {σ : zS} {o : Nat} (h_o : z_oR o) (k : z_J Γ zm_Rule_takesDigit 71 [some (.inr (o)), none] [] (z_pI σ o 8 (nI 0))) : z_J Γ zm_Rule_takesDigit 36 [some (.inr (o)), none] [] σ := by
  refine zj_aload_n zd_Rule_takesDigit_36 rfl ?_
  refine zj_iconst (v := nI 0) zd_Rule_takesDigit_37 (by decide) ?_
  refine zj_putI (zk_R0 h_o) (by decide) rfl zu_Rule zy_Rule_ok zn_Rule (k := 8) (by decide) rfl rfl zl_Rule_41 (z_nb (Or.inl (by decide))) (z_fb (Or.inl (by decide))) zd_Rule_takesDigit_38 ?_
  exact zj_goto zd_Rule_takesDigit_41 (by decide) k
theorem zb_Rule_takesDigit_44 {Γ : zG} {σ : zS} {o : Nat} {x1 : Int32} {k1 k2 : Nat} (h_o : z_oR o) (b1 : z_ix ((σ.1 o 1) - (nI 1)) 40 k1) (b2 : z_ix ((σ.1 o 1) - (nI 1)) 40 k2) (k : z_J Γ zm_Rule_takesDigit 71 [some (.inr (o)), none] [] (z_pI σ (o + 1) k2 (((σ.1 (o + 1) k1) * (nI 10)) + x1))) : z_J Γ zm_Rule_takesDigit 44 [some (.inr (o)), some (.inl (x1))] [] σ := by
  refine zj_aload_n zd_Rule_takesDigit_44 rfl ?_
  refine zj_getR (zk_R0 h_o) (by decide) rfl zu_Rule (k := 0) (by decide) rfl zl_Rule_9 zd_Rule_takesDigit_45 (o' := o + 1) rfl ?_
  refine zj_aload_n zd_Rule_takesDigit_48 rfl ?_
  refine zj_getI (zk_R0 h_o) (by decide) rfl zu_Rule (k := 1) (by decide) rfl zl_Rule_28 zd_Rule_takesDigit_49 ?_
  refine zj_iconst (v := nI 1) zd_Rule_takesDigit_52 (by decide) ?_
  refine zj_isub zd_Rule_takesDigit_53 ?_
  refine zj_aload_n zd_Rule_takesDigit_54 rfl ?_
  refine zj_getR (zk_R0 h_o) (by decide) rfl zu_Rule (k := 0) (by decide) rfl zl_Rule_9 zd_Rule_takesDigit_55 (o' := o + 1) rfl ?_
  refine zj_aload_n zd_Rule_takesDigit_58 rfl ?_
  refine zj_getI (zk_R0 h_o) (by decide) rfl zu_Rule (k := 1) (by decide) rfl zl_Rule_28 zd_Rule_takesDigit_59 ?_
  refine zj_iconst (v := nI 1) zd_Rule_takesDigit_62 (by decide) ?_
  refine zj_isub zd_Rule_takesDigit_63 ?_
  refine zj_iaload (zk_R1 h_o) (by decide) b1 zd_Rule_takesDigit_64 ?_
  refine zj_bipush (v := nI 10) zd_Rule_takesDigit_65 (by decide) ?_
  refine zj_imul zd_Rule_takesDigit_67 ?_
  refine zj_iload_n zd_Rule_takesDigit_68 rfl ?_
  refine zj_iadd zd_Rule_takesDigit_69 ?_
  refine zj_iastore (zk_R1 h_o) (by decide) b2 zd_Rule_takesDigit_70 ?_
  exact (zj_weak (L' := [some (.inr (o)), none]) ⟨rfl, trivial⟩ k)
theorem zb_Rule_takesDigit_71 {Γ : zG} {σ : zS} {o : Nat} (h_o : z_oR o) (e : z_end Γ (some (nI 1)) (z_pI σ o 7 ((σ.1 o 7) + (nI 1)))) : z_J Γ zm_Rule_takesDigit 71 [some (.inr (o)), none] [] σ := by
  refine zj_aload_n zd_Rule_takesDigit_71 rfl ?_
  refine zj_dup zd_Rule_takesDigit_72 ?_
  refine zj_getI (zk_R0 h_o) (by decide) rfl zu_Rule (k := 7) (by decide) rfl zl_Rule_38 zd_Rule_takesDigit_73 ?_
  refine zj_iconst (v := nI 1) zd_Rule_takesDigit_76 (by decide) ?_
  refine zj_iadd zd_Rule_takesDigit_77 ?_
  refine zj_putI (zk_R0 h_o) (by decide) rfl zu_Rule zy_Rule_ok zn_Rule (k := 7) (by decide) rfl rfl zl_Rule_38 rfl rfl zd_Rule_takesDigit_78 ?_
  refine zj_iconst (v := nI 1) zd_Rule_takesDigit_81 (by decide) ?_
  exact zj_zreturn rfl (Or.inr (by decide)) zd_Rule_takesDigit_82 e
theorem zd_Rule_emit_0 : decode zm_Rule_emit.2.1 0 = .ok (.aload_n 0, 1) := by decide +kernel
theorem zd_Rule_emit_1 : decode zm_Rule_emit.2.1 1 = .ok (.getfield 9, 3) := by decide +kernel
theorem zd_Rule_emit_4 : decode zm_Rule_emit.2.1 4 = .ok (.aload_n 0, 1) := by decide +kernel
theorem zd_Rule_emit_5 : decode zm_Rule_emit.2.1 5 = .ok (.getfield 28, 3) := by decide +kernel
theorem zd_Rule_emit_8 : decode zm_Rule_emit.2.1 8 = .ok (.iload_n 1, 1) := by decide +kernel
theorem zd_Rule_emit_9 : decode zm_Rule_emit.2.1 9 = .ok (.iastore, 1) := by decide +kernel
theorem zd_Rule_emit_10 : decode zm_Rule_emit.2.1 10 = .ok (.aload_n 0, 1) := by decide +kernel
theorem zd_Rule_emit_11 : decode zm_Rule_emit.2.1 11 = .ok (.dup, 1) := by decide +kernel
theorem zd_Rule_emit_12 : decode zm_Rule_emit.2.1 12 = .ok (.getfield 28, 3) := by decide +kernel
theorem zd_Rule_emit_15 : decode zm_Rule_emit.2.1 15 = .ok (.iconst 1, 1) := by decide +kernel
theorem zd_Rule_emit_16 : decode zm_Rule_emit.2.1 16 = .ok (.iadd, 1) := by decide +kernel
theorem zd_Rule_emit_17 : decode zm_Rule_emit.2.1 17 = .ok (.putfield 28, 3) := by decide +kernel
theorem zd_Rule_emit_20 : decode zm_Rule_emit.2.1 20 = .ok (.return_, 1) := by decide +kernel
theorem zb_Rule_emit_0 {Γ : zG} {σ : zS} {o : Nat} {x1 : Int32} {k1 : Nat} (h_o : z_oR o) (b1 : z_ix (σ.1 o 1) 40 k1) (e : z_end Γ none (z_pI (z_pI σ (o + 1) k1 x1) o 1 (((z_pI σ (o + 1) k1 x1).1 o 1) + (nI 1)))) : z_J Γ zm_Rule_emit 0 [some (.inr (o)), some (.inl (x1))] [] σ := by
  refine zj_aload_n zd_Rule_emit_0 rfl ?_
  refine zj_getR (zk_R0 h_o) (by decide) rfl zu_Rule (k := 0) (by decide) rfl zl_Rule_9 zd_Rule_emit_1 (o' := o + 1) rfl ?_
  refine zj_aload_n zd_Rule_emit_4 rfl ?_
  refine zj_getI (zk_R0 h_o) (by decide) rfl zu_Rule (k := 1) (by decide) rfl zl_Rule_28 zd_Rule_emit_5 ?_
  refine zj_iload_n zd_Rule_emit_8 rfl ?_
  refine zj_iastore (zk_R1 h_o) (by decide) b1 zd_Rule_emit_9 ?_
  refine zj_aload_n zd_Rule_emit_10 rfl ?_
  refine zj_dup zd_Rule_emit_11 ?_
  refine zj_getI (zk_R0 h_o) (by decide) rfl zu_Rule (k := 1) (by decide) rfl zl_Rule_28 zd_Rule_emit_12 ?_
  refine zj_iconst (v := nI 1) zd_Rule_emit_15 (by decide) ?_
  refine zj_iadd zd_Rule_emit_16 ?_
  refine zj_putI (zk_R0 h_o) (by decide) rfl zu_Rule zy_Rule_ok zn_Rule (k := 1) (by decide) rfl rfl zl_Rule_28 rfl rfl zd_Rule_emit_17 ?_
  exact zj_return rfl zd_Rule_emit_20 e
theorem zd_Rule_takesAhead_0 : decode zm_Rule_takesAhead.2.1 0 = .ok (.iload_n 1, 1) := by decide +kernel
theorem zd_Rule_takesAhead_1 : decode zm_Rule_takesAhead.2.1 1 = .ok (.bipush 45, 2) := by decide +kernel
theorem zd_Rule_takesAhead_3 : decode zm_Rule_takesAhead.2.1 3 = .ok (.if_icmp .ne 12, 3) := by decide +kernel
theorem zd_Rule_takesAhead_6 : decode zm_Rule_takesAhead.2.1 6 = .ok (.aload_n 0, 1) := by decide +kernel
theorem zd_Rule_takesAhead_7 : decode zm_Rule_takesAhead.2.1 7 = .ok (.sipush 256, 3) := by decide +kernel
theorem zd_Rule_takesAhead_10 : decode zm_Rule_takesAhead.2.1 10 = .ok (.invokevirtual 77, 3) := by decide +kernel
theorem zd_Rule_takesAhead_13 : decode zm_Rule_takesAhead.2.1 13 = .ok (.iconst 1, 1) := by decide +kernel
theorem zd_Rule_takesAhead_14 : decode zm_Rule_takesAhead.2.1 14 = .ok (.ireturn, 1) := by decide +kernel
theorem zd_Rule_takesAhead_15 : decode zm_Rule_takesAhead.2.1 15 = .ok (.iload_n 1, 1) := by decide +kernel
theorem zd_Rule_takesAhead_16 : decode zm_Rule_takesAhead.2.1 16 = .ok (.bipush 40, 2) := by decide +kernel
theorem zd_Rule_takesAhead_18 : decode zm_Rule_takesAhead.2.1 18 = .ok (.if_icmp .ne 8, 3) := by decide +kernel
theorem zd_Rule_takesAhead_21 : decode zm_Rule_takesAhead.2.1 21 = .ok (.aload_n 0, 1) := by decide +kernel
theorem zd_Rule_takesAhead_22 : decode zm_Rule_takesAhead.2.1 22 = .ok (.invokevirtual 80, 3) := by decide +kernel
theorem zd_Rule_takesAhead_25 : decode zm_Rule_takesAhead.2.1 25 = .ok (.ireturn, 1) := by decide +kernel
theorem zd_Rule_takesAhead_26 : decode zm_Rule_takesAhead.2.1 26 = .ok (.iload_n 1, 1) := by decide +kernel
theorem zd_Rule_takesAhead_27 : decode zm_Rule_takesAhead.2.1 27 = .ok (.invokestatic 84, 3) := by decide +kernel
theorem zd_Rule_takesAhead_30 : decode zm_Rule_takesAhead.2.1 30 = .ok (.ifCond .ne 5, 3) := by decide +kernel
theorem zd_Rule_takesAhead_33 : decode zm_Rule_takesAhead.2.1 33 = .ok (.iconst 0, 1) := by decide +kernel
theorem zd_Rule_takesAhead_34 : decode zm_Rule_takesAhead.2.1 34 = .ok (.ireturn, 1) := by decide +kernel
theorem zd_Rule_takesAhead_35 : decode zm_Rule_takesAhead.2.1 35 = .ok (.aload_n 0, 1) := by decide +kernel
theorem zd_Rule_takesAhead_36 : decode zm_Rule_takesAhead.2.1 36 = .ok (.sipush 1000, 3) := by decide +kernel
theorem zd_Rule_takesAhead_39 : decode zm_Rule_takesAhead.2.1 39 = .ok (.iload_n 1, 1) := by decide +kernel
theorem zd_Rule_takesAhead_40 : decode zm_Rule_takesAhead.2.1 40 = .ok (.iadd, 1) := by decide +kernel
theorem zd_Rule_takesAhead_41 : decode zm_Rule_takesAhead.2.1 41 = .ok (.invokevirtual 74, 3) := by decide +kernel
theorem zd_Rule_takesAhead_44 : decode zm_Rule_takesAhead.2.1 44 = .ok (.aload_n 0, 1) := by decide +kernel
theorem zd_Rule_takesAhead_45 : decode zm_Rule_takesAhead.2.1 45 = .ok (.iconst 0, 1) := by decide +kernel
theorem zd_Rule_takesAhead_46 : decode zm_Rule_takesAhead.2.1 46 = .ok (.putfield 41, 3) := by decide +kernel
theorem zd_Rule_takesAhead_49 : decode zm_Rule_takesAhead.2.1 49 = .ok (.iconst 1, 1) := by decide +kernel
theorem zd_Rule_takesAhead_50 : decode zm_Rule_takesAhead.2.1 50 = .ok (.ireturn, 1) := by decide +kernel
theorem zb_Rule_takesAhead_0 {Γ : zG} {σ : zS} {o : Nat} {x1 : Int32} (h_o : z_oR o) (kt : ¬ x1 = (nI 45) → z_J Γ zm_Rule_takesAhead 15 [some (.inr (o)), some (.inl (x1))] [] σ) (kf : x1 = (nI 45) → z_J Γ zm_Rule_takesAhead 6 [some (.inr (o)), none] [] σ) : z_J Γ zm_Rule_takesAhead 0 [some (.inr (o)), some (.inl (x1))] [] σ := by
  refine zj_iload_n zd_Rule_takesAhead_0 rfl ?_
  refine zj_bipush (v := nI 45) zd_Rule_takesAhead_1 (by decide) ?_
  exact zj_icmp_ne zd_Rule_takesAhead_3 (by decide) (fun h => (kt h)) (fun h => (zj_weak (L' := [some (.inr (o)), none]) ⟨rfl, trivial⟩ (kf h)))
theorem zb_Rule_takesAhead_6 {Γ : zG} {σ : zS} {o : Nat} {dc : Nat} {P : zS → Prop} (h_o : z_oR o) (hm : z_Cv dc zm_Rule_hold [.inr (o), .inl (nI 256)] σ P) (hdp : dc < z_dep Γ) (k : ∀ σ1, P σ1 → z_J Γ zm_Rule_takesAhead 13 [none, none] [] σ1) : z_J Γ zm_Rule_takesAhead 6 [some (.inr (o)), none] [] σ := by
  refine zj_aload_n zd_Rule_takesAhead_6 rfl ?_
  refine zj_sipush (v := nI 256) zd_Rule_takesAhead_7 (by decide) ?_
  exact zj_callVv (As := [.inl (nI 256)]) hm hdp (zk_R0 h_o) (by decide) rfl zl_Rule_77 zq_Rule_hold zd_Rule_takesAhead_10 rfl (Nat.le_of_ble_eq_true rfl) (fun σ1 h => (zj_weak (L' := [none, none]) trivial (k σ1 h)))
theorem zb_Rule_takesAhead_13 {Γ : zG} {σ : zS}  (e : z_end Γ (some (nI 1)) σ) : z_J Γ zm_Rule_takesAhead 13 [none, none] [] σ := by
  refine zj_iconst (v := nI 1) zd_Rule_takesAhead_13 (by decide) ?_
  exact zj_zreturn rfl (Or.inr (by decide)) zd_Rule_takesAhead_14 e
theorem zb_Rule_takesAhead_15 {Γ : zG} {σ : zS} {o : Nat} {x1 : Int32} (h_o : z_oR o) (kt : ¬ x1 = (nI 40) → z_J Γ zm_Rule_takesAhead 26 [some (.inr (o)), some (.inl (x1))] [] σ) (kf : x1 = (nI 40) → z_J Γ zm_Rule_takesAhead 21 [some (.inr (o)), none] [] σ) : z_J Γ zm_Rule_takesAhead 15 [some (.inr (o)), some (.inl (x1))] [] σ := by
  refine zj_iload_n zd_Rule_takesAhead_15 rfl ?_
  refine zj_bipush (v := nI 40) zd_Rule_takesAhead_16 (by decide) ?_
  exact zj_icmp_ne zd_Rule_takesAhead_18 (by decide) (fun h => (kt h)) (fun h => (zj_weak (L' := [some (.inr (o)), none]) ⟨rfl, trivial⟩ (kf h)))
theorem zb_Rule_takesAhead_21 {Γ : zG} {σ : zS} {o : Nat} {dc : Nat} {P : Int32 → zS → Prop} (h_o : z_oR o) (hm : z_Ci dc zm_Rule_opens [.inr (o)] σ P) (hdp : dc < z_dep Γ) (k : ∀ r σ1, P r σ1 → z_J Γ zm_Rule_takesAhead 25 [none, none] [.inl (r)] σ1) : z_J Γ zm_Rule_takesAhead 21 [some (.inr (o)), none] [] σ := by
  refine zj_aload_n zd_Rule_takesAhead_21 rfl ?_
  exact zj_callVi (As := []) hm hdp (zk_R0 h_o) (by decide) rfl zl_Rule_80 zq_Rule_opens zd_Rule_takesAhead_22 rfl (Nat.le_of_ble_eq_true rfl) (fun r σ1 h => (zj_weak (L' := [none, none]) trivial (k r σ1 h)))
theorem zb_Rule_takesAhead_25 {Γ : zG} {σ : zS} {y0 : Int32}  (e : z_end Γ (some (y0)) σ) (z1 : y0 = 0 ∨ y0 = 1) : z_J Γ zm_Rule_takesAhead 25 [none, none] [.inl (y0)] σ := by
  exact zj_zreturn rfl z1 zd_Rule_takesAhead_25 e
theorem zb_Rule_takesAhead_26 {Γ : zG} {σ : zS} {o : Nat} {x1 : Int32} {dc : Nat} {P : Int32 → zS → Prop} (h_o : z_oR o) (hm : z_Ci dc zm_Rule_isName [.inl (x1)] σ P) (hdp : dc < z_dep Γ) (k : ∀ r σ1, P r σ1 → z_J Γ zm_Rule_takesAhead 30 [some (.inr (o)), some (.inl (x1))] [.inl (r)] σ1) : z_J Γ zm_Rule_takesAhead 26 [some (.inr (o)), some (.inl (x1))] [] σ := by
  refine zj_iload_n zd_Rule_takesAhead_26 rfl ?_
  exact zj_callSi (As := [.inl (x1)]) hm hdp zl_Rule_84 zq_Rule_isName zd_Rule_takesAhead_27 rfl (Nat.le_of_ble_eq_true rfl) (fun r σ1 h => (k r σ1 h))
theorem zb_Rule_takesAhead_30 {Γ : zG} {σ : zS} {o : Nat} {x1 y0 : Int32} (h_o : z_oR o) (kt : ¬ y0 = 0 → z_J Γ zm_Rule_takesAhead 35 [some (.inr (o)), some (.inl (x1))] [] σ) (kf : y0 = 0 → z_J Γ zm_Rule_takesAhead 33 [none, none] [] σ) : z_J Γ zm_Rule_takesAhead 30 [some (.inr (o)), some (.inl (x1))] [.inl (y0)] σ := by
  exact zj_if_ne zd_Rule_takesAhead_30 (by decide) (fun h => (kt h)) (fun h => (zj_weak (L' := [none, none]) trivial (kf h)))
theorem zb_Rule_takesAhead_33 {Γ : zG} {σ : zS}  (e : z_end Γ (some (nI 0)) σ) : z_J Γ zm_Rule_takesAhead 33 [none, none] [] σ := by
  refine zj_iconst (v := nI 0) zd_Rule_takesAhead_33 (by decide) ?_
  exact zj_zreturn rfl (Or.inl (by decide)) zd_Rule_takesAhead_34 e
theorem zb_Rule_takesAhead_35 {Γ : zG} {σ : zS} {o : Nat} {x1 : Int32} {dc : Nat} {P : zS → Prop} (h_o : z_oR o) (hm : z_Cv dc zm_Rule_emit [.inr (o), .inl ((nI 1000) + x1)] σ P) (hdp : dc < z_dep Γ) (k : ∀ σ1, P σ1 → z_J Γ zm_Rule_takesAhead 44 [some (.inr (o)), none] [] σ1) : z_J Γ zm_Rule_takesAhead 35 [some (.inr (o)), some (.inl (x1))] [] σ := by
  refine zj_aload_n zd_Rule_takesAhead_35 rfl ?_
  refine zj_sipush (v := nI 1000) zd_Rule_takesAhead_36 (by decide) ?_
  refine zj_iload_n zd_Rule_takesAhead_39 rfl ?_
  refine zj_iadd zd_Rule_takesAhead_40 ?_
  exact zj_callVv (As := [.inl ((nI 1000) + x1)]) hm hdp (zk_R0 h_o) (by decide) rfl zl_Rule_74 zq_Rule_emit zd_Rule_takesAhead_41 rfl (Nat.le_of_ble_eq_true rfl) (fun σ1 h => (zj_weak (L' := [some (.inr (o)), none]) ⟨rfl, trivial⟩ (k σ1 h)))
theorem zb_Rule_takesAhead_44 {Γ : zG} {σ : zS} {o : Nat} (h_o : z_oR o) (e : z_end Γ (some (nI 1)) (z_pI σ o 8 (nI 0))) : z_J Γ zm_Rule_takesAhead 44 [some (.inr (o)), none] [] σ := by
  refine zj_aload_n zd_Rule_takesAhead_44 rfl ?_
  refine zj_iconst (v := nI 0) zd_Rule_takesAhead_45 (by decide) ?_
  refine zj_putI (zk_R0 h_o) (by decide) rfl zu_Rule zy_Rule_ok zn_Rule (k := 8) (by decide) rfl rfl zl_Rule_41 (z_nb (Or.inl (by decide))) (z_fb (Or.inl (by decide))) zd_Rule_takesAhead_46 ?_
  refine zj_iconst (v := nI 1) zd_Rule_takesAhead_49 (by decide) ?_
  exact zj_zreturn rfl (Or.inr (by decide)) zd_Rule_takesAhead_50 e
theorem zd_Rule_hold_0 : decode zm_Rule_hold.2.1 0 = .ok (.aload_n 0, 1) := by decide +kernel
theorem zd_Rule_hold_1 : decode zm_Rule_hold.2.1 1 = .ok (.getfield 18, 3) := by decide +kernel
theorem zd_Rule_hold_4 : decode zm_Rule_hold.2.1 4 = .ok (.aload_n 0, 1) := by decide +kernel
theorem zd_Rule_hold_5 : decode zm_Rule_hold.2.1 5 = .ok (.getfield 32, 3) := by decide +kernel
theorem zd_Rule_hold_8 : decode zm_Rule_hold.2.1 8 = .ok (.iload_n 1, 1) := by decide +kernel
theorem zd_Rule_hold_9 : decode zm_Rule_hold.2.1 9 = .ok (.iastore, 1) := by decide +kernel
theorem zd_Rule_hold_10 : decode zm_Rule_hold.2.1 10 = .ok (.aload_n 0, 1) := by decide +kernel
theorem zd_Rule_hold_11 : decode zm_Rule_hold.2.1 11 = .ok (.dup, 1) := by decide +kernel
theorem zd_Rule_hold_12 : decode zm_Rule_hold.2.1 12 = .ok (.getfield 32, 3) := by decide +kernel
theorem zd_Rule_hold_15 : decode zm_Rule_hold.2.1 15 = .ok (.iconst 1, 1) := by decide +kernel
theorem zd_Rule_hold_16 : decode zm_Rule_hold.2.1 16 = .ok (.iadd, 1) := by decide +kernel
theorem zd_Rule_hold_17 : decode zm_Rule_hold.2.1 17 = .ok (.putfield 32, 3) := by decide +kernel
theorem zd_Rule_hold_20 : decode zm_Rule_hold.2.1 20 = .ok (.return_, 1) := by decide +kernel
theorem zb_Rule_hold_0 {Γ : zG} {σ : zS} {o : Nat} {x1 : Int32} {k1 : Nat} (h_o : z_oR o) (b1 : z_ix (σ.1 o 4) 40 k1) (e : z_end Γ none (z_pI (z_pI σ (o + 3) k1 x1) o 4 (((z_pI σ (o + 3) k1 x1).1 o 4) + (nI 1)))) : z_J Γ zm_Rule_hold 0 [some (.inr (o)), some (.inl (x1))] [] σ := by
  refine zj_aload_n zd_Rule_hold_0 rfl ?_
  refine zj_getR (zk_R0 h_o) (by decide) rfl zu_Rule (k := 3) (by decide) rfl zl_Rule_18 zd_Rule_hold_1 (o' := o + 3) rfl ?_
  refine zj_aload_n zd_Rule_hold_4 rfl ?_
  refine zj_getI (zk_R0 h_o) (by decide) rfl zu_Rule (k := 4) (by decide) rfl zl_Rule_32 zd_Rule_hold_5 ?_
  refine zj_iload_n zd_Rule_hold_8 rfl ?_
  refine zj_iastore (zk_R3 h_o) (by decide) b1 zd_Rule_hold_9 ?_
  refine zj_aload_n zd_Rule_hold_10 rfl ?_
  refine zj_dup zd_Rule_hold_11 ?_
  refine zj_getI (zk_R0 h_o) (by decide) rfl zu_Rule (k := 4) (by decide) rfl zl_Rule_32 zd_Rule_hold_12 ?_
  refine zj_iconst (v := nI 1) zd_Rule_hold_15 (by decide) ?_
  refine zj_iadd zd_Rule_hold_16 ?_
  refine zj_putI (zk_R0 h_o) (by decide) rfl zu_Rule zy_Rule_ok zn_Rule (k := 4) (by decide) rfl rfl zl_Rule_32 rfl rfl zd_Rule_hold_17 ?_
  exact zj_return rfl zd_Rule_hold_20 e
theorem zd_Rule_opens_0 : decode zm_Rule_opens.2.1 0 = .ok (.aload_n 0, 1) := by decide +kernel
theorem zd_Rule_opens_1 : decode zm_Rule_opens.2.1 1 = .ok (.getfield 35, 3) := by decide +kernel
theorem zd_Rule_opens_4 : decode zm_Rule_opens.2.1 4 = .ok (.iconst 4, 1) := by decide +kernel
theorem zd_Rule_opens_5 : decode zm_Rule_opens.2.1 5 = .ok (.if_icmp .ne 5, 3) := by decide +kernel
theorem zd_Rule_opens_8 : decode zm_Rule_opens.2.1 8 = .ok (.iconst 0, 1) := by decide +kernel
theorem zd_Rule_opens_9 : decode zm_Rule_opens.2.1 9 = .ok (.ireturn, 1) := by decide +kernel
theorem zd_Rule_opens_10 : decode zm_Rule_opens.2.1 10 = .ok (.aload_n 0, 1) := by decide +kernel
theorem zd_Rule_opens_11 : decode zm_Rule_opens.2.1 11 = .ok (.dup, 1) := by decide +kernel
theorem zd_Rule_opens_12 : decode zm_Rule_opens.2.1 12 = .ok (.getfield 35, 3) := by decide +kernel
theorem zd_Rule_opens_15 : decode zm_Rule_opens.2.1 15 = .ok (.iconst 1, 1) := by decide +kernel
theorem zd_Rule_opens_16 : decode zm_Rule_opens.2.1 16 = .ok (.iadd, 1) := by decide +kernel
theorem zd_Rule_opens_17 : decode zm_Rule_opens.2.1 17 = .ok (.putfield 35, 3) := by decide +kernel
theorem zd_Rule_opens_20 : decode zm_Rule_opens.2.1 20 = .ok (.aload_n 0, 1) := by decide +kernel
theorem zd_Rule_opens_21 : decode zm_Rule_opens.2.1 21 = .ok (.getfield 21, 3) := by decide +kernel
theorem zd_Rule_opens_24 : decode zm_Rule_opens.2.1 24 = .ok (.aload_n 0, 1) := by decide +kernel
theorem zd_Rule_opens_25 : decode zm_Rule_opens.2.1 25 = .ok (.getfield 35, 3) := by decide +kernel
theorem zd_Rule_opens_28 : decode zm_Rule_opens.2.1 28 = .ok (.iconst 0, 1) := by decide +kernel
theorem zd_Rule_opens_29 : decode zm_Rule_opens.2.1 29 = .ok (.bastore, 1) := by decide +kernel
theorem zd_Rule_opens_30 : decode zm_Rule_opens.2.1 30 = .ok (.aload_n 0, 1) := by decide +kernel
theorem zd_Rule_opens_31 : decode zm_Rule_opens.2.1 31 = .ok (.bipush 40, 2) := by decide +kernel
theorem zd_Rule_opens_33 : decode zm_Rule_opens.2.1 33 = .ok (.invokevirtual 77, 3) := by decide +kernel
theorem zd_Rule_opens_36 : decode zm_Rule_opens.2.1 36 = .ok (.iconst 1, 1) := by decide +kernel
theorem zd_Rule_opens_37 : decode zm_Rule_opens.2.1 37 = .ok (.ireturn, 1) := by decide +kernel
theorem zb_Rule_opens_0 {Γ : zG} {σ : zS} {o : Nat} (h_o : z_oR o) (kt : ¬ (σ.1 o 6) = (nI 4) → z_J Γ zm_Rule_opens 10 [some (.inr (o))] [] σ) (kf : (σ.1 o 6) = (nI 4) → z_J Γ zm_Rule_opens 8 [none] [] σ) : z_J Γ zm_Rule_opens 0 [some (.inr (o))] [] σ := by
  refine zj_aload_n zd_Rule_opens_0 rfl ?_
  refine zj_getI (zk_R0 h_o) (by decide) rfl zu_Rule (k := 6) (by decide) rfl zl_Rule_35 zd_Rule_opens_1 ?_
  refine zj_iconst (v := nI 4) zd_Rule_opens_4 (by decide) ?_
  exact zj_icmp_ne zd_Rule_opens_5 (by decide) (fun h => (kt h)) (fun h => (zj_weak (L' := [none]) trivial (kf h)))
theorem zb_Rule_opens_8 {Γ : zG} {σ : zS}  (e : z_end Γ (some (nI 0)) σ) : z_J Γ zm_Rule_opens 8 [none] [] σ := by
  refine zj_iconst (v := nI 0) zd_Rule_opens_8 (by decide) ?_
  exact zj_zreturn rfl (Or.inl (by decide)) zd_Rule_opens_9 e
theorem zb_Rule_opens_10 {Γ : zG} {σ : zS} {o : Nat} {k1 : Nat} {dc : Nat} {P : zS → Prop} (h_o : z_oR o) (b1 : z_ix ((z_pI σ o 6 ((σ.1 o 6) + (nI 1))).1 o 6) 5 k1) (hm : z_Cv dc zm_Rule_hold [.inr (o), .inl (nI 40)] (z_pI (z_pI σ o 6 ((σ.1 o 6) + (nI 1))) (o + 4) k1 (vp_nar .boolean (nI 0))) P) (hdp : dc < z_dep Γ) (k : ∀ σ1, P σ1 → z_J Γ zm_Rule_opens 36 [none] [] σ1) : z_J Γ zm_Rule_opens 10 [some (.inr (o))] [] σ := by
  refine zj_aload_n zd_Rule_opens_10 rfl ?_
  refine zj_dup zd_Rule_opens_11 ?_
  refine zj_getI (zk_R0 h_o) (by decide) rfl zu_Rule (k := 6) (by decide) rfl zl_Rule_35 zd_Rule_opens_12 ?_
  refine zj_iconst (v := nI 1) zd_Rule_opens_15 (by decide) ?_
  refine zj_iadd zd_Rule_opens_16 ?_
  refine zj_putI (zk_R0 h_o) (by decide) rfl zu_Rule zy_Rule_ok zn_Rule (k := 6) (by decide) rfl rfl zl_Rule_35 rfl rfl zd_Rule_opens_17 ?_
  refine zj_aload_n zd_Rule_opens_20 rfl ?_
  refine zj_getR (zk_R0 h_o) (by decide) rfl zu_Rule (k := 5) (by decide) rfl zl_Rule_21 zd_Rule_opens_21 (o' := o + 4) rfl ?_
  refine zj_aload_n zd_Rule_opens_24 rfl ?_
  refine zj_getI (zk_R0 h_o) (by decide) rfl zu_Rule (k := 6) (by decide) rfl zl_Rule_35 zd_Rule_opens_25 ?_
  refine zj_iconst (v := nI 0) zd_Rule_opens_28 (by decide) ?_
  refine zj_zastore (zk_R4 h_o) (by decide) b1 zd_Rule_opens_29 ?_
  refine zj_aload_n zd_Rule_opens_30 rfl ?_
  refine zj_bipush (v := nI 40) zd_Rule_opens_31 (by decide) ?_
  exact zj_callVv (As := [.inl (nI 40)]) hm hdp (zk_R0 h_o) (by decide) rfl zl_Rule_77 zq_Rule_hold zd_Rule_opens_33 rfl (Nat.le_of_ble_eq_true rfl) (fun σ1 h => (zj_weak (L' := [none]) trivial (k σ1 h)))
theorem zb_Rule_opens_36 {Γ : zG} {σ : zS}  (e : z_end Γ (some (nI 1)) σ) : z_J Γ zm_Rule_opens 36 [none] [] σ := by
  refine zj_iconst (v := nI 1) zd_Rule_opens_36 (by decide) ?_
  exact zj_zreturn rfl (Or.inr (by decide)) zd_Rule_opens_37 e
theorem zd_Rule_isName_0 : decode zm_Rule_isName.2.1 0 = .ok (.iload_n 0, 1) := by decide +kernel
theorem zd_Rule_isName_1 : decode zm_Rule_isName.2.1 1 = .ok (.bipush 116, 2) := by decide +kernel
theorem zd_Rule_isName_3 : decode zm_Rule_isName.2.1 3 = .ok (.if_icmp .eq 33, 3) := by decide +kernel
theorem zd_Rule_isName_6 : decode zm_Rule_isName.2.1 6 = .ok (.iload_n 0, 1) := by decide +kernel
theorem zd_Rule_isName_7 : decode zm_Rule_isName.2.1 7 = .ok (.bipush 119, 2) := by decide +kernel
theorem zd_Rule_isName_9 : decode zm_Rule_isName.2.1 9 = .ok (.if_icmp .eq 27, 3) := by decide +kernel
theorem zd_Rule_isName_12 : decode zm_Rule_isName.2.1 12 = .ok (.iload_n 0, 1) := by decide +kernel
theorem zd_Rule_isName_13 : decode zm_Rule_isName.2.1 13 = .ok (.bipush 99, 2) := by decide +kernel
theorem zd_Rule_isName_15 : decode zm_Rule_isName.2.1 15 = .ok (.if_icmp .eq 21, 3) := by decide +kernel
theorem zd_Rule_isName_18 : decode zm_Rule_isName.2.1 18 = .ok (.iload_n 0, 1) := by decide +kernel
theorem zd_Rule_isName_19 : decode zm_Rule_isName.2.1 19 = .ok (.bipush 107, 2) := by decide +kernel
theorem zd_Rule_isName_21 : decode zm_Rule_isName.2.1 21 = .ok (.if_icmp .eq 15, 3) := by decide +kernel
theorem zd_Rule_isName_24 : decode zm_Rule_isName.2.1 24 = .ok (.iload_n 0, 1) := by decide +kernel
theorem zd_Rule_isName_25 : decode zm_Rule_isName.2.1 25 = .ok (.bipush 110, 2) := by decide +kernel
theorem zd_Rule_isName_27 : decode zm_Rule_isName.2.1 27 = .ok (.if_icmp .eq 9, 3) := by decide +kernel
theorem zd_Rule_isName_30 : decode zm_Rule_isName.2.1 30 = .ok (.iload_n 0, 1) := by decide +kernel
theorem zd_Rule_isName_31 : decode zm_Rule_isName.2.1 31 = .ok (.bipush 100, 2) := by decide +kernel
theorem zd_Rule_isName_33 : decode zm_Rule_isName.2.1 33 = .ok (.if_icmp .ne 7, 3) := by decide +kernel
theorem zd_Rule_isName_36 : decode zm_Rule_isName.2.1 36 = .ok (.iconst 1, 1) := by decide +kernel
theorem zd_Rule_isName_37 : decode zm_Rule_isName.2.1 37 = .ok (.goto 4, 3) := by decide +kernel
theorem zd_Rule_isName_40 : decode zm_Rule_isName.2.1 40 = .ok (.iconst 0, 1) := by decide +kernel
theorem zd_Rule_isName_41 : decode zm_Rule_isName.2.1 41 = .ok (.ireturn, 1) := by decide +kernel
theorem zb_Rule_isName_0 {Γ : zG} {σ : zS} {x0 : Int32}  (kt : x0 = (nI 116) → z_J Γ zm_Rule_isName 36 [none] [] σ) (kf : ¬ x0 = (nI 116) → z_J Γ zm_Rule_isName 6 [some (.inl (x0))] [] σ) : z_J Γ zm_Rule_isName 0 [some (.inl (x0))] [] σ := by
  refine zj_iload_n zd_Rule_isName_0 rfl ?_
  refine zj_bipush (v := nI 116) zd_Rule_isName_1 (by decide) ?_
  exact zj_icmp_eq zd_Rule_isName_3 (by decide) (fun h => (zj_weak (L' := [none]) trivial (kt h))) (fun h => (kf h))
theorem zb_Rule_isName_6 {Γ : zG} {σ : zS} {x0 : Int32}  (kt : x0 = (nI 119) → z_J Γ zm_Rule_isName 36 [none] [] σ) (kf : ¬ x0 = (nI 119) → z_J Γ zm_Rule_isName 12 [some (.inl (x0))] [] σ) : z_J Γ zm_Rule_isName 6 [some (.inl (x0))] [] σ := by
  refine zj_iload_n zd_Rule_isName_6 rfl ?_
  refine zj_bipush (v := nI 119) zd_Rule_isName_7 (by decide) ?_
  exact zj_icmp_eq zd_Rule_isName_9 (by decide) (fun h => (zj_weak (L' := [none]) trivial (kt h))) (fun h => (kf h))
theorem zb_Rule_isName_12 {Γ : zG} {σ : zS} {x0 : Int32}  (kt : x0 = (nI 99) → z_J Γ zm_Rule_isName 36 [none] [] σ) (kf : ¬ x0 = (nI 99) → z_J Γ zm_Rule_isName 18 [some (.inl (x0))] [] σ) : z_J Γ zm_Rule_isName 12 [some (.inl (x0))] [] σ := by
  refine zj_iload_n zd_Rule_isName_12 rfl ?_
  refine zj_bipush (v := nI 99) zd_Rule_isName_13 (by decide) ?_
  exact zj_icmp_eq zd_Rule_isName_15 (by decide) (fun h => (zj_weak (L' := [none]) trivial (kt h))) (fun h => (kf h))
theorem zb_Rule_isName_18 {Γ : zG} {σ : zS} {x0 : Int32}  (kt : x0 = (nI 107) → z_J Γ zm_Rule_isName 36 [none] [] σ) (kf : ¬ x0 = (nI 107) → z_J Γ zm_Rule_isName 24 [some (.inl (x0))] [] σ) : z_J Γ zm_Rule_isName 18 [some (.inl (x0))] [] σ := by
  refine zj_iload_n zd_Rule_isName_18 rfl ?_
  refine zj_bipush (v := nI 107) zd_Rule_isName_19 (by decide) ?_
  exact zj_icmp_eq zd_Rule_isName_21 (by decide) (fun h => (zj_weak (L' := [none]) trivial (kt h))) (fun h => (kf h))
theorem zb_Rule_isName_24 {Γ : zG} {σ : zS} {x0 : Int32}  (kt : x0 = (nI 110) → z_J Γ zm_Rule_isName 36 [none] [] σ) (kf : ¬ x0 = (nI 110) → z_J Γ zm_Rule_isName 30 [some (.inl (x0))] [] σ) : z_J Γ zm_Rule_isName 24 [some (.inl (x0))] [] σ := by
  refine zj_iload_n zd_Rule_isName_24 rfl ?_
  refine zj_bipush (v := nI 110) zd_Rule_isName_25 (by decide) ?_
  exact zj_icmp_eq zd_Rule_isName_27 (by decide) (fun h => (zj_weak (L' := [none]) trivial (kt h))) (fun h => (kf h))
theorem zb_Rule_isName_30 {Γ : zG} {σ : zS} {x0 : Int32}  (kt : ¬ x0 = (nI 100) → z_J Γ zm_Rule_isName 40 [none] [] σ) (kf : x0 = (nI 100) → z_J Γ zm_Rule_isName 36 [none] [] σ) : z_J Γ zm_Rule_isName 30 [some (.inl (x0))] [] σ := by
  refine zj_iload_n zd_Rule_isName_30 rfl ?_
  refine zj_bipush (v := nI 100) zd_Rule_isName_31 (by decide) ?_
  exact zj_icmp_ne zd_Rule_isName_33 (by decide) (fun h => (zj_weak (L' := [none]) trivial (kt h))) (fun h => (zj_weak (L' := [none]) trivial (kf h)))
theorem zb_Rule_isName_36 {Γ : zG} {σ : zS}  (k : z_J Γ zm_Rule_isName 41 [none] [.inl (nI 1)] σ) : z_J Γ zm_Rule_isName 36 [none] [] σ := by
  refine zj_iconst (v := nI 1) zd_Rule_isName_36 (by decide) ?_
  exact zj_goto zd_Rule_isName_37 (by decide) k
theorem zb_Rule_isName_40 {Γ : zG} {σ : zS}  (k : z_J Γ zm_Rule_isName 41 [none] [.inl (nI 0)] σ) : z_J Γ zm_Rule_isName 40 [none] [] σ := by
  refine zj_iconst (v := nI 0) zd_Rule_isName_40 (by decide) ?_
  exact k
theorem zb_Rule_isName_41 {Γ : zG} {σ : zS} {y0 : Int32}  (e : z_end Γ (some (y0)) σ) (z1 : y0 = 0 ∨ y0 = 1) : z_J Γ zm_Rule_isName 41 [none] [.inl (y0)] σ := by
  exact zj_zreturn rfl z1 zd_Rule_isName_41 e
theorem zd_Rule_takesBehind_0 : decode zm_Rule_takesBehind.2.1 0 = .ok (.iload_n 1, 1) := by decide +kernel
theorem zd_Rule_takesBehind_1 : decode zm_Rule_takesBehind.2.1 1 = .ok (.bipush 41, 2) := by decide +kernel
theorem zd_Rule_takesBehind_3 : decode zm_Rule_takesBehind.2.1 3 = .ok (.if_icmp .ne 8, 3) := by decide +kernel
theorem zd_Rule_takesBehind_6 : decode zm_Rule_takesBehind.2.1 6 = .ok (.aload_n 0, 1) := by decide +kernel
theorem zd_Rule_takesBehind_7 : decode zm_Rule_takesBehind.2.1 7 = .ok (.invokevirtual 87, 3) := by decide +kernel
theorem zd_Rule_takesBehind_10 : decode zm_Rule_takesBehind.2.1 10 = .ok (.ireturn, 1) := by decide +kernel
theorem zd_Rule_takesBehind_11 : decode zm_Rule_takesBehind.2.1 11 = .ok (.iload_n 1, 1) := by decide +kernel
theorem zd_Rule_takesBehind_12 : decode zm_Rule_takesBehind.2.1 12 = .ok (.invokestatic 90, 3) := by decide +kernel
theorem zd_Rule_takesBehind_15 : decode zm_Rule_takesBehind.2.1 15 = .ok (.istore_n 2, 1) := by decide +kernel
theorem zd_Rule_takesBehind_16 : decode zm_Rule_takesBehind.2.1 16 = .ok (.iload_n 2, 1) := by decide +kernel
theorem zd_Rule_takesBehind_17 : decode zm_Rule_takesBehind.2.1 17 = .ok (.ifCond .eq 20, 3) := by decide +kernel
theorem zd_Rule_takesBehind_20 : decode zm_Rule_takesBehind.2.1 20 = .ok (.iload_n 2, 1) := by decide +kernel
theorem zd_Rule_takesBehind_21 : decode zm_Rule_takesBehind.2.1 21 = .ok (.iconst 1, 1) := by decide +kernel
theorem zd_Rule_takesBehind_22 : decode zm_Rule_takesBehind.2.1 22 = .ok (.if_icmp .ne 17, 3) := by decide +kernel
theorem zd_Rule_takesBehind_25 : decode zm_Rule_takesBehind.2.1 25 = .ok (.aload_n 0, 1) := by decide +kernel
theorem zd_Rule_takesBehind_26 : decode zm_Rule_takesBehind.2.1 26 = .ok (.getfield 21, 3) := by decide +kernel
theorem zd_Rule_takesBehind_29 : decode zm_Rule_takesBehind.2.1 29 = .ok (.aload_n 0, 1) := by decide +kernel
theorem zd_Rule_takesBehind_30 : decode zm_Rule_takesBehind.2.1 30 = .ok (.getfield 35, 3) := by decide +kernel
theorem zd_Rule_takesBehind_33 : decode zm_Rule_takesBehind.2.1 33 = .ok (.baload, 1) := by decide +kernel
theorem zd_Rule_takesBehind_34 : decode zm_Rule_takesBehind.2.1 34 = .ok (.ifCond .eq 5, 3) := by decide +kernel
theorem zd_Rule_takesBehind_37 : decode zm_Rule_takesBehind.2.1 37 = .ok (.iconst 0, 1) := by decide +kernel
theorem zd_Rule_takesBehind_38 : decode zm_Rule_takesBehind.2.1 38 = .ok (.ireturn, 1) := by decide +kernel
theorem zd_Rule_takesBehind_39 : decode zm_Rule_takesBehind.2.1 39 = .ok (.iload_n 2, 1) := by decide +kernel
theorem zd_Rule_takesBehind_40 : decode zm_Rule_takesBehind.2.1 40 = .ok (.iconst 1, 1) := by decide +kernel
theorem zd_Rule_takesBehind_41 : decode zm_Rule_takesBehind.2.1 41 = .ok (.if_icmp .ne 13, 3) := by decide +kernel
theorem zd_Rule_takesBehind_44 : decode zm_Rule_takesBehind.2.1 44 = .ok (.aload_n 0, 1) := by decide +kernel
theorem zd_Rule_takesBehind_45 : decode zm_Rule_takesBehind.2.1 45 = .ok (.getfield 21, 3) := by decide +kernel
theorem zd_Rule_takesBehind_48 : decode zm_Rule_takesBehind.2.1 48 = .ok (.aload_n 0, 1) := by decide +kernel
theorem zd_Rule_takesBehind_49 : decode zm_Rule_takesBehind.2.1 49 = .ok (.getfield 35, 3) := by decide +kernel
theorem zd_Rule_takesBehind_52 : decode zm_Rule_takesBehind.2.1 52 = .ok (.iconst 1, 1) := by decide +kernel
theorem zd_Rule_takesBehind_53 : decode zm_Rule_takesBehind.2.1 53 = .ok (.bastore, 1) := by decide +kernel
theorem zd_Rule_takesBehind_54 : decode zm_Rule_takesBehind.2.1 54 = .ok (.aload_n 0, 1) := by decide +kernel
theorem zd_Rule_takesBehind_55 : decode zm_Rule_takesBehind.2.1 55 = .ok (.iload_n 2, 1) := by decide +kernel
theorem zd_Rule_takesBehind_56 : decode zm_Rule_takesBehind.2.1 56 = .ok (.invokevirtual 49, 3) := by decide +kernel
theorem zd_Rule_takesBehind_59 : decode zm_Rule_takesBehind.2.1 59 = .ok (.aload_n 0, 1) := by decide +kernel
theorem zd_Rule_takesBehind_60 : decode zm_Rule_takesBehind.2.1 60 = .ok (.iload_n 1, 1) := by decide +kernel
theorem zd_Rule_takesBehind_61 : decode zm_Rule_takesBehind.2.1 61 = .ok (.invokevirtual 77, 3) := by decide +kernel
theorem zd_Rule_takesBehind_64 : decode zm_Rule_takesBehind.2.1 64 = .ok (.aload_n 0, 1) := by decide +kernel
theorem zd_Rule_takesBehind_65 : decode zm_Rule_takesBehind.2.1 65 = .ok (.iconst 1, 1) := by decide +kernel
theorem zd_Rule_takesBehind_66 : decode zm_Rule_takesBehind.2.1 66 = .ok (.putfield 41, 3) := by decide +kernel
theorem zd_Rule_takesBehind_69 : decode zm_Rule_takesBehind.2.1 69 = .ok (.iconst 1, 1) := by decide +kernel
theorem zd_Rule_takesBehind_70 : decode zm_Rule_takesBehind.2.1 70 = .ok (.ireturn, 1) := by decide +kernel
theorem zb_Rule_takesBehind_0 {Γ : zG} {σ : zS} {o : Nat} {x1 : Int32} (h_o : z_oR o) (kt : ¬ x1 = (nI 41) → z_J Γ zm_Rule_takesBehind 11 [some (.inr (o)), some (.inl (x1)), none] [] σ) (kf : x1 = (nI 41) → z_J Γ zm_Rule_takesBehind 6 [some (.inr (o)), none, none] [] σ) : z_J Γ zm_Rule_takesBehind 0 [some (.inr (o)), some (.inl (x1)), none] [] σ := by
  refine zj_iload_n zd_Rule_takesBehind_0 rfl ?_
  refine zj_bipush (v := nI 41) zd_Rule_takesBehind_1 (by decide) ?_
  exact zj_icmp_ne zd_Rule_takesBehind_3 (by decide) (fun h => (kt h)) (fun h => (zj_weak (L' := [some (.inr (o)), none, none]) ⟨rfl, trivial⟩ (kf h)))
theorem zb_Rule_takesBehind_6 {Γ : zG} {σ : zS} {o : Nat} {dc : Nat} {P : Int32 → zS → Prop} (h_o : z_oR o) (hm : z_Ci dc zm_Rule_closes [.inr (o)] σ P) (hdp : dc < z_dep Γ) (k : ∀ r σ1, P r σ1 → z_J Γ zm_Rule_takesBehind 10 [none, none, none] [.inl (r)] σ1) : z_J Γ zm_Rule_takesBehind 6 [some (.inr (o)), none, none] [] σ := by
  refine zj_aload_n zd_Rule_takesBehind_6 rfl ?_
  exact zj_callVi (As := []) hm hdp (zk_R0 h_o) (by decide) rfl zl_Rule_87 zq_Rule_closes zd_Rule_takesBehind_7 rfl (Nat.le_of_ble_eq_true rfl) (fun r σ1 h => (zj_weak (L' := [none, none, none]) trivial (k r σ1 h)))
theorem zb_Rule_takesBehind_10 {Γ : zG} {σ : zS} {y0 : Int32}  (e : z_end Γ (some (y0)) σ) (z1 : y0 = 0 ∨ y0 = 1) : z_J Γ zm_Rule_takesBehind 10 [none, none, none] [.inl (y0)] σ := by
  exact zj_zreturn rfl z1 zd_Rule_takesBehind_10 e
theorem zb_Rule_takesBehind_11 {Γ : zG} {σ : zS} {o : Nat} {x1 : Int32} {dc : Nat} {P : Int32 → zS → Prop} (h_o : z_oR o) (hm : z_Ci dc zm_Rule_strengthOf [.inl (x1)] σ P) (hdp : dc < z_dep Γ) (k : ∀ r σ1, P r σ1 → z_J Γ zm_Rule_takesBehind 15 [some (.inr (o)), some (.inl (x1)), none] [.inl (r)] σ1) : z_J Γ zm_Rule_takesBehind 11 [some (.inr (o)), some (.inl (x1)), none] [] σ := by
  refine zj_iload_n zd_Rule_takesBehind_11 rfl ?_
  exact zj_callSi (As := [.inl (x1)]) hm hdp zl_Rule_90 zq_Rule_strengthOf zd_Rule_takesBehind_12 rfl (Nat.le_of_ble_eq_true rfl) (fun r σ1 h => (k r σ1 h))
theorem zb_Rule_takesBehind_15 {Γ : zG} {σ : zS} {o : Nat} {x1 y0 : Int32} (h_o : z_oR o) (kt : y0 = 0 → z_J Γ zm_Rule_takesBehind 37 [none, none, none] [] σ) (kf : ¬ y0 = 0 → z_J Γ zm_Rule_takesBehind 20 [some (.inr (o)), some (.inl (x1)), some (.inl (y0))] [] σ) : z_J Γ zm_Rule_takesBehind 15 [some (.inr (o)), some (.inl (x1)), none] [.inl (y0)] σ := by
  refine zj_istore_n (L' := [some (.inr (o)), some (.inl (x1)), some (.inl (y0))]) zd_Rule_takesBehind_15 (by decide) rfl ?_
  refine zj_iload_n zd_Rule_takesBehind_16 rfl ?_
  exact zj_if_eq zd_Rule_takesBehind_17 (by decide) (fun h => (zj_weak (L' := [none, none, none]) trivial (kt h))) (fun h => (kf h))
theorem zb_Rule_takesBehind_20 {Γ : zG} {σ : zS} {o : Nat} {x1 x2 : Int32} (h_o : z_oR o) (kt : ¬ x2 = (nI 1) → z_J Γ zm_Rule_takesBehind 39 [some (.inr (o)), some (.inl (x1)), some (.inl (x2))] [] σ) (kf : x2 = (nI 1) → z_J Γ zm_Rule_takesBehind 25 [some (.inr (o)), some (.inl (x1)), some (.inl (x2))] [] σ) : z_J Γ zm_Rule_takesBehind 20 [some (.inr (o)), some (.inl (x1)), some (.inl (x2))] [] σ := by
  refine zj_iload_n zd_Rule_takesBehind_20 rfl ?_
  refine zj_iconst (v := nI 1) zd_Rule_takesBehind_21 (by decide) ?_
  exact zj_icmp_ne zd_Rule_takesBehind_22 (by decide) (fun h => (kt h)) (fun h => (kf h))
theorem zb_Rule_takesBehind_25 {Γ : zG} {σ : zS} {o : Nat} {x1 x2 : Int32} {k1 : Nat} (h_o : z_oR o) (b1 : z_ix (σ.1 o 6) 5 k1) (kt : (σ.1 (o + 4) k1) = 0 → z_J Γ zm_Rule_takesBehind 39 [some (.inr (o)), some (.inl (x1)), some (.inl (x2))] [] σ) (kf : ¬ (σ.1 (o + 4) k1) = 0 → z_J Γ zm_Rule_takesBehind 37 [none, none, none] [] σ) : z_J Γ zm_Rule_takesBehind 25 [some (.inr (o)), some (.inl (x1)), some (.inl (x2))] [] σ := by
  refine zj_aload_n zd_Rule_takesBehind_25 rfl ?_
  refine zj_getR (zk_R0 h_o) (by decide) rfl zu_Rule (k := 5) (by decide) rfl zl_Rule_21 zd_Rule_takesBehind_26 (o' := o + 4) rfl ?_
  refine zj_aload_n zd_Rule_takesBehind_29 rfl ?_
  refine zj_getI (zk_R0 h_o) (by decide) rfl zu_Rule (k := 6) (by decide) rfl zl_Rule_35 zd_Rule_takesBehind_30 ?_
  refine zj_zaload (zk_R4 h_o) (by decide) b1 zd_Rule_takesBehind_33 ?_
  exact zj_if_eq zd_Rule_takesBehind_34 (by decide) (fun h => (kt h)) (fun h => (zj_weak (L' := [none, none, none]) trivial (kf h)))
theorem zb_Rule_takesBehind_37 {Γ : zG} {σ : zS}  (e : z_end Γ (some (nI 0)) σ) : z_J Γ zm_Rule_takesBehind 37 [none, none, none] [] σ := by
  refine zj_iconst (v := nI 0) zd_Rule_takesBehind_37 (by decide) ?_
  exact zj_zreturn rfl (Or.inl (by decide)) zd_Rule_takesBehind_38 e
theorem zb_Rule_takesBehind_39 {Γ : zG} {σ : zS} {o : Nat} {x1 x2 : Int32} (h_o : z_oR o) (kt : ¬ x2 = (nI 1) → z_J Γ zm_Rule_takesBehind 54 [some (.inr (o)), some (.inl (x1)), some (.inl (x2))] [] σ) (kf : x2 = (nI 1) → z_J Γ zm_Rule_takesBehind 44 [some (.inr (o)), some (.inl (x1)), some (.inl (x2))] [] σ) : z_J Γ zm_Rule_takesBehind 39 [some (.inr (o)), some (.inl (x1)), some (.inl (x2))] [] σ := by
  refine zj_iload_n zd_Rule_takesBehind_39 rfl ?_
  refine zj_iconst (v := nI 1) zd_Rule_takesBehind_40 (by decide) ?_
  exact zj_icmp_ne zd_Rule_takesBehind_41 (by decide) (fun h => (kt h)) (fun h => (kf h))
theorem zb_Rule_takesBehind_44 {Γ : zG} {σ : zS} {o : Nat} {x1 x2 : Int32} {k1 : Nat} (h_o : z_oR o) (b1 : z_ix (σ.1 o 6) 5 k1) (k : z_J Γ zm_Rule_takesBehind 54 [some (.inr (o)), some (.inl (x1)), some (.inl (x2))] [] (z_pI σ (o + 4) k1 (vp_nar .boolean (nI 1)))) : z_J Γ zm_Rule_takesBehind 44 [some (.inr (o)), some (.inl (x1)), some (.inl (x2))] [] σ := by
  refine zj_aload_n zd_Rule_takesBehind_44 rfl ?_
  refine zj_getR (zk_R0 h_o) (by decide) rfl zu_Rule (k := 5) (by decide) rfl zl_Rule_21 zd_Rule_takesBehind_45 (o' := o + 4) rfl ?_
  refine zj_aload_n zd_Rule_takesBehind_48 rfl ?_
  refine zj_getI (zk_R0 h_o) (by decide) rfl zu_Rule (k := 6) (by decide) rfl zl_Rule_35 zd_Rule_takesBehind_49 ?_
  refine zj_iconst (v := nI 1) zd_Rule_takesBehind_52 (by decide) ?_
  refine zj_zastore (zk_R4 h_o) (by decide) b1 zd_Rule_takesBehind_53 ?_
  exact k
theorem zb_Rule_takesBehind_54 {Γ : zG} {σ : zS} {o : Nat} {x1 x2 : Int32} {dc : Nat} {P : zS → Prop} (h_o : z_oR o) (hm : z_Cv dc zm_Rule_release [.inr (o), .inl (x2)] σ P) (hdp : dc < z_dep Γ) (k : ∀ σ1, P σ1 → z_J Γ zm_Rule_takesBehind 59 [some (.inr (o)), some (.inl (x1)), none] [] σ1) : z_J Γ zm_Rule_takesBehind 54 [some (.inr (o)), some (.inl (x1)), some (.inl (x2))] [] σ := by
  refine zj_aload_n zd_Rule_takesBehind_54 rfl ?_
  refine zj_iload_n zd_Rule_takesBehind_55 rfl ?_
  exact zj_callVv (As := [.inl (x2)]) hm hdp (zk_R0 h_o) (by decide) rfl zl_Rule_49 zq_Rule_release zd_Rule_takesBehind_56 rfl (Nat.le_of_ble_eq_true rfl) (fun σ1 h => (zj_weak (L' := [some (.inr (o)), some (.inl (x1)), none]) ⟨rfl, ⟨rfl, trivial⟩⟩ (k σ1 h)))
theorem zb_Rule_takesBehind_59 {Γ : zG} {σ : zS} {o : Nat} {x1 : Int32} {dc : Nat} {P : zS → Prop} (h_o : z_oR o) (hm : z_Cv dc zm_Rule_hold [.inr (o), .inl (x1)] σ P) (hdp : dc < z_dep Γ) (k : ∀ σ1, P σ1 → z_J Γ zm_Rule_takesBehind 64 [some (.inr (o)), none, none] [] σ1) : z_J Γ zm_Rule_takesBehind 59 [some (.inr (o)), some (.inl (x1)), none] [] σ := by
  refine zj_aload_n zd_Rule_takesBehind_59 rfl ?_
  refine zj_iload_n zd_Rule_takesBehind_60 rfl ?_
  exact zj_callVv (As := [.inl (x1)]) hm hdp (zk_R0 h_o) (by decide) rfl zl_Rule_77 zq_Rule_hold zd_Rule_takesBehind_61 rfl (Nat.le_of_ble_eq_true rfl) (fun σ1 h => (zj_weak (L' := [some (.inr (o)), none, none]) ⟨rfl, trivial⟩ (k σ1 h)))
theorem zb_Rule_takesBehind_64 {Γ : zG} {σ : zS} {o : Nat} (h_o : z_oR o) (e : z_end Γ (some (nI 1)) (z_pI σ o 8 (nI 1))) : z_J Γ zm_Rule_takesBehind 64 [some (.inr (o)), none, none] [] σ := by
  refine zj_aload_n zd_Rule_takesBehind_64 rfl ?_
  refine zj_iconst (v := nI 1) zd_Rule_takesBehind_65 (by decide) ?_
  refine zj_putI (zk_R0 h_o) (by decide) rfl zu_Rule zy_Rule_ok zn_Rule (k := 8) (by decide) rfl rfl zl_Rule_41 (z_nb (Or.inr (by decide))) (z_fb (Or.inr (by decide))) zd_Rule_takesBehind_66 ?_
  refine zj_iconst (v := nI 1) zd_Rule_takesBehind_69 (by decide) ?_
  exact zj_zreturn rfl (Or.inr (by decide)) zd_Rule_takesBehind_70 e
theorem zd_Rule_closes_0 : decode zm_Rule_closes.2.1 0 = .ok (.aload_n 0, 1) := by decide +kernel
theorem zd_Rule_closes_1 : decode zm_Rule_closes.2.1 1 = .ok (.getfield 35, 3) := by decide +kernel
theorem zd_Rule_closes_4 : decode zm_Rule_closes.2.1 4 = .ok (.ifCond .ne 5, 3) := by decide +kernel
theorem zd_Rule_closes_7 : decode zm_Rule_closes.2.1 7 = .ok (.iconst 0, 1) := by decide +kernel
theorem zd_Rule_closes_8 : decode zm_Rule_closes.2.1 8 = .ok (.ireturn, 1) := by decide +kernel
theorem zd_Rule_closes_9 : decode zm_Rule_closes.2.1 9 = .ok (.aload_n 0, 1) := by decide +kernel
theorem zd_Rule_closes_10 : decode zm_Rule_closes.2.1 10 = .ok (.iconst 1, 1) := by decide +kernel
theorem zd_Rule_closes_11 : decode zm_Rule_closes.2.1 11 = .ok (.invokevirtual 49, 3) := by decide +kernel
theorem zd_Rule_closes_14 : decode zm_Rule_closes.2.1 14 = .ok (.aload_n 0, 1) := by decide +kernel
theorem zd_Rule_closes_15 : decode zm_Rule_closes.2.1 15 = .ok (.dup, 1) := by decide +kernel
theorem zd_Rule_closes_16 : decode zm_Rule_closes.2.1 16 = .ok (.getfield 32, 3) := by decide +kernel
theorem zd_Rule_closes_19 : decode zm_Rule_closes.2.1 19 = .ok (.iconst 1, 1) := by decide +kernel
theorem zd_Rule_closes_20 : decode zm_Rule_closes.2.1 20 = .ok (.isub, 1) := by decide +kernel
theorem zd_Rule_closes_21 : decode zm_Rule_closes.2.1 21 = .ok (.putfield 32, 3) := by decide +kernel
theorem zd_Rule_closes_24 : decode zm_Rule_closes.2.1 24 = .ok (.aload_n 0, 1) := by decide +kernel
theorem zd_Rule_closes_25 : decode zm_Rule_closes.2.1 25 = .ok (.dup, 1) := by decide +kernel
theorem zd_Rule_closes_26 : decode zm_Rule_closes.2.1 26 = .ok (.getfield 35, 3) := by decide +kernel
theorem zd_Rule_closes_29 : decode zm_Rule_closes.2.1 29 = .ok (.iconst 1, 1) := by decide +kernel
theorem zd_Rule_closes_30 : decode zm_Rule_closes.2.1 30 = .ok (.isub, 1) := by decide +kernel
theorem zd_Rule_closes_31 : decode zm_Rule_closes.2.1 31 = .ok (.putfield 35, 3) := by decide +kernel
theorem zd_Rule_closes_34 : decode zm_Rule_closes.2.1 34 = .ok (.iconst 1, 1) := by decide +kernel
theorem zd_Rule_closes_35 : decode zm_Rule_closes.2.1 35 = .ok (.ireturn, 1) := by decide +kernel
theorem zb_Rule_closes_0 {Γ : zG} {σ : zS} {o : Nat} (h_o : z_oR o) (kt : ¬ (σ.1 o 6) = 0 → z_J Γ zm_Rule_closes 9 [some (.inr (o))] [] σ) (kf : (σ.1 o 6) = 0 → z_J Γ zm_Rule_closes 7 [none] [] σ) : z_J Γ zm_Rule_closes 0 [some (.inr (o))] [] σ := by
  refine zj_aload_n zd_Rule_closes_0 rfl ?_
  refine zj_getI (zk_R0 h_o) (by decide) rfl zu_Rule (k := 6) (by decide) rfl zl_Rule_35 zd_Rule_closes_1 ?_
  exact zj_if_ne zd_Rule_closes_4 (by decide) (fun h => (kt h)) (fun h => (zj_weak (L' := [none]) trivial (kf h)))
theorem zb_Rule_closes_7 {Γ : zG} {σ : zS}  (e : z_end Γ (some (nI 0)) σ) : z_J Γ zm_Rule_closes 7 [none] [] σ := by
  refine zj_iconst (v := nI 0) zd_Rule_closes_7 (by decide) ?_
  exact zj_zreturn rfl (Or.inl (by decide)) zd_Rule_closes_8 e
theorem zb_Rule_closes_9 {Γ : zG} {σ : zS} {o : Nat} {dc : Nat} {P : zS → Prop} (h_o : z_oR o) (hm : z_Cv dc zm_Rule_release [.inr (o), .inl (nI 1)] σ P) (hdp : dc < z_dep Γ) (k : ∀ σ1, P σ1 → z_J Γ zm_Rule_closes 14 [some (.inr (o))] [] σ1) : z_J Γ zm_Rule_closes 9 [some (.inr (o))] [] σ := by
  refine zj_aload_n zd_Rule_closes_9 rfl ?_
  refine zj_iconst (v := nI 1) zd_Rule_closes_10 (by decide) ?_
  exact zj_callVv (As := [.inl (nI 1)]) hm hdp (zk_R0 h_o) (by decide) rfl zl_Rule_49 zq_Rule_release zd_Rule_closes_11 rfl (Nat.le_of_ble_eq_true rfl) (fun σ1 h => (k σ1 h))
theorem zb_Rule_closes_14 {Γ : zG} {σ : zS} {o : Nat} (h_o : z_oR o) (e : z_end Γ (some (nI 1)) (z_pI (z_pI σ o 4 ((σ.1 o 4) - (nI 1))) o 6 (((z_pI σ o 4 ((σ.1 o 4) - (nI 1))).1 o 6) - (nI 1)))) : z_J Γ zm_Rule_closes 14 [some (.inr (o))] [] σ := by
  refine zj_aload_n zd_Rule_closes_14 rfl ?_
  refine zj_dup zd_Rule_closes_15 ?_
  refine zj_getI (zk_R0 h_o) (by decide) rfl zu_Rule (k := 4) (by decide) rfl zl_Rule_32 zd_Rule_closes_16 ?_
  refine zj_iconst (v := nI 1) zd_Rule_closes_19 (by decide) ?_
  refine zj_isub zd_Rule_closes_20 ?_
  refine zj_putI (zk_R0 h_o) (by decide) rfl zu_Rule zy_Rule_ok zn_Rule (k := 4) (by decide) rfl rfl zl_Rule_32 rfl rfl zd_Rule_closes_21 ?_
  refine zj_aload_n zd_Rule_closes_24 rfl ?_
  refine zj_dup zd_Rule_closes_25 ?_
  refine zj_getI (zk_R0 h_o) (by decide) rfl zu_Rule (k := 6) (by decide) rfl zl_Rule_35 zd_Rule_closes_26 ?_
  refine zj_iconst (v := nI 1) zd_Rule_closes_29 (by decide) ?_
  refine zj_isub zd_Rule_closes_30 ?_
  refine zj_putI (zk_R0 h_o) (by decide) rfl zu_Rule zy_Rule_ok zn_Rule (k := 6) (by decide) rfl rfl zl_Rule_35 rfl rfl zd_Rule_closes_31 ?_
  refine zj_iconst (v := nI 1) zd_Rule_closes_34 (by decide) ?_
  exact zj_zreturn rfl (Or.inr (by decide)) zd_Rule_closes_35 e
theorem zd_Rule_release_0 : decode zm_Rule_release.2.1 0 = .ok (.aload_n 0, 1) := by decide +kernel
theorem zd_Rule_release_1 : decode zm_Rule_release.2.1 1 = .ok (.getfield 32, 3) := by decide +kernel
theorem zd_Rule_release_4 : decode zm_Rule_release.2.1 4 = .ok (.ifCond .le 51, 3) := by decide +kernel
theorem zd_Rule_release_7 : decode zm_Rule_release.2.1 7 = .ok (.aload_n 0, 1) := by decide +kernel
theorem zd_Rule_release_8 : decode zm_Rule_release.2.1 8 = .ok (.getfield 18, 3) := by decide +kernel
theorem zd_Rule_release_11 : decode zm_Rule_release.2.1 11 = .ok (.aload_n 0, 1) := by decide +kernel
theorem zd_Rule_release_12 : decode zm_Rule_release.2.1 12 = .ok (.getfield 32, 3) := by decide +kernel
theorem zd_Rule_release_15 : decode zm_Rule_release.2.1 15 = .ok (.iconst 1, 1) := by decide +kernel
theorem zd_Rule_release_16 : decode zm_Rule_release.2.1 16 = .ok (.isub, 1) := by decide +kernel
theorem zd_Rule_release_17 : decode zm_Rule_release.2.1 17 = .ok (.iaload, 1) := by decide +kernel
theorem zd_Rule_release_18 : decode zm_Rule_release.2.1 18 = .ok (.invokestatic 90, 3) := by decide +kernel
theorem zd_Rule_release_21 : decode zm_Rule_release.2.1 21 = .ok (.iload_n 1, 1) := by decide +kernel
theorem zd_Rule_release_22 : decode zm_Rule_release.2.1 22 = .ok (.if_icmp .lt 33, 3) := by decide +kernel
theorem zd_Rule_release_25 : decode zm_Rule_release.2.1 25 = .ok (.aload_n 0, 1) := by decide +kernel
theorem zd_Rule_release_26 : decode zm_Rule_release.2.1 26 = .ok (.dup, 1) := by decide +kernel
theorem zd_Rule_release_27 : decode zm_Rule_release.2.1 27 = .ok (.getfield 32, 3) := by decide +kernel
theorem zd_Rule_release_30 : decode zm_Rule_release.2.1 30 = .ok (.iconst 1, 1) := by decide +kernel
theorem zd_Rule_release_31 : decode zm_Rule_release.2.1 31 = .ok (.isub, 1) := by decide +kernel
theorem zd_Rule_release_32 : decode zm_Rule_release.2.1 32 = .ok (.putfield 32, 3) := by decide +kernel
theorem zd_Rule_release_35 : decode zm_Rule_release.2.1 35 = .ok (.aload_n 0, 1) := by decide +kernel
theorem zd_Rule_release_36 : decode zm_Rule_release.2.1 36 = .ok (.sipush 2000, 3) := by decide +kernel
theorem zd_Rule_release_39 : decode zm_Rule_release.2.1 39 = .ok (.aload_n 0, 1) := by decide +kernel
theorem zd_Rule_release_40 : decode zm_Rule_release.2.1 40 = .ok (.getfield 18, 3) := by decide +kernel
theorem zd_Rule_release_43 : decode zm_Rule_release.2.1 43 = .ok (.aload_n 0, 1) := by decide +kernel
theorem zd_Rule_release_44 : decode zm_Rule_release.2.1 44 = .ok (.getfield 32, 3) := by decide +kernel
theorem zd_Rule_release_47 : decode zm_Rule_release.2.1 47 = .ok (.iaload, 1) := by decide +kernel
theorem zd_Rule_release_48 : decode zm_Rule_release.2.1 48 = .ok (.iadd, 1) := by decide +kernel
theorem zd_Rule_release_49 : decode zm_Rule_release.2.1 49 = .ok (.invokevirtual 74, 3) := by decide +kernel
theorem zd_Rule_release_52 : decode zm_Rule_release.2.1 52 = .ok (.goto (-52), 3) := by decide +kernel
theorem zd_Rule_release_55 : decode zm_Rule_release.2.1 55 = .ok (.return_, 1) := by decide +kernel
theorem zb_Rule_release_0 {Γ : zG} {σ : zS} {o : Nat} {x1 : Int32} (h_o : z_oR o) (kt : (σ.1 o 4) ≤ 0 → z_J Γ zm_Rule_release 55 [none, none] [] σ) (kf : ¬ (σ.1 o 4) ≤ 0 → z_J Γ zm_Rule_release 7 [some (.inr (o)), some (.inl (x1))] [] σ) : z_J Γ zm_Rule_release 0 [some (.inr (o)), some (.inl (x1))] [] σ := by
  refine zj_aload_n zd_Rule_release_0 rfl ?_
  refine zj_getI (zk_R0 h_o) (by decide) rfl zu_Rule (k := 4) (by decide) rfl zl_Rule_32 zd_Rule_release_1 ?_
  exact zj_if_le zd_Rule_release_4 (by decide) (fun h => (zj_weak (L' := [none, none]) trivial (kt h))) (fun h => (kf h))
theorem zb_Rule_release_7 {Γ : zG} {σ : zS} {o : Nat} {x1 : Int32} {k1 : Nat} {dc : Nat} {P : Int32 → zS → Prop} (h_o : z_oR o) (b1 : z_ix ((σ.1 o 4) - (nI 1)) 40 k1) (hm : z_Ci dc zm_Rule_strengthOf [.inl (σ.1 (o + 3) k1)] σ P) (hdp : dc < z_dep Γ) (k : ∀ r σ1, P r σ1 → z_J Γ zm_Rule_release 21 [some (.inr (o)), some (.inl (x1))] [.inl (r)] σ1) : z_J Γ zm_Rule_release 7 [some (.inr (o)), some (.inl (x1))] [] σ := by
  refine zj_aload_n zd_Rule_release_7 rfl ?_
  refine zj_getR (zk_R0 h_o) (by decide) rfl zu_Rule (k := 3) (by decide) rfl zl_Rule_18 zd_Rule_release_8 (o' := o + 3) rfl ?_
  refine zj_aload_n zd_Rule_release_11 rfl ?_
  refine zj_getI (zk_R0 h_o) (by decide) rfl zu_Rule (k := 4) (by decide) rfl zl_Rule_32 zd_Rule_release_12 ?_
  refine zj_iconst (v := nI 1) zd_Rule_release_15 (by decide) ?_
  refine zj_isub zd_Rule_release_16 ?_
  refine zj_iaload (zk_R3 h_o) (by decide) b1 zd_Rule_release_17 ?_
  exact zj_callSi (As := [.inl (σ.1 (o + 3) k1)]) hm hdp zl_Rule_90 zq_Rule_strengthOf zd_Rule_release_18 rfl (Nat.le_of_ble_eq_true rfl) (fun r σ1 h => (k r σ1 h))
theorem zb_Rule_release_21 {Γ : zG} {σ : zS} {o : Nat} {x1 y0 : Int32} (h_o : z_oR o) (kt : y0 < x1 → z_J Γ zm_Rule_release 55 [none, none] [] σ) (kf : ¬ y0 < x1 → z_J Γ zm_Rule_release 25 [some (.inr (o)), some (.inl (x1))] [] σ) : z_J Γ zm_Rule_release 21 [some (.inr (o)), some (.inl (x1))] [.inl (y0)] σ := by
  refine zj_iload_n zd_Rule_release_21 rfl ?_
  exact zj_icmp_lt zd_Rule_release_22 (by decide) (fun h => (zj_weak (L' := [none, none]) trivial (kt h))) (fun h => (kf h))
theorem zb_Rule_release_25 {Γ : zG} {σ : zS} {o : Nat} {x1 : Int32} {k1 : Nat} {dc : Nat} {P : zS → Prop} (h_o : z_oR o) (b1 : z_ix ((z_pI σ o 4 ((σ.1 o 4) - (nI 1))).1 o 4) 40 k1) (hm : z_Cv dc zm_Rule_emit [.inr (o), .inl ((nI 2000) + ((z_pI σ o 4 ((σ.1 o 4) - (nI 1))).1 (o + 3) k1))] (z_pI σ o 4 ((σ.1 o 4) - (nI 1))) P) (hdp : dc < z_dep Γ) (k : ∀ σ1, P σ1 → z_J Γ zm_Rule_release 52 [some (.inr (o)), some (.inl (x1))] [] σ1) : z_J Γ zm_Rule_release 25 [some (.inr (o)), some (.inl (x1))] [] σ := by
  refine zj_aload_n zd_Rule_release_25 rfl ?_
  refine zj_dup zd_Rule_release_26 ?_
  refine zj_getI (zk_R0 h_o) (by decide) rfl zu_Rule (k := 4) (by decide) rfl zl_Rule_32 zd_Rule_release_27 ?_
  refine zj_iconst (v := nI 1) zd_Rule_release_30 (by decide) ?_
  refine zj_isub zd_Rule_release_31 ?_
  refine zj_putI (zk_R0 h_o) (by decide) rfl zu_Rule zy_Rule_ok zn_Rule (k := 4) (by decide) rfl rfl zl_Rule_32 rfl rfl zd_Rule_release_32 ?_
  refine zj_aload_n zd_Rule_release_35 rfl ?_
  refine zj_sipush (v := nI 2000) zd_Rule_release_36 (by decide) ?_
  refine zj_aload_n zd_Rule_release_39 rfl ?_
  refine zj_getR (zk_R0 h_o) (by decide) rfl zu_Rule (k := 3) (by decide) rfl zl_Rule_18 zd_Rule_release_40 (o' := o + 3) rfl ?_
  refine zj_aload_n zd_Rule_release_43 rfl ?_
  refine zj_getI (zk_R0 h_o) (by decide) rfl zu_Rule (k := 4) (by decide) rfl zl_Rule_32 zd_Rule_release_44 ?_
  refine zj_iaload (zk_R3 h_o) (by decide) b1 zd_Rule_release_47 ?_
  refine zj_iadd zd_Rule_release_48 ?_
  exact zj_callVv (As := [.inl ((nI 2000) + ((z_pI σ o 4 ((σ.1 o 4) - (nI 1))).1 (o + 3) k1))]) hm hdp (zk_R0 h_o) (by decide) rfl zl_Rule_74 zq_Rule_emit zd_Rule_release_49 rfl (Nat.le_of_ble_eq_true rfl) (fun σ1 h => (k σ1 h))
theorem zb_Rule_release_52 {Γ : zG} {σ : zS} {o : Nat} {x1 : Int32} (h_o : z_oR o) (k : z_J Γ zm_Rule_release 0 [some (.inr (o)), some (.inl (x1))] [] σ) : z_J Γ zm_Rule_release 52 [some (.inr (o)), some (.inl (x1))] [] σ := by
  exact zj_goto zd_Rule_release_52 (by decide) k
theorem zb_Rule_release_55 {Γ : zG} {σ : zS}  (e : z_end Γ none σ) : z_J Γ zm_Rule_release 55 [none, none] [] σ := by
  exact zj_return rfl zd_Rule_release_55 e
theorem zd_Rule_strengthOf_0 : decode zm_Rule_strengthOf.2.1 0 = .ok (.iload_n 0, 1) := by decide +kernel
theorem zd_Rule_strengthOf_1 : decode zm_Rule_strengthOf.2.1 1 = .ok (.lookupswitch 83 #[(42, 79), (43, 77), (45, 77), (47, 79), (60, 75), (61, 75), (62, 75), (256, 81)], 75) := by decide +kernel
theorem zd_Rule_strengthOf_76 : decode zm_Rule_strengthOf.2.1 76 = .ok (.iconst 1, 1) := by decide +kernel
theorem zd_Rule_strengthOf_77 : decode zm_Rule_strengthOf.2.1 77 = .ok (.ireturn, 1) := by decide +kernel
theorem zd_Rule_strengthOf_78 : decode zm_Rule_strengthOf.2.1 78 = .ok (.iconst 2, 1) := by decide +kernel
theorem zd_Rule_strengthOf_79 : decode zm_Rule_strengthOf.2.1 79 = .ok (.ireturn, 1) := by decide +kernel
theorem zd_Rule_strengthOf_80 : decode zm_Rule_strengthOf.2.1 80 = .ok (.iconst 3, 1) := by decide +kernel
theorem zd_Rule_strengthOf_81 : decode zm_Rule_strengthOf.2.1 81 = .ok (.ireturn, 1) := by decide +kernel
theorem zd_Rule_strengthOf_82 : decode zm_Rule_strengthOf.2.1 82 = .ok (.iconst 4, 1) := by decide +kernel
theorem zd_Rule_strengthOf_83 : decode zm_Rule_strengthOf.2.1 83 = .ok (.ireturn, 1) := by decide +kernel
theorem zd_Rule_strengthOf_84 : decode zm_Rule_strengthOf.2.1 84 = .ok (.iconst 0, 1) := by decide +kernel
theorem zd_Rule_strengthOf_85 : decode zm_Rule_strengthOf.2.1 85 = .ok (.ireturn, 1) := by decide +kernel
theorem zb_Rule_strengthOf_0 {Γ : zG} {σ : zS} {x0 : Int32}  (kd : x0.toInt ≠ 42 → x0.toInt ≠ 43 → x0.toInt ≠ 45 → x0.toInt ≠ 47 → x0.toInt ≠ 60 → x0.toInt ≠ 61 → x0.toInt ≠ 62 → x0.toInt ≠ 256 → z_J Γ zm_Rule_strengthOf 84 [none] [] σ) (k42_ : x0 = nI 42 → z_J Γ zm_Rule_strengthOf 80 [none] [] σ) (k43_ : x0 = nI 43 → z_J Γ zm_Rule_strengthOf 78 [none] [] σ) (k45_ : x0 = nI 45 → z_J Γ zm_Rule_strengthOf 78 [none] [] σ) (k47_ : x0 = nI 47 → z_J Γ zm_Rule_strengthOf 80 [none] [] σ) (k60_ : x0 = nI 60 → z_J Γ zm_Rule_strengthOf 76 [none] [] σ) (k61_ : x0 = nI 61 → z_J Γ zm_Rule_strengthOf 76 [none] [] σ) (k62_ : x0 = nI 62 → z_J Γ zm_Rule_strengthOf 76 [none] [] σ) (k256_ : x0 = nI 256 → z_J Γ zm_Rule_strengthOf 82 [none] [] σ) : z_J Γ zm_Rule_strengthOf 0 [some (.inl (x0))] [] σ := by
  refine zj_iload_n zd_Rule_strengthOf_0 rfl ?_
  by_cases h42 : x0.toInt = 42
  · exact zj_look (off := 79) zd_Rule_strengthOf_1 (by decide) (by rw [h42] <;> rfl) (by decide) (zj_weak (L' := [none]) trivial (k42_ (Int32.toInt_inj.mp (by rw [h42]; decide))))
  by_cases h43 : x0.toInt = 43
  · exact zj_look (off := 77) zd_Rule_strengthOf_1 (by decide) (by rw [h43] <;> rfl) (by decide) (zj_weak (L' := [none]) trivial (k43_ (Int32.toInt_inj.mp (by rw [h43]; decide))))
  by_cases h45 : x0.toInt = 45
  · exact zj_look (off := 77) zd_Rule_strengthOf_1 (by decide) (by rw [h45] <;> rfl) (by decide) (zj_weak (L' := [none]) trivial (k45_ (Int32.toInt_inj.mp (by rw [h45]; decide))))
  by_cases h47 : x0.toInt = 47
  · exact zj_look (off := 79) zd_Rule_strengthOf_1 (by decide) (by rw [h47] <;> rfl) (by decide) (zj_weak (L' := [none]) trivial (k47_ (Int32.toInt_inj.mp (by rw [h47]; decide))))
  by_cases h60 : x0.toInt = 60
  · exact zj_look (off := 75) zd_Rule_strengthOf_1 (by decide) (by rw [h60] <;> rfl) (by decide) (zj_weak (L' := [none]) trivial (k60_ (Int32.toInt_inj.mp (by rw [h60]; decide))))
  by_cases h61 : x0.toInt = 61
  · exact zj_look (off := 75) zd_Rule_strengthOf_1 (by decide) (by rw [h61] <;> rfl) (by decide) (zj_weak (L' := [none]) trivial (k61_ (Int32.toInt_inj.mp (by rw [h61]; decide))))
  by_cases h62 : x0.toInt = 62
  · exact zj_look (off := 75) zd_Rule_strengthOf_1 (by decide) (by rw [h62] <;> rfl) (by decide) (zj_weak (L' := [none]) trivial (k62_ (Int32.toInt_inj.mp (by rw [h62]; decide))))
  by_cases h256 : x0.toInt = 256
  · exact zj_look (off := 81) zd_Rule_strengthOf_1 (by decide) (by rw [h256] <;> rfl) (by decide) (zj_weak (L' := [none]) trivial (k256_ (Int32.toInt_inj.mp (by rw [h256]; decide))))
  exact zj_look (off := 83) zd_Rule_strengthOf_1 (by decide) (by generalize x0.toInt = z at h42 h43 h45 h47 h60 h61 h62 h256 ⊢; simp [Op.lookupswitch.offset, Ne.symm h42, Ne.symm h43, Ne.symm h45, Ne.symm h47, Ne.symm h60, Ne.symm h61, Ne.symm h62, Ne.symm h256]) (by decide) (zj_weak (L' := [none]) trivial (kd h42 h43 h45 h47 h60 h61 h62 h256))
theorem zb_Rule_strengthOf_76 {Γ : zG} {σ : zS}  (e : z_end Γ (some (nI 1)) σ) : z_J Γ zm_Rule_strengthOf 76 [none] [] σ := by
  refine zj_iconst (v := nI 1) zd_Rule_strengthOf_76 (by decide) ?_
  exact zj_ireturn rfl zd_Rule_strengthOf_77 e
theorem zb_Rule_strengthOf_78 {Γ : zG} {σ : zS}  (e : z_end Γ (some (nI 2)) σ) : z_J Γ zm_Rule_strengthOf 78 [none] [] σ := by
  refine zj_iconst (v := nI 2) zd_Rule_strengthOf_78 (by decide) ?_
  exact zj_ireturn rfl zd_Rule_strengthOf_79 e
theorem zb_Rule_strengthOf_80 {Γ : zG} {σ : zS}  (e : z_end Γ (some (nI 3)) σ) : z_J Γ zm_Rule_strengthOf 80 [none] [] σ := by
  refine zj_iconst (v := nI 3) zd_Rule_strengthOf_80 (by decide) ?_
  exact zj_ireturn rfl zd_Rule_strengthOf_81 e
theorem zb_Rule_strengthOf_82 {Γ : zG} {σ : zS}  (e : z_end Γ (some (nI 4)) σ) : z_J Γ zm_Rule_strengthOf 82 [none] [] σ := by
  refine zj_iconst (v := nI 4) zd_Rule_strengthOf_82 (by decide) ?_
  exact zj_ireturn rfl zd_Rule_strengthOf_83 e
theorem zb_Rule_strengthOf_84 {Γ : zG} {σ : zS}  (e : z_end Γ (some (nI 0)) σ) : z_J Γ zm_Rule_strengthOf 84 [none] [] σ := by
  refine zj_iconst (v := nI 0) zd_Rule_strengthOf_84 (by decide) ?_
  exact zj_ireturn rfl zd_Rule_strengthOf_85 e
