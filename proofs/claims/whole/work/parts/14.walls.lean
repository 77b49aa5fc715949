theorem zd_Walls_sign_0 : decode zm_Walls_sign.2.1 0 = .ok (.aload_n 0, 1) := by decide +kernel
theorem zd_Walls_sign_1 : decode zm_Walls_sign.2.1 1 = .ok (.getfield 84, 3) := by decide +kernel
theorem zd_Walls_sign_4 : decode zm_Walls_sign.2.1 4 = .ok (.iconst 4, 1) := by decide +kernel
theorem zd_Walls_sign_5 : decode zm_Walls_sign.2.1 5 = .ok (.iadd, 1) := by decide +kernel
theorem zd_Walls_sign_6 : decode zm_Walls_sign.2.1 6 = .ok (.bipush 80, 2) := by decide +kernel
theorem zd_Walls_sign_8 : decode zm_Walls_sign.2.1 8 = .ok (.if_icmp .le 5, 3) := by decide +kernel
theorem zd_Walls_sign_11 : decode zm_Walls_sign.2.1 11 = .ok (.iconst (-1), 1) := by decide +kernel
theorem zd_Walls_sign_12 : decode zm_Walls_sign.2.1 12 = .ok (.ireturn, 1) := by decide +kernel
theorem zd_Walls_sign_13 : decode zm_Walls_sign.2.1 13 = .ok (.bipush 24, 2) := by decide +kernel
theorem zd_Walls_sign_15 : decode zm_Walls_sign.2.1 15 = .ok (.istore_n 2, 1) := by decide +kernel
theorem zd_Walls_sign_16 : decode zm_Walls_sign.2.1 16 = .ok (.iload_n 2, 1) := by decide +kernel
theorem zd_Walls_sign_17 : decode zm_Walls_sign.2.1 17 = .ok (.ifCond .lt 36, 3) := by decide +kernel
theorem zd_Walls_sign_20 : decode zm_Walls_sign.2.1 20 = .ok (.aload_n 0, 1) := by decide +kernel
theorem zd_Walls_sign_21 : decode zm_Walls_sign.2.1 21 = .ok (.getfield 9, 3) := by decide +kernel
theorem zd_Walls_sign_24 : decode zm_Walls_sign.2.1 24 = .ok (.aload_n 0, 1) := by decide +kernel
theorem zd_Walls_sign_25 : decode zm_Walls_sign.2.1 25 = .ok (.getfield 84, 3) := by decide +kernel
theorem zd_Walls_sign_28 : decode zm_Walls_sign.2.1 28 = .ok (.iload_n 1, 1) := by decide +kernel
theorem zd_Walls_sign_29 : decode zm_Walls_sign.2.1 29 = .ok (.iload_n 2, 1) := by decide +kernel
theorem zd_Walls_sign_30 : decode zm_Walls_sign.2.1 30 = .ok (.iushr, 1) := by decide +kernel
theorem zd_Walls_sign_31 : decode zm_Walls_sign.2.1 31 = .ok (.sipush 255, 3) := by decide +kernel
theorem zd_Walls_sign_34 : decode zm_Walls_sign.2.1 34 = .ok (.iand, 1) := by decide +kernel
theorem zd_Walls_sign_35 : decode zm_Walls_sign.2.1 35 = .ok (.i2c, 1) := by decide +kernel
theorem zd_Walls_sign_36 : decode zm_Walls_sign.2.1 36 = .ok (.castore, 1) := by decide +kernel
theorem zd_Walls_sign_37 : decode zm_Walls_sign.2.1 37 = .ok (.aload_n 0, 1) := by decide +kernel
theorem zd_Walls_sign_38 : decode zm_Walls_sign.2.1 38 = .ok (.dup, 1) := by decide +kernel
theorem zd_Walls_sign_39 : decode zm_Walls_sign.2.1 39 = .ok (.getfield 84, 3) := by decide +kernel
theorem zd_Walls_sign_42 : decode zm_Walls_sign.2.1 42 = .ok (.iconst 1, 1) := by decide +kernel
theorem zd_Walls_sign_43 : decode zm_Walls_sign.2.1 43 = .ok (.iadd, 1) := by decide +kernel
theorem zd_Walls_sign_44 : decode zm_Walls_sign.2.1 44 = .ok (.putfield 84, 3) := by decide +kernel
theorem zd_Walls_sign_47 : decode zm_Walls_sign.2.1 47 = .ok (.iinc 2 (-8), 3) := by decide +kernel
theorem zd_Walls_sign_50 : decode zm_Walls_sign.2.1 50 = .ok (.goto (-34), 3) := by decide +kernel
theorem zd_Walls_sign_53 : decode zm_Walls_sign.2.1 53 = .ok (.aload_n 0, 1) := by decide +kernel
theorem zd_Walls_sign_54 : decode zm_Walls_sign.2.1 54 = .ok (.getfield 84, 3) := by decide +kernel
theorem zd_Walls_sign_57 : decode zm_Walls_sign.2.1 57 = .ok (.ireturn, 1) := by decide +kernel
theorem zb_Walls_sign_0 {Γ : zG} {σ : zS} {x1 : Int32}  (kt : ((σ.1 0 1) + (nI 4)) ≤ (nI 80) → z_J Γ zm_Walls_sign 13 [some (.inr (0)), some (.inl (x1)), none] [] σ) (kf : ¬ ((σ.1 0 1) + (nI 4)) ≤ (nI 80) → z_J Γ zm_Walls_sign 11 [none, none, none] [] σ) : z_J Γ zm_Walls_sign 0 [some (.inr (0)), some (.inl (x1)), none] [] σ := by
  refine zj_aload_n zd_Walls_sign_0 rfl ?_
  refine zj_getI rfl (by decide) rfl zu_Walls (k := 1) (by decide) rfl zl_Walls_84 zd_Walls_sign_1 ?_
  refine zj_iconst (v := nI 4) zd_Walls_sign_4 (by decide) ?_
  refine zj_iadd zd_Walls_sign_5 ?_
  refine zj_bipush (v := nI 80) zd_Walls_sign_6 (by decide) ?_
  exact zj_icmp_le zd_Walls_sign_8 (by decide) (fun h => (kt h)) (fun h => (zj_weak (L' := [none, none, none]) trivial (kf h)))
theorem zb_Walls_sign_11 {Γ : zG} {σ : zS}  (e : z_end Γ (some ((-1))) σ) : z_J Γ zm_Walls_sign 11 [none, none, none] [] σ := by
  refine zj_iconst (v := (-1)) zd_Walls_sign_11 (by decide) ?_
  exact zj_ireturn rfl zd_Walls_sign_12 e
theorem zb_Walls_sign_13 {Γ : zG} {σ : zS} {x1 : Int32}  (k : z_J Γ zm_Walls_sign 16 [some (.inr (0)), some (.inl (x1)), some (.inl (nI 24))] [] σ) : z_J Γ zm_Walls_sign 13 [some (.inr (0)), some (.inl (x1)), none] [] σ := by
  refine zj_bipush (v := nI 24) zd_Walls_sign_13 (by decide) ?_
  refine zj_istore_n (L' := [some (.inr (0)), some (.inl (x1)), some (.inl (nI 24))]) zd_Walls_sign_15 (by decide) rfl ?_
  exact k
theorem zb_Walls_sign_16 {Γ : zG} {σ : zS} {x1 x2 : Int32}  (kt : x2 < 0 → z_J Γ zm_Walls_sign 53 [some (.inr (0)), none, none] [] σ) (kf : ¬ x2 < 0 → z_J Γ zm_Walls_sign 20 [some (.inr (0)), some (.inl (x1)), some (.inl (x2))] [] σ) : z_J Γ zm_Walls_sign 16 [some (.inr (0)), some (.inl (x1)), some (.inl (x2))] [] σ := by
  refine zj_iload_n zd_Walls_sign_16 rfl ?_
  exact zj_if_lt zd_Walls_sign_17 (by decide) (fun h => (zj_weak (L' := [some (.inr (0)), none, none]) ⟨rfl, trivial⟩ (kt h))) (fun h => (kf h))
theorem zb_Walls_sign_20 {Γ : zG} {σ : zS} {x1 x2 : Int32} {k1 : Nat}  (b1 : z_ix (σ.1 0 1) 80 k1) (k : z_J Γ zm_Walls_sign 16 [some (.inr (0)), some (.inl (x1)), some (.inl (x2 + (-8)))] [] (z_pI (z_pI σ 1 k1 (vp_nar .char ((((z_ushr x1 x2) &&& (nI 255)).toUInt32 % 65536).toInt32))) 0 1 (((z_pI σ 1 k1 (vp_nar .char ((((z_ushr x1 x2) &&& (nI 255)).toUInt32 % 65536).toInt32))).1 0 1) + (nI 1)))) : z_J Γ zm_Walls_sign 20 [some (.inr (0)), some (.inl (x1)), some (.inl (x2))] [] σ := by
  refine zj_aload_n zd_Walls_sign_20 rfl ?_
  refine zj_getR rfl (by decide) rfl zu_Walls (k := 0) (by decide) rfl zl_Walls_9 zd_Walls_sign_21 (o' := 1) rfl ?_
  refine zj_aload_n zd_Walls_sign_24 rfl ?_
  refine zj_getI rfl (by decide) rfl zu_Walls (k := 1) (by decide) rfl zl_Walls_84 zd_Walls_sign_25 ?_
  refine zj_iload_n zd_Walls_sign_28 rfl ?_
  refine zj_iload_n zd_Walls_sign_29 rfl ?_
  refine zj_iushr zd_Walls_sign_30 ?_
  refine zj_sipush (v := nI 255) zd_Walls_sign_31 (by decide) ?_
  refine zj_iand zd_Walls_sign_34 ?_
  refine zj_i2c zd_Walls_sign_35 ?_
  refine zj_castore rfl (by decide) b1 zd_Walls_sign_36 ?_
  refine zj_aload_n zd_Walls_sign_37 rfl ?_
  refine zj_dup zd_Walls_sign_38 ?_
  refine zj_getI rfl (by decide) rfl zu_Walls (k := 1) (by decide) rfl zl_Walls_84 zd_Walls_sign_39 ?_
  refine zj_iconst (v := nI 1) zd_Walls_sign_42 (by decide) ?_
  refine zj_iadd zd_Walls_sign_43 ?_
  refine zj_putI rfl (by decide) rfl zu_Walls zy_Walls_ok zn_Walls (k := 1) (by decide) rfl rfl zl_Walls_84 rfl rfl zd_Walls_sign_44 ?_
  refine zj_iinc (v := (-8)) (L' := [some (.inr (0)), some (.inl (x1)), some (.inl (x2 + (-8)))]) zd_Walls_sign_47 rfl (by decide) (by decide) rfl ?_
  exact zj_goto zd_Walls_sign_50 (by decide) k
theorem zb_Walls_sign_53 {Γ : zG} {σ : zS}  (e : z_end Γ (some (σ.1 0 1)) σ) : z_J Γ zm_Walls_sign 53 [some (.inr (0)), none, none] [] σ := by
  refine zj_aload_n zd_Walls_sign_53 rfl ?_
  refine zj_getI rfl (by decide) rfl zu_Walls (k := 1) (by decide) rfl zl_Walls_84 zd_Walls_sign_54 ?_
  exact zj_ireturn rfl zd_Walls_sign_57 e
theorem zd_Walls_end_0 : decode zm_Walls_end.2.1 0 = .ok (.iload_n 1, 1) := by decide +kernel
theorem zd_Walls_end_1 : decode zm_Walls_end.2.1 1 = .ok (.ifCond .lt 11, 3) := by decide +kernel
theorem zd_Walls_end_4 : decode zm_Walls_end.2.1 4 = .ok (.iload_n 1, 1) := by decide +kernel
theorem zd_Walls_end_5 : decode zm_Walls_end.2.1 5 = .ok (.aload_n 0, 1) := by decide +kernel
theorem zd_Walls_end_6 : decode zm_Walls_end.2.1 6 = .ok (.getfield 84, 3) := by decide +kernel
theorem zd_Walls_end_9 : decode zm_Walls_end.2.1 9 = .ok (.if_icmp .le 5, 3) := by decide +kernel
theorem zd_Walls_end_12 : decode zm_Walls_end.2.1 12 = .ok (.iconst 0, 1) := by decide +kernel
theorem zd_Walls_end_13 : decode zm_Walls_end.2.1 13 = .ok (.ireturn, 1) := by decide +kernel
theorem zd_Walls_end_14 : decode zm_Walls_end.2.1 14 = .ok (.aload_n 0, 1) := by decide +kernel
theorem zd_Walls_end_15 : decode zm_Walls_end.2.1 15 = .ok (.iload_n 1, 1) := by decide +kernel
theorem zd_Walls_end_16 : decode zm_Walls_end.2.1 16 = .ok (.putfield 84, 3) := by decide +kernel
theorem zd_Walls_end_19 : decode zm_Walls_end.2.1 19 = .ok (.iconst 1, 1) := by decide +kernel
theorem zd_Walls_end_20 : decode zm_Walls_end.2.1 20 = .ok (.ireturn, 1) := by decide +kernel
theorem zb_Walls_end_0 {Γ : zG} {σ : zS} {x1 : Int32}  (kt : x1 < 0 → z_J Γ zm_Walls_end 12 [none, none] [] σ) (kf : ¬ x1 < 0 → z_J Γ zm_Walls_end 4 [some (.inr (0)), some (.inl (x1))] [] σ) : z_J Γ zm_Walls_end 0 [some (.inr (0)), some (.inl (x1))] [] σ := by
  refine zj_iload_n zd_Walls_end_0 rfl ?_
  exact zj_if_lt zd_Walls_end_1 (by decide) (fun h => (zj_weak (L' := [none, none]) trivial (kt h))) (fun h => (kf h))
theorem zb_Walls_end_4 {Γ : zG} {σ : zS} {x1 : Int32}  (kt : x1 ≤ (σ.1 0 1) → z_J Γ zm_Walls_end 14 [some (.inr (0)), some (.inl (x1))] [] σ) (kf : ¬ x1 ≤ (σ.1 0 1) → z_J Γ zm_Walls_end 12 [none, none] [] σ) : z_J Γ zm_Walls_end 4 [some (.inr (0)), some (.inl (x1))] [] σ := by
  refine zj_iload_n zd_Walls_end_4 rfl ?_
  refine zj_aload_n zd_Walls_end_5 rfl ?_
  refine zj_getI rfl (by decide) rfl zu_Walls (k := 1) (by decide) rfl zl_Walls_84 zd_Walls_end_6 ?_
  exact zj_icmp_le zd_Walls_end_9 (by decide) (fun h => (kt h)) (fun h => (zj_weak (L' := [none, none]) trivial (kf h)))
theorem zb_Walls_end_12 {Γ : zG} {σ : zS}  (e : z_end Γ (some (nI 0)) σ) : z_J Γ zm_Walls_end 12 [none, none] [] σ := by
  refine zj_iconst (v := nI 0) zd_Walls_end_12 (by decide) ?_
  exact zj_zreturn rfl (Or.inl (by decide)) zd_Walls_end_13 e
theorem zb_Walls_end_14 {Γ : zG} {σ : zS} {x1 : Int32}  (e : z_end Γ (some (nI 1)) (z_pI σ 0 1 x1)) : z_J Γ zm_Walls_end 14 [some (.inr (0)), some (.inl (x1))] [] σ := by
  refine zj_aload_n zd_Walls_end_14 rfl ?_
  refine zj_iload_n zd_Walls_end_15 rfl ?_
  refine zj_putI rfl (by decide) rfl zu_Walls zy_Walls_ok zn_Walls (k := 1) (by decide) rfl rfl zl_Walls_84 rfl rfl zd_Walls_end_16 ?_
  refine zj_iconst (v := nI 1) zd_Walls_end_19 (by decide) ?_
  exact zj_zreturn rfl (Or.inr (by decide)) zd_Walls_end_20 e
theorem zd_Walls_books_0 : decode zm_Walls_books.2.1 0 = .ok (.aload_n 0, 1) := by decide +kernel
theorem zd_Walls_books_1 : decode zm_Walls_books.2.1 1 = .ok (.invokevirtual 88, 3) := by decide +kernel
theorem zd_Walls_books_4 : decode zm_Walls_books.2.1 4 = .ok (.istore_n 1, 1) := by decide +kernel
theorem zd_Walls_books_5 : decode zm_Walls_books.2.1 5 = .ok (.iload_n 1, 1) := by decide +kernel
theorem zd_Walls_books_6 : decode zm_Walls_books.2.1 6 = .ok (.ifCond .ne 5, 3) := by decide +kernel
theorem zd_Walls_books_9 : decode zm_Walls_books.2.1 9 = .ok (.iconst 0, 1) := by decide +kernel
theorem zd_Walls_books_10 : decode zm_Walls_books.2.1 10 = .ok (.ireturn, 1) := by decide +kernel
theorem zd_Walls_books_11 : decode zm_Walls_books.2.1 11 = .ok (.aload_n 0, 1) := by decide +kernel
theorem zd_Walls_books_12 : decode zm_Walls_books.2.1 12 = .ok (.iload_n 1, 1) := by decide +kernel
theorem zd_Walls_books_13 : decode zm_Walls_books.2.1 13 = .ok (.invokevirtual 92, 3) := by decide +kernel
theorem zd_Walls_books_16 : decode zm_Walls_books.2.1 16 = .ok (.istore_n 2, 1) := by decide +kernel
theorem zd_Walls_books_17 : decode zm_Walls_books.2.1 17 = .ok (.iload_n 2, 1) := by decide +kernel
theorem zd_Walls_books_18 : decode zm_Walls_books.2.1 18 = .ok (.iconst (-1), 1) := by decide +kernel
theorem zd_Walls_books_19 : decode zm_Walls_books.2.1 19 = .ok (.if_icmp .eq 7, 3) := by decide +kernel
theorem zd_Walls_books_22 : decode zm_Walls_books.2.1 22 = .ok (.iconst (-1), 1) := by decide +kernel
theorem zd_Walls_books_23 : decode zm_Walls_books.2.1 23 = .ok (.iload_n 2, 1) := by decide +kernel
theorem zd_Walls_books_24 : decode zm_Walls_books.2.1 24 = .ok (.isub, 1) := by decide +kernel
theorem zd_Walls_books_25 : decode zm_Walls_books.2.1 25 = .ok (.ireturn, 1) := by decide +kernel
theorem zd_Walls_books_26 : decode zm_Walls_books.2.1 26 = .ok (.iconst 0, 1) := by decide +kernel
theorem zd_Walls_books_27 : decode zm_Walls_books.2.1 27 = .ok (.istore_n 3, 1) := by decide +kernel
theorem zd_Walls_books_28 : decode zm_Walls_books.2.1 28 = .ok (.iload_n 3, 1) := by decide +kernel
theorem zd_Walls_books_29 : decode zm_Walls_books.2.1 29 = .ok (.iconst 1, 1) := by decide +kernel
theorem zd_Walls_books_30 : decode zm_Walls_books.2.1 30 = .ok (.iadd, 1) := by decide +kernel
theorem zd_Walls_books_31 : decode zm_Walls_books.2.1 31 = .ok (.iload_n 1, 1) := by decide +kernel
theorem zd_Walls_books_32 : decode zm_Walls_books.2.1 32 = .ok (.if_icmp .ge 36, 3) := by decide +kernel
theorem zd_Walls_books_35 : decode zm_Walls_books.2.1 35 = .ok (.aload_n 0, 1) := by decide +kernel
theorem zd_Walls_books_36 : decode zm_Walls_books.2.1 36 = .ok (.getfield 20, 3) := by decide +kernel
theorem zd_Walls_books_39 : decode zm_Walls_books.2.1 39 = .ok (.aload_n 0, 1) := by decide +kernel
theorem zd_Walls_books_40 : decode zm_Walls_books.2.1 40 = .ok (.getfield 9, 3) := by decide +kernel
theorem zd_Walls_books_43 : decode zm_Walls_books.2.1 43 = .ok (.iload_n 3, 1) := by decide +kernel
theorem zd_Walls_books_44 : decode zm_Walls_books.2.1 44 = .ok (.caload, 1) := by decide +kernel
theorem zd_Walls_books_45 : decode zm_Walls_books.2.1 45 = .ok (.bipush 48, 2) := by decide +kernel
theorem zd_Walls_books_47 : decode zm_Walls_books.2.1 47 = .ok (.isub, 1) := by decide +kernel
theorem zd_Walls_books_48 : decode zm_Walls_books.2.1 48 = .ok (.aload_n 0, 1) := by decide +kernel
theorem zd_Walls_books_49 : decode zm_Walls_books.2.1 49 = .ok (.getfield 9, 3) := by decide +kernel
theorem zd_Walls_books_52 : decode zm_Walls_books.2.1 52 = .ok (.iload_n 3, 1) := by decide +kernel
theorem zd_Walls_books_53 : decode zm_Walls_books.2.1 53 = .ok (.iconst 1, 1) := by decide +kernel
theorem zd_Walls_books_54 : decode zm_Walls_books.2.1 54 = .ok (.iadd, 1) := by decide +kernel
theorem zd_Walls_books_55 : decode zm_Walls_books.2.1 55 = .ok (.caload, 1) := by decide +kernel
theorem zd_Walls_books_56 : decode zm_Walls_books.2.1 56 = .ok (.bipush 48, 2) := by decide +kernel
theorem zd_Walls_books_58 : decode zm_Walls_books.2.1 58 = .ok (.isub, 1) := by decide +kernel
theorem zd_Walls_books_59 : decode zm_Walls_books.2.1 59 = .ok (.invokevirtual 96, 3) := by decide +kernel
theorem zd_Walls_books_62 : decode zm_Walls_books.2.1 62 = .ok (.iinc 3 3, 3) := by decide +kernel
theorem zd_Walls_books_65 : decode zm_Walls_books.2.1 65 = .ok (.goto (-37), 3) := by decide +kernel
theorem zd_Walls_books_68 : decode zm_Walls_books.2.1 68 = .ok (.aload_n 0, 1) := by decide +kernel
theorem zd_Walls_books_69 : decode zm_Walls_books.2.1 69 = .ok (.invokevirtual 100, 3) := by decide +kernel
theorem zd_Walls_books_72 : decode zm_Walls_books.2.1 72 = .ok (.iload_n 1, 1) := by decide +kernel
theorem zd_Walls_books_73 : decode zm_Walls_books.2.1 73 = .ok (.iconst 1, 1) := by decide +kernel
theorem zd_Walls_books_74 : decode zm_Walls_books.2.1 74 = .ok (.iadd, 1) := by decide +kernel
theorem zd_Walls_books_75 : decode zm_Walls_books.2.1 75 = .ok (.iconst 3, 1) := by decide +kernel
theorem zd_Walls_books_76 : decode zm_Walls_books.2.1 76 = .ok (.idiv, 1) := by decide +kernel
theorem zd_Walls_books_77 : decode zm_Walls_books.2.1 77 = .ok (.ireturn, 1) := by decide +kernel
theorem zb_Walls_books_0 {Γ : zG} {σ : zS} {dc : Nat} {P : Int32 → zS → Prop}  (hm : z_Ci dc zm_Walls_takeText [.inr (0)] σ P) (hdp : dc < z_dep Γ) (k : ∀ r σ1, P r σ1 → z_J Γ zm_Walls_books 4 [some (.inr (0)), none, none, none] [.inl (r)] σ1) : z_J Γ zm_Walls_books 0 [some (.inr (0)), none, none, none] [] σ := by
  refine zj_aload_n zd_Walls_books_0 rfl ?_
  exact zj_callVi (As := []) hm hdp rfl (by decide) rfl zl_Walls_88 zq_Walls_takeText zd_Walls_books_1 rfl (Nat.le_of_ble_eq_true rfl) (fun r σ1 h => (k r σ1 h))
theorem zb_Walls_books_4 {Γ : zG} {σ : zS} {y0 : Int32}  (kt : ¬ y0 = 0 → z_J Γ zm_Walls_books 11 [some (.inr (0)), some (.inl (y0)), none, none] [] σ) (kf : y0 = 0 → z_J Γ zm_Walls_books 9 [none, none, none, none] [] σ) : z_J Γ zm_Walls_books 4 [some (.inr (0)), none, none, none] [.inl (y0)] σ := by
  refine zj_istore_n (L' := [some (.inr (0)), some (.inl (y0)), none, none]) zd_Walls_books_4 (by decide) rfl ?_
  refine zj_iload_n zd_Walls_books_5 rfl ?_
  exact zj_if_ne zd_Walls_books_6 (by decide) (fun h => (kt h)) (fun h => (zj_weak (L' := [none, none, none, none]) trivial (kf h)))
theorem zb_Walls_books_9 {Γ : zG} {σ : zS}  (e : z_end Γ (some (nI 0)) σ) : z_J Γ zm_Walls_books 9 [none, none, none, none] [] σ := by
  refine zj_iconst (v := nI 0) zd_Walls_books_9 (by decide) ?_
  exact zj_ireturn rfl zd_Walls_books_10 e
theorem zb_Walls_books_11 {Γ : zG} {σ : zS} {x1 : Int32} {dc : Nat} {P : Int32 → zS → Prop}  (hm : z_Ci dc zm_Walls_badSignOfBooks [.inr (0), .inl (x1)] σ P) (hdp : dc < z_dep Γ) (k : ∀ r σ1, P r σ1 → z_J Γ zm_Walls_books 16 [some (.inr (0)), some (.inl (x1)), none, none] [.inl (r)] σ1) : z_J Γ zm_Walls_books 11 [some (.inr (0)), some (.inl (x1)), none, none] [] σ := by
  refine zj_aload_n zd_Walls_books_11 rfl ?_
  refine zj_iload_n zd_Walls_books_12 rfl ?_
  exact zj_callVi (As := [.inl (x1)]) hm hdp rfl (by decide) rfl zl_Walls_92 zq_Walls_badSignOfBooks zd_Walls_books_13 rfl (Nat.le_of_ble_eq_true rfl) (fun r σ1 h => (k r σ1 h))
theorem zb_Walls_books_16 {Γ : zG} {σ : zS} {x1 y0 : Int32}  (kt : y0 = (-1) → z_J Γ zm_Walls_books 26 [some (.inr (0)), some (.inl (x1)), none, none] [] σ) (kf : ¬ y0 = (-1) → z_J Γ zm_Walls_books 22 [none, none, some (.inl (y0)), none] [] σ) : z_J Γ zm_Walls_books 16 [some (.inr (0)), some (.inl (x1)), none, none] [.inl (y0)] σ := by
  refine zj_istore_n (L' := [some (.inr (0)), some (.inl (x1)), some (.inl (y0)), none]) zd_Walls_books_16 (by decide) rfl ?_
  refine zj_iload_n zd_Walls_books_17 rfl ?_
  refine zj_iconst (v := (-1)) zd_Walls_books_18 (by decide) ?_
  exact zj_icmp_eq zd_Walls_books_19 (by decide) (fun h => (zj_weak (L' := [some (.inr (0)), some (.inl (x1)), none, none]) ⟨rfl, ⟨rfl, trivial⟩⟩ (kt h))) (fun h => (zj_weak (L' := [none, none, some (.inl (y0)), none]) ⟨rfl, trivial⟩ (kf h)))
theorem zb_Walls_books_22 {Γ : zG} {σ : zS} {x2 : Int32}  (e : z_end Γ (some ((-1) - x2)) σ) : z_J Γ zm_Walls_books 22 [none, none, some (.inl (x2)), none] [] σ := by
  refine zj_iconst (v := (-1)) zd_Walls_books_22 (by decide) ?_
  refine zj_iload_n zd_Walls_books_23 rfl ?_
  refine zj_isub zd_Walls_books_24 ?_
  exact zj_ireturn rfl zd_Walls_books_25 e
theorem zb_Walls_books_26 {Γ : zG} {σ : zS} {x1 : Int32}  (k : z_J Γ zm_Walls_books 28 [some (.inr (0)), some (.inl (x1)), none, some (.inl (nI 0))] [] σ) : z_J Γ zm_Walls_books 26 [some (.inr (0)), some (.inl (x1)), none, none] [] σ := by
  refine zj_iconst (v := nI 0) zd_Walls_books_26 (by decide) ?_
  refine zj_istore_n (L' := [some (.inr (0)), some (.inl (x1)), none, some (.inl (nI 0))]) zd_Walls_books_27 (by decide) rfl ?_
  exact k
theorem zb_Walls_books_28 {Γ : zG} {σ : zS} {x1 x3 : Int32}  (kt : x1 ≤ (x3 + (nI 1)) → z_J Γ zm_Walls_books 68 [some (.inr (0)), some (.inl (x1)), none, none] [] σ) (kf : ¬ x1 ≤ (x3 + (nI 1)) → z_J Γ zm_Walls_books 35 [some (.inr (0)), some (.inl (x1)), none, some (.inl (x3))] [] σ) : z_J Γ zm_Walls_books 28 [some (.inr (0)), some (.inl (x1)), none, some (.inl (x3))] [] σ := by
  refine zj_iload_n zd_Walls_books_28 rfl ?_
  refine zj_iconst (v := nI 1) zd_Walls_books_29 (by decide) ?_
  refine zj_iadd zd_Walls_books_30 ?_
  refine zj_iload_n zd_Walls_books_31 rfl ?_
  exact zj_icmp_ge zd_Walls_books_32 (by decide) (fun h => (zj_weak (L' := [some (.inr (0)), some (.inl (x1)), none, none]) ⟨rfl, ⟨rfl, trivial⟩⟩ (kt h))) (fun h => (kf h))
theorem zb_Walls_books_35 {Γ : zG} {σ : zS} {x1 x3 : Int32} {k1 k2 : Nat} {dc : Nat} {P : zS → Prop}  (b1 : z_ix x3 80 k1) (b2 : z_ix (x3 + (nI 1)) 80 k2) (hm : z_Cv dc zm_City_addBook [.inr (33), .inl ((σ.1 1 k1) - (nI 48)), .inl ((σ.1 1 k2) - (nI 48))] σ P) (hdp : dc < z_dep Γ) (k : ∀ σ1, P σ1 → z_J Γ zm_Walls_books 62 [some (.inr (0)), some (.inl (x1)), none, some (.inl (x3))] [] σ1) : z_J Γ zm_Walls_books 35 [some (.inr (0)), some (.inl (x1)), none, some (.inl (x3))] [] σ := by
  refine zj_aload_n zd_Walls_books_35 rfl ?_
  refine zj_getR rfl (by decide) rfl zu_Walls (k := 4) (by decide) rfl zl_Walls_20 zd_Walls_books_36 (o' := 33) rfl ?_
  refine zj_aload_n zd_Walls_books_39 rfl ?_
  refine zj_getR rfl (by decide) rfl zu_Walls (k := 0) (by decide) rfl zl_Walls_9 zd_Walls_books_40 (o' := 1) rfl ?_
  refine zj_iload_n zd_Walls_books_43 rfl ?_
  refine zj_caload rfl (by decide) b1 zd_Walls_books_44 ?_
  refine zj_bipush (v := nI 48) zd_Walls_books_45 (by decide) ?_
  refine zj_isub zd_Walls_books_47 ?_
  refine zj_aload_n zd_Walls_books_48 rfl ?_
  refine zj_getR rfl (by decide) rfl zu_Walls (k := 0) (by decide) rfl zl_Walls_9 zd_Walls_books_49 (o' := 1) rfl ?_
  refine zj_iload_n zd_Walls_books_52 rfl ?_
  refine zj_iconst (v := nI 1) zd_Walls_books_53 (by decide) ?_
  refine zj_iadd zd_Walls_books_54 ?_
  refine zj_caload rfl (by decide) b2 zd_Walls_books_55 ?_
  refine zj_bipush (v := nI 48) zd_Walls_books_56 (by decide) ?_
  refine zj_isub zd_Walls_books_58 ?_
  exact zj_callVv (As := [.inl ((σ.1 1 k1) - (nI 48)), .inl ((σ.1 1 k2) - (nI 48))]) hm hdp rfl (by decide) rfl zl_Walls_96 zq_City_addBook zd_Walls_books_59 rfl (Nat.le_of_ble_eq_true rfl) (fun σ1 h => (k σ1 h))
theorem zb_Walls_books_62 {Γ : zG} {σ : zS} {x1 x3 : Int32}  (k : z_J Γ zm_Walls_books 28 [some (.inr (0)), some (.inl (x1)), none, some (.inl (x3 + nI 3))] [] σ) : z_J Γ zm_Walls_books 62 [some (.inr (0)), some (.inl (x1)), none, some (.inl (x3))] [] σ := by
  refine zj_iinc (v := nI 3) (L' := [some (.inr (0)), some (.inl (x1)), none, some (.inl (x3 + nI 3))]) zd_Walls_books_62 rfl (by decide) (by decide) rfl ?_
  exact zj_goto zd_Walls_books_65 (by decide) k
theorem zb_Walls_books_68 {Γ : zG} {σ : zS} {x1 : Int32} {dc : Nat} {P : zS → Prop}  (hm : z_Cv dc zm_Walls_forgetPast [.inr (0)] σ P) (hdp : dc < z_dep Γ) (k : ∀ σ1, P σ1 → z_J Γ zm_Walls_books 72 [none, some (.inl (x1)), none, none] [] σ1) : z_J Γ zm_Walls_books 68 [some (.inr (0)), some (.inl (x1)), none, none] [] σ := by
  refine zj_aload_n zd_Walls_books_68 rfl ?_
  exact zj_callVv (As := []) hm hdp rfl (by decide) rfl zl_Walls_100 zq_Walls_forgetPast zd_Walls_books_69 rfl (Nat.le_of_ble_eq_true rfl) (fun σ1 h => (zj_weak (L' := [none, some (.inl (x1)), none, none]) ⟨rfl, trivial⟩ (k σ1 h)))
theorem zb_Walls_books_72 {Γ : zG} {σ : zS} {x1 : Int32}  (e : z_end Γ (some ((x1 + (nI 1)) / (nI 3))) σ) : z_J Γ zm_Walls_books 72 [none, some (.inl (x1)), none, none] [] σ := by
  refine zj_iload_n zd_Walls_books_72 rfl ?_
  refine zj_iconst (v := nI 1) zd_Walls_books_73 (by decide) ?_
  refine zj_iadd zd_Walls_books_74 ?_
  refine zj_iconst (v := nI 3) zd_Walls_books_75 (by decide) ?_
  refine zj_idiv zd_Walls_books_76 (by decide) ?_
  exact zj_ireturn rfl zd_Walls_books_77 e
theorem zd_Walls_takeText_0 : decode zm_Walls_takeText.2.1 0 = .ok (.aload_n 0, 1) := by decide +kernel
theorem zd_Walls_takeText_1 : decode zm_Walls_takeText.2.1 1 = .ok (.getfield 84, 3) := by decide +kernel
theorem zd_Walls_takeText_4 : decode zm_Walls_takeText.2.1 4 = .ok (.istore_n 1, 1) := by decide +kernel
theorem zd_Walls_takeText_5 : decode zm_Walls_takeText.2.1 5 = .ok (.aload_n 0, 1) := by decide +kernel
theorem zd_Walls_takeText_6 : decode zm_Walls_takeText.2.1 6 = .ok (.iconst 0, 1) := by decide +kernel
theorem zd_Walls_takeText_7 : decode zm_Walls_takeText.2.1 7 = .ok (.putfield 84, 3) := by decide +kernel
theorem zd_Walls_takeText_10 : decode zm_Walls_takeText.2.1 10 = .ok (.iload_n 1, 1) := by decide +kernel
theorem zd_Walls_takeText_11 : decode zm_Walls_takeText.2.1 11 = .ok (.ireturn, 1) := by decide +kernel
theorem zb_Walls_takeText_0 {Γ : zG} {σ : zS}  (e : z_end Γ (some (σ.1 0 1)) (z_pI σ 0 1 (nI 0))) : z_J Γ zm_Walls_takeText 0 [some (.inr (0)), none] [] σ := by
  refine zj_aload_n zd_Walls_takeText_0 rfl ?_
  refine zj_getI rfl (by decide) rfl zu_Walls (k := 1) (by decide) rfl zl_Walls_84 zd_Walls_takeText_1 ?_
  refine zj_istore_n (L' := [some (.inr (0)), some (.inl (σ.1 0 1))]) zd_Walls_takeText_4 (by decide) rfl ?_
  refine zj_aload_n zd_Walls_takeText_5 rfl ?_
  refine zj_iconst (v := nI 0) zd_Walls_takeText_6 (by decide) ?_
  refine zj_putI rfl (by decide) rfl zu_Walls zy_Walls_ok zn_Walls (k := 1) (by decide) rfl rfl zl_Walls_84 rfl rfl zd_Walls_takeText_7 ?_
  refine zj_iload_n zd_Walls_takeText_10 rfl ?_
  exact zj_ireturn rfl zd_Walls_takeText_11 e
theorem zd_Walls_badSignOfBooks_0 : decode zm_Walls_badSignOfBooks.2.1 0 = .ok (.iconst 0, 1) := by decide +kernel
theorem zd_Walls_badSignOfBooks_1 : decode zm_Walls_badSignOfBooks.2.1 1 = .ok (.istore_n 2, 1) := by decide +kernel
theorem zd_Walls_badSignOfBooks_2 : decode zm_Walls_badSignOfBooks.2.1 2 = .ok (.iload_n 2, 1) := by decide +kernel
theorem zd_Walls_badSignOfBooks_3 : decode zm_Walls_badSignOfBooks.2.1 3 = .ok (.iload_n 1, 1) := by decide +kernel
theorem zd_Walls_badSignOfBooks_4 : decode zm_Walls_badSignOfBooks.2.1 4 = .ok (.if_icmp .ge 31, 3) := by decide +kernel
theorem zd_Walls_badSignOfBooks_7 : decode zm_Walls_badSignOfBooks.2.1 7 = .ok (.iload_n 2, 1) := by decide +kernel
theorem zd_Walls_badSignOfBooks_8 : decode zm_Walls_badSignOfBooks.2.1 8 = .ok (.bipush 36, 2) := by decide +kernel
theorem zd_Walls_badSignOfBooks_10 : decode zm_Walls_badSignOfBooks.2.1 10 = .ok (.if_icmp .eq 17, 3) := by decide +kernel
theorem zd_Walls_badSignOfBooks_13 : decode zm_Walls_badSignOfBooks.2.1 13 = .ok (.aload_n 0, 1) := by decide +kernel
theorem zd_Walls_badSignOfBooks_14 : decode zm_Walls_badSignOfBooks.2.1 14 = .ok (.iload_n 2, 1) := by decide +kernel
theorem zd_Walls_badSignOfBooks_15 : decode zm_Walls_badSignOfBooks.2.1 15 = .ok (.aload_n 0, 1) := by decide +kernel
theorem zd_Walls_badSignOfBooks_16 : decode zm_Walls_badSignOfBooks.2.1 16 = .ok (.getfield 9, 3) := by decide +kernel
theorem zd_Walls_badSignOfBooks_19 : decode zm_Walls_badSignOfBooks.2.1 19 = .ok (.iload_n 2, 1) := by decide +kernel
theorem zd_Walls_badSignOfBooks_20 : decode zm_Walls_badSignOfBooks.2.1 20 = .ok (.caload, 1) := by decide +kernel
theorem zd_Walls_badSignOfBooks_21 : decode zm_Walls_badSignOfBooks.2.1 21 = .ok (.invokevirtual 389, 3) := by decide +kernel
theorem zd_Walls_badSignOfBooks_24 : decode zm_Walls_badSignOfBooks.2.1 24 = .ok (.ifCond .ne 5, 3) := by decide +kernel
theorem zd_Walls_badSignOfBooks_27 : decode zm_Walls_badSignOfBooks.2.1 27 = .ok (.iload_n 2, 1) := by decide +kernel
theorem zd_Walls_badSignOfBooks_28 : decode zm_Walls_badSignOfBooks.2.1 28 = .ok (.ireturn, 1) := by decide +kernel
theorem zd_Walls_badSignOfBooks_29 : decode zm_Walls_badSignOfBooks.2.1 29 = .ok (.iinc 2 1, 3) := by decide +kernel
theorem zd_Walls_badSignOfBooks_32 : decode zm_Walls_badSignOfBooks.2.1 32 = .ok (.goto (-30), 3) := by decide +kernel
theorem zd_Walls_badSignOfBooks_35 : decode zm_Walls_badSignOfBooks.2.1 35 = .ok (.iload_n 1, 1) := by decide +kernel
theorem zd_Walls_badSignOfBooks_36 : decode zm_Walls_badSignOfBooks.2.1 36 = .ok (.iconst 3, 1) := by decide +kernel
theorem zd_Walls_badSignOfBooks_37 : decode zm_Walls_badSignOfBooks.2.1 37 = .ok (.irem, 1) := by decide +kernel
theorem zd_Walls_badSignOfBooks_38 : decode zm_Walls_badSignOfBooks.2.1 38 = .ok (.iconst 2, 1) := by decide +kernel
theorem zd_Walls_badSignOfBooks_39 : decode zm_Walls_badSignOfBooks.2.1 39 = .ok (.if_icmp .ne 7, 3) := by decide +kernel
theorem zd_Walls_badSignOfBooks_42 : decode zm_Walls_badSignOfBooks.2.1 42 = .ok (.iconst (-1), 1) := by decide +kernel
theorem zd_Walls_badSignOfBooks_43 : decode zm_Walls_badSignOfBooks.2.1 43 = .ok (.goto 4, 3) := by decide +kernel
theorem zd_Walls_badSignOfBooks_46 : decode zm_Walls_badSignOfBooks.2.1 46 = .ok (.iload_n 1, 1) := by decide +kernel
theorem zd_Walls_badSignOfBooks_47 : decode zm_Walls_badSignOfBooks.2.1 47 = .ok (.ireturn, 1) := by decide +kernel
theorem zb_Walls_badSignOfBooks_0 {Γ : zG} {σ : zS} {x1 : Int32}  (k : z_J Γ zm_Walls_badSignOfBooks 2 [some (.inr (0)), some (.inl (x1)), some (.inl (nI 0))] [] σ) : z_J Γ zm_Walls_badSignOfBooks 0 [some (.inr (0)), some (.inl (x1)), none] [] σ := by
  refine zj_iconst (v := nI 0) zd_Walls_badSignOfBooks_0 (by decide) ?_
  refine zj_istore_n (L' := [some (.inr (0)), some (.inl (x1)), some (.inl (nI 0))]) zd_Walls_badSignOfBooks_1 (by decide) rfl ?_
  exact k
theorem zb_Walls_badSignOfBooks_2 {Γ : zG} {σ : zS} {x1 x2 : Int32}  (kt : x1 ≤ x2 → z_J Γ zm_Walls_badSignOfBooks 35 [none, some (.inl (x1)), none] [] σ) (kf : ¬ x1 ≤ x2 → z_J Γ zm_Walls_badSignOfBooks 7 [some (.inr (0)), some (.inl (x1)), some (.inl (x2))] [] σ) : z_J Γ zm_Walls_badSignOfBooks 2 [some (.inr (0)), some (.inl (x1)), some (.inl (x2))] [] σ := by
  refine zj_iload_n zd_Walls_badSignOfBooks_2 rfl ?_
  refine zj_iload_n zd_Walls_badSignOfBooks_3 rfl ?_
  exact zj_icmp_ge zd_Walls_badSignOfBooks_4 (by decide) (fun h => (zj_weak (L' := [none, some (.inl (x1)), none]) ⟨rfl, trivial⟩ (kt h))) (fun h => (kf h))
theorem zb_Walls_badSignOfBooks_7 {Γ : zG} {σ : zS} {x1 x2 : Int32}  (kt : x2 = (nI 36) → z_J Γ zm_Walls_badSignOfBooks 27 [none, none, some (.inl (x2))] [] σ) (kf : ¬ x2 = (nI 36) → z_J Γ zm_Walls_badSignOfBooks 13 [some (.inr (0)), some (.inl (x1)), some (.inl (x2))] [] σ) : z_J Γ zm_Walls_badSignOfBooks 7 [some (.inr (0)), some (.inl (x1)), some (.inl (x2))] [] σ := by
  refine zj_iload_n zd_Walls_badSignOfBooks_7 rfl ?_
  refine zj_bipush (v := nI 36) zd_Walls_badSignOfBooks_8 (by decide) ?_
  exact zj_icmp_eq zd_Walls_badSignOfBooks_10 (by decide) (fun h => (zj_weak (L' := [none, none, some (.inl (x2))]) ⟨rfl, trivial⟩ (kt h))) (fun h => (kf h))
theorem zb_Walls_badSignOfBooks_13 {Γ : zG} {σ : zS} {x1 x2 : Int32} {k1 : Nat} {dc : Nat} {P : Int32 → zS → Prop}  (b1 : z_ix x2 80 k1) (hm : z_Ci dc zm_Walls_canStandInBooks [.inr (0), .inl (x2), .inl (σ.1 1 k1)] σ P) (hdp : dc < z_dep Γ) (k : ∀ r σ1, P r σ1 → z_J Γ zm_Walls_badSignOfBooks 24 [some (.inr (0)), some (.inl (x1)), some (.inl (x2))] [.inl (r)] σ1) : z_J Γ zm_Walls_badSignOfBooks 13 [some (.inr (0)), some (.inl (x1)), some (.inl (x2))] [] σ := by
  refine zj_aload_n zd_Walls_badSignOfBooks_13 rfl ?_
  refine zj_iload_n zd_Walls_badSignOfBooks_14 rfl ?_
  refine zj_aload_n zd_Walls_badSignOfBooks_15 rfl ?_
  refine zj_getR rfl (by decide) rfl zu_Walls (k := 0) (by decide) rfl zl_Walls_9 zd_Walls_badSignOfBooks_16 (o' := 1) rfl ?_
  refine zj_iload_n zd_Walls_badSignOfBooks_19 rfl ?_
  refine zj_caload rfl (by decide) b1 zd_Walls_badSignOfBooks_20 ?_
  exact zj_callVi (As := [.inl (x2), .inl (σ.1 1 k1)]) hm hdp rfl (by decide) rfl zl_Walls_389 zq_Walls_canStandInBooks zd_Walls_badSignOfBooks_21 rfl (Nat.le_of_ble_eq_true rfl) (fun r σ1 h => (k r σ1 h))
theorem zb_Walls_badSignOfBooks_24 {Γ : zG} {σ : zS} {x1 x2 y0 : Int32}  (kt : ¬ y0 = 0 → z_J Γ zm_Walls_badSignOfBooks 29 [some (.inr (0)), some (.inl (x1)), some (.inl (x2))] [] σ) (kf : y0 = 0 → z_J Γ zm_Walls_badSignOfBooks 27 [none, none, some (.inl (x2))] [] σ) : z_J Γ zm_Walls_badSignOfBooks 24 [some (.inr (0)), some (.inl (x1)), some (.inl (x2))] [.inl (y0)] σ := by
  exact zj_if_ne zd_Walls_badSignOfBooks_24 (by decide) (fun h => (kt h)) (fun h => (zj_weak (L' := [none, none, some (.inl (x2))]) ⟨rfl, trivial⟩ (kf h)))
theorem zb_Walls_badSignOfBooks_27 {Γ : zG} {σ : zS} {x2 : Int32}  (e : z_end Γ (some (x2)) σ) : z_J Γ zm_Walls_badSignOfBooks 27 [none, none, some (.inl (x2))] [] σ := by
  refine zj_iload_n zd_Walls_badSignOfBooks_27 rfl ?_
  exact zj_ireturn rfl zd_Walls_badSignOfBooks_28 e
theorem zb_Walls_badSignOfBooks_29 {Γ : zG} {σ : zS} {x1 x2 : Int32}  (k : z_J Γ zm_Walls_badSignOfBooks 2 [some (.inr (0)), some (.inl (x1)), some (.inl (x2 + nI 1))] [] σ) : z_J Γ zm_Walls_badSignOfBooks 29 [some (.inr (0)), some (.inl (x1)), some (.inl (x2))] [] σ := by
  refine zj_iinc (v := nI 1) (L' := [some (.inr (0)), some (.inl (x1)), some (.inl (x2 + nI 1))]) zd_Walls_badSignOfBooks_29 rfl (by decide) (by decide) rfl ?_
  exact zj_goto zd_Walls_badSignOfBooks_32 (by decide) k
theorem zb_Walls_badSignOfBooks_35 {Γ : zG} {σ : zS} {x1 : Int32}  (kt : ¬ (x1 - x1 / (nI 3) * (nI 3)) = (nI 2) → z_J Γ zm_Walls_badSignOfBooks 46 [none, some (.inl (x1)), none] [] σ) (kf : (x1 - x1 / (nI 3) * (nI 3)) = (nI 2) → z_J Γ zm_Walls_badSignOfBooks 42 [none, none, none] [] σ) : z_J Γ zm_Walls_badSignOfBooks 35 [none, some (.inl (x1)), none] [] σ := by
  refine zj_iload_n zd_Walls_badSignOfBooks_35 rfl ?_
  refine zj_iconst (v := nI 3) zd_Walls_badSignOfBooks_36 (by decide) ?_
  refine zj_irem zd_Walls_badSignOfBooks_37 (by decide) ?_
  refine zj_iconst (v := nI 2) zd_Walls_badSignOfBooks_38 (by decide) ?_
  exact zj_icmp_ne zd_Walls_badSignOfBooks_39 (by decide) (fun h => (kt h)) (fun h => (zj_weak (L' := [none, none, none]) trivial (kf h)))
theorem zb_Walls_badSignOfBooks_42 {Γ : zG} {σ : zS}  (k : z_J Γ zm_Walls_badSignOfBooks 47 [none, none, none] [.inl ((-1))] σ) : z_J Γ zm_Walls_badSignOfBooks 42 [none, none, none] [] σ := by
  refine zj_iconst (v := (-1)) zd_Walls_badSignOfBooks_42 (by decide) ?_
  exact zj_goto zd_Walls_badSignOfBooks_43 (by decide) k
theorem zb_Walls_badSignOfBooks_46 {Γ : zG} {σ : zS} {x1 : Int32}  (k : z_J Γ zm_Walls_badSignOfBooks 47 [none, none, none] [.inl (x1)] σ) : z_J Γ zm_Walls_badSignOfBooks 46 [none, some (.inl (x1)), none] [] σ := by
  refine zj_iload_n zd_Walls_badSignOfBooks_46 rfl ?_
  exact (zj_weak (L' := [none, none, none]) trivial k)
theorem zb_Walls_badSignOfBooks_47 {Γ : zG} {σ : zS} {y0 : Int32}  (e : z_end Γ (some (y0)) σ) : z_J Γ zm_Walls_badSignOfBooks 47 [none, none, none] [.inl (y0)] σ := by
  exact zj_ireturn rfl zd_Walls_badSignOfBooks_47 e
theorem zd_Walls_canStandInBooks_0 : decode zm_Walls_canStandInBooks.2.1 0 = .ok (.iload_n 1, 1) := by decide +kernel
theorem zd_Walls_canStandInBooks_1 : decode zm_Walls_canStandInBooks.2.1 1 = .ok (.iconst 3, 1) := by decide +kernel
theorem zd_Walls_canStandInBooks_2 : decode zm_Walls_canStandInBooks.2.1 2 = .ok (.irem, 1) := by decide +kernel
theorem zd_Walls_canStandInBooks_3 : decode zm_Walls_canStandInBooks.2.1 3 = .ok (.lookupswitch 64 #[(0, 25), (1, 59)], 25) := by decide +kernel
theorem zd_Walls_canStandInBooks_28 : decode zm_Walls_canStandInBooks.2.1 28 = .ok (.iload_n 2, 1) := by decide +kernel
theorem zd_Walls_canStandInBooks_29 : decode zm_Walls_canStandInBooks.2.1 29 = .ok (.bipush 49, 2) := by decide +kernel
theorem zd_Walls_canStandInBooks_31 : decode zm_Walls_canStandInBooks.2.1 31 = .ok (.if_icmp .lt 29, 3) := by decide +kernel
theorem zd_Walls_canStandInBooks_34 : decode zm_Walls_canStandInBooks.2.1 34 = .ok (.iload_n 2, 1) := by decide +kernel
theorem zd_Walls_canStandInBooks_35 : decode zm_Walls_canStandInBooks.2.1 35 = .ok (.bipush 57, 2) := by decide +kernel
theorem zd_Walls_canStandInBooks_37 : decode zm_Walls_canStandInBooks.2.1 37 = .ok (.if_icmp .gt 23, 3) := by decide +kernel
theorem zd_Walls_canStandInBooks_40 : decode zm_Walls_canStandInBooks.2.1 40 = .ok (.aload_n 0, 1) := by decide +kernel
theorem zd_Walls_canStandInBooks_41 : decode zm_Walls_canStandInBooks.2.1 41 = .ok (.getfield 20, 3) := by decide +kernel
theorem zd_Walls_canStandInBooks_44 : decode zm_Walls_canStandInBooks.2.1 44 = .ok (.getfield 210, 3) := by decide +kernel
theorem zd_Walls_canStandInBooks_47 : decode zm_Walls_canStandInBooks.2.1 47 = .ok (.iload_n 1, 1) := by decide +kernel
theorem zd_Walls_canStandInBooks_48 : decode zm_Walls_canStandInBooks.2.1 48 = .ok (.iconst 3, 1) := by decide +kernel
theorem zd_Walls_canStandInBooks_49 : decode zm_Walls_canStandInBooks.2.1 49 = .ok (.idiv, 1) := by decide +kernel
theorem zd_Walls_canStandInBooks_50 : decode zm_Walls_canStandInBooks.2.1 50 = .ok (.iadd, 1) := by decide +kernel
theorem zd_Walls_canStandInBooks_51 : decode zm_Walls_canStandInBooks.2.1 51 = .ok (.bipush 12, 2) := by decide +kernel
theorem zd_Walls_canStandInBooks_53 : decode zm_Walls_canStandInBooks.2.1 53 = .ok (.if_icmp .ge 7, 3) := by decide +kernel
theorem zd_Walls_canStandInBooks_56 : decode zm_Walls_canStandInBooks.2.1 56 = .ok (.iconst 1, 1) := by decide +kernel
theorem zd_Walls_canStandInBooks_57 : decode zm_Walls_canStandInBooks.2.1 57 = .ok (.goto 4, 3) := by decide +kernel
theorem zd_Walls_canStandInBooks_60 : decode zm_Walls_canStandInBooks.2.1 60 = .ok (.iconst 0, 1) := by decide +kernel
theorem zd_Walls_canStandInBooks_61 : decode zm_Walls_canStandInBooks.2.1 61 = .ok (.ireturn, 1) := by decide +kernel
theorem zd_Walls_canStandInBooks_62 : decode zm_Walls_canStandInBooks.2.1 62 = .ok (.iload_n 2, 1) := by decide +kernel
theorem zd_Walls_canStandInBooks_63 : decode zm_Walls_canStandInBooks.2.1 63 = .ok (.invokestatic 393, 3) := by decide +kernel
theorem zd_Walls_canStandInBooks_66 : decode zm_Walls_canStandInBooks.2.1 66 = .ok (.ireturn, 1) := by decide +kernel
theorem zd_Walls_canStandInBooks_67 : decode zm_Walls_canStandInBooks.2.1 67 = .ok (.iload_n 2, 1) := by decide +kernel
theorem zd_Walls_canStandInBooks_68 : decode zm_Walls_canStandInBooks.2.1 68 = .ok (.bipush 59, 2) := by decide +kernel
theorem zd_Walls_canStandInBooks_70 : decode zm_Walls_canStandInBooks.2.1 70 = .ok (.if_icmp .ne 7, 3) := by decide +kernel
theorem zd_Walls_canStandInBooks_73 : decode zm_Walls_canStandInBooks.2.1 73 = .ok (.iconst 1, 1) := by decide +kernel
theorem zd_Walls_canStandInBooks_74 : decode zm_Walls_canStandInBooks.2.1 74 = .ok (.goto 4, 3) := by decide +kernel
theorem zd_Walls_canStandInBooks_77 : decode zm_Walls_canStandInBooks.2.1 77 = .ok (.iconst 0, 1) := by decide +kernel
theorem zd_Walls_canStandInBooks_78 : decode zm_Walls_canStandInBooks.2.1 78 = .ok (.ireturn, 1) := by decide +kernel
theorem zb_Walls_canStandInBooks_0 {Γ : zG} {σ : zS} {x1 x2 : Int32}  (kd : (x1 - x1 / (nI 3) * (nI 3)).toInt ≠ 0 → (x1 - x1 / (nI 3) * (nI 3)).toInt ≠ 1 → z_J Γ zm_Walls_canStandInBooks 67 [none, none, some (.inl (x2))] [] σ) (k0_ : (x1 - x1 / (nI 3) * (nI 3)) = nI 0 → z_J Γ zm_Walls_canStandInBooks 28 [some (.inr (0)), some (.inl (x1)), some (.inl (x2))] [] σ) (k1_ : (x1 - x1 / (nI 3) * (nI 3)) = nI 1 → z_J Γ zm_Walls_canStandInBooks 62 [none, none, some (.inl (x2))] [] σ) : z_J Γ zm_Walls_canStandInBooks 0 [some (.inr (0)), some (.inl (x1)), some (.inl (x2))] [] σ := by
  refine zj_iload_n zd_Walls_canStandInBooks_0 rfl ?_
  refine zj_iconst (v := nI 3) zd_Walls_canStandInBooks_1 (by decide) ?_
  refine zj_irem zd_Walls_canStandInBooks_2 (by decide) ?_
  by_cases h0 : (x1 - x1 / (nI 3) * (nI 3)).toInt = 0
  · exact zj_look (off := 25) zd_Walls_canStandInBooks_3 (by decide) (by rw [h0] <;> rfl) (by decide) (k0_ (Int32.toInt_inj.mp (by rw [h0]; decide)))
  by_cases h1 : (x1 - x1 / (nI 3) * (nI 3)).toInt = 1
  · exact zj_look (off := 59) zd_Walls_canStandInBooks_3 (by decide) (by rw [h1] <;> rfl) (by decide) (zj_weak (L' := [none, none, some (.inl (x2))]) ⟨rfl, trivial⟩ (k1_ (Int32.toInt_inj.mp (by rw [h1]; decide))))
  exact zj_look (off := 64) zd_Walls_canStandInBooks_3 (by decide) (by generalize (x1 - x1 / (nI 3) * (nI 3)).toInt = z at h0 h1 ⊢; simp [Op.lookupswitch.offset, Ne.symm h0, Ne.symm h1]) (by decide) (zj_weak (L' := [none, none, some (.inl (x2))]) ⟨rfl, trivial⟩ (kd h0 h1))
theorem zb_Walls_canStandInBooks_28 {Γ : zG} {σ : zS} {x1 x2 : Int32}  (kt : x2 < (nI 49) → z_J Γ zm_Walls_canStandInBooks 60 [none, none, none] [] σ) (kf : ¬ x2 < (nI 49) → z_J Γ zm_Walls_canStandInBooks 34 [some (.inr (0)), some (.inl (x1)), some (.inl (x2))] [] σ) : z_J Γ zm_Walls_canStandInBooks 28 [some (.inr (0)), some (.inl (x1)), some (.inl (x2))] [] σ := by
  refine zj_iload_n zd_Walls_canStandInBooks_28 rfl ?_
  refine zj_bipush (v := nI 49) zd_Walls_canStandInBooks_29 (by decide) ?_
  exact zj_icmp_lt zd_Walls_canStandInBooks_31 (by decide) (fun h => (zj_weak (L' := [none, none, none]) trivial (kt h))) (fun h => (kf h))
theorem zb_Walls_canStandInBooks_34 {Γ : zG} {σ : zS} {x1 x2 : Int32}  (kt : (nI 57) < x2 → z_J Γ zm_Walls_canStandInBooks 60 [none, none, none] [] σ) (kf : ¬ (nI 57) < x2 → z_J Γ zm_Walls_canStandInBooks 40 [some (.inr (0)), some (.inl (x1)), none] [] σ) : z_J Γ zm_Walls_canStandInBooks 34 [some (.inr (0)), some (.inl (x1)), some (.inl (x2))] [] σ := by
  refine zj_iload_n zd_Walls_canStandInBooks_34 rfl ?_
  refine zj_bipush (v := nI 57) zd_Walls_canStandInBooks_35 (by decide) ?_
  exact zj_icmp_gt zd_Walls_canStandInBooks_37 (by decide) (fun h => (zj_weak (L' := [none, none, none]) trivial (kt h))) (fun h => (zj_weak (L' := [some (.inr (0)), some (.inl (x1)), none]) ⟨rfl, ⟨rfl, trivial⟩⟩ (kf h)))
theorem zb_Walls_canStandInBooks_40 {Γ : zG} {σ : zS} {x1 : Int32}  (kt : (nI 12) ≤ ((σ.1 33 0) + (x1 / (nI 3))) → z_J Γ zm_Walls_canStandInBooks 60 [none, none, none] [] σ) (kf : ¬ (nI 12) ≤ ((σ.1 33 0) + (x1 / (nI 3))) → z_J Γ zm_Walls_canStandInBooks 56 [none, none, none] [] σ) : z_J Γ zm_Walls_canStandInBooks 40 [some (.inr (0)), some (.inl (x1)), none] [] σ := by
  refine zj_aload_n zd_Walls_canStandInBooks_40 rfl ?_
  refine zj_getR rfl (by decide) rfl zu_Walls (k := 4) (by decide) rfl zl_Walls_20 zd_Walls_canStandInBooks_41 (o' := 33) rfl ?_
  refine zj_getI rfl (by decide) rfl zu_City (k := 0) (by decide) rfl zl_Walls_210 zd_Walls_canStandInBooks_44 ?_
  refine zj_iload_n zd_Walls_canStandInBooks_47 rfl ?_
  refine zj_iconst (v := nI 3) zd_Walls_canStandInBooks_48 (by decide) ?_
  refine zj_idiv zd_Walls_canStandInBooks_49 (by decide) ?_
  refine zj_iadd zd_Walls_canStandInBooks_50 ?_
  refine zj_bipush (v := nI 12) zd_Walls_canStandInBooks_51 (by decide) ?_
  exact zj_icmp_ge zd_Walls_canStandInBooks_53 (by decide) (fun h => (zj_weak (L' := [none, none, none]) trivial (kt h))) (fun h => (zj_weak (L' := [none, none, none]) trivial (kf h)))
theorem zb_Walls_canStandInBooks_56 {Γ : zG} {σ : zS}  (k : z_J Γ zm_Walls_canStandInBooks 61 [none, none, none] [.inl (nI 1)] σ) : z_J Γ zm_Walls_canStandInBooks 56 [none, none, none] [] σ := by
  refine zj_iconst (v := nI 1) zd_Walls_canStandInBooks_56 (by decide) ?_
  exact zj_goto zd_Walls_canStandInBooks_57 (by decide) k
theorem zb_Walls_canStandInBooks_60 {Γ : zG} {σ : zS}  (k : z_J Γ zm_Walls_canStandInBooks 61 [none, none, none] [.inl (nI 0)] σ) : z_J Γ zm_Walls_canStandInBooks 60 [none, none, none] [] σ := by
  refine zj_iconst (v := nI 0) zd_Walls_canStandInBooks_60 (by decide) ?_
  exact k
theorem zb_Walls_canStandInBooks_61 {Γ : zG} {σ : zS} {y0 : Int32}  (e : z_end Γ (some (y0)) σ) (z1 : y0 = 0 ∨ y0 = 1) : z_J Γ zm_Walls_canStandInBooks 61 [none, none, none] [.inl (y0)] σ := by
  exact zj_zreturn rfl z1 zd_Walls_canStandInBooks_61 e
theorem zb_Walls_canStandInBooks_62 {Γ : zG} {σ : zS} {x2 : Int32} {dc : Nat} {P : Int32 → zS → Prop}  (hm : z_Ci dc zm_Walls_isDigit [.inl (x2)] σ P) (hdp : dc < z_dep Γ) (k : ∀ r σ1, P r σ1 → z_J Γ zm_Walls_canStandInBooks 66 [none, none, none] [.inl (r)] σ1) : z_J Γ zm_Walls_canStandInBooks 62 [none, none, some (.inl (x2))] [] σ := by
  refine zj_iload_n zd_Walls_canStandInBooks_62 rfl ?_
  exact zj_callSi (As := [.inl (x2)]) hm hdp zl_Walls_393 zq_Walls_isDigit zd_Walls_canStandInBooks_63 rfl (Nat.le_of_ble_eq_true rfl) (fun r σ1 h => (zj_weak (L' := [none, none, none]) trivial (k r σ1 h)))
theorem zb_Walls_canStandInBooks_66 {Γ : zG} {σ : zS} {y0 : Int32}  (e : z_end Γ (some (y0)) σ) (z1 : y0 = 0 ∨ y0 = 1) : z_J Γ zm_Walls_canStandInBooks 66 [none, none, none] [.inl (y0)] σ := by
  exact zj_zreturn rfl z1 zd_Walls_canStandInBooks_66 e
theorem zb_Walls_canStandInBooks_67 {Γ : zG} {σ : zS} {x2 : Int32}  (kt : ¬ x2 = (nI 59) → z_J Γ zm_Walls_canStandInBooks 77 [none, none, none] [] σ) (kf : x2 = (nI 59) → z_J Γ zm_Walls_canStandInBooks 73 [none, none, none] [] σ) : z_J Γ zm_Walls_canStandInBooks 67 [none, none, some (.inl (x2))] [] σ := by
  refine zj_iload_n zd_Walls_canStandInBooks_67 rfl ?_
  refine zj_bipush (v := nI 59) zd_Walls_canStandInBooks_68 (by decide) ?_
  exact zj_icmp_ne zd_Walls_canStandInBooks_70 (by decide) (fun h => (zj_weak (L' := [none, none, none]) trivial (kt h))) (fun h => (zj_weak (L' := [none, none, none]) trivial (kf h)))
theorem zb_Walls_canStandInBooks_73 {Γ : zG} {σ : zS}  (k : z_J Γ zm_Walls_canStandInBooks 78 [none, none, none] [.inl (nI 1)] σ) : z_J Γ zm_Walls_canStandInBooks 73 [none, none, none] [] σ := by
  refine zj_iconst (v := nI 1) zd_Walls_canStandInBooks_73 (by decide) ?_
  exact zj_goto zd_Walls_canStandInBooks_74 (by decide) k
theorem zb_Walls_canStandInBooks_77 {Γ : zG} {σ : zS}  (k : z_J Γ zm_Walls_canStandInBooks 78 [none, none, none] [.inl (nI 0)] σ) : z_J Γ zm_Walls_canStandInBooks 77 [none, none, none] [] σ := by
  refine zj_iconst (v := nI 0) zd_Walls_canStandInBooks_77 (by decide) ?_
  exact k
theorem zb_Walls_canStandInBooks_78 {Γ : zG} {σ : zS} {y0 : Int32}  (e : z_end Γ (some (y0)) σ) (z1 : y0 = 0 ∨ y0 = 1) : z_J Γ zm_Walls_canStandInBooks 78 [none, none, none] [.inl (y0)] σ := by
  exact zj_zreturn rfl z1 zd_Walls_canStandInBooks_78 e
theorem zd_Walls_isDigit_0 : decode zm_Walls_isDigit.2.1 0 = .ok (.iload_n 0, 1) := by decide +kernel
theorem zd_Walls_isDigit_1 : decode zm_Walls_isDigit.2.1 1 = .ok (.bipush 48, 2) := by decide +kernel
theorem zd_Walls_isDigit_3 : decode zm_Walls_isDigit.2.1 3 = .ok (.if_icmp .lt 13, 3) := by decide +kernel
theorem zd_Walls_isDigit_6 : decode zm_Walls_isDigit.2.1 6 = .ok (.iload_n 0, 1) := by decide +kernel
theorem zd_Walls_isDigit_7 : decode zm_Walls_isDigit.2.1 7 = .ok (.bipush 57, 2) := by decide +kernel
theorem zd_Walls_isDigit_9 : decode zm_Walls_isDigit.2.1 9 = .ok (.if_icmp .gt 7, 3) := by decide +kernel
theorem zd_Walls_isDigit_12 : decode zm_Walls_isDigit.2.1 12 = .ok (.iconst 1, 1) := by decide +kernel
theorem zd_Walls_isDigit_13 : decode zm_Walls_isDigit.2.1 13 = .ok (.goto 4, 3) := by decide +kernel
theorem zd_Walls_isDigit_16 : decode zm_Walls_isDigit.2.1 16 = .ok (.iconst 0, 1) := by decide +kernel
theorem zd_Walls_isDigit_17 : decode zm_Walls_isDigit.2.1 17 = .ok (.ireturn, 1) := by decide +kernel
theorem zb_Walls_isDigit_0 {Γ : zG} {σ : zS} {x0 : Int32}  (kt : x0 < (nI 48) → z_J Γ zm_Walls_isDigit 16 [none] [] σ) (kf : ¬ x0 < (nI 48) → z_J Γ zm_Walls_isDigit 6 [some (.inl (x0))] [] σ) : z_J Γ zm_Walls_isDigit 0 [some (.inl (x0))] [] σ := by
  refine zj_iload_n zd_Walls_isDigit_0 rfl ?_
  refine zj_bipush (v := nI 48) zd_Walls_isDigit_1 (by decide) ?_
  exact zj_icmp_lt zd_Walls_isDigit_3 (by decide) (fun h => (zj_weak (L' := [none]) trivial (kt h))) (fun h => (kf h))
theorem zb_Walls_isDigit_6 {Γ : zG} {σ : zS} {x0 : Int32}  (kt : (nI 57) < x0 → z_J Γ zm_Walls_isDigit 16 [none] [] σ) (kf : ¬ (nI 57) < x0 → z_J Γ zm_Walls_isDigit 12 [none] [] σ) : z_J Γ zm_Walls_isDigit 6 [some (.inl (x0))] [] σ := by
  refine zj_iload_n zd_Walls_isDigit_6 rfl ?_
  refine zj_bipush (v := nI 57) zd_Walls_isDigit_7 (by decide) ?_
  exact zj_icmp_gt zd_Walls_isDigit_9 (by decide) (fun h => (zj_weak (L' := [none]) trivial (kt h))) (fun h => (zj_weak (L' := [none]) trivial (kf h)))
theorem zb_Walls_isDigit_12 {Γ : zG} {σ : zS}  (k : z_J Γ zm_Walls_isDigit 17 [none] [.inl (nI 1)] σ) : z_J Γ zm_Walls_isDigit 12 [none] [] σ := by
  refine zj_iconst (v := nI 1) zd_Walls_isDigit_12 (by decide) ?_
  exact zj_goto zd_Walls_isDigit_13 (by decide) k
theorem zb_Walls_isDigit_16 {Γ : zG} {σ : zS}  (k : z_J Γ zm_Walls_isDigit 17 [none] [.inl (nI 0)] σ) : z_J Γ zm_Walls_isDigit 16 [none] [] σ := by
  refine zj_iconst (v := nI 0) zd_Walls_isDigit_16 (by decide) ?_
  exact k
theorem zb_Walls_isDigit_17 {Γ : zG} {σ : zS} {y0 : Int32}  (e : z_end Γ (some (y0)) σ) (z1 : y0 = 0 ∨ y0 = 1) : z_J Γ zm_Walls_isDigit 17 [none] [.inl (y0)] σ := by
  exact zj_zreturn rfl z1 zd_Walls_isDigit_17 e
theorem zd_Walls_forgetPast_0 : decode zm_Walls_forgetPast.2.1 0 = .ok (.aload_n 0, 1) := by decide +kernel
theorem zd_Walls_forgetPast_1 : decode zm_Walls_forgetPast.2.1 1 = .ok (.getfield 47, 3) := by decide +kernel
theorem zd_Walls_forgetPast_4 : decode zm_Walls_forgetPast.2.1 4 = .ok (.invokevirtual 372, 3) := by decide +kernel
theorem zd_Walls_forgetPast_7 : decode zm_Walls_forgetPast.2.1 7 = .ok (.aload_n 0, 1) := by decide +kernel
theorem zd_Walls_forgetPast_8 : decode zm_Walls_forgetPast.2.1 8 = .ok (.getfield 56, 3) := by decide +kernel
theorem zd_Walls_forgetPast_11 : decode zm_Walls_forgetPast.2.1 11 = .ok (.iconst 0, 1) := by decide +kernel
theorem zd_Walls_forgetPast_12 : decode zm_Walls_forgetPast.2.1 12 = .ok (.iconst 0, 1) := by decide +kernel
theorem zd_Walls_forgetPast_13 : decode zm_Walls_forgetPast.2.1 13 = .ok (.bastore, 1) := by decide +kernel
theorem zd_Walls_forgetPast_14 : decode zm_Walls_forgetPast.2.1 14 = .ok (.aload_n 0, 1) := by decide +kernel
theorem zd_Walls_forgetPast_15 : decode zm_Walls_forgetPast.2.1 15 = .ok (.getfield 56, 3) := by decide +kernel
theorem zd_Walls_forgetPast_18 : decode zm_Walls_forgetPast.2.1 18 = .ok (.iconst 1, 1) := by decide +kernel
theorem zd_Walls_forgetPast_19 : decode zm_Walls_forgetPast.2.1 19 = .ok (.iconst 0, 1) := by decide +kernel
theorem zd_Walls_forgetPast_20 : decode zm_Walls_forgetPast.2.1 20 = .ok (.bastore, 1) := by decide +kernel
theorem zd_Walls_forgetPast_21 : decode zm_Walls_forgetPast.2.1 21 = .ok (.return_, 1) := by decide +kernel
theorem zb_Walls_forgetPast_0 {Γ : zG} {σ : zS} {dc : Nat} {P : zS → Prop}  (hm : z_Cv dc zm_History_clear [.inr (11)] σ P) (hdp : dc < z_dep Γ) (k : ∀ σ1, P σ1 → z_J Γ zm_Walls_forgetPast 7 [some (.inr (0))] [] σ1) : z_J Γ zm_Walls_forgetPast 0 [some (.inr (0))] [] σ := by
  refine zj_aload_n zd_Walls_forgetPast_0 rfl ?_
  refine zj_getR rfl (by decide) rfl zu_Walls (k := 9) (by decide) rfl zl_Walls_47 zd_Walls_forgetPast_1 (o' := 11) rfl ?_
  exact zj_callVv (As := []) hm hdp rfl (by decide) rfl zl_Walls_372 zq_History_clear zd_Walls_forgetPast_4 rfl (Nat.le_of_ble_eq_true rfl) (fun σ1 h => (k σ1 h))
theorem zb_Walls_forgetPast_7 {Γ : zG} {σ : zS} {k1 k2 : Nat}  (b1 : z_ix (nI 0) 2 k1) (b2 : z_ix (nI 1) 2 k2) (e : z_end Γ none (z_pI (z_pI σ 6 k1 (vp_nar .boolean (nI 0))) 6 k2 (vp_nar .boolean (nI 0)))) : z_J Γ zm_Walls_forgetPast 7 [some (.inr (0))] [] σ := by
  refine zj_aload_n zd_Walls_forgetPast_7 rfl ?_
  refine zj_getR rfl (by decide) rfl zu_Walls (k := 11) (by decide) rfl zl_Walls_56 zd_Walls_forgetPast_8 (o' := 6) rfl ?_
  refine zj_iconst (v := nI 0) zd_Walls_forgetPast_11 (by decide) ?_
  refine zj_iconst (v := nI 0) zd_Walls_forgetPast_12 (by decide) ?_
  refine zj_zastore rfl (by decide) b1 zd_Walls_forgetPast_13 ?_
  refine zj_aload_n zd_Walls_forgetPast_14 rfl ?_
  refine zj_getR rfl (by decide) rfl zu_Walls (k := 11) (by decide) rfl zl_Walls_56 zd_Walls_forgetPast_15 (o' := 6) rfl ?_
  refine zj_iconst (v := nI 1) zd_Walls_forgetPast_18 (by decide) ?_
  refine zj_iconst (v := nI 0) zd_Walls_forgetPast_19 (by decide) ?_
  refine zj_zastore rfl (by decide) b2 zd_Walls_forgetPast_20 ?_
  exact zj_return rfl zd_Walls_forgetPast_21 e
theorem zd_Walls_wall_0 : decode zm_Walls_wall.2.1 0 = .ok (.aload_n 0, 1) := by decide +kernel
theorem zd_Walls_wall_1 : decode zm_Walls_wall.2.1 1 = .ok (.invokevirtual 88, 3) := by decide +kernel
theorem zd_Walls_wall_4 : decode zm_Walls_wall.2.1 4 = .ok (.istore_n 1, 1) := by decide +kernel
theorem zd_Walls_wall_5 : decode zm_Walls_wall.2.1 5 = .ok (.aload_n 0, 1) := by decide +kernel
theorem zd_Walls_wall_6 : decode zm_Walls_wall.2.1 6 = .ok (.getfield 24, 3) := by decide +kernel
theorem zd_Walls_wall_9 : decode zm_Walls_wall.2.1 9 = .ok (.aload_n 0, 1) := by decide +kernel
theorem zd_Walls_wall_10 : decode zm_Walls_wall.2.1 10 = .ok (.getfield 20, 3) := by decide +kernel
theorem zd_Walls_wall_13 : decode zm_Walls_wall.2.1 13 = .ok (.invokevirtual 103, 3) := by decide +kernel
theorem zd_Walls_wall_16 : decode zm_Walls_wall.2.1 16 = .ok (.aload_n 0, 1) := by decide +kernel
theorem zd_Walls_wall_17 : decode zm_Walls_wall.2.1 17 = .ok (.getfield 24, 3) := by decide +kernel
theorem zd_Walls_wall_20 : decode zm_Walls_wall.2.1 20 = .ok (.invokevirtual 107, 3) := by decide +kernel
theorem zd_Walls_wall_23 : decode zm_Walls_wall.2.1 23 = .ok (.aload_n 0, 1) := by decide +kernel
theorem zd_Walls_wall_24 : decode zm_Walls_wall.2.1 24 = .ok (.iload_n 1, 1) := by decide +kernel
theorem zd_Walls_wall_25 : decode zm_Walls_wall.2.1 25 = .ok (.invokevirtual 110, 3) := by decide +kernel
theorem zd_Walls_wall_28 : decode zm_Walls_wall.2.1 28 = .ok (.istore_n 2, 1) := by decide +kernel
theorem zd_Walls_wall_29 : decode zm_Walls_wall.2.1 29 = .ok (.iload_n 2, 1) := by decide +kernel
theorem zd_Walls_wall_30 : decode zm_Walls_wall.2.1 30 = .ok (.iconst (-1), 1) := by decide +kernel
theorem zd_Walls_wall_31 : decode zm_Walls_wall.2.1 31 = .ok (.if_icmp .eq 7, 3) := by decide +kernel
theorem zd_Walls_wall_34 : decode zm_Walls_wall.2.1 34 = .ok (.iconst (-1), 1) := by decide +kernel
theorem zd_Walls_wall_35 : decode zm_Walls_wall.2.1 35 = .ok (.iload_n 2, 1) := by decide +kernel
theorem zd_Walls_wall_36 : decode zm_Walls_wall.2.1 36 = .ok (.isub, 1) := by decide +kernel
theorem zd_Walls_wall_37 : decode zm_Walls_wall.2.1 37 = .ok (.ireturn, 1) := by decide +kernel
theorem zd_Walls_wall_38 : decode zm_Walls_wall.2.1 38 = .ok (.aload_n 0, 1) := by decide +kernel
theorem zd_Walls_wall_39 : decode zm_Walls_wall.2.1 39 = .ok (.getfield 24, 3) := by decide +kernel
theorem zd_Walls_wall_42 : decode zm_Walls_wall.2.1 42 = .ok (.aload_n 0, 1) := by decide +kernel
theorem zd_Walls_wall_43 : decode zm_Walls_wall.2.1 43 = .ok (.getfield 30, 3) := by decide +kernel
theorem zd_Walls_wall_46 : decode zm_Walls_wall.2.1 46 = .ok (.invokestatic 113, 3) := by decide +kernel
theorem zd_Walls_wall_49 : decode zm_Walls_wall.2.1 49 = .ok (.iconst 1, 1) := by decide +kernel
theorem zd_Walls_wall_50 : decode zm_Walls_wall.2.1 50 = .ok (.aload_n 0, 1) := by decide +kernel
theorem zd_Walls_wall_51 : decode zm_Walls_wall.2.1 51 = .ok (.getfield 24, 3) := by decide +kernel
theorem zd_Walls_wall_54 : decode zm_Walls_wall.2.1 54 = .ok (.getfield 117, 3) := by decide +kernel
theorem zd_Walls_wall_57 : decode zm_Walls_wall.2.1 57 = .ok (.ishl, 1) := by decide +kernel
theorem zd_Walls_wall_58 : decode zm_Walls_wall.2.1 58 = .ok (.iconst 1, 1) := by decide +kernel
theorem zd_Walls_wall_59 : decode zm_Walls_wall.2.1 59 = .ok (.isub, 1) := by decide +kernel
theorem zd_Walls_wall_60 : decode zm_Walls_wall.2.1 60 = .ok (.if_icmp .eq 7, 3) := by decide +kernel
theorem zd_Walls_wall_63 : decode zm_Walls_wall.2.1 63 = .ok (.sipush (-200), 3) := by decide +kernel
theorem zd_Walls_wall_66 : decode zm_Walls_wall.2.1 66 = .ok (.ireturn, 1) := by decide +kernel
theorem zd_Walls_wall_67 : decode zm_Walls_wall.2.1 67 = .ok (.aload_n 0, 1) := by decide +kernel
theorem zd_Walls_wall_68 : decode zm_Walls_wall.2.1 68 = .ok (.getfield 20, 3) := by decide +kernel
theorem zd_Walls_wall_71 : decode zm_Walls_wall.2.1 71 = .ok (.aload_n 0, 1) := by decide +kernel
theorem zd_Walls_wall_72 : decode zm_Walls_wall.2.1 72 = .ok (.getfield 24, 3) := by decide +kernel
theorem zd_Walls_wall_75 : decode zm_Walls_wall.2.1 75 = .ok (.invokevirtual 103, 3) := by decide +kernel
theorem zd_Walls_wall_78 : decode zm_Walls_wall.2.1 78 = .ok (.aload_n 0, 1) := by decide +kernel
theorem zd_Walls_wall_79 : decode zm_Walls_wall.2.1 79 = .ok (.invokevirtual 100, 3) := by decide +kernel
theorem zd_Walls_wall_82 : decode zm_Walls_wall.2.1 82 = .ok (.aload_n 0, 1) := by decide +kernel
theorem zd_Walls_wall_83 : decode zm_Walls_wall.2.1 83 = .ok (.getfield 60, 3) := by decide +kernel
theorem zd_Walls_wall_86 : decode zm_Walls_wall.2.1 86 = .ok (.iconst (-1), 1) := by decide +kernel
theorem zd_Walls_wall_87 : decode zm_Walls_wall.2.1 87 = .ok (.invokestatic 120, 3) := by decide +kernel
theorem zd_Walls_wall_90 : decode zm_Walls_wall.2.1 90 = .ok (.aload_n 0, 1) := by decide +kernel
theorem zd_Walls_wall_91 : decode zm_Walls_wall.2.1 91 = .ok (.getfield 20, 3) := by decide +kernel
theorem zd_Walls_wall_94 : decode zm_Walls_wall.2.1 94 = .ok (.getfield 117, 3) := by decide +kernel
theorem zd_Walls_wall_97 : decode zm_Walls_wall.2.1 97 = .ok (.ireturn, 1) := by decide +kernel
theorem zb_Walls_wall_0 {Γ : zG} {σ : zS} {dc : Nat} {P : Int32 → zS → Prop}  (hm : z_Ci dc zm_Walls_takeText [.inr (0)] σ P) (hdp : dc < z_dep Γ) (k : ∀ r σ1, P r σ1 → z_J Γ zm_Walls_wall 4 [some (.inr (0)), none, none] [.inl (r)] σ1) : z_J Γ zm_Walls_wall 0 [some (.inr (0)), none, none] [] σ := by
  refine zj_aload_n zd_Walls_wall_0 rfl ?_
  exact zj_callVi (As := []) hm hdp rfl (by decide) rfl zl_Walls_88 zq_Walls_takeText zd_Walls_wall_1 rfl (Nat.le_of_ble_eq_true rfl) (fun r σ1 h => (k r σ1 h))
theorem zb_Walls_wall_4 {Γ : zG} {σ : zS} {y0 : Int32} {dc : Nat} {P : zS → Prop}  (hm : z_Cv dc zm_City_copyFrom [.inr (43), .inr (33)] σ P) (hdp : dc < z_dep Γ) (k : ∀ σ1, P σ1 → z_J Γ zm_Walls_wall 16 [some (.inr (0)), some (.inl (y0)), none] [] σ1) : z_J Γ zm_Walls_wall 4 [some (.inr (0)), none, none] [.inl (y0)] σ := by
  refine zj_istore_n (L' := [some (.inr (0)), some (.inl (y0)), none]) zd_Walls_wall_4 (by decide) rfl ?_
  refine zj_aload_n zd_Walls_wall_5 rfl ?_
  refine zj_getR rfl (by decide) rfl zu_Walls (k := 5) (by decide) rfl zl_Walls_24 zd_Walls_wall_6 (o' := 43) rfl ?_
  refine zj_aload_n zd_Walls_wall_9 rfl ?_
  refine zj_getR rfl (by decide) rfl zu_Walls (k := 4) (by decide) rfl zl_Walls_20 zd_Walls_wall_10 (o' := 33) rfl ?_
  exact zj_callVv (As := [.inr (33)]) hm hdp rfl (by decide) rfl zl_Walls_103 zq_City_copyFrom zd_Walls_wall_13 rfl (Nat.le_of_ble_eq_true rfl) (fun σ1 h => (k σ1 h))
theorem zb_Walls_wall_16 {Γ : zG} {σ : zS} {x1 : Int32} {dc : Nat} {P : zS → Prop}  (hm : z_Cv dc zm_City_pullDown [.inr (43)] σ P) (hdp : dc < z_dep Γ) (k : ∀ σ1, P σ1 → z_J Γ zm_Walls_wall 23 [some (.inr (0)), some (.inl (x1)), none] [] σ1) : z_J Γ zm_Walls_wall 16 [some (.inr (0)), some (.inl (x1)), none] [] σ := by
  refine zj_aload_n zd_Walls_wall_16 rfl ?_
  refine zj_getR rfl (by decide) rfl zu_Walls (k := 5) (by decide) rfl zl_Walls_24 zd_Walls_wall_17 (o' := 43) rfl ?_
  exact zj_callVv (As := []) hm hdp rfl (by decide) rfl zl_Walls_107 zq_City_pullDown zd_Walls_wall_20 rfl (Nat.le_of_ble_eq_true rfl) (fun σ1 h => (k σ1 h))
theorem zb_Walls_wall_23 {Γ : zG} {σ : zS} {x1 : Int32} {dc : Nat} {P : Int32 → zS → Prop}  (hm : z_Ci dc zm_Walls_badSignOfWall [.inr (0), .inl (x1)] σ P) (hdp : dc < z_dep Γ) (k : ∀ r σ1, P r σ1 → z_J Γ zm_Walls_wall 28 [some (.inr (0)), none, none] [.inl (r)] σ1) : z_J Γ zm_Walls_wall 23 [some (.inr (0)), some (.inl (x1)), none] [] σ := by
  refine zj_aload_n zd_Walls_wall_23 rfl ?_
  refine zj_iload_n zd_Walls_wall_24 rfl ?_
  exact zj_callVi (As := [.inl (x1)]) hm hdp rfl (by decide) rfl zl_Walls_110 zq_Walls_badSignOfWall zd_Walls_wall_25 rfl (Nat.le_of_ble_eq_true rfl) (fun r σ1 h => (zj_weak (L' := [some (.inr (0)), none, none]) ⟨rfl, trivial⟩ (k r σ1 h)))
theorem zb_Walls_wall_28 {Γ : zG} {σ : zS} {y0 : Int32}  (kt : y0 = (-1) → z_J Γ zm_Walls_wall 38 [some (.inr (0)), none, none] [] σ) (kf : ¬ y0 = (-1) → z_J Γ zm_Walls_wall 34 [none, none, some (.inl (y0))] [] σ) : z_J Γ zm_Walls_wall 28 [some (.inr (0)), none, none] [.inl (y0)] σ := by
  refine zj_istore_n (L' := [some (.inr (0)), none, some (.inl (y0))]) zd_Walls_wall_28 (by decide) rfl ?_
  refine zj_iload_n zd_Walls_wall_29 rfl ?_
  refine zj_iconst (v := (-1)) zd_Walls_wall_30 (by decide) ?_
  exact zj_icmp_eq zd_Walls_wall_31 (by decide) (fun h => (zj_weak (L' := [some (.inr (0)), none, none]) ⟨rfl, trivial⟩ (kt h))) (fun h => (zj_weak (L' := [none, none, some (.inl (y0))]) ⟨rfl, trivial⟩ (kf h)))
theorem zb_Walls_wall_34 {Γ : zG} {σ : zS} {x2 : Int32}  (e : z_end Γ (some ((-1) - x2)) σ) : z_J Γ zm_Walls_wall 34 [none, none, some (.inl (x2))] [] σ := by
  refine zj_iconst (v := (-1)) zd_Walls_wall_34 (by decide) ?_
  refine zj_iload_n zd_Walls_wall_35 rfl ?_
  refine zj_isub zd_Walls_wall_36 ?_
  exact zj_ireturn rfl zd_Walls_wall_37 e
theorem zb_Walls_wall_38 {Γ : zG} {σ : zS} {dc : Nat} {P : Int32 → zS → Prop}  (m1 : z_oR (σ.2 0 6)) (hm : z_Ci dc zm_Walls_columnsThatHold [.inr (43), .inr (σ.2 0 6)] σ P) (hdp : dc < z_dep Γ) (k : ∀ r σ1, P r σ1 → z_J Γ zm_Walls_wall 49 [some (.inr (0)), none, none] [.inl (r)] σ1) : z_J Γ zm_Walls_wall 38 [some (.inr (0)), none, none] [] σ := by
  refine zj_aload_n zd_Walls_wall_38 rfl ?_
  refine zj_getR rfl (by decide) rfl zu_Walls (k := 5) (by decide) rfl zl_Walls_24 zd_Walls_wall_39 (o' := 43) rfl ?_
  refine zj_aload_n zd_Walls_wall_42 rfl ?_
  refine zj_getM rfl (by decide) rfl zu_Walls (k := 6) (by decide) rfl zl_Walls_30 zd_Walls_wall_43 (zk_Rl m1) ?_
  exact zj_callSi (As := [.inr (43), .inr (σ.2 0 6)]) hm hdp zl_Walls_113 zq_Walls_columnsThatHold zd_Walls_wall_46 rfl (Nat.le_of_ble_eq_true rfl) (fun r σ1 h => (k r σ1 h))
theorem zb_Walls_wall_49 {Γ : zG} {σ : zS} {y0 : Int32}  (kt : y0 = (((nI 1) <<< ((σ.1 43 6) &&& 31)) - (nI 1)) → z_J Γ zm_Walls_wall 67 [some (.inr (0)), none, none] [] σ) (kf : ¬ y0 = (((nI 1) <<< ((σ.1 43 6) &&& 31)) - (nI 1)) → z_J Γ zm_Walls_wall 63 [none, none, none] [] σ) : z_J Γ zm_Walls_wall 49 [some (.inr (0)), none, none] [.inl (y0)] σ := by
  refine zj_iconst (v := nI 1) zd_Walls_wall_49 (by decide) ?_
  refine zj_aload_n zd_Walls_wall_50 rfl ?_
  refine zj_getR rfl (by decide) rfl zu_Walls (k := 5) (by decide) rfl zl_Walls_24 zd_Walls_wall_51 (o' := 43) rfl ?_
  refine zj_getI rfl (by decide) rfl zu_City (k := 6) (by decide) rfl zl_Walls_117 zd_Walls_wall_54 ?_
  refine zj_ishl zd_Walls_wall_57 ?_
  refine zj_iconst (v := nI 1) zd_Walls_wall_58 (by decide) ?_
  refine zj_isub zd_Walls_wall_59 ?_
  exact zj_icmp_eq zd_Walls_wall_60 (by decide) (fun h => (kt h)) (fun h => (zj_weak (L' := [none, none, none]) trivial (kf h)))
theorem zb_Walls_wall_63 {Γ : zG} {σ : zS}  (e : z_end Γ (some ((-200))) σ) : z_J Γ zm_Walls_wall 63 [none, none, none] [] σ := by
  refine zj_sipush (v := (-200)) zd_Walls_wall_63 (by decide) ?_
  exact zj_ireturn rfl zd_Walls_wall_66 e
theorem zb_Walls_wall_67 {Γ : zG} {σ : zS} {dc : Nat} {P : zS → Prop}  (hm : z_Cv dc zm_City_copyFrom [.inr (33), .inr (43)] σ P) (hdp : dc < z_dep Γ) (k : ∀ σ1, P σ1 → z_J Γ zm_Walls_wall 78 [some (.inr (0)), none, none] [] σ1) : z_J Γ zm_Walls_wall 67 [some (.inr (0)), none, none] [] σ := by
  refine zj_aload_n zd_Walls_wall_67 rfl ?_
  refine zj_getR rfl (by decide) rfl zu_Walls (k := 4) (by decide) rfl zl_Walls_20 zd_Walls_wall_68 (o' := 33) rfl ?_
  refine zj_aload_n zd_Walls_wall_71 rfl ?_
  refine zj_getR rfl (by decide) rfl zu_Walls (k := 5) (by decide) rfl zl_Walls_24 zd_Walls_wall_72 (o' := 43) rfl ?_
  exact zj_callVv (As := [.inr (43)]) hm hdp rfl (by decide) rfl zl_Walls_103 zq_City_copyFrom zd_Walls_wall_75 rfl (Nat.le_of_ble_eq_true rfl) (fun σ1 h => (k σ1 h))
theorem zb_Walls_wall_78 {Γ : zG} {σ : zS} {dc : Nat} {P : zS → Prop}  (hm : z_Cv dc zm_Walls_forgetPast [.inr (0)] σ P) (hdp : dc < z_dep Γ) (k : ∀ σ1, P σ1 → z_J Γ zm_Walls_wall 82 [some (.inr (0)), none, none] [] σ1) : z_J Γ zm_Walls_wall 78 [some (.inr (0)), none, none] [] σ := by
  refine zj_aload_n zd_Walls_wall_78 rfl ?_
  exact zj_callVv (As := []) hm hdp rfl (by decide) rfl zl_Walls_100 zq_Walls_forgetPast zd_Walls_wall_79 rfl (Nat.le_of_ble_eq_true rfl) (fun σ1 h => (k σ1 h))
theorem zb_Walls_wall_82 {Γ : zG} {σ : zS} (hdp : 0 < z_dep Γ) (k : z_J Γ zm_Walls_wall 90 [some (.inr (0)), none, none] [] (z_pA σ 7 (z_fil 6 (-1) (σ.1 7)))) : z_J Γ zm_Walls_wall 82 [some (.inr (0)), none, none] [] σ := by
  refine zj_aload_n zd_Walls_wall_82 rfl ?_
  refine zj_getR rfl (by decide) rfl zu_Walls (k := 12) (by decide) rfl zl_Walls_60 zd_Walls_wall_83 (o' := 7) rfl ?_
  refine zj_iconst (v := (-1)) zd_Walls_wall_86 (by decide) ?_
  refine zj_fill zl_Walls_120 rfl (by decide) hdp (Nat.le_of_ble_eq_true rfl) zd_Walls_wall_87 ?_
  exact k
theorem zb_Walls_wall_90 {Γ : zG} {σ : zS}  (e : z_end Γ (some (σ.1 33 6)) σ) : z_J Γ zm_Walls_wall 90 [some (.inr (0)), none, none] [] σ := by
  refine zj_aload_n zd_Walls_wall_90 rfl ?_
  refine zj_getR rfl (by decide) rfl zu_Walls (k := 4) (by decide) rfl zl_Walls_20 zd_Walls_wall_91 (o' := 33) rfl ?_
  refine zj_getI rfl (by decide) rfl zu_City (k := 6) (by decide) rfl zl_Walls_117 zd_Walls_wall_94 ?_
  exact zj_ireturn rfl zd_Walls_wall_97 e
theorem zd_Walls_badSignOfWall_0 : decode zm_Walls_badSignOfWall.2.1 0 = .ok (.iconst 0, 1) := by decide +kernel
theorem zd_Walls_badSignOfWall_1 : decode zm_Walls_badSignOfWall.2.1 1 = .ok (.istore_n 2, 1) := by decide +kernel
theorem zd_Walls_badSignOfWall_2 : decode zm_Walls_badSignOfWall.2.1 2 = .ok (.iload_n 2, 1) := by decide +kernel
theorem zd_Walls_badSignOfWall_3 : decode zm_Walls_badSignOfWall.2.1 3 = .ok (.iload_n 1, 1) := by decide +kernel
theorem zd_Walls_badSignOfWall_4 : decode zm_Walls_badSignOfWall.2.1 4 = .ok (.if_icmp .ge 74, 3) := by decide +kernel
theorem zd_Walls_badSignOfWall_7 : decode zm_Walls_badSignOfWall.2.1 7 = .ok (.iload_n 2, 1) := by decide +kernel
theorem zd_Walls_badSignOfWall_8 : decode zm_Walls_badSignOfWall.2.1 8 = .ok (.ifCond .eq 16, 3) := by decide +kernel
theorem zd_Walls_badSignOfWall_11 : decode zm_Walls_badSignOfWall.2.1 11 = .ok (.aload_n 0, 1) := by decide +kernel
theorem zd_Walls_badSignOfWall_12 : decode zm_Walls_badSignOfWall.2.1 12 = .ok (.getfield 9, 3) := by decide +kernel
theorem zd_Walls_badSignOfWall_15 : decode zm_Walls_badSignOfWall.2.1 15 = .ok (.iload_n 2, 1) := by decide +kernel
theorem zd_Walls_badSignOfWall_16 : decode zm_Walls_badSignOfWall.2.1 16 = .ok (.iconst 1, 1) := by decide +kernel
theorem zd_Walls_badSignOfWall_17 : decode zm_Walls_badSignOfWall.2.1 17 = .ok (.isub, 1) := by decide +kernel
theorem zd_Walls_badSignOfWall_18 : decode zm_Walls_badSignOfWall.2.1 18 = .ok (.caload, 1) := by decide +kernel
theorem zd_Walls_badSignOfWall_19 : decode zm_Walls_badSignOfWall.2.1 19 = .ok (.bipush 47, 2) := by decide +kernel
theorem zd_Walls_badSignOfWall_21 : decode zm_Walls_badSignOfWall.2.1 21 = .ok (.if_icmp .ne 7, 3) := by decide +kernel
theorem zd_Walls_badSignOfWall_24 : decode zm_Walls_badSignOfWall.2.1 24 = .ok (.iconst 1, 1) := by decide +kernel
theorem zd_Walls_badSignOfWall_25 : decode zm_Walls_badSignOfWall.2.1 25 = .ok (.goto 4, 3) := by decide +kernel
theorem zd_Walls_badSignOfWall_28 : decode zm_Walls_badSignOfWall.2.1 28 = .ok (.iconst 0, 1) := by decide +kernel
theorem zd_Walls_badSignOfWall_29 : decode zm_Walls_badSignOfWall.2.1 29 = .ok (.istore_n 3, 1) := by decide +kernel
theorem zd_Walls_badSignOfWall_30 : decode zm_Walls_badSignOfWall.2.1 30 = .ok (.iload_n 3, 1) := by decide +kernel
theorem zd_Walls_badSignOfWall_31 : decode zm_Walls_badSignOfWall.2.1 31 = .ok (.ifCond .ne 20, 3) := by decide +kernel
theorem zd_Walls_badSignOfWall_34 : decode zm_Walls_badSignOfWall.2.1 34 = .ok (.aload_n 0, 1) := by decide +kernel
theorem zd_Walls_badSignOfWall_35 : decode zm_Walls_badSignOfWall.2.1 35 = .ok (.getfield 9, 3) := by decide +kernel
theorem zd_Walls_badSignOfWall_38 : decode zm_Walls_badSignOfWall.2.1 38 = .ok (.iload_n 2, 1) := by decide +kernel
theorem zd_Walls_badSignOfWall_39 : decode zm_Walls_badSignOfWall.2.1 39 = .ok (.iconst 1, 1) := by decide +kernel
theorem zd_Walls_badSignOfWall_40 : decode zm_Walls_badSignOfWall.2.1 40 = .ok (.isub, 1) := by decide +kernel
theorem zd_Walls_badSignOfWall_41 : decode zm_Walls_badSignOfWall.2.1 41 = .ok (.caload, 1) := by decide +kernel
theorem zd_Walls_badSignOfWall_42 : decode zm_Walls_badSignOfWall.2.1 42 = .ok (.bipush 45, 2) := by decide +kernel
theorem zd_Walls_badSignOfWall_44 : decode zm_Walls_badSignOfWall.2.1 44 = .ok (.if_icmp .ne 7, 3) := by decide +kernel
theorem zd_Walls_badSignOfWall_47 : decode zm_Walls_badSignOfWall.2.1 47 = .ok (.iconst 1, 1) := by decide +kernel
theorem zd_Walls_badSignOfWall_48 : decode zm_Walls_badSignOfWall.2.1 48 = .ok (.goto 4, 3) := by decide +kernel
theorem zd_Walls_badSignOfWall_51 : decode zm_Walls_badSignOfWall.2.1 51 = .ok (.iconst 0, 1) := by decide +kernel
theorem zd_Walls_badSignOfWall_52 : decode zm_Walls_badSignOfWall.2.1 52 = .ok (.istore 4, 2) := by decide +kernel
theorem zd_Walls_badSignOfWall_54 : decode zm_Walls_badSignOfWall.2.1 54 = .ok (.aload_n 0, 1) := by decide +kernel
theorem zd_Walls_badSignOfWall_55 : decode zm_Walls_badSignOfWall.2.1 55 = .ok (.aload_n 0, 1) := by decide +kernel
theorem zd_Walls_badSignOfWall_56 : decode zm_Walls_badSignOfWall.2.1 56 = .ok (.getfield 9, 3) := by decide +kernel
theorem zd_Walls_badSignOfWall_59 : decode zm_Walls_badSignOfWall.2.1 59 = .ok (.iload_n 2, 1) := by decide +kernel
theorem zd_Walls_badSignOfWall_60 : decode zm_Walls_badSignOfWall.2.1 60 = .ok (.caload, 1) := by decide +kernel
theorem zd_Walls_badSignOfWall_61 : decode zm_Walls_badSignOfWall.2.1 61 = .ok (.iload_n 3, 1) := by decide +kernel
theorem zd_Walls_badSignOfWall_62 : decode zm_Walls_badSignOfWall.2.1 62 = .ok (.iload 4, 2) := by decide +kernel
theorem zd_Walls_badSignOfWall_64 : decode zm_Walls_badSignOfWall.2.1 64 = .ok (.invokevirtual 400, 3) := by decide +kernel
theorem zd_Walls_badSignOfWall_67 : decode zm_Walls_badSignOfWall.2.1 67 = .ok (.ifCond .ne 5, 3) := by decide +kernel
theorem zd_Walls_badSignOfWall_70 : decode zm_Walls_badSignOfWall.2.1 70 = .ok (.iload_n 2, 1) := by decide +kernel
theorem zd_Walls_badSignOfWall_71 : decode zm_Walls_badSignOfWall.2.1 71 = .ok (.ireturn, 1) := by decide +kernel
theorem zd_Walls_badSignOfWall_72 : decode zm_Walls_badSignOfWall.2.1 72 = .ok (.iinc 2 1, 3) := by decide +kernel
theorem zd_Walls_badSignOfWall_75 : decode zm_Walls_badSignOfWall.2.1 75 = .ok (.goto (-73), 3) := by decide +kernel
theorem zd_Walls_badSignOfWall_78 : decode zm_Walls_badSignOfWall.2.1 78 = .ok (.iload_n 1, 1) := by decide +kernel
theorem zd_Walls_badSignOfWall_79 : decode zm_Walls_badSignOfWall.2.1 79 = .ok (.ifCond .eq 16, 3) := by decide +kernel
theorem zd_Walls_badSignOfWall_82 : decode zm_Walls_badSignOfWall.2.1 82 = .ok (.aload_n 0, 1) := by decide +kernel
theorem zd_Walls_badSignOfWall_83 : decode zm_Walls_badSignOfWall.2.1 83 = .ok (.getfield 9, 3) := by decide +kernel
theorem zd_Walls_badSignOfWall_86 : decode zm_Walls_badSignOfWall.2.1 86 = .ok (.iload_n 1, 1) := by decide +kernel
theorem zd_Walls_badSignOfWall_87 : decode zm_Walls_badSignOfWall.2.1 87 = .ok (.iconst 1, 1) := by decide +kernel
theorem zd_Walls_badSignOfWall_88 : decode zm_Walls_badSignOfWall.2.1 88 = .ok (.isub, 1) := by decide +kernel
theorem zd_Walls_badSignOfWall_89 : decode zm_Walls_badSignOfWall.2.1 89 = .ok (.caload, 1) := by decide +kernel
theorem zd_Walls_badSignOfWall_90 : decode zm_Walls_badSignOfWall.2.1 90 = .ok (.bipush 47, 2) := by decide +kernel
theorem zd_Walls_badSignOfWall_92 : decode zm_Walls_badSignOfWall.2.1 92 = .ok (.if_icmp .ne 7, 3) := by decide +kernel
theorem zd_Walls_badSignOfWall_95 : decode zm_Walls_badSignOfWall.2.1 95 = .ok (.iload_n 1, 1) := by decide +kernel
theorem zd_Walls_badSignOfWall_96 : decode zm_Walls_badSignOfWall.2.1 96 = .ok (.goto 4, 3) := by decide +kernel
theorem zd_Walls_badSignOfWall_99 : decode zm_Walls_badSignOfWall.2.1 99 = .ok (.iconst (-1), 1) := by decide +kernel
theorem zd_Walls_badSignOfWall_100 : decode zm_Walls_badSignOfWall.2.1 100 = .ok (.ireturn, 1) := by decide +kernel
theorem zb_Walls_badSignOfWall_0 {Γ : zG} {σ : zS} {x1 : Int32}  (k : z_J Γ zm_Walls_badSignOfWall 2 [some (.inr (0)), some (.inl (x1)), some (.inl (nI 0)), none, none] [] σ) : z_J Γ zm_Walls_badSignOfWall 0 [some (.inr (0)), some (.inl (x1)), none, none, none] [] σ := by
  refine zj_iconst (v := nI 0) zd_Walls_badSignOfWall_0 (by decide) ?_
  refine zj_istore_n (L' := [some (.inr (0)), some (.inl (x1)), some (.inl (nI 0)), none, none]) zd_Walls_badSignOfWall_1 (by decide) rfl ?_
  exact k
theorem zb_Walls_badSignOfWall_2 {Γ : zG} {σ : zS} {x1 x2 : Int32}  (kt : x1 ≤ x2 → z_J Γ zm_Walls_badSignOfWall 78 [some (.inr (0)), some (.inl (x1)), none, none, none] [] σ) (kf : ¬ x1 ≤ x2 → z_J Γ zm_Walls_badSignOfWall 7 [some (.inr (0)), some (.inl (x1)), some (.inl (x2)), none, none] [] σ) : z_J Γ zm_Walls_badSignOfWall 2 [some (.inr (0)), some (.inl (x1)), some (.inl (x2)), none, none] [] σ := by
  refine zj_iload_n zd_Walls_badSignOfWall_2 rfl ?_
  refine zj_iload_n zd_Walls_badSignOfWall_3 rfl ?_
  exact zj_icmp_ge zd_Walls_badSignOfWall_4 (by decide) (fun h => (zj_weak (L' := [some (.inr (0)), some (.inl (x1)), none, none, none]) ⟨rfl, ⟨rfl, trivial⟩⟩ (kt h))) (fun h => (kf h))
theorem zb_Walls_badSignOfWall_7 {Γ : zG} {σ : zS} {x1 x2 : Int32}  (kt : x2 = 0 → z_J Γ zm_Walls_badSignOfWall 24 [some (.inr (0)), some (.inl (x1)), some (.inl (x2)), none, none] [] σ) (kf : ¬ x2 = 0 → z_J Γ zm_Walls_badSignOfWall 11 [some (.inr (0)), some (.inl (x1)), some (.inl (x2)), none, none] [] σ) : z_J Γ zm_Walls_badSignOfWall 7 [some (.inr (0)), some (.inl (x1)), some (.inl (x2)), none, none] [] σ := by
  refine zj_iload_n zd_Walls_badSignOfWall_7 rfl ?_
  exact zj_if_eq zd_Walls_badSignOfWall_8 (by decide) (fun h => (kt h)) (fun h => (kf h))
theorem zb_Walls_badSignOfWall_11 {Γ : zG} {σ : zS} {x1 x2 : Int32} {k1 : Nat}  (b1 : z_ix (x2 - (nI 1)) 80 k1) (kt : ¬ (σ.1 1 k1) = (nI 47) → z_J Γ zm_Walls_badSignOfWall 28 [some (.inr (0)), some (.inl (x1)), some (.inl (x2)), none, none] [] σ) (kf : (σ.1 1 k1) = (nI 47) → z_J Γ zm_Walls_badSignOfWall 24 [some (.inr (0)), some (.inl (x1)), some (.inl (x2)), none, none] [] σ) : z_J Γ zm_Walls_badSignOfWall 11 [some (.inr (0)), some (.inl (x1)), some (.inl (x2)), none, none] [] σ := by
  refine zj_aload_n zd_Walls_badSignOfWall_11 rfl ?_
  refine zj_getR rfl (by decide) rfl zu_Walls (k := 0) (by decide) rfl zl_Walls_9 zd_Walls_badSignOfWall_12 (o' := 1) rfl ?_
  refine zj_iload_n zd_Walls_badSignOfWall_15 rfl ?_
  refine zj_iconst (v := nI 1) zd_Walls_badSignOfWall_16 (by decide) ?_
  refine zj_isub zd_Walls_badSignOfWall_17 ?_
  refine zj_caload rfl (by decide) b1 zd_Walls_badSignOfWall_18 ?_
  refine zj_bipush (v := nI 47) zd_Walls_badSignOfWall_19 (by decide) ?_
  exact zj_icmp_ne zd_Walls_badSignOfWall_21 (by decide) (fun h => (kt h)) (fun h => (kf h))
theorem zb_Walls_badSignOfWall_24 {Γ : zG} {σ : zS} {x1 x2 : Int32}  (k : z_J Γ zm_Walls_badSignOfWall 29 [some (.inr (0)), some (.inl (x1)), some (.inl (x2)), none, none] [.inl (nI 1)] σ) : z_J Γ zm_Walls_badSignOfWall 24 [some (.inr (0)), some (.inl (x1)), some (.inl (x2)), none, none] [] σ := by
  refine zj_iconst (v := nI 1) zd_Walls_badSignOfWall_24 (by decide) ?_
  exact zj_goto zd_Walls_badSignOfWall_25 (by decide) k
theorem zb_Walls_badSignOfWall_28 {Γ : zG} {σ : zS} {x1 x2 : Int32}  (k : z_J Γ zm_Walls_badSignOfWall 29 [some (.inr (0)), some (.inl (x1)), some (.inl (x2)), none, none] [.inl (nI 0)] σ) : z_J Γ zm_Walls_badSignOfWall 28 [some (.inr (0)), some (.inl (x1)), some (.inl (x2)), none, none] [] σ := by
  refine zj_iconst (v := nI 0) zd_Walls_badSignOfWall_28 (by decide) ?_
  exact k
theorem zb_Walls_badSignOfWall_29 {Γ : zG} {σ : zS} {x1 x2 y0 : Int32}  (kt : ¬ y0 = 0 → z_J Γ zm_Walls_badSignOfWall 51 [some (.inr (0)), some (.inl (x1)), some (.inl (x2)), some (.inl (y0)), none] [] σ) (kf : y0 = 0 → z_J Γ zm_Walls_badSignOfWall 34 [some (.inr (0)), some (.inl (x1)), some (.inl (x2)), some (.inl (y0)), none] [] σ) : z_J Γ zm_Walls_badSignOfWall 29 [some (.inr (0)), some (.inl (x1)), some (.inl (x2)), none, none] [.inl (y0)] σ := by
  refine zj_istore_n (L' := [some (.inr (0)), some (.inl (x1)), some (.inl (x2)), some (.inl (y0)), none]) zd_Walls_badSignOfWall_29 (by decide) rfl ?_
  refine zj_iload_n zd_Walls_badSignOfWall_30 rfl ?_
  exact zj_if_ne zd_Walls_badSignOfWall_31 (by decide) (fun h => (kt h)) (fun h => (kf h))
theorem zb_Walls_badSignOfWall_34 {Γ : zG} {σ : zS} {x1 x2 x3 : Int32} {k1 : Nat}  (b1 : z_ix (x2 - (nI 1)) 80 k1) (kt : ¬ (σ.1 1 k1) = (nI 45) → z_J Γ zm_Walls_badSignOfWall 51 [some (.inr (0)), some (.inl (x1)), some (.inl (x2)), some (.inl (x3)), none] [] σ) (kf : (σ.1 1 k1) = (nI 45) → z_J Γ zm_Walls_badSignOfWall 47 [some (.inr (0)), some (.inl (x1)), some (.inl (x2)), some (.inl (x3)), none] [] σ) : z_J Γ zm_Walls_badSignOfWall 34 [some (.inr (0)), some (.inl (x1)), some (.inl (x2)), some (.inl (x3)), none] [] σ := by
  refine zj_aload_n zd_Walls_badSignOfWall_34 rfl ?_
  refine zj_getR rfl (by decide) rfl zu_Walls (k := 0) (by decide) rfl zl_Walls_9 zd_Walls_badSignOfWall_35 (o' := 1) rfl ?_
  refine zj_iload_n zd_Walls_badSignOfWall_38 rfl ?_
  refine zj_iconst (v := nI 1) zd_Walls_badSignOfWall_39 (by decide) ?_
  refine zj_isub zd_Walls_badSignOfWall_40 ?_
  refine zj_caload rfl (by decide) b1 zd_Walls_badSignOfWall_41 ?_
  refine zj_bipush (v := nI 45) zd_Walls_badSignOfWall_42 (by decide) ?_
  exact zj_icmp_ne zd_Walls_badSignOfWall_44 (by decide) (fun h => (kt h)) (fun h => (kf h))
theorem zb_Walls_badSignOfWall_47 {Γ : zG} {σ : zS} {x1 x2 x3 : Int32}  (k : z_J Γ zm_Walls_badSignOfWall 52 [some (.inr (0)), some (.inl (x1)), some (.inl (x2)), some (.inl (x3)), none] [.inl (nI 1)] σ) : z_J Γ zm_Walls_badSignOfWall 47 [some (.inr (0)), some (.inl (x1)), some (.inl (x2)), some (.inl (x3)), none] [] σ := by
  refine zj_iconst (v := nI 1) zd_Walls_badSignOfWall_47 (by decide) ?_
  exact zj_goto zd_Walls_badSignOfWall_48 (by decide) k
theorem zb_Walls_badSignOfWall_51 {Γ : zG} {σ : zS} {x1 x2 x3 : Int32}  (k : z_J Γ zm_Walls_badSignOfWall 52 [some (.inr (0)), some (.inl (x1)), some (.inl (x2)), some (.inl (x3)), none] [.inl (nI 0)] σ) : z_J Γ zm_Walls_badSignOfWall 51 [some (.inr (0)), some (.inl (x1)), some (.inl (x2)), some (.inl (x3)), none] [] σ := by
  refine zj_iconst (v := nI 0) zd_Walls_badSignOfWall_51 (by decide) ?_
  exact k
theorem zb_Walls_badSignOfWall_52 {Γ : zG} {σ : zS} {x1 x2 x3 y0 : Int32} {k1 : Nat} {dc : Nat} {P : Int32 → zS → Prop}  (b1 : z_ix x2 80 k1) (hm : z_Ci dc zm_Walls_canStandInWall [.inr (0), .inl (σ.1 1 k1), .inl (x3), .inl (y0)] σ P) (hdp : dc < z_dep Γ) (k : ∀ r σ1, P r σ1 → z_J Γ zm_Walls_badSignOfWall 67 [some (.inr (0)), some (.inl (x1)), some (.inl (x2)), none, none] [.inl (r)] σ1) : z_J Γ zm_Walls_badSignOfWall 52 [some (.inr (0)), some (.inl (x1)), some (.inl (x2)), some (.inl (x3)), none] [.inl (y0)] σ := by
  refine zj_istore (L' := [some (.inr (0)), some (.inl (x1)), some (.inl (x2)), some (.inl (x3)), some (.inl (y0))]) zd_Walls_badSignOfWall_52 (by decide) rfl ?_
  refine zj_aload_n zd_Walls_badSignOfWall_54 rfl ?_
  refine zj_aload_n zd_Walls_badSignOfWall_55 rfl ?_
  refine zj_getR rfl (by decide) rfl zu_Walls (k := 0) (by decide) rfl zl_Walls_9 zd_Walls_badSignOfWall_56 (o' := 1) rfl ?_
  refine zj_iload_n zd_Walls_badSignOfWall_59 rfl ?_
  refine zj_caload rfl (by decide) b1 zd_Walls_badSignOfWall_60 ?_
  refine zj_iload_n zd_Walls_badSignOfWall_61 rfl ?_
  refine zj_iload zd_Walls_badSignOfWall_62 rfl ?_
  exact zj_callVi (As := [.inl (σ.1 1 k1), .inl (x3), .inl (y0)]) hm hdp rfl (by decide) rfl zl_Walls_400 zq_Walls_canStandInWall zd_Walls_badSignOfWall_64 rfl (Nat.le_of_ble_eq_true rfl) (fun r σ1 h => (zj_weak (L' := [some (.inr (0)), some (.inl (x1)), some (.inl (x2)), none, none]) ⟨rfl, ⟨rfl, ⟨rfl, trivial⟩⟩⟩ (k r σ1 h)))
theorem zb_Walls_badSignOfWall_67 {Γ : zG} {σ : zS} {x1 x2 y0 : Int32}  (kt : ¬ y0 = 0 → z_J Γ zm_Walls_badSignOfWall 72 [some (.inr (0)), some (.inl (x1)), some (.inl (x2)), none, none] [] σ) (kf : y0 = 0 → z_J Γ zm_Walls_badSignOfWall 70 [none, none, some (.inl (x2)), none, none] [] σ) : z_J Γ zm_Walls_badSignOfWall 67 [some (.inr (0)), some (.inl (x1)), some (.inl (x2)), none, none] [.inl (y0)] σ := by
  exact zj_if_ne zd_Walls_badSignOfWall_67 (by decide) (fun h => (kt h)) (fun h => (zj_weak (L' := [none, none, some (.inl (x2)), none, none]) ⟨rfl, trivial⟩ (kf h)))
theorem zb_Walls_badSignOfWall_70 {Γ : zG} {σ : zS} {x2 : Int32}  (e : z_end Γ (some (x2)) σ) : z_J Γ zm_Walls_badSignOfWall 70 [none, none, some (.inl (x2)), none, none] [] σ := by
  refine zj_iload_n zd_Walls_badSignOfWall_70 rfl ?_
  exact zj_ireturn rfl zd_Walls_badSignOfWall_71 e
theorem zb_Walls_badSignOfWall_72 {Γ : zG} {σ : zS} {x1 x2 : Int32}  (k : z_J Γ zm_Walls_badSignOfWall 2 [some (.inr (0)), some (.inl (x1)), some (.inl (x2 + nI 1)), none, none] [] σ) : z_J Γ zm_Walls_badSignOfWall 72 [some (.inr (0)), some (.inl (x1)), some (.inl (x2)), none, none] [] σ := by
  refine zj_iinc (v := nI 1) (L' := [some (.inr (0)), some (.inl (x1)), some (.inl (x2 + nI 1)), none, none]) zd_Walls_badSignOfWall_72 rfl (by decide) (by decide) rfl ?_
  exact zj_goto zd_Walls_badSignOfWall_75 (by decide) k
theorem zb_Walls_badSignOfWall_78 {Γ : zG} {σ : zS} {x1 : Int32}  (kt : x1 = 0 → z_J Γ zm_Walls_badSignOfWall 95 [none, some (.inl (x1)), none, none, none] [] σ) (kf : ¬ x1 = 0 → z_J Γ zm_Walls_badSignOfWall 82 [some (.inr (0)), some (.inl (x1)), none, none, none] [] σ) : z_J Γ zm_Walls_badSignOfWall 78 [some (.inr (0)), some (.inl (x1)), none, none, none] [] σ := by
  refine zj_iload_n zd_Walls_badSignOfWall_78 rfl ?_
  exact zj_if_eq zd_Walls_badSignOfWall_79 (by decide) (fun h => (zj_weak (L' := [none, some (.inl (x1)), none, none, none]) ⟨rfl, trivial⟩ (kt h))) (fun h => (kf h))
theorem zb_Walls_badSignOfWall_82 {Γ : zG} {σ : zS} {x1 : Int32} {k1 : Nat}  (b1 : z_ix (x1 - (nI 1)) 80 k1) (kt : ¬ (σ.1 1 k1) = (nI 47) → z_J Γ zm_Walls_badSignOfWall 99 [none, none, none, none, none] [] σ) (kf : (σ.1 1 k1) = (nI 47) → z_J Γ zm_Walls_badSignOfWall 95 [none, some (.inl (x1)), none, none, none] [] σ) : z_J Γ zm_Walls_badSignOfWall 82 [some (.inr (0)), some (.inl (x1)), none, none, none] [] σ := by
  refine zj_aload_n zd_Walls_badSignOfWall_82 rfl ?_
  refine zj_getR rfl (by decide) rfl zu_Walls (k := 0) (by decide) rfl zl_Walls_9 zd_Walls_badSignOfWall_83 (o' := 1) rfl ?_
  refine zj_iload_n zd_Walls_badSignOfWall_86 rfl ?_
  refine zj_iconst (v := nI 1) zd_Walls_badSignOfWall_87 (by decide) ?_
  refine zj_isub zd_Walls_badSignOfWall_88 ?_
  refine zj_caload rfl (by decide) b1 zd_Walls_badSignOfWall_89 ?_
  refine zj_bipush (v := nI 47) zd_Walls_badSignOfWall_90 (by decide) ?_
  exact zj_icmp_ne zd_Walls_badSignOfWall_92 (by decide) (fun h => (zj_weak (L' := [none, none, none, none, none]) trivial (kt h))) (fun h => (zj_weak (L' := [none, some (.inl (x1)), none, none, none]) ⟨rfl, trivial⟩ (kf h)))
theorem zb_Walls_badSignOfWall_95 {Γ : zG} {σ : zS} {x1 : Int32}  (k : z_J Γ zm_Walls_badSignOfWall 100 [none, none, none, none, none] [.inl (x1)] σ) : z_J Γ zm_Walls_badSignOfWall 95 [none, some (.inl (x1)), none, none, none] [] σ := by
  refine zj_iload_n zd_Walls_badSignOfWall_95 rfl ?_
  exact zj_goto zd_Walls_badSignOfWall_96 (by decide) (zj_weak (L' := [none, none, none, none, none]) trivial k)
theorem zb_Walls_badSignOfWall_99 {Γ : zG} {σ : zS}  (k : z_J Γ zm_Walls_badSignOfWall 100 [none, none, none, none, none] [.inl ((-1))] σ) : z_J Γ zm_Walls_badSignOfWall 99 [none, none, none, none, none] [] σ := by
  refine zj_iconst (v := (-1)) zd_Walls_badSignOfWall_99 (by decide) ?_
  exact k
theorem zb_Walls_badSignOfWall_100 {Γ : zG} {σ : zS} {y0 : Int32}  (e : z_end Γ (some (y0)) σ) : z_J Γ zm_Walls_badSignOfWall 100 [none, none, none, none, none] [.inl (y0)] σ := by
  exact zj_ireturn rfl zd_Walls_badSignOfWall_100 e
theorem zd_Walls_canStandInWall_0 : decode zm_Walls_canStandInWall.2.1 0 = .ok (.aload_n 0, 1) := by decide +kernel
theorem zd_Walls_canStandInWall_1 : decode zm_Walls_canStandInWall.2.1 1 = .ok (.getfield 24, 3) := by decide +kernel
theorem zd_Walls_canStandInWall_4 : decode zm_Walls_canStandInWall.2.1 4 = .ok (.getfield 117, 3) := by decide +kernel
theorem zd_Walls_canStandInWall_7 : decode zm_Walls_canStandInWall.2.1 7 = .ok (.iconst 1, 1) := by decide +kernel
theorem zd_Walls_canStandInWall_8 : decode zm_Walls_canStandInWall.2.1 8 = .ok (.isub, 1) := by decide +kernel
theorem zd_Walls_canStandInWall_9 : decode zm_Walls_canStandInWall.2.1 9 = .ok (.istore 4, 2) := by decide +kernel
theorem zd_Walls_canStandInWall_11 : decode zm_Walls_canStandInWall.2.1 11 = .ok (.iload_n 1, 1) := by decide +kernel
theorem zd_Walls_canStandInWall_12 : decode zm_Walls_canStandInWall.2.1 12 = .ok (.bipush 45, 2) := by decide +kernel
theorem zd_Walls_canStandInWall_14 : decode zm_Walls_canStandInWall.2.1 14 = .ok (.if_icmp .ne 5, 3) := by decide +kernel
theorem zd_Walls_canStandInWall_17 : decode zm_Walls_canStandInWall.2.1 17 = .ok (.iload_n 2, 1) := by decide +kernel
theorem zd_Walls_canStandInWall_18 : decode zm_Walls_canStandInWall.2.1 18 = .ok (.ireturn, 1) := by decide +kernel
theorem zd_Walls_canStandInWall_19 : decode zm_Walls_canStandInWall.2.1 19 = .ok (.iload_n 1, 1) := by decide +kernel
theorem zd_Walls_canStandInWall_20 : decode zm_Walls_canStandInWall.2.1 20 = .ok (.bipush 47, 2) := by decide +kernel
theorem zd_Walls_canStandInWall_22 : decode zm_Walls_canStandInWall.2.1 22 = .ok (.if_icmp .ne 23, 3) := by decide +kernel
theorem zd_Walls_canStandInWall_25 : decode zm_Walls_canStandInWall.2.1 25 = .ok (.iload_n 2, 1) := by decide +kernel
theorem zd_Walls_canStandInWall_26 : decode zm_Walls_canStandInWall.2.1 26 = .ok (.ifCond .ne 17, 3) := by decide +kernel
theorem zd_Walls_canStandInWall_29 : decode zm_Walls_canStandInWall.2.1 29 = .ok (.aload_n 0, 1) := by decide +kernel
theorem zd_Walls_canStandInWall_30 : decode zm_Walls_canStandInWall.2.1 30 = .ok (.getfield 24, 3) := by decide +kernel
theorem zd_Walls_canStandInWall_33 : decode zm_Walls_canStandInWall.2.1 33 = .ok (.invokevirtual 404, 3) := by decide +kernel
theorem zd_Walls_canStandInWall_36 : decode zm_Walls_canStandInWall.2.1 36 = .ok (.ifCond .eq 7, 3) := by decide +kernel
theorem zd_Walls_canStandInWall_39 : decode zm_Walls_canStandInWall.2.1 39 = .ok (.iconst 1, 1) := by decide +kernel
theorem zd_Walls_canStandInWall_40 : decode zm_Walls_canStandInWall.2.1 40 = .ok (.goto 4, 3) := by decide +kernel
theorem zd_Walls_canStandInWall_43 : decode zm_Walls_canStandInWall.2.1 43 = .ok (.iconst 0, 1) := by decide +kernel
theorem zd_Walls_canStandInWall_44 : decode zm_Walls_canStandInWall.2.1 44 = .ok (.ireturn, 1) := by decide +kernel
theorem zd_Walls_canStandInWall_45 : decode zm_Walls_canStandInWall.2.1 45 = .ok (.iload_n 1, 1) := by decide +kernel
theorem zd_Walls_canStandInWall_46 : decode zm_Walls_canStandInWall.2.1 46 = .ok (.bipush 97, 2) := by decide +kernel
theorem zd_Walls_canStandInWall_48 : decode zm_Walls_canStandInWall.2.1 48 = .ok (.isub, 1) := by decide +kernel
theorem zd_Walls_canStandInWall_49 : decode zm_Walls_canStandInWall.2.1 49 = .ok (.istore 5, 2) := by decide +kernel
theorem zd_Walls_canStandInWall_51 : decode zm_Walls_canStandInWall.2.1 51 = .ok (.iload_n 3, 1) := by decide +kernel
theorem zd_Walls_canStandInWall_52 : decode zm_Walls_canStandInWall.2.1 52 = .ok (.ifCond .ne 42, 3) := by decide +kernel
theorem zd_Walls_canStandInWall_55 : decode zm_Walls_canStandInWall.2.1 55 = .ok (.aload_n 0, 1) := by decide +kernel
theorem zd_Walls_canStandInWall_56 : decode zm_Walls_canStandInWall.2.1 56 = .ok (.getfield 24, 3) := by decide +kernel
theorem zd_Walls_canStandInWall_59 : decode zm_Walls_canStandInWall.2.1 59 = .ok (.iload 5, 2) := by decide +kernel
theorem zd_Walls_canStandInWall_61 : decode zm_Walls_canStandInWall.2.1 61 = .ok (.invokevirtual 136, 3) := by decide +kernel
theorem zd_Walls_canStandInWall_64 : decode zm_Walls_canStandInWall.2.1 64 = .ok (.ifCond .eq 30, 3) := by decide +kernel
theorem zd_Walls_canStandInWall_67 : decode zm_Walls_canStandInWall.2.1 67 = .ok (.aload_n 0, 1) := by decide +kernel
theorem zd_Walls_canStandInWall_68 : decode zm_Walls_canStandInWall.2.1 68 = .ok (.getfield 24, 3) := by decide +kernel
theorem zd_Walls_canStandInWall_71 : decode zm_Walls_canStandInWall.2.1 71 = .ok (.getfield 153, 3) := by decide +kernel
theorem zd_Walls_canStandInWall_74 : decode zm_Walls_canStandInWall.2.1 74 = .ok (.iload 5, 2) := by decide +kernel
theorem zd_Walls_canStandInWall_76 : decode zm_Walls_canStandInWall.2.1 76 = .ok (.iaload, 1) := by decide +kernel
theorem zd_Walls_canStandInWall_77 : decode zm_Walls_canStandInWall.2.1 77 = .ok (.ifCond .ne 17, 3) := by decide +kernel
theorem zd_Walls_canStandInWall_80 : decode zm_Walls_canStandInWall.2.1 80 = .ok (.aload_n 0, 1) := by decide +kernel
theorem zd_Walls_canStandInWall_81 : decode zm_Walls_canStandInWall.2.1 81 = .ok (.getfield 24, 3) := by decide +kernel
theorem zd_Walls_canStandInWall_84 : decode zm_Walls_canStandInWall.2.1 84 = .ok (.getfield 179, 3) := by decide +kernel
theorem zd_Walls_canStandInWall_87 : decode zm_Walls_canStandInWall.2.1 87 = .ok (.iload 4, 2) := by decide +kernel
theorem zd_Walls_canStandInWall_89 : decode zm_Walls_canStandInWall.2.1 89 = .ok (.iaload, 1) := by decide +kernel
theorem zd_Walls_canStandInWall_90 : decode zm_Walls_canStandInWall.2.1 90 = .ok (.iconst 4, 1) := by decide +kernel
theorem zd_Walls_canStandInWall_91 : decode zm_Walls_canStandInWall.2.1 91 = .ok (.if_icmp .ne 5, 3) := by decide +kernel
theorem zd_Walls_canStandInWall_94 : decode zm_Walls_canStandInWall.2.1 94 = .ok (.iconst 0, 1) := by decide +kernel
theorem zd_Walls_canStandInWall_95 : decode zm_Walls_canStandInWall.2.1 95 = .ok (.ireturn, 1) := by decide +kernel
theorem zd_Walls_canStandInWall_96 : decode zm_Walls_canStandInWall.2.1 96 = .ok (.aload_n 0, 1) := by decide +kernel
theorem zd_Walls_canStandInWall_97 : decode zm_Walls_canStandInWall.2.1 97 = .ok (.getfield 24, 3) := by decide +kernel
theorem zd_Walls_canStandInWall_100 : decode zm_Walls_canStandInWall.2.1 100 = .ok (.iload 5, 2) := by decide +kernel
theorem zd_Walls_canStandInWall_102 : decode zm_Walls_canStandInWall.2.1 102 = .ok (.iload 4, 2) := by decide +kernel
theorem zd_Walls_canStandInWall_104 : decode zm_Walls_canStandInWall.2.1 104 = .ok (.invokevirtual 408, 3) := by decide +kernel
theorem zd_Walls_canStandInWall_107 : decode zm_Walls_canStandInWall.2.1 107 = .ok (.iconst 1, 1) := by decide +kernel
theorem zd_Walls_canStandInWall_108 : decode zm_Walls_canStandInWall.2.1 108 = .ok (.ireturn, 1) := by decide +kernel
theorem zb_Walls_canStandInWall_0 {Γ : zG} {σ : zS} {x1 x2 x3 : Int32}  (kt : ¬ x1 = (nI 45) → z_J Γ zm_Walls_canStandInWall 19 [some (.inr (0)), some (.inl (x1)), some (.inl (x2)), some (.inl (x3)), some (.inl ((σ.1 43 6) - (nI 1))), none] [] σ) (kf : x1 = (nI 45) → z_J Γ zm_Walls_canStandInWall 17 [none, none, some (.inl (x2)), none, none, none] [] σ) : z_J Γ zm_Walls_canStandInWall 0 [some (.inr (0)), some (.inl (x1)), some (.inl (x2)), some (.inl (x3)), none, none] [] σ := by
  refine zj_aload_n zd_Walls_canStandInWall_0 rfl ?_
  refine zj_getR rfl (by decide) rfl zu_Walls (k := 5) (by decide) rfl zl_Walls_24 zd_Walls_canStandInWall_1 (o' := 43) rfl ?_
  refine zj_getI rfl (by decide) rfl zu_City (k := 6) (by decide) rfl zl_Walls_117 zd_Walls_canStandInWall_4 ?_
  refine zj_iconst (v := nI 1) zd_Walls_canStandInWall_7 (by decide) ?_
  refine zj_isub zd_Walls_canStandInWall_8 ?_
  refine zj_istore (L' := [some (.inr (0)), some (.inl (x1)), some (.inl (x2)), some (.inl (x3)), some (.inl ((σ.1 43 6) - (nI 1))), none]) zd_Walls_canStandInWall_9 (by decide) rfl ?_
  refine zj_iload_n zd_Walls_canStandInWall_11 rfl ?_
  refine zj_bipush (v := nI 45) zd_Walls_canStandInWall_12 (by decide) ?_
  exact zj_icmp_ne zd_Walls_canStandInWall_14 (by decide) (fun h => (kt h)) (fun h => (zj_weak (L' := [none, none, some (.inl (x2)), none, none, none]) ⟨rfl, trivial⟩ (kf h)))
theorem zb_Walls_canStandInWall_17 {Γ : zG} {σ : zS} {x2 : Int32}  (e : z_end Γ (some (x2)) σ) (z1 : x2 = 0 ∨ x2 = 1) : z_J Γ zm_Walls_canStandInWall 17 [none, none, some (.inl (x2)), none, none, none] [] σ := by
  refine zj_iload_n zd_Walls_canStandInWall_17 rfl ?_
  exact zj_zreturn rfl z1 zd_Walls_canStandInWall_18 e
theorem zb_Walls_canStandInWall_19 {Γ : zG} {σ : zS} {x1 x2 x3 x4 : Int32}  (kt : ¬ x1 = (nI 47) → z_J Γ zm_Walls_canStandInWall 45 [some (.inr (0)), some (.inl (x1)), none, some (.inl (x3)), some (.inl (x4)), none] [] σ) (kf : x1 = (nI 47) → z_J Γ zm_Walls_canStandInWall 25 [some (.inr (0)), none, some (.inl (x2)), none, none, none] [] σ) : z_J Γ zm_Walls_canStandInWall 19 [some (.inr (0)), some (.inl (x1)), some (.inl (x2)), some (.inl (x3)), some (.inl (x4)), none] [] σ := by
  refine zj_iload_n zd_Walls_canStandInWall_19 rfl ?_
  refine zj_bipush (v := nI 47) zd_Walls_canStandInWall_20 (by decide) ?_
  exact zj_icmp_ne zd_Walls_canStandInWall_22 (by decide) (fun h => (zj_weak (L' := [some (.inr (0)), some (.inl (x1)), none, some (.inl (x3)), some (.inl (x4)), none]) ⟨rfl, ⟨rfl, ⟨rfl, ⟨rfl, trivial⟩⟩⟩⟩ (kt h))) (fun h => (zj_weak (L' := [some (.inr (0)), none, some (.inl (x2)), none, none, none]) ⟨rfl, ⟨rfl, trivial⟩⟩ (kf h)))
theorem zb_Walls_canStandInWall_25 {Γ : zG} {σ : zS} {x2 : Int32}  (kt : ¬ x2 = 0 → z_J Γ zm_Walls_canStandInWall 43 [none, none, none, none, none, none] [] σ) (kf : x2 = 0 → z_J Γ zm_Walls_canStandInWall 29 [some (.inr (0)), none, none, none, none, none] [] σ) : z_J Γ zm_Walls_canStandInWall 25 [some (.inr (0)), none, some (.inl (x2)), none, none, none] [] σ := by
  refine zj_iload_n zd_Walls_canStandInWall_25 rfl ?_
  exact zj_if_ne zd_Walls_canStandInWall_26 (by decide) (fun h => (zj_weak (L' := [none, none, none, none, none, none]) trivial (kt h))) (fun h => (zj_weak (L' := [some (.inr (0)), none, none, none, none, none]) ⟨rfl, trivial⟩ (kf h)))
theorem zb_Walls_canStandInWall_29 {Γ : zG} {σ : zS} {dc : Nat} {P : Int32 → zS → Prop}  (hm : z_Ci dc zm_City_addColumn [.inr (43)] σ P) (hdp : dc < z_dep Γ) (k : ∀ r σ1, P r σ1 → z_J Γ zm_Walls_canStandInWall 36 [none, none, none, none, none, none] [.inl (r)] σ1) : z_J Γ zm_Walls_canStandInWall 29 [some (.inr (0)), none, none, none, none, none] [] σ := by
  refine zj_aload_n zd_Walls_canStandInWall_29 rfl ?_
  refine zj_getR rfl (by decide) rfl zu_Walls (k := 5) (by decide) rfl zl_Walls_24 zd_Walls_canStandInWall_30 (o' := 43) rfl ?_
  exact zj_callVi (As := []) hm hdp rfl (by decide) rfl zl_Walls_404 zq_City_addColumn zd_Walls_canStandInWall_33 rfl (Nat.le_of_ble_eq_true rfl) (fun r σ1 h => (zj_weak (L' := [none, none, none, none, none, none]) trivial (k r σ1 h)))
theorem zb_Walls_canStandInWall_36 {Γ : zG} {σ : zS} {y0 : Int32}  (kt : y0 = 0 → z_J Γ zm_Walls_canStandInWall 43 [none, none, none, none, none, none] [] σ) (kf : ¬ y0 = 0 → z_J Γ zm_Walls_canStandInWall 39 [none, none, none, none, none, none] [] σ) : z_J Γ zm_Walls_canStandInWall 36 [none, none, none, none, none, none] [.inl (y0)] σ := by
  exact zj_if_eq zd_Walls_canStandInWall_36 (by decide) (fun h => (kt h)) (fun h => (kf h))
theorem zb_Walls_canStandInWall_39 {Γ : zG} {σ : zS}  (k : z_J Γ zm_Walls_canStandInWall 44 [none, none, none, none, none, none] [.inl (nI 1)] σ) : z_J Γ zm_Walls_canStandInWall 39 [none, none, none, none, none, none] [] σ := by
  refine zj_iconst (v := nI 1) zd_Walls_canStandInWall_39 (by decide) ?_
  exact zj_goto zd_Walls_canStandInWall_40 (by decide) k
theorem zb_Walls_canStandInWall_43 {Γ : zG} {σ : zS}  (k : z_J Γ zm_Walls_canStandInWall 44 [none, none, none, none, none, none] [.inl (nI 0)] σ) : z_J Γ zm_Walls_canStandInWall 43 [none, none, none, none, none, none] [] σ := by
  refine zj_iconst (v := nI 0) zd_Walls_canStandInWall_43 (by decide) ?_
  exact k
theorem zb_Walls_canStandInWall_44 {Γ : zG} {σ : zS} {y0 : Int32}  (e : z_end Γ (some (y0)) σ) (z1 : y0 = 0 ∨ y0 = 1) : z_J Γ zm_Walls_canStandInWall 44 [none, none, none, none, none, none] [.inl (y0)] σ := by
  exact zj_zreturn rfl z1 zd_Walls_canStandInWall_44 e
theorem zb_Walls_canStandInWall_45 {Γ : zG} {σ : zS} {x1 x3 x4 : Int32}  (kt : ¬ x3 = 0 → z_J Γ zm_Walls_canStandInWall 94 [none, none, none, none, none, none] [] σ) (kf : x3 = 0 → z_J Γ zm_Walls_canStandInWall 55 [some (.inr (0)), none, none, none, some (.inl (x4)), some (.inl (x1 - (nI 97)))] [] σ) : z_J Γ zm_Walls_canStandInWall 45 [some (.inr (0)), some (.inl (x1)), none, some (.inl (x3)), some (.inl (x4)), none] [] σ := by
  refine zj_iload_n zd_Walls_canStandInWall_45 rfl ?_
  refine zj_bipush (v := nI 97) zd_Walls_canStandInWall_46 (by decide) ?_
  refine zj_isub zd_Walls_canStandInWall_48 ?_
  refine zj_istore (L' := [some (.inr (0)), some (.inl (x1)), none, some (.inl (x3)), some (.inl (x4)), some (.inl (x1 - (nI 97)))]) zd_Walls_canStandInWall_49 (by decide) rfl ?_
  refine zj_iload_n zd_Walls_canStandInWall_51 rfl ?_
  exact zj_if_ne zd_Walls_canStandInWall_52 (by decide) (fun h => (zj_weak (L' := [none, none, none, none, none, none]) trivial (kt h))) (fun h => (zj_weak (L' := [some (.inr (0)), none, none, none, some (.inl (x4)), some (.inl (x1 - (nI 97)))]) ⟨rfl, ⟨rfl, ⟨rfl, trivial⟩⟩⟩ (kf h)))
theorem zb_Walls_canStandInWall_55 {Γ : zG} {σ : zS} {x4 x5 : Int32} {dc : Nat} {P : Int32 → zS → Prop}  (hm : z_Ci dc zm_City_isBook [.inr (43), .inl (x5)] σ P) (hdp : dc < z_dep Γ) (k : ∀ r σ1, P r σ1 → z_J Γ zm_Walls_canStandInWall 64 [some (.inr (0)), none, none, none, some (.inl (x4)), some (.inl (x5))] [.inl (r)] σ1) : z_J Γ zm_Walls_canStandInWall 55 [some (.inr (0)), none, none, none, some (.inl (x4)), some (.inl (x5))] [] σ := by
  refine zj_aload_n zd_Walls_canStandInWall_55 rfl ?_
  refine zj_getR rfl (by decide) rfl zu_Walls (k := 5) (by decide) rfl zl_Walls_24 zd_Walls_canStandInWall_56 (o' := 43) rfl ?_
  refine zj_iload zd_Walls_canStandInWall_59 rfl ?_
  exact zj_callVi (As := [.inl (x5)]) hm hdp rfl (by decide) rfl zl_Walls_136 zq_City_isBook zd_Walls_canStandInWall_61 rfl (Nat.le_of_ble_eq_true rfl) (fun r σ1 h => (k r σ1 h))
theorem zb_Walls_canStandInWall_64 {Γ : zG} {σ : zS} {x4 x5 y0 : Int32}  (kt : y0 = 0 → z_J Γ zm_Walls_canStandInWall 94 [none, none, none, none, none, none] [] σ) (kf : ¬ y0 = 0 → z_J Γ zm_Walls_canStandInWall 67 [some (.inr (0)), none, none, none, some (.inl (x4)), some (.inl (x5))] [] σ) : z_J Γ zm_Walls_canStandInWall 64 [some (.inr (0)), none, none, none, some (.inl (x4)), some (.inl (x5))] [.inl (y0)] σ := by
  exact zj_if_eq zd_Walls_canStandInWall_64 (by decide) (fun h => (zj_weak (L' := [none, none, none, none, none, none]) trivial (kt h))) (fun h => (kf h))
theorem zb_Walls_canStandInWall_67 {Γ : zG} {σ : zS} {x4 x5 : Int32} {k1 : Nat}  (b1 : z_ix x5 12 k1) (kt : ¬ (σ.1 46 k1) = 0 → z_J Γ zm_Walls_canStandInWall 94 [none, none, none, none, none, none] [] σ) (kf : (σ.1 46 k1) = 0 → z_J Γ zm_Walls_canStandInWall 80 [some (.inr (0)), none, none, none, some (.inl (x4)), some (.inl (x5))] [] σ) : z_J Γ zm_Walls_canStandInWall 67 [some (.inr (0)), none, none, none, some (.inl (x4)), some (.inl (x5))] [] σ := by
  refine zj_aload_n zd_Walls_canStandInWall_67 rfl ?_
  refine zj_getR rfl (by decide) rfl zu_Walls (k := 5) (by decide) rfl zl_Walls_24 zd_Walls_canStandInWall_68 (o' := 43) rfl ?_
  refine zj_getR rfl (by decide) rfl zu_City (k := 3) (by decide) rfl zl_Walls_153 zd_Walls_canStandInWall_71 (o' := 46) rfl ?_
  refine zj_iload zd_Walls_canStandInWall_74 rfl ?_
  refine zj_iaload rfl (by decide) b1 zd_Walls_canStandInWall_76 ?_
  exact zj_if_ne zd_Walls_canStandInWall_77 (by decide) (fun h => (zj_weak (L' := [none, none, none, none, none, none]) trivial (kt h))) (fun h => (kf h))
theorem zb_Walls_canStandInWall_80 {Γ : zG} {σ : zS} {x4 x5 : Int32} {k1 : Nat}  (b1 : z_ix x4 6 k1) (kt : ¬ (σ.1 49 k1) = (nI 4) → z_J Γ zm_Walls_canStandInWall 96 [some (.inr (0)), none, none, none, some (.inl (x4)), some (.inl (x5))] [] σ) (kf : (σ.1 49 k1) = (nI 4) → z_J Γ zm_Walls_canStandInWall 94 [none, none, none, none, none, none] [] σ) : z_J Γ zm_Walls_canStandInWall 80 [some (.inr (0)), none, none, none, some (.inl (x4)), some (.inl (x5))] [] σ := by
  refine zj_aload_n zd_Walls_canStandInWall_80 rfl ?_
  refine zj_getR rfl (by decide) rfl zu_Walls (k := 5) (by decide) rfl zl_Walls_24 zd_Walls_canStandInWall_81 (o' := 43) rfl ?_
  refine zj_getR rfl (by decide) rfl zu_City (k := 7) (by decide) rfl zl_Walls_179 zd_Walls_canStandInWall_84 (o' := 49) rfl ?_
  refine zj_iload zd_Walls_canStandInWall_87 rfl ?_
  refine zj_iaload rfl (by decide) b1 zd_Walls_canStandInWall_89 ?_
  refine zj_iconst (v := nI 4) zd_Walls_canStandInWall_90 (by decide) ?_
  exact zj_icmp_ne zd_Walls_canStandInWall_91 (by decide) (fun h => (kt h)) (fun h => (zj_weak (L' := [none, none, none, none, none, none]) trivial (kf h)))
theorem zb_Walls_canStandInWall_94 {Γ : zG} {σ : zS}  (e : z_end Γ (some (nI 0)) σ) : z_J Γ zm_Walls_canStandInWall 94 [none, none, none, none, none, none] [] σ := by
  refine zj_iconst (v := nI 0) zd_Walls_canStandInWall_94 (by decide) ?_
  exact zj_zreturn rfl (Or.inl (by decide)) zd_Walls_canStandInWall_95 e
theorem zb_Walls_canStandInWall_96 {Γ : zG} {σ : zS} {x4 x5 : Int32} {dc : Nat} {P : zS → Prop}  (hm : z_Cv dc zm_City_put [.inr (43), .inl (x5), .inl (x4)] σ P) (hdp : dc < z_dep Γ) (k : ∀ σ1, P σ1 → z_J Γ zm_Walls_canStandInWall 107 [none, none, none, none, none, none] [] σ1) : z_J Γ zm_Walls_canStandInWall 96 [some (.inr (0)), none, none, none, some (.inl (x4)), some (.inl (x5))] [] σ := by
  refine zj_aload_n zd_Walls_canStandInWall_96 rfl ?_
  refine zj_getR rfl (by decide) rfl zu_Walls (k := 5) (by decide) rfl zl_Walls_24 zd_Walls_canStandInWall_97 (o' := 43) rfl ?_
  refine zj_iload zd_Walls_canStandInWall_100 rfl ?_
  refine zj_iload zd_Walls_canStandInWall_102 rfl ?_
  exact zj_callVv (As := [.inl (x5), .inl (x4)]) hm hdp rfl (by decide) rfl zl_Walls_408 zq_City_put zd_Walls_canStandInWall_104 rfl (Nat.le_of_ble_eq_true rfl) (fun σ1 h => (zj_weak (L' := [none, none, none, none, none, none]) trivial (k σ1 h)))
theorem zb_Walls_canStandInWall_107 {Γ : zG} {σ : zS}  (e : z_end Γ (some (nI 1)) σ) : z_J Γ zm_Walls_canStandInWall 107 [none, none, none, none, none, none] [] σ := by
  refine zj_iconst (v := nI 1) zd_Walls_canStandInWall_107 (by decide) ?_
  exact zj_zreturn rfl (Or.inr (by decide)) zd_Walls_canStandInWall_108 e
theorem zd_Walls_columnsThatHold_0 : decode zm_Walls_columnsThatHold.2.1 0 = .ok (.iconst 0, 1) := by decide +kernel
theorem zd_Walls_columnsThatHold_1 : decode zm_Walls_columnsThatHold.2.1 1 = .ok (.istore_n 2, 1) := by decide +kernel
theorem zd_Walls_columnsThatHold_2 : decode zm_Walls_columnsThatHold.2.1 2 = .ok (.iconst 0, 1) := by decide +kernel
theorem zd_Walls_columnsThatHold_3 : decode zm_Walls_columnsThatHold.2.1 3 = .ok (.istore_n 3, 1) := by decide +kernel
theorem zd_Walls_columnsThatHold_4 : decode zm_Walls_columnsThatHold.2.1 4 = .ok (.iload_n 3, 1) := by decide +kernel
theorem zd_Walls_columnsThatHold_5 : decode zm_Walls_columnsThatHold.2.1 5 = .ok (.aload_n 0, 1) := by decide +kernel
theorem zd_Walls_columnsThatHold_6 : decode zm_Walls_columnsThatHold.2.1 6 = .ok (.getfield 117, 3) := by decide +kernel
theorem zd_Walls_columnsThatHold_9 : decode zm_Walls_columnsThatHold.2.1 9 = .ok (.if_icmp .ge 24, 3) := by decide +kernel
theorem zd_Walls_columnsThatHold_12 : decode zm_Walls_columnsThatHold.2.1 12 = .ok (.aload_n 0, 1) := by decide +kernel
theorem zd_Walls_columnsThatHold_13 : decode zm_Walls_columnsThatHold.2.1 13 = .ok (.iload_n 3, 1) := by decide +kernel
theorem zd_Walls_columnsThatHold_14 : decode zm_Walls_columnsThatHold.2.1 14 = .ok (.aload_n 1, 1) := by decide +kernel
theorem zd_Walls_columnsThatHold_15 : decode zm_Walls_columnsThatHold.2.1 15 = .ok (.invokevirtual 185, 3) := by decide +kernel
theorem zd_Walls_columnsThatHold_18 : decode zm_Walls_columnsThatHold.2.1 18 = .ok (.ifCond .eq 9, 3) := by decide +kernel
theorem zd_Walls_columnsThatHold_21 : decode zm_Walls_columnsThatHold.2.1 21 = .ok (.iload_n 2, 1) := by decide +kernel
theorem zd_Walls_columnsThatHold_22 : decode zm_Walls_columnsThatHold.2.1 22 = .ok (.iconst 1, 1) := by decide +kernel
theorem zd_Walls_columnsThatHold_23 : decode zm_Walls_columnsThatHold.2.1 23 = .ok (.iload_n 3, 1) := by decide +kernel
theorem zd_Walls_columnsThatHold_24 : decode zm_Walls_columnsThatHold.2.1 24 = .ok (.ishl, 1) := by decide +kernel
theorem zd_Walls_columnsThatHold_25 : decode zm_Walls_columnsThatHold.2.1 25 = .ok (.ior, 1) := by decide +kernel
theorem zd_Walls_columnsThatHold_26 : decode zm_Walls_columnsThatHold.2.1 26 = .ok (.istore_n 2, 1) := by decide +kernel
theorem zd_Walls_columnsThatHold_27 : decode zm_Walls_columnsThatHold.2.1 27 = .ok (.iinc 3 1, 3) := by decide +kernel
theorem zd_Walls_columnsThatHold_30 : decode zm_Walls_columnsThatHold.2.1 30 = .ok (.goto (-26), 3) := by decide +kernel
theorem zd_Walls_columnsThatHold_33 : decode zm_Walls_columnsThatHold.2.1 33 = .ok (.iload_n 2, 1) := by decide +kernel
theorem zd_Walls_columnsThatHold_34 : decode zm_Walls_columnsThatHold.2.1 34 = .ok (.ireturn, 1) := by decide +kernel
theorem zb_Walls_columnsThatHold_0 {Γ : zG} {σ : zS} {c0 : Nat} {r1 : Nat} (h_c0 : z_oC c0) (h_r1 : z_oR r1) (k : z_J Γ zm_Walls_columnsThatHold 4 [some (.inr (c0)), some (.inr (r1)), some (.inl (nI 0)), some (.inl (nI 0))] [] σ) : z_J Γ zm_Walls_columnsThatHold 0 [some (.inr (c0)), some (.inr (r1)), none, none] [] σ := by
  refine zj_iconst (v := nI 0) zd_Walls_columnsThatHold_0 (by decide) ?_
  refine zj_istore_n (L' := [some (.inr (c0)), some (.inr (r1)), some (.inl (nI 0)), none]) zd_Walls_columnsThatHold_1 (by decide) rfl ?_
  refine zj_iconst (v := nI 0) zd_Walls_columnsThatHold_2 (by decide) ?_
  refine zj_istore_n (L' := [some (.inr (c0)), some (.inr (r1)), some (.inl (nI 0)), some (.inl (nI 0))]) zd_Walls_columnsThatHold_3 (by decide) rfl ?_
  exact k
theorem zb_Walls_columnsThatHold_4 {Γ : zG} {σ : zS} {c0 : Nat} {r1 : Nat} {x2 x3 : Int32} (h_c0 : z_oC c0) (h_r1 : z_oR r1) (kt : (σ.1 c0 6) ≤ x3 → z_J Γ zm_Walls_columnsThatHold 33 [none, none, some (.inl (x2)), none] [] σ) (kf : ¬ (σ.1 c0 6) ≤ x3 → z_J Γ zm_Walls_columnsThatHold 12 [some (.inr (c0)), some (.inr (r1)), some (.inl (x2)), some (.inl (x3))] [] σ) : z_J Γ zm_Walls_columnsThatHold 4 [some (.inr (c0)), some (.inr (r1)), some (.inl (x2)), some (.inl (x3))] [] σ := by
  refine zj_iload_n zd_Walls_columnsThatHold_4 rfl ?_
  refine zj_aload_n zd_Walls_columnsThatHold_5 rfl ?_
  refine zj_getI (zk_C0 h_c0) (by decide) rfl zu_City (k := 6) (by decide) rfl zl_Walls_117 zd_Walls_columnsThatHold_6 ?_
  exact zj_icmp_ge zd_Walls_columnsThatHold_9 (by decide) (fun h => (zj_weak (L' := [none, none, some (.inl (x2)), none]) ⟨rfl, trivial⟩ (kt h))) (fun h => (kf h))
theorem zb_Walls_columnsThatHold_12 {Γ : zG} {σ : zS} {c0 : Nat} {r1 : Nat} {x2 x3 : Int32} {dc : Nat} {P : Int32 → zS → Prop} (h_c0 : z_oC c0) (h_r1 : z_oR r1) (hm : z_Ci dc zm_City_holdsUp [.inr (c0), .inl (x3), .inr (r1)] σ P) (hdp : dc < z_dep Γ) (k : ∀ r σ1, P r σ1 → z_J Γ zm_Walls_columnsThatHold 18 [some (.inr (c0)), some (.inr (r1)), some (.inl (x2)), some (.inl (x3))] [.inl (r)] σ1) : z_J Γ zm_Walls_columnsThatHold 12 [some (.inr (c0)), some (.inr (r1)), some (.inl (x2)), some (.inl (x3))] [] σ := by
  refine zj_aload_n zd_Walls_columnsThatHold_12 rfl ?_
  refine zj_iload_n zd_Walls_columnsThatHold_13 rfl ?_
  refine zj_aload_n zd_Walls_columnsThatHold_14 rfl ?_
  exact zj_callVi (As := [.inl (x3), .inr (r1)]) hm hdp (zk_C0 h_c0) (by decide) rfl zl_Walls_185 zq_City_holdsUp zd_Walls_columnsThatHold_15 rfl (Nat.le_of_ble_eq_true rfl) (fun r σ1 h => (k r σ1 h))
theorem zb_Walls_columnsThatHold_18 {Γ : zG} {σ : zS} {c0 : Nat} {r1 : Nat} {x2 x3 y0 : Int32} (h_c0 : z_oC c0) (h_r1 : z_oR r1) (kt : y0 = 0 → z_J Γ zm_Walls_columnsThatHold 27 [some (.inr (c0)), some (.inr (r1)), some (.inl (x2)), some (.inl (x3))] [] σ) (kf : ¬ y0 = 0 → z_J Γ zm_Walls_columnsThatHold 21 [some (.inr (c0)), some (.inr (r1)), some (.inl (x2)), some (.inl (x3))] [] σ) : z_J Γ zm_Walls_columnsThatHold 18 [some (.inr (c0)), some (.inr (r1)), some (.inl (x2)), some (.inl (x3))] [.inl (y0)] σ := by
  exact zj_if_eq zd_Walls_columnsThatHold_18 (by decide) (fun h => (kt h)) (fun h => (kf h))
theorem zb_Walls_columnsThatHold_21 {Γ : zG} {σ : zS} {c0 : Nat} {r1 : Nat} {x2 x3 : Int32} (h_c0 : z_oC c0) (h_r1 : z_oR r1) (k : z_J Γ zm_Walls_columnsThatHold 27 [some (.inr (c0)), some (.inr (r1)), some (.inl (x2 ||| ((nI 1) <<< (x3 &&& 31)))), some (.inl (x3))] [] σ) : z_J Γ zm_Walls_columnsThatHold 21 [some (.inr (c0)), some (.inr (r1)), some (.inl (x2)), some (.inl (x3))] [] σ := by
  refine zj_iload_n zd_Walls_columnsThatHold_21 rfl ?_
  refine zj_iconst (v := nI 1) zd_Walls_columnsThatHold_22 (by decide) ?_
  refine zj_iload_n zd_Walls_columnsThatHold_23 rfl ?_
  refine zj_ishl zd_Walls_columnsThatHold_24 ?_
  refine zj_ior zd_Walls_columnsThatHold_25 ?_
  refine zj_istore_n (L' := [some (.inr (c0)), some (.inr (r1)), some (.inl (x2 ||| ((nI 1) <<< (x3 &&& 31)))), some (.inl (x3))]) zd_Walls_columnsThatHold_26 (by decide) rfl ?_
  exact k
theorem zb_Walls_columnsThatHold_27 {Γ : zG} {σ : zS} {c0 : Nat} {r1 : Nat} {x2 x3 : Int32} (h_c0 : z_oC c0) (h_r1 : z_oR r1) (k : z_J Γ zm_Walls_columnsThatHold 4 [some (.inr (c0)), some (.inr (r1)), some (.inl (x2)), some (.inl (x3 + nI 1))] [] σ) : z_J Γ zm_Walls_columnsThatHold 27 [some (.inr (c0)), some (.inr (r1)), some (.inl (x2)), some (.inl (x3))] [] σ := by
  refine zj_iinc (v := nI 1) (L' := [some (.inr (c0)), some (.inr (r1)), some (.inl (x2)), some (.inl (x3 + nI 1))]) zd_Walls_columnsThatHold_27 rfl (by decide) (by decide) rfl ?_
  exact zj_goto zd_Walls_columnsThatHold_30 (by decide) k
theorem zb_Walls_columnsThatHold_33 {Γ : zG} {σ : zS} {x2 : Int32}  (e : z_end Γ (some (x2)) σ) : z_J Γ zm_Walls_columnsThatHold 33 [none, none, some (.inl (x2)), none] [] σ := by
  refine zj_iload_n zd_Walls_columnsThatHold_33 rfl ?_
  exact zj_ireturn rfl zd_Walls_columnsThatHold_34 e
theorem zd_Walls_between_0 : decode zm_Walls_between.2.1 0 = .ok (.iload_n 0, 1) := by decide +kernel
theorem zd_Walls_between_1 : decode zm_Walls_between.2.1 1 = .ok (.iload_n 1, 1) := by decide +kernel
theorem zd_Walls_between_2 : decode zm_Walls_between.2.1 2 = .ok (.iload_n 2, 1) := by decide +kernel
theorem zd_Walls_between_3 : decode zm_Walls_between.2.1 3 = .ok (.invokestatic 341, 3) := by decide +kernel
theorem zd_Walls_between_6 : decode zm_Walls_between.2.1 6 = .ok (.invokestatic 380, 3) := by decide +kernel
theorem zd_Walls_between_9 : decode zm_Walls_between.2.1 9 = .ok (.ireturn, 1) := by decide +kernel
theorem zb_Walls_between_0 {Γ : zG} {σ : zS} {x0 x1 x2 : Int32} (hdp : 0 < z_dep Γ) (e : z_end Γ (some (z_max x0 (z_min x1 x2))) σ) : z_J Γ zm_Walls_between 0 [some (.inl (x0)), some (.inl (x1)), some (.inl (x2))] [] σ := by
  refine zj_iload_n zd_Walls_between_0 rfl ?_
  refine zj_iload_n zd_Walls_between_1 rfl ?_
  refine zj_iload_n zd_Walls_between_2 rfl ?_
  refine zj_mmin zl_Walls_341 zx_min_s zx_Math zx_min_c hdp (Nat.le_of_ble_eq_true rfl) zd_Walls_between_3 ?_
  refine zj_mmax zl_Walls_380 zx_max_s zx_Math zx_max_c hdp (Nat.le_of_ble_eq_true rfl) zd_Walls_between_6 ?_
  exact zj_ireturn rfl zd_Walls_between_9 e
theorem zd_Walls_readers_0 : decode zm_Walls_readers.2.1 0 = .ok (.aload_n 0, 1) := by decide +kernel
theorem zd_Walls_readers_1 : decode zm_Walls_readers.2.1 1 = .ok (.invokevirtual 88, 3) := by decide +kernel
theorem zd_Walls_readers_4 : decode zm_Walls_readers.2.1 4 = .ok (.istore_n 1, 1) := by decide +kernel
theorem zd_Walls_readers_5 : decode zm_Walls_readers.2.1 5 = .ok (.iload_n 1, 1) := by decide +kernel
theorem zd_Walls_readers_6 : decode zm_Walls_readers.2.1 6 = .ok (.ifCond .ne 5, 3) := by decide +kernel
theorem zd_Walls_readers_9 : decode zm_Walls_readers.2.1 9 = .ok (.iconst 0, 1) := by decide +kernel
theorem zd_Walls_readers_10 : decode zm_Walls_readers.2.1 10 = .ok (.ireturn, 1) := by decide +kernel
theorem zd_Walls_readers_11 : decode zm_Walls_readers.2.1 11 = .ok (.aload_n 0, 1) := by decide +kernel
theorem zd_Walls_readers_12 : decode zm_Walls_readers.2.1 12 = .ok (.iload_n 1, 1) := by decide +kernel
theorem zd_Walls_readers_13 : decode zm_Walls_readers.2.1 13 = .ok (.invokevirtual 126, 3) := by decide +kernel
theorem zd_Walls_readers_16 : decode zm_Walls_readers.2.1 16 = .ok (.istore_n 2, 1) := by decide +kernel
theorem zd_Walls_readers_17 : decode zm_Walls_readers.2.1 17 = .ok (.iload_n 2, 1) := by decide +kernel
theorem zd_Walls_readers_18 : decode zm_Walls_readers.2.1 18 = .ok (.iconst (-1), 1) := by decide +kernel
theorem zd_Walls_readers_19 : decode zm_Walls_readers.2.1 19 = .ok (.if_icmp .eq 7, 3) := by decide +kernel
theorem zd_Walls_readers_22 : decode zm_Walls_readers.2.1 22 = .ok (.iconst (-1), 1) := by decide +kernel
theorem zd_Walls_readers_23 : decode zm_Walls_readers.2.1 23 = .ok (.iload_n 2, 1) := by decide +kernel
theorem zd_Walls_readers_24 : decode zm_Walls_readers.2.1 24 = .ok (.isub, 1) := by decide +kernel
theorem zd_Walls_readers_25 : decode zm_Walls_readers.2.1 25 = .ok (.ireturn, 1) := by decide +kernel
theorem zd_Walls_readers_26 : decode zm_Walls_readers.2.1 26 = .ok (.iconst 0, 1) := by decide +kernel
theorem zd_Walls_readers_27 : decode zm_Walls_readers.2.1 27 = .ok (.istore_n 3, 1) := by decide +kernel
theorem zd_Walls_readers_28 : decode zm_Walls_readers.2.1 28 = .ok (.iload_n 3, 1) := by decide +kernel
theorem zd_Walls_readers_29 : decode zm_Walls_readers.2.1 29 = .ok (.iload_n 1, 1) := by decide +kernel
theorem zd_Walls_readers_30 : decode zm_Walls_readers.2.1 30 = .ok (.if_icmp .ge 25, 3) := by decide +kernel
theorem zd_Walls_readers_33 : decode zm_Walls_readers.2.1 33 = .ok (.aload_n 0, 1) := by decide +kernel
theorem zd_Walls_readers_34 : decode zm_Walls_readers.2.1 34 = .ok (.getfield 20, 3) := by decide +kernel
theorem zd_Walls_readers_37 : decode zm_Walls_readers.2.1 37 = .ok (.aload_n 0, 1) := by decide +kernel
theorem zd_Walls_readers_38 : decode zm_Walls_readers.2.1 38 = .ok (.getfield 9, 3) := by decide +kernel
theorem zd_Walls_readers_41 : decode zm_Walls_readers.2.1 41 = .ok (.iload_n 3, 1) := by decide +kernel
theorem zd_Walls_readers_42 : decode zm_Walls_readers.2.1 42 = .ok (.caload, 1) := by decide +kernel
theorem zd_Walls_readers_43 : decode zm_Walls_readers.2.1 43 = .ok (.bipush 48, 2) := by decide +kernel
theorem zd_Walls_readers_45 : decode zm_Walls_readers.2.1 45 = .ok (.isub, 1) := by decide +kernel
theorem zd_Walls_readers_46 : decode zm_Walls_readers.2.1 46 = .ok (.invokevirtual 129, 3) := by decide +kernel
theorem zd_Walls_readers_49 : decode zm_Walls_readers.2.1 49 = .ok (.iinc 3 2, 3) := by decide +kernel
theorem zd_Walls_readers_52 : decode zm_Walls_readers.2.1 52 = .ok (.goto (-24), 3) := by decide +kernel
theorem zd_Walls_readers_55 : decode zm_Walls_readers.2.1 55 = .ok (.aload_n 0, 1) := by decide +kernel
theorem zd_Walls_readers_56 : decode zm_Walls_readers.2.1 56 = .ok (.invokevirtual 100, 3) := by decide +kernel
theorem zd_Walls_readers_59 : decode zm_Walls_readers.2.1 59 = .ok (.iload_n 1, 1) := by decide +kernel
theorem zd_Walls_readers_60 : decode zm_Walls_readers.2.1 60 = .ok (.iconst 1, 1) := by decide +kernel
theorem zd_Walls_readers_61 : decode zm_Walls_readers.2.1 61 = .ok (.iadd, 1) := by decide +kernel
theorem zd_Walls_readers_62 : decode zm_Walls_readers.2.1 62 = .ok (.iconst 2, 1) := by decide +kernel
theorem zd_Walls_readers_63 : decode zm_Walls_readers.2.1 63 = .ok (.idiv, 1) := by decide +kernel
theorem zd_Walls_readers_64 : decode zm_Walls_readers.2.1 64 = .ok (.ireturn, 1) := by decide +kernel
theorem zb_Walls_readers_0 {Γ : zG} {σ : zS} {dc : Nat} {P : Int32 → zS → Prop}  (hm : z_Ci dc zm_Walls_takeText [.inr (0)] σ P) (hdp : dc < z_dep Γ) (k : ∀ r σ1, P r σ1 → z_J Γ zm_Walls_readers 4 [some (.inr (0)), none, none, none] [.inl (r)] σ1) : z_J Γ zm_Walls_readers 0 [some (.inr (0)), none, none, none] [] σ := by
  refine zj_aload_n zd_Walls_readers_0 rfl ?_
  exact zj_callVi (As := []) hm hdp rfl (by decide) rfl zl_Walls_88 zq_Walls_takeText zd_Walls_readers_1 rfl (Nat.le_of_ble_eq_true rfl) (fun r σ1 h => (k r σ1 h))
theorem zb_Walls_readers_4 {Γ : zG} {σ : zS} {y0 : Int32}  (kt : ¬ y0 = 0 → z_J Γ zm_Walls_readers 11 [some (.inr (0)), some (.inl (y0)), none, none] [] σ) (kf : y0 = 0 → z_J Γ zm_Walls_readers 9 [none, none, none, none] [] σ) : z_J Γ zm_Walls_readers 4 [some (.inr (0)), none, none, none] [.inl (y0)] σ := by
  refine zj_istore_n (L' := [some (.inr (0)), some (.inl (y0)), none, none]) zd_Walls_readers_4 (by decide) rfl ?_
  refine zj_iload_n zd_Walls_readers_5 rfl ?_
  exact zj_if_ne zd_Walls_readers_6 (by decide) (fun h => (kt h)) (fun h => (zj_weak (L' := [none, none, none, none]) trivial (kf h)))
theorem zb_Walls_readers_9 {Γ : zG} {σ : zS}  (e : z_end Γ (some (nI 0)) σ) : z_J Γ zm_Walls_readers 9 [none, none, none, none] [] σ := by
  refine zj_iconst (v := nI 0) zd_Walls_readers_9 (by decide) ?_
  exact zj_ireturn rfl zd_Walls_readers_10 e
theorem zb_Walls_readers_11 {Γ : zG} {σ : zS} {x1 : Int32} {dc : Nat} {P : Int32 → zS → Prop}  (hm : z_Ci dc zm_Walls_badSignOfReaders [.inr (0), .inl (x1)] σ P) (hdp : dc < z_dep Γ) (k : ∀ r σ1, P r σ1 → z_J Γ zm_Walls_readers 16 [some (.inr (0)), some (.inl (x1)), none, none] [.inl (r)] σ1) : z_J Γ zm_Walls_readers 11 [some (.inr (0)), some (.inl (x1)), none, none] [] σ := by
  refine zj_aload_n zd_Walls_readers_11 rfl ?_
  refine zj_iload_n zd_Walls_readers_12 rfl ?_
  exact zj_callVi (As := [.inl (x1)]) hm hdp rfl (by decide) rfl zl_Walls_126 zq_Walls_badSignOfReaders zd_Walls_readers_13 rfl (Nat.le_of_ble_eq_true rfl) (fun r σ1 h => (k r σ1 h))
theorem zb_Walls_readers_16 {Γ : zG} {σ : zS} {x1 y0 : Int32}  (kt : y0 = (-1) → z_J Γ zm_Walls_readers 26 [some (.inr (0)), some (.inl (x1)), none, none] [] σ) (kf : ¬ y0 = (-1) → z_J Γ zm_Walls_readers 22 [none, none, some (.inl (y0)), none] [] σ) : z_J Γ zm_Walls_readers 16 [some (.inr (0)), some (.inl (x1)), none, none] [.inl (y0)] σ := by
  refine zj_istore_n (L' := [some (.inr (0)), some (.inl (x1)), some (.inl (y0)), none]) zd_Walls_readers_16 (by decide) rfl ?_
  refine zj_iload_n zd_Walls_readers_17 rfl ?_
  refine zj_iconst (v := (-1)) zd_Walls_readers_18 (by decide) ?_
  exact zj_icmp_eq zd_Walls_readers_19 (by decide) (fun h => (zj_weak (L' := [some (.inr (0)), some (.inl (x1)), none, none]) ⟨rfl, ⟨rfl, trivial⟩⟩ (kt h))) (fun h => (zj_weak (L' := [none, none, some (.inl (y0)), none]) ⟨rfl, trivial⟩ (kf h)))
theorem zb_Walls_readers_22 {Γ : zG} {σ : zS} {x2 : Int32}  (e : z_end Γ (some ((-1) - x2)) σ) : z_J Γ zm_Walls_readers 22 [none, none, some (.inl (x2)), none] [] σ := by
  refine zj_iconst (v := (-1)) zd_Walls_readers_22 (by decide) ?_
  refine zj_iload_n zd_Walls_readers_23 rfl ?_
  refine zj_isub zd_Walls_readers_24 ?_
  exact zj_ireturn rfl zd_Walls_readers_25 e
theorem zb_Walls_readers_26 {Γ : zG} {σ : zS} {x1 : Int32}  (k : z_J Γ zm_Walls_readers 28 [some (.inr (0)), some (.inl (x1)), none, some (.inl (nI 0))] [] σ) : z_J Γ zm_Walls_readers 26 [some (.inr (0)), some (.inl (x1)), none, none] [] σ := by
  refine zj_iconst (v := nI 0) zd_Walls_readers_26 (by decide) ?_
  refine zj_istore_n (L' := [some (.inr (0)), some (.inl (x1)), none, some (.inl (nI 0))]) zd_Walls_readers_27 (by decide) rfl ?_
  exact k
theorem zb_Walls_readers_28 {Γ : zG} {σ : zS} {x1 x3 : Int32}  (kt : x1 ≤ x3 → z_J Γ zm_Walls_readers 55 [some (.inr (0)), some (.inl (x1)), none, none] [] σ) (kf : ¬ x1 ≤ x3 → z_J Γ zm_Walls_readers 33 [some (.inr (0)), some (.inl (x1)), none, some (.inl (x3))] [] σ) : z_J Γ zm_Walls_readers 28 [some (.inr (0)), some (.inl (x1)), none, some (.inl (x3))] [] σ := by
  refine zj_iload_n zd_Walls_readers_28 rfl ?_
  refine zj_iload_n zd_Walls_readers_29 rfl ?_
  exact zj_icmp_ge zd_Walls_readers_30 (by decide) (fun h => (zj_weak (L' := [some (.inr (0)), some (.inl (x1)), none, none]) ⟨rfl, ⟨rfl, trivial⟩⟩ (kt h))) (fun h => (kf h))
theorem zb_Walls_readers_33 {Γ : zG} {σ : zS} {x1 x3 : Int32} {k1 : Nat} {dc : Nat} {P : zS → Prop}  (b1 : z_ix x3 80 k1) (hm : z_Cv dc zm_City_addReader [.inr (33), .inl ((σ.1 1 k1) - (nI 48))] σ P) (hdp : dc < z_dep Γ) (k : ∀ σ1, P σ1 → z_J Γ zm_Walls_readers 49 [some (.inr (0)), some (.inl (x1)), none, some (.inl (x3))] [] σ1) : z_J Γ zm_Walls_readers 33 [some (.inr (0)), some (.inl (x1)), none, some (.inl (x3))] [] σ := by
  refine zj_aload_n zd_Walls_readers_33 rfl ?_
  refine zj_getR rfl (by decide) rfl zu_Walls (k := 4) (by decide) rfl zl_Walls_20 zd_Walls_readers_34 (o' := 33) rfl ?_
  refine zj_aload_n zd_Walls_readers_37 rfl ?_
  refine zj_getR rfl (by decide) rfl zu_Walls (k := 0) (by decide) rfl zl_Walls_9 zd_Walls_readers_38 (o' := 1) rfl ?_
  refine zj_iload_n zd_Walls_readers_41 rfl ?_
  refine zj_caload rfl (by decide) b1 zd_Walls_readers_42 ?_
  refine zj_bipush (v := nI 48) zd_Walls_readers_43 (by decide) ?_
  refine zj_isub zd_Walls_readers_45 ?_
  exact zj_callVv (As := [.inl ((σ.1 1 k1) - (nI 48))]) hm hdp rfl (by decide) rfl zl_Walls_129 zq_City_addReader zd_Walls_readers_46 rfl (Nat.le_of_ble_eq_true rfl) (fun σ1 h => (k σ1 h))
theorem zb_Walls_readers_49 {Γ : zG} {σ : zS} {x1 x3 : Int32}  (k : z_J Γ zm_Walls_readers 28 [some (.inr (0)), some (.inl (x1)), none, some (.inl (x3 + nI 2))] [] σ) : z_J Γ zm_Walls_readers 49 [some (.inr (0)), some (.inl (x1)), none, some (.inl (x3))] [] σ := by
  refine zj_iinc (v := nI 2) (L' := [some (.inr (0)), some (.inl (x1)), none, some (.inl (x3 + nI 2))]) zd_Walls_readers_49 rfl (by decide) (by decide) rfl ?_
  exact zj_goto zd_Walls_readers_52 (by decide) k
theorem zb_Walls_readers_55 {Γ : zG} {σ : zS} {x1 : Int32} {dc : Nat} {P : zS → Prop}  (hm : z_Cv dc zm_Walls_forgetPast [.inr (0)] σ P) (hdp : dc < z_dep Γ) (k : ∀ σ1, P σ1 → z_J Γ zm_Walls_readers 59 [none, some (.inl (x1)), none, none] [] σ1) : z_J Γ zm_Walls_readers 55 [some (.inr (0)), some (.inl (x1)), none, none] [] σ := by
  refine zj_aload_n zd_Walls_readers_55 rfl ?_
  exact zj_callVv (As := []) hm hdp rfl (by decide) rfl zl_Walls_100 zq_Walls_forgetPast zd_Walls_readers_56 rfl (Nat.le_of_ble_eq_true rfl) (fun σ1 h => (zj_weak (L' := [none, some (.inl (x1)), none, none]) ⟨rfl, trivial⟩ (k σ1 h)))
theorem zb_Walls_readers_59 {Γ : zG} {σ : zS} {x1 : Int32}  (e : z_end Γ (some ((x1 + (nI 1)) / (nI 2))) σ) : z_J Γ zm_Walls_readers 59 [none, some (.inl (x1)), none, none] [] σ := by
  refine zj_iload_n zd_Walls_readers_59 rfl ?_
  refine zj_iconst (v := nI 1) zd_Walls_readers_60 (by decide) ?_
  refine zj_iadd zd_Walls_readers_61 ?_
  refine zj_iconst (v := nI 2) zd_Walls_readers_62 (by decide) ?_
  refine zj_idiv zd_Walls_readers_63 (by decide) ?_
  exact zj_ireturn rfl zd_Walls_readers_64 e
theorem zd_Walls_badSignOfReaders_0 : decode zm_Walls_badSignOfReaders.2.1 0 = .ok (.iconst 0, 1) := by decide +kernel
theorem zd_Walls_badSignOfReaders_1 : decode zm_Walls_badSignOfReaders.2.1 1 = .ok (.istore_n 2, 1) := by decide +kernel
theorem zd_Walls_badSignOfReaders_2 : decode zm_Walls_badSignOfReaders.2.1 2 = .ok (.iload_n 2, 1) := by decide +kernel
theorem zd_Walls_badSignOfReaders_3 : decode zm_Walls_badSignOfReaders.2.1 3 = .ok (.iload_n 1, 1) := by decide +kernel
theorem zd_Walls_badSignOfReaders_4 : decode zm_Walls_badSignOfReaders.2.1 4 = .ok (.if_icmp .ge 31, 3) := by decide +kernel
theorem zd_Walls_badSignOfReaders_7 : decode zm_Walls_badSignOfReaders.2.1 7 = .ok (.iload_n 2, 1) := by decide +kernel
theorem zd_Walls_badSignOfReaders_8 : decode zm_Walls_badSignOfReaders.2.1 8 = .ok (.bipush 7, 2) := by decide +kernel
theorem zd_Walls_badSignOfReaders_10 : decode zm_Walls_badSignOfReaders.2.1 10 = .ok (.if_icmp .eq 17, 3) := by decide +kernel
theorem zd_Walls_badSignOfReaders_13 : decode zm_Walls_badSignOfReaders.2.1 13 = .ok (.aload_n 0, 1) := by decide +kernel
theorem zd_Walls_badSignOfReaders_14 : decode zm_Walls_badSignOfReaders.2.1 14 = .ok (.iload_n 2, 1) := by decide +kernel
theorem zd_Walls_badSignOfReaders_15 : decode zm_Walls_badSignOfReaders.2.1 15 = .ok (.aload_n 0, 1) := by decide +kernel
theorem zd_Walls_badSignOfReaders_16 : decode zm_Walls_badSignOfReaders.2.1 16 = .ok (.getfield 9, 3) := by decide +kernel
theorem zd_Walls_badSignOfReaders_19 : decode zm_Walls_badSignOfReaders.2.1 19 = .ok (.iload_n 2, 1) := by decide +kernel
theorem zd_Walls_badSignOfReaders_20 : decode zm_Walls_badSignOfReaders.2.1 20 = .ok (.caload, 1) := by decide +kernel
theorem zd_Walls_badSignOfReaders_21 : decode zm_Walls_badSignOfReaders.2.1 21 = .ok (.invokevirtual 397, 3) := by decide +kernel
theorem zd_Walls_badSignOfReaders_24 : decode zm_Walls_badSignOfReaders.2.1 24 = .ok (.ifCond .ne 5, 3) := by decide +kernel
theorem zd_Walls_badSignOfReaders_27 : decode zm_Walls_badSignOfReaders.2.1 27 = .ok (.iload_n 2, 1) := by decide +kernel
theorem zd_Walls_badSignOfReaders_28 : decode zm_Walls_badSignOfReaders.2.1 28 = .ok (.ireturn, 1) := by decide +kernel
theorem zd_Walls_badSignOfReaders_29 : decode zm_Walls_badSignOfReaders.2.1 29 = .ok (.iinc 2 1, 3) := by decide +kernel
theorem zd_Walls_badSignOfReaders_32 : decode zm_Walls_badSignOfReaders.2.1 32 = .ok (.goto (-30), 3) := by decide +kernel
theorem zd_Walls_badSignOfReaders_35 : decode zm_Walls_badSignOfReaders.2.1 35 = .ok (.iload_n 1, 1) := by decide +kernel
theorem zd_Walls_badSignOfReaders_36 : decode zm_Walls_badSignOfReaders.2.1 36 = .ok (.iconst 2, 1) := by decide +kernel
theorem zd_Walls_badSignOfReaders_37 : decode zm_Walls_badSignOfReaders.2.1 37 = .ok (.irem, 1) := by decide +kernel
theorem zd_Walls_badSignOfReaders_38 : decode zm_Walls_badSignOfReaders.2.1 38 = .ok (.iconst 1, 1) := by decide +kernel
theorem zd_Walls_badSignOfReaders_39 : decode zm_Walls_badSignOfReaders.2.1 39 = .ok (.if_icmp .ne 7, 3) := by decide +kernel
theorem zd_Walls_badSignOfReaders_42 : decode zm_Walls_badSignOfReaders.2.1 42 = .ok (.iconst (-1), 1) := by decide +kernel
theorem zd_Walls_badSignOfReaders_43 : decode zm_Walls_badSignOfReaders.2.1 43 = .ok (.goto 4, 3) := by decide +kernel
theorem zd_Walls_badSignOfReaders_46 : decode zm_Walls_badSignOfReaders.2.1 46 = .ok (.iload_n 1, 1) := by decide +kernel
theorem zd_Walls_badSignOfReaders_47 : decode zm_Walls_badSignOfReaders.2.1 47 = .ok (.ireturn, 1) := by decide +kernel
theorem zb_Walls_badSignOfReaders_0 {Γ : zG} {σ : zS} {x1 : Int32}  (k : z_J Γ zm_Walls_badSignOfReaders 2 [some (.inr (0)), some (.inl (x1)), some (.inl (nI 0))] [] σ) : z_J Γ zm_Walls_badSignOfReaders 0 [some (.inr (0)), some (.inl (x1)), none] [] σ := by
  refine zj_iconst (v := nI 0) zd_Walls_badSignOfReaders_0 (by decide) ?_
  refine zj_istore_n (L' := [some (.inr (0)), some (.inl (x1)), some (.inl (nI 0))]) zd_Walls_badSignOfReaders_1 (by decide) rfl ?_
  exact k
theorem zb_Walls_badSignOfReaders_2 {Γ : zG} {σ : zS} {x1 x2 : Int32}  (kt : x1 ≤ x2 → z_J Γ zm_Walls_badSignOfReaders 35 [none, some (.inl (x1)), none] [] σ) (kf : ¬ x1 ≤ x2 → z_J Γ zm_Walls_badSignOfReaders 7 [some (.inr (0)), some (.inl (x1)), some (.inl (x2))] [] σ) : z_J Γ zm_Walls_badSignOfReaders 2 [some (.inr (0)), some (.inl (x1)), some (.inl (x2))] [] σ := by
  refine zj_iload_n zd_Walls_badSignOfReaders_2 rfl ?_
  refine zj_iload_n zd_Walls_badSignOfReaders_3 rfl ?_
  exact zj_icmp_ge zd_Walls_badSignOfReaders_4 (by decide) (fun h => (zj_weak (L' := [none, some (.inl (x1)), none]) ⟨rfl, trivial⟩ (kt h))) (fun h => (kf h))
theorem zb_Walls_badSignOfReaders_7 {Γ : zG} {σ : zS} {x1 x2 : Int32}  (kt : x2 = (nI 7) → z_J Γ zm_Walls_badSignOfReaders 27 [none, none, some (.inl (x2))] [] σ) (kf : ¬ x2 = (nI 7) → z_J Γ zm_Walls_badSignOfReaders 13 [some (.inr (0)), some (.inl (x1)), some (.inl (x2))] [] σ) : z_J Γ zm_Walls_badSignOfReaders 7 [some (.inr (0)), some (.inl (x1)), some (.inl (x2))] [] σ := by
  refine zj_iload_n zd_Walls_badSignOfReaders_7 rfl ?_
  refine zj_bipush (v := nI 7) zd_Walls_badSignOfReaders_8 (by decide) ?_
  exact zj_icmp_eq zd_Walls_badSignOfReaders_10 (by decide) (fun h => (zj_weak (L' := [none, none, some (.inl (x2))]) ⟨rfl, trivial⟩ (kt h))) (fun h => (kf h))
theorem zb_Walls_badSignOfReaders_13 {Γ : zG} {σ : zS} {x1 x2 : Int32} {k1 : Nat} {dc : Nat} {P : Int32 → zS → Prop}  (b1 : z_ix x2 80 k1) (hm : z_Ci dc zm_Walls_canStandInReaders [.inr (0), .inl (x2), .inl (σ.1 1 k1)] σ P) (hdp : dc < z_dep Γ) (k : ∀ r σ1, P r σ1 → z_J Γ zm_Walls_badSignOfReaders 24 [some (.inr (0)), some (.inl (x1)), some (.inl (x2))] [.inl (r)] σ1) : z_J Γ zm_Walls_badSignOfReaders 13 [some (.inr (0)), some (.inl (x1)), some (.inl (x2))] [] σ := by
  refine zj_aload_n zd_Walls_badSignOfReaders_13 rfl ?_
  refine zj_iload_n zd_Walls_badSignOfReaders_14 rfl ?_
  refine zj_aload_n zd_Walls_badSignOfReaders_15 rfl ?_
  refine zj_getR rfl (by decide) rfl zu_Walls (k := 0) (by decide) rfl zl_Walls_9 zd_Walls_badSignOfReaders_16 (o' := 1) rfl ?_
  refine zj_iload_n zd_Walls_badSignOfReaders_19 rfl ?_
  refine zj_caload rfl (by decide) b1 zd_Walls_badSignOfReaders_20 ?_
  exact zj_callVi (As := [.inl (x2), .inl (σ.1 1 k1)]) hm hdp rfl (by decide) rfl zl_Walls_397 zq_Walls_canStandInReaders zd_Walls_badSignOfReaders_21 rfl (Nat.le_of_ble_eq_true rfl) (fun r σ1 h => (k r σ1 h))
theorem zb_Walls_badSignOfReaders_24 {Γ : zG} {σ : zS} {x1 x2 y0 : Int32}  (kt : ¬ y0 = 0 → z_J Γ zm_Walls_badSignOfReaders 29 [some (.inr (0)), some (.inl (x1)), some (.inl (x2))] [] σ) (kf : y0 = 0 → z_J Γ zm_Walls_badSignOfReaders 27 [none, none, some (.inl (x2))] [] σ) : z_J Γ zm_Walls_badSignOfReaders 24 [some (.inr (0)), some (.inl (x1)), some (.inl (x2))] [.inl (y0)] σ := by
  exact zj_if_ne zd_Walls_badSignOfReaders_24 (by decide) (fun h => (kt h)) (fun h => (zj_weak (L' := [none, none, some (.inl (x2))]) ⟨rfl, trivial⟩ (kf h)))
theorem zb_Walls_badSignOfReaders_27 {Γ : zG} {σ : zS} {x2 : Int32}  (e : z_end Γ (some (x2)) σ) : z_J Γ zm_Walls_badSignOfReaders 27 [none, none, some (.inl (x2))] [] σ := by
  refine zj_iload_n zd_Walls_badSignOfReaders_27 rfl ?_
  exact zj_ireturn rfl zd_Walls_badSignOfReaders_28 e
theorem zb_Walls_badSignOfReaders_29 {Γ : zG} {σ : zS} {x1 x2 : Int32}  (k : z_J Γ zm_Walls_badSignOfReaders 2 [some (.inr (0)), some (.inl (x1)), some (.inl (x2 + nI 1))] [] σ) : z_J Γ zm_Walls_badSignOfReaders 29 [some (.inr (0)), some (.inl (x1)), some (.inl (x2))] [] σ := by
  refine zj_iinc (v := nI 1) (L' := [some (.inr (0)), some (.inl (x1)), some (.inl (x2 + nI 1))]) zd_Walls_badSignOfReaders_29 rfl (by decide) (by decide) rfl ?_
  exact zj_goto zd_Walls_badSignOfReaders_32 (by decide) k
theorem zb_Walls_badSignOfReaders_35 {Γ : zG} {σ : zS} {x1 : Int32}  (kt : ¬ (x1 - x1 / (nI 2) * (nI 2)) = (nI 1) → z_J Γ zm_Walls_badSignOfReaders 46 [none, some (.inl (x1)), none] [] σ) (kf : (x1 - x1 / (nI 2) * (nI 2)) = (nI 1) → z_J Γ zm_Walls_badSignOfReaders 42 [none, none, none] [] σ) : z_J Γ zm_Walls_badSignOfReaders 35 [none, some (.inl (x1)), none] [] σ := by
  refine zj_iload_n zd_Walls_badSignOfReaders_35 rfl ?_
  refine zj_iconst (v := nI 2) zd_Walls_badSignOfReaders_36 (by decide) ?_
  refine zj_irem zd_Walls_badSignOfReaders_37 (by decide) ?_
  refine zj_iconst (v := nI 1) zd_Walls_badSignOfReaders_38 (by decide) ?_
  exact zj_icmp_ne zd_Walls_badSignOfReaders_39 (by decide) (fun h => (kt h)) (fun h => (zj_weak (L' := [none, none, none]) trivial (kf h)))
theorem zb_Walls_badSignOfReaders_42 {Γ : zG} {σ : zS}  (k : z_J Γ zm_Walls_badSignOfReaders 47 [none, none, none] [.inl ((-1))] σ) : z_J Γ zm_Walls_badSignOfReaders 42 [none, none, none] [] σ := by
  refine zj_iconst (v := (-1)) zd_Walls_badSignOfReaders_42 (by decide) ?_
  exact zj_goto zd_Walls_badSignOfReaders_43 (by decide) k
theorem zb_Walls_badSignOfReaders_46 {Γ : zG} {σ : zS} {x1 : Int32}  (k : z_J Γ zm_Walls_badSignOfReaders 47 [none, none, none] [.inl (x1)] σ) : z_J Γ zm_Walls_badSignOfReaders 46 [none, some (.inl (x1)), none] [] σ := by
  refine zj_iload_n zd_Walls_badSignOfReaders_46 rfl ?_
  exact (zj_weak (L' := [none, none, none]) trivial k)
theorem zb_Walls_badSignOfReaders_47 {Γ : zG} {σ : zS} {y0 : Int32}  (e : z_end Γ (some (y0)) σ) : z_J Γ zm_Walls_badSignOfReaders 47 [none, none, none] [.inl (y0)] σ := by
  exact zj_ireturn rfl zd_Walls_badSignOfReaders_47 e
theorem zd_Walls_canStandInReaders_0 : decode zm_Walls_canStandInReaders.2.1 0 = .ok (.iload_n 1, 1) := by decide +kernel
theorem zd_Walls_canStandInReaders_1 : decode zm_Walls_canStandInReaders.2.1 1 = .ok (.iconst 2, 1) := by decide +kernel
theorem zd_Walls_canStandInReaders_2 : decode zm_Walls_canStandInReaders.2.1 2 = .ok (.irem, 1) := by decide +kernel
theorem zd_Walls_canStandInReaders_3 : decode zm_Walls_canStandInReaders.2.1 3 = .ok (.iconst 1, 1) := by decide +kernel
theorem zd_Walls_canStandInReaders_4 : decode zm_Walls_canStandInReaders.2.1 4 = .ok (.if_icmp .ne 15, 3) := by decide +kernel
theorem zd_Walls_canStandInReaders_7 : decode zm_Walls_canStandInReaders.2.1 7 = .ok (.iload_n 2, 1) := by decide +kernel
theorem zd_Walls_canStandInReaders_8 : decode zm_Walls_canStandInReaders.2.1 8 = .ok (.bipush 59, 2) := by decide +kernel
theorem zd_Walls_canStandInReaders_10 : decode zm_Walls_canStandInReaders.2.1 10 = .ok (.if_icmp .ne 7, 3) := by decide +kernel
theorem zd_Walls_canStandInReaders_13 : decode zm_Walls_canStandInReaders.2.1 13 = .ok (.iconst 1, 1) := by decide +kernel
theorem zd_Walls_canStandInReaders_14 : decode zm_Walls_canStandInReaders.2.1 14 = .ok (.goto 4, 3) := by decide +kernel
theorem zd_Walls_canStandInReaders_17 : decode zm_Walls_canStandInReaders.2.1 17 = .ok (.iconst 0, 1) := by decide +kernel
theorem zd_Walls_canStandInReaders_18 : decode zm_Walls_canStandInReaders.2.1 18 = .ok (.ireturn, 1) := by decide +kernel
theorem zd_Walls_canStandInReaders_19 : decode zm_Walls_canStandInReaders.2.1 19 = .ok (.iload_n 2, 1) := by decide +kernel
theorem zd_Walls_canStandInReaders_20 : decode zm_Walls_canStandInReaders.2.1 20 = .ok (.invokestatic 393, 3) := by decide +kernel
theorem zd_Walls_canStandInReaders_23 : decode zm_Walls_canStandInReaders.2.1 23 = .ok (.ifCond .eq 22, 3) := by decide +kernel
theorem zd_Walls_canStandInReaders_26 : decode zm_Walls_canStandInReaders.2.1 26 = .ok (.aload_n 0, 1) := by decide +kernel
theorem zd_Walls_canStandInReaders_27 : decode zm_Walls_canStandInReaders.2.1 27 = .ok (.getfield 20, 3) := by decide +kernel
theorem zd_Walls_canStandInReaders_30 : decode zm_Walls_canStandInReaders.2.1 30 = .ok (.getfield 375, 3) := by decide +kernel
theorem zd_Walls_canStandInReaders_33 : decode zm_Walls_canStandInReaders.2.1 33 = .ok (.iload_n 1, 1) := by decide +kernel
theorem zd_Walls_canStandInReaders_34 : decode zm_Walls_canStandInReaders.2.1 34 = .ok (.iconst 2, 1) := by decide +kernel
theorem zd_Walls_canStandInReaders_35 : decode zm_Walls_canStandInReaders.2.1 35 = .ok (.idiv, 1) := by decide +kernel
theorem zd_Walls_canStandInReaders_36 : decode zm_Walls_canStandInReaders.2.1 36 = .ok (.iadd, 1) := by decide +kernel
theorem zd_Walls_canStandInReaders_37 : decode zm_Walls_canStandInReaders.2.1 37 = .ok (.iconst 4, 1) := by decide +kernel
theorem zd_Walls_canStandInReaders_38 : decode zm_Walls_canStandInReaders.2.1 38 = .ok (.if_icmp .ge 7, 3) := by decide +kernel
theorem zd_Walls_canStandInReaders_41 : decode zm_Walls_canStandInReaders.2.1 41 = .ok (.iconst 1, 1) := by decide +kernel
theorem zd_Walls_canStandInReaders_42 : decode zm_Walls_canStandInReaders.2.1 42 = .ok (.goto 4, 3) := by decide +kernel
theorem zd_Walls_canStandInReaders_45 : decode zm_Walls_canStandInReaders.2.1 45 = .ok (.iconst 0, 1) := by decide +kernel
theorem zd_Walls_canStandInReaders_46 : decode zm_Walls_canStandInReaders.2.1 46 = .ok (.ireturn, 1) := by decide +kernel
theorem zb_Walls_canStandInReaders_0 {Γ : zG} {σ : zS} {x1 x2 : Int32}  (kt : ¬ (x1 - x1 / (nI 2) * (nI 2)) = (nI 1) → z_J Γ zm_Walls_canStandInReaders 19 [some (.inr (0)), some (.inl (x1)), some (.inl (x2))] [] σ) (kf : (x1 - x1 / (nI 2) * (nI 2)) = (nI 1) → z_J Γ zm_Walls_canStandInReaders 7 [none, none, some (.inl (x2))] [] σ) : z_J Γ zm_Walls_canStandInReaders 0 [some (.inr (0)), some (.inl (x1)), some (.inl (x2))] [] σ := by
  refine zj_iload_n zd_Walls_canStandInReaders_0 rfl ?_
  refine zj_iconst (v := nI 2) zd_Walls_canStandInReaders_1 (by decide) ?_
  refine zj_irem zd_Walls_canStandInReaders_2 (by decide) ?_
  refine zj_iconst (v := nI 1) zd_Walls_canStandInReaders_3 (by decide) ?_
  exact zj_icmp_ne zd_Walls_canStandInReaders_4 (by decide) (fun h => (kt h)) (fun h => (zj_weak (L' := [none, none, some (.inl (x2))]) ⟨rfl, trivial⟩ (kf h)))
theorem zb_Walls_canStandInReaders_7 {Γ : zG} {σ : zS} {x2 : Int32}  (kt : ¬ x2 = (nI 59) → z_J Γ zm_Walls_canStandInReaders 17 [none, none, none] [] σ) (kf : x2 = (nI 59) → z_J Γ zm_Walls_canStandInReaders 13 [none, none, none] [] σ) : z_J Γ zm_Walls_canStandInReaders 7 [none, none, some (.inl (x2))] [] σ := by
  refine zj_iload_n zd_Walls_canStandInReaders_7 rfl ?_
  refine zj_bipush (v := nI 59) zd_Walls_canStandInReaders_8 (by decide) ?_
  exact zj_icmp_ne zd_Walls_canStandInReaders_10 (by decide) (fun h => (zj_weak (L' := [none, none, none]) trivial (kt h))) (fun h => (zj_weak (L' := [none, none, none]) trivial (kf h)))
theorem zb_Walls_canStandInReaders_13 {Γ : zG} {σ : zS}  (k : z_J Γ zm_Walls_canStandInReaders 18 [none, none, none] [.inl (nI 1)] σ) : z_J Γ zm_Walls_canStandInReaders 13 [none, none, none] [] σ := by
  refine zj_iconst (v := nI 1) zd_Walls_canStandInReaders_13 (by decide) ?_
  exact zj_goto zd_Walls_canStandInReaders_14 (by decide) k
theorem zb_Walls_canStandInReaders_17 {Γ : zG} {σ : zS}  (k : z_J Γ zm_Walls_canStandInReaders 18 [none, none, none] [.inl (nI 0)] σ) : z_J Γ zm_Walls_canStandInReaders 17 [none, none, none] [] σ := by
  refine zj_iconst (v := nI 0) zd_Walls_canStandInReaders_17 (by decide) ?_
  exact k
theorem zb_Walls_canStandInReaders_18 {Γ : zG} {σ : zS} {y0 : Int32}  (e : z_end Γ (some (y0)) σ) (z1 : y0 = 0 ∨ y0 = 1) : z_J Γ zm_Walls_canStandInReaders 18 [none, none, none] [.inl (y0)] σ := by
  exact zj_zreturn rfl z1 zd_Walls_canStandInReaders_18 e
theorem zb_Walls_canStandInReaders_19 {Γ : zG} {σ : zS} {x1 x2 : Int32} {dc : Nat} {P : Int32 → zS → Prop}  (hm : z_Ci dc zm_Walls_isDigit [.inl (x2)] σ P) (hdp : dc < z_dep Γ) (k : ∀ r σ1, P r σ1 → z_J Γ zm_Walls_canStandInReaders 23 [some (.inr (0)), some (.inl (x1)), none] [.inl (r)] σ1) : z_J Γ zm_Walls_canStandInReaders 19 [some (.inr (0)), some (.inl (x1)), some (.inl (x2))] [] σ := by
  refine zj_iload_n zd_Walls_canStandInReaders_19 rfl ?_
  exact zj_callSi (As := [.inl (x2)]) hm hdp zl_Walls_393 zq_Walls_isDigit zd_Walls_canStandInReaders_20 rfl (Nat.le_of_ble_eq_true rfl) (fun r σ1 h => (zj_weak (L' := [some (.inr (0)), some (.inl (x1)), none]) ⟨rfl, ⟨rfl, trivial⟩⟩ (k r σ1 h)))
theorem zb_Walls_canStandInReaders_23 {Γ : zG} {σ : zS} {x1 y0 : Int32}  (kt : y0 = 0 → z_J Γ zm_Walls_canStandInReaders 45 [none, none, none] [] σ) (kf : ¬ y0 = 0 → z_J Γ zm_Walls_canStandInReaders 26 [some (.inr (0)), some (.inl (x1)), none] [] σ) : z_J Γ zm_Walls_canStandInReaders 23 [some (.inr (0)), some (.inl (x1)), none] [.inl (y0)] σ := by
  exact zj_if_eq zd_Walls_canStandInReaders_23 (by decide) (fun h => (zj_weak (L' := [none, none, none]) trivial (kt h))) (fun h => (kf h))
theorem zb_Walls_canStandInReaders_26 {Γ : zG} {σ : zS} {x1 : Int32}  (kt : (nI 4) ≤ ((σ.1 33 9) + (x1 / (nI 2))) → z_J Γ zm_Walls_canStandInReaders 45 [none, none, none] [] σ) (kf : ¬ (nI 4) ≤ ((σ.1 33 9) + (x1 / (nI 2))) → z_J Γ zm_Walls_canStandInReaders 41 [none, none, none] [] σ) : z_J Γ zm_Walls_canStandInReaders 26 [some (.inr (0)), some (.inl (x1)), none] [] σ := by
  refine zj_aload_n zd_Walls_canStandInReaders_26 rfl ?_
  refine zj_getR rfl (by decide) rfl zu_Walls (k := 4) (by decide) rfl zl_Walls_20 zd_Walls_canStandInReaders_27 (o' := 33) rfl ?_
  refine zj_getI rfl (by decide) rfl zu_City (k := 9) (by decide) rfl zl_Walls_375 zd_Walls_canStandInReaders_30 ?_
  refine zj_iload_n zd_Walls_canStandInReaders_33 rfl ?_
  refine zj_iconst (v := nI 2) zd_Walls_canStandInReaders_34 (by decide) ?_
  refine zj_idiv zd_Walls_canStandInReaders_35 (by decide) ?_
  refine zj_iadd zd_Walls_canStandInReaders_36 ?_
  refine zj_iconst (v := nI 4) zd_Walls_canStandInReaders_37 (by decide) ?_
  exact zj_icmp_ge zd_Walls_canStandInReaders_38 (by decide) (fun h => (zj_weak (L' := [none, none, none]) trivial (kt h))) (fun h => (zj_weak (L' := [none, none, none]) trivial (kf h)))
theorem zb_Walls_canStandInReaders_41 {Γ : zG} {σ : zS}  (k : z_J Γ zm_Walls_canStandInReaders 46 [none, none, none] [.inl (nI 1)] σ) : z_J Γ zm_Walls_canStandInReaders 41 [none, none, none] [] σ := by
  refine zj_iconst (v := nI 1) zd_Walls_canStandInReaders_41 (by decide) ?_
  exact zj_goto zd_Walls_canStandInReaders_42 (by decide) k
theorem zb_Walls_canStandInReaders_45 {Γ : zG} {σ : zS}  (k : z_J Γ zm_Walls_canStandInReaders 46 [none, none, none] [.inl (nI 0)] σ) : z_J Γ zm_Walls_canStandInReaders 45 [none, none, none] [] σ := by
  refine zj_iconst (v := nI 0) zd_Walls_canStandInReaders_45 (by decide) ?_
  exact k
theorem zb_Walls_canStandInReaders_46 {Γ : zG} {σ : zS} {y0 : Int32}  (e : z_end Γ (some (y0)) σ) (z1 : y0 = 0 ∨ y0 = 1) : z_J Γ zm_Walls_canStandInReaders 46 [none, none, none] [.inl (y0)] σ := by
  exact zj_zreturn rfl z1 zd_Walls_canStandInReaders_46 e
theorem zd_Walls_rule_0 : decode zm_Walls_rule.2.1 0 = .ok (.aload_n 0, 1) := by decide +kernel
theorem zd_Walls_rule_1 : decode zm_Walls_rule.2.1 1 = .ok (.invokevirtual 133, 3) := by decide +kernel
theorem zd_Walls_rule_4 : decode zm_Walls_rule.2.1 4 = .ok (.istore_n 1, 1) := by decide +kernel
theorem zd_Walls_rule_5 : decode zm_Walls_rule.2.1 5 = .ok (.iload_n 1, 1) := by decide +kernel
theorem zd_Walls_rule_6 : decode zm_Walls_rule.2.1 6 = .ok (.iconst (-1), 1) := by decide +kernel
theorem zd_Walls_rule_7 : decode zm_Walls_rule.2.1 7 = .ok (.if_icmp .eq 7, 3) := by decide +kernel
theorem zd_Walls_rule_10 : decode zm_Walls_rule.2.1 10 = .ok (.iconst (-1), 1) := by decide +kernel
theorem zd_Walls_rule_11 : decode zm_Walls_rule.2.1 11 = .ok (.iload_n 1, 1) := by decide +kernel
theorem zd_Walls_rule_12 : decode zm_Walls_rule.2.1 12 = .ok (.isub, 1) := by decide +kernel
theorem zd_Walls_rule_13 : decode zm_Walls_rule.2.1 13 = .ok (.ireturn, 1) := by decide +kernel
theorem zd_Walls_rule_14 : decode zm_Walls_rule.2.1 14 = .ok (.aload_n 0, 1) := by decide +kernel
theorem zd_Walls_rule_15 : decode zm_Walls_rule.2.1 15 = .ok (.getfield 30, 3) := by decide +kernel
theorem zd_Walls_rule_18 : decode zm_Walls_rule.2.1 18 = .ok (.astore_n 2, 1) := by decide +kernel
theorem zd_Walls_rule_19 : decode zm_Walls_rule.2.1 19 = .ok (.aload_n 0, 1) := by decide +kernel
theorem zd_Walls_rule_20 : decode zm_Walls_rule.2.1 20 = .ok (.aload_n 0, 1) := by decide +kernel
theorem zd_Walls_rule_21 : decode zm_Walls_rule.2.1 21 = .ok (.getfield 34, 3) := by decide +kernel
theorem zd_Walls_rule_24 : decode zm_Walls_rule.2.1 24 = .ok (.putfield 30, 3) := by decide +kernel
theorem zd_Walls_rule_27 : decode zm_Walls_rule.2.1 27 = .ok (.aload_n 0, 1) := by decide +kernel
theorem zd_Walls_rule_28 : decode zm_Walls_rule.2.1 28 = .ok (.aload_n 2, 1) := by decide +kernel
theorem zd_Walls_rule_29 : decode zm_Walls_rule.2.1 29 = .ok (.putfield 34, 3) := by decide +kernel
theorem zd_Walls_rule_32 : decode zm_Walls_rule.2.1 32 = .ok (.iconst 0, 1) := by decide +kernel
theorem zd_Walls_rule_33 : decode zm_Walls_rule.2.1 33 = .ok (.ireturn, 1) := by decide +kernel
theorem zb_Walls_rule_0 {Γ : zG} {σ : zS} {dc : Nat} {P : Int32 → zS → Prop}  (hm : z_Ci dc zm_Walls_readAnother [.inr (0)] σ P) (hdp : dc < z_dep Γ) (k : ∀ r σ1, P r σ1 → z_J Γ zm_Walls_rule 4 [some (.inr (0)), none, none] [.inl (r)] σ1) : z_J Γ zm_Walls_rule 0 [some (.inr (0)), none, none] [] σ := by
  refine zj_aload_n zd_Walls_rule_0 rfl ?_
  exact zj_callVi (As := []) hm hdp rfl (by decide) rfl zl_Walls_133 zq_Walls_readAnother zd_Walls_rule_1 rfl (Nat.le_of_ble_eq_true rfl) (fun r σ1 h => (k r σ1 h))
theorem zb_Walls_rule_4 {Γ : zG} {σ : zS} {y0 : Int32}  (kt : y0 = (-1) → z_J Γ zm_Walls_rule 14 [some (.inr (0)), none, none] [] σ) (kf : ¬ y0 = (-1) → z_J Γ zm_Walls_rule 10 [none, some (.inl (y0)), none] [] σ) : z_J Γ zm_Walls_rule 4 [some (.inr (0)), none, none] [.inl (y0)] σ := by
  refine zj_istore_n (L' := [some (.inr (0)), some (.inl (y0)), none]) zd_Walls_rule_4 (by decide) rfl ?_
  refine zj_iload_n zd_Walls_rule_5 rfl ?_
  refine zj_iconst (v := (-1)) zd_Walls_rule_6 (by decide) ?_
  exact zj_icmp_eq zd_Walls_rule_7 (by decide) (fun h => (zj_weak (L' := [some (.inr (0)), none, none]) ⟨rfl, trivial⟩ (kt h))) (fun h => (zj_weak (L' := [none, some (.inl (y0)), none]) ⟨rfl, trivial⟩ (kf h)))
theorem zb_Walls_rule_10 {Γ : zG} {σ : zS} {x1 : Int32}  (e : z_end Γ (some ((-1) - x1)) σ) : z_J Γ zm_Walls_rule 10 [none, some (.inl (x1)), none] [] σ := by
  refine zj_iconst (v := (-1)) zd_Walls_rule_10 (by decide) ?_
  refine zj_iload_n zd_Walls_rule_11 rfl ?_
  refine zj_isub zd_Walls_rule_12 ?_
  exact zj_ireturn rfl zd_Walls_rule_13 e
theorem zb_Walls_rule_14 {Γ : zG} {σ : zS}  (m1 : z_oR (σ.2 0 6)) (m2 : z_oR (σ.2 0 7)) (e : z_end Γ (some (nI 0)) (z_pR (z_pR σ 0 6 (σ.2 0 7)) 0 7 (σ.2 0 6))) : z_J Γ zm_Walls_rule 14 [some (.inr (0)), none, none] [] σ := by
  refine zj_aload_n zd_Walls_rule_14 rfl ?_
  refine zj_getM rfl (by decide) rfl zu_Walls (k := 6) (by decide) rfl zl_Walls_30 zd_Walls_rule_15 (zk_Rl m1) ?_
  refine zj_astore_n (L' := [some (.inr (0)), none, some (.inr (σ.2 0 6))]) zd_Walls_rule_18 (by decide) rfl ?_
  refine zj_aload_n zd_Walls_rule_19 rfl ?_
  refine zj_aload_n zd_Walls_rule_20 rfl ?_
  refine zj_getM rfl (by decide) rfl zu_Walls (k := 7) (by decide) rfl zl_Walls_34 zd_Walls_rule_21 (zk_Rl m2) ?_
  refine zj_putM rfl (by decide) rfl zu_Walls zy_Walls_ok zn_Walls (k := 6) (by decide) rfl rfl zl_Walls_30 (z_lt (zk_R0 m2) (by decide)) (fun _ => rfl) (fun _ => rfl) zd_Walls_rule_24 ?_
  refine zj_aload_n zd_Walls_rule_27 rfl ?_
  refine zj_aload_n zd_Walls_rule_28 rfl ?_
  refine zj_putM rfl (by decide) rfl zu_Walls zy_Walls_ok zn_Walls (k := 7) (by decide) rfl rfl zl_Walls_34 (z_lt (zk_R0 m1) (by decide)) (fun _ => rfl) (fun _ => rfl) zd_Walls_rule_29 ?_
  refine zj_iconst (v := nI 0) zd_Walls_rule_32 (by decide) ?_
  exact zj_ireturn rfl zd_Walls_rule_33 e
theorem zd_Walls_readAnother_0 : decode zm_Walls_readAnother.2.1 0 = .ok (.aload_n 0, 1) := by decide +kernel
theorem zd_Walls_readAnother_1 : decode zm_Walls_readAnother.2.1 1 = .ok (.invokevirtual 88, 3) := by decide +kernel
theorem zd_Walls_readAnother_4 : decode zm_Walls_readAnother.2.1 4 = .ok (.istore_n 1, 1) := by decide +kernel
theorem zd_Walls_readAnother_5 : decode zm_Walls_readAnother.2.1 5 = .ok (.iload_n 1, 1) := by decide +kernel
theorem zd_Walls_readAnother_6 : decode zm_Walls_readAnother.2.1 6 = .ok (.ifCond .ne 12, 3) := by decide +kernel
theorem zd_Walls_readAnother_9 : decode zm_Walls_readAnother.2.1 9 = .ok (.aload_n 0, 1) := by decide +kernel
theorem zd_Walls_readAnother_10 : decode zm_Walls_readAnother.2.1 10 = .ok (.getfield 34, 3) := by decide +kernel
theorem zd_Walls_readAnother_13 : decode zm_Walls_readAnother.2.1 13 = .ok (.invokevirtual 411, 3) := by decide +kernel
theorem zd_Walls_readAnother_16 : decode zm_Walls_readAnother.2.1 16 = .ok (.iconst (-1), 1) := by decide +kernel
theorem zd_Walls_readAnother_17 : decode zm_Walls_readAnother.2.1 17 = .ok (.ireturn, 1) := by decide +kernel
theorem zd_Walls_readAnother_18 : decode zm_Walls_readAnother.2.1 18 = .ok (.aload_n 0, 1) := by decide +kernel
theorem zd_Walls_readAnother_19 : decode zm_Walls_readAnother.2.1 19 = .ok (.getfield 34, 3) := by decide +kernel
theorem zd_Walls_readAnother_22 : decode zm_Walls_readAnother.2.1 22 = .ok (.aload_n 0, 1) := by decide +kernel
theorem zd_Walls_readAnother_23 : decode zm_Walls_readAnother.2.1 23 = .ok (.getfield 9, 3) := by decide +kernel
theorem zd_Walls_readAnother_26 : decode zm_Walls_readAnother.2.1 26 = .ok (.iload_n 1, 1) := by decide +kernel
theorem zd_Walls_readAnother_27 : decode zm_Walls_readAnother.2.1 27 = .ok (.invokevirtual 414, 3) := by decide +kernel
theorem zd_Walls_readAnother_30 : decode zm_Walls_readAnother.2.1 30 = .ok (.ireturn, 1) := by decide +kernel
theorem zb_Walls_readAnother_0 {Γ : zG} {σ : zS} {dc : Nat} {P : Int32 → zS → Prop}  (hm : z_Ci dc zm_Walls_takeText [.inr (0)] σ P) (hdp : dc < z_dep Γ) (k : ∀ r σ1, P r σ1 → z_J Γ zm_Walls_readAnother 4 [some (.inr (0)), none] [.inl (r)] σ1) : z_J Γ zm_Walls_readAnother 0 [some (.inr (0)), none] [] σ := by
  refine zj_aload_n zd_Walls_readAnother_0 rfl ?_
  exact zj_callVi (As := []) hm hdp rfl (by decide) rfl zl_Walls_88 zq_Walls_takeText zd_Walls_readAnother_1 rfl (Nat.le_of_ble_eq_true rfl) (fun r σ1 h => (k r σ1 h))
theorem zb_Walls_readAnother_4 {Γ : zG} {σ : zS} {y0 : Int32}  (kt : ¬ y0 = 0 → z_J Γ zm_Walls_readAnother 18 [some (.inr (0)), some (.inl (y0))] [] σ) (kf : y0 = 0 → z_J Γ zm_Walls_readAnother 9 [some (.inr (0)), none] [] σ) : z_J Γ zm_Walls_readAnother 4 [some (.inr (0)), none] [.inl (y0)] σ := by
  refine zj_istore_n (L' := [some (.inr (0)), some (.inl (y0))]) zd_Walls_readAnother_4 (by decide) rfl ?_
  refine zj_iload_n zd_Walls_readAnother_5 rfl ?_
  exact zj_if_ne zd_Walls_readAnother_6 (by decide) (fun h => (kt h)) (fun h => (zj_weak (L' := [some (.inr (0)), none]) ⟨rfl, trivial⟩ (kf h)))
theorem zb_Walls_readAnother_9 {Γ : zG} {σ : zS} {dc : Nat} {P : zS → Prop}  (m1 : z_oR (σ.2 0 7)) (hm : z_Cv dc zm_Rule_setUsual [.inr (σ.2 0 7)] σ P) (hdp : dc < z_dep Γ) (k : ∀ σ1, P σ1 → z_J Γ zm_Walls_readAnother 16 [none, none] [] σ1) : z_J Γ zm_Walls_readAnother 9 [some (.inr (0)), none] [] σ := by
  refine zj_aload_n zd_Walls_readAnother_9 rfl ?_
  refine zj_getM rfl (by decide) rfl zu_Walls (k := 7) (by decide) rfl zl_Walls_34 zd_Walls_readAnother_10 (zk_Rl m1) ?_
  exact zj_callVv (As := []) hm hdp (zk_R0 m1) (by decide) rfl zl_Walls_411 zq_Rule_setUsual zd_Walls_readAnother_13 rfl (Nat.le_of_ble_eq_true rfl) (fun σ1 h => (zj_weak (L' := [none, none]) trivial (k σ1 h)))
theorem zb_Walls_readAnother_16 {Γ : zG} {σ : zS}  (e : z_end Γ (some ((-1))) σ) : z_J Γ zm_Walls_readAnother 16 [none, none] [] σ := by
  refine zj_iconst (v := (-1)) zd_Walls_readAnother_16 (by decide) ?_
  exact zj_ireturn rfl zd_Walls_readAnother_17 e
theorem zb_Walls_readAnother_18 {Γ : zG} {σ : zS} {x1 : Int32} {dc : Nat} {P : Int32 → zS → Prop}  (m1 : z_oR (σ.2 0 7)) (hm : z_Ci dc zm_Rule_read [.inr (σ.2 0 7), .inr (1), .inl (x1)] σ P) (hdp : dc < z_dep Γ) (k : ∀ r σ1, P r σ1 → z_J Γ zm_Walls_readAnother 30 [none, none] [.inl (r)] σ1) : z_J Γ zm_Walls_readAnother 18 [some (.inr (0)), some (.inl (x1))] [] σ := by
  refine zj_aload_n zd_Walls_readAnother_18 rfl ?_
  refine zj_getM rfl (by decide) rfl zu_Walls (k := 7) (by decide) rfl zl_Walls_34 zd_Walls_readAnother_19 (zk_Rl m1) ?_
  refine zj_aload_n zd_Walls_readAnother_22 rfl ?_
  refine zj_getR rfl (by decide) rfl zu_Walls (k := 0) (by decide) rfl zl_Walls_9 zd_Walls_readAnother_23 (o' := 1) rfl ?_
  refine zj_iload_n zd_Walls_readAnother_26 rfl ?_
  exact zj_callVi (As := [.inr (1), .inl (x1)]) hm hdp (zk_R0 m1) (by decide) rfl zl_Walls_414 zq_Rule_read zd_Walls_readAnother_27 rfl (Nat.le_of_ble_eq_true rfl) (fun r σ1 h => (zj_weak (L' := [none, none]) trivial (k r σ1 h)))
theorem zb_Walls_readAnother_30 {Γ : zG} {σ : zS} {y0 : Int32}  (e : z_end Γ (some (y0)) σ) : z_J Γ zm_Walls_readAnother 30 [none, none] [.inl (y0)] σ := by
  exact zj_ireturn rfl zd_Walls_readAnother_30 e
theorem zd_Walls_sheet_0 : decode zm_Walls_sheet.2.1 0 = .ok (.iload_n 1, 1) := by decide +kernel
theorem zd_Walls_sheet_1 : decode zm_Walls_sheet.2.1 1 = .ok (.ifCond .lt 14, 3) := by decide +kernel
theorem zd_Walls_sheet_4 : decode zm_Walls_sheet.2.1 4 = .ok (.iload_n 1, 1) := by decide +kernel
theorem zd_Walls_sheet_5 : decode zm_Walls_sheet.2.1 5 = .ok (.iconst 3, 1) := by decide +kernel
theorem zd_Walls_sheet_6 : decode zm_Walls_sheet.2.1 6 = .ok (.if_icmp .gt 9, 3) := by decide +kernel
theorem zd_Walls_sheet_9 : decode zm_Walls_sheet.2.1 9 = .ok (.iload_n 2, 1) := by decide +kernel
theorem zd_Walls_sheet_10 : decode zm_Walls_sheet.2.1 10 = .ok (.bipush 12, 2) := by decide +kernel
theorem zd_Walls_sheet_12 : decode zm_Walls_sheet.2.1 12 = .ok (.if_icmp .le 5, 3) := by decide +kernel
theorem zd_Walls_sheet_15 : decode zm_Walls_sheet.2.1 15 = .ok (.iconst (-1), 1) := by decide +kernel
theorem zd_Walls_sheet_16 : decode zm_Walls_sheet.2.1 16 = .ok (.ireturn, 1) := by decide +kernel
theorem zd_Walls_sheet_17 : decode zm_Walls_sheet.2.1 17 = .ok (.iload_n 1, 1) := by decide +kernel
theorem zd_Walls_sheet_18 : decode zm_Walls_sheet.2.1 18 = .ok (.iconst 3, 1) := by decide +kernel
theorem zd_Walls_sheet_19 : decode zm_Walls_sheet.2.1 19 = .ok (.if_icmp .eq 10, 3) := by decide +kernel
theorem zd_Walls_sheet_22 : decode zm_Walls_sheet.2.1 22 = .ok (.iload_n 2, 1) := by decide +kernel
theorem zd_Walls_sheet_23 : decode zm_Walls_sheet.2.1 23 = .ok (.ifCond .ge 6, 3) := by decide +kernel
theorem zd_Walls_sheet_26 : decode zm_Walls_sheet.2.1 26 = .ok (.bipush (-2), 2) := by decide +kernel
theorem zd_Walls_sheet_28 : decode zm_Walls_sheet.2.1 28 = .ok (.ireturn, 1) := by decide +kernel
theorem zd_Walls_sheet_29 : decode zm_Walls_sheet.2.1 29 = .ok (.iload_n 1, 1) := by decide +kernel
theorem zd_Walls_sheet_30 : decode zm_Walls_sheet.2.1 30 = .ok (.iconst 3, 1) := by decide +kernel
theorem zd_Walls_sheet_31 : decode zm_Walls_sheet.2.1 31 = .ok (.if_icmp .ne 7, 3) := by decide +kernel
theorem zd_Walls_sheet_34 : decode zm_Walls_sheet.2.1 34 = .ok (.iconst 0, 1) := by decide +kernel
theorem zd_Walls_sheet_35 : decode zm_Walls_sheet.2.1 35 = .ok (.goto 4, 3) := by decide +kernel
theorem zd_Walls_sheet_38 : decode zm_Walls_sheet.2.1 38 = .ok (.iload_n 2, 1) := by decide +kernel
theorem zd_Walls_sheet_39 : decode zm_Walls_sheet.2.1 39 = .ok (.istore 5, 2) := by decide +kernel
theorem zd_Walls_sheet_41 : decode zm_Walls_sheet.2.1 41 = .ok (.iconst 0, 1) := by decide +kernel
theorem zd_Walls_sheet_42 : decode zm_Walls_sheet.2.1 42 = .ok (.istore 6, 2) := by decide +kernel
theorem zd_Walls_sheet_44 : decode zm_Walls_sheet.2.1 44 = .ok (.iconst 0, 1) := by decide +kernel
theorem zd_Walls_sheet_45 : decode zm_Walls_sheet.2.1 45 = .ok (.istore 7, 2) := by decide +kernel
theorem zd_Walls_sheet_47 : decode zm_Walls_sheet.2.1 47 = .ok (.iload 7, 2) := by decide +kernel
theorem zd_Walls_sheet_49 : decode zm_Walls_sheet.2.1 49 = .ok (.aload_n 0, 1) := by decide +kernel
theorem zd_Walls_sheet_50 : decode zm_Walls_sheet.2.1 50 = .ok (.getfield 20, 3) := by decide +kernel
theorem zd_Walls_sheet_53 : decode zm_Walls_sheet.2.1 53 = .ok (.getfield 210, 3) := by decide +kernel
theorem zd_Walls_sheet_56 : decode zm_Walls_sheet.2.1 56 = .ok (.if_icmp .ge 62, 3) := by decide +kernel
theorem zd_Walls_sheet_59 : decode zm_Walls_sheet.2.1 59 = .ok (.aload_n 0, 1) := by decide +kernel
theorem zd_Walls_sheet_60 : decode zm_Walls_sheet.2.1 60 = .ok (.getfield 20, 3) := by decide +kernel
theorem zd_Walls_sheet_63 : decode zm_Walls_sheet.2.1 63 = .ok (.getfield 147, 3) := by decide +kernel
theorem zd_Walls_sheet_66 : decode zm_Walls_sheet.2.1 66 = .ok (.iload 7, 2) := by decide +kernel
theorem zd_Walls_sheet_68 : decode zm_Walls_sheet.2.1 68 = .ok (.iload 7, 2) := by decide +kernel
theorem zd_Walls_sheet_70 : decode zm_Walls_sheet.2.1 70 = .ok (.iload 5, 2) := by decide +kernel
theorem zd_Walls_sheet_72 : decode zm_Walls_sheet.2.1 72 = .ok (.if_icmp .ge 23, 3) := by decide +kernel
theorem zd_Walls_sheet_75 : decode zm_Walls_sheet.2.1 75 = .ok (.iconst 1, 1) := by decide +kernel
theorem zd_Walls_sheet_76 : decode zm_Walls_sheet.2.1 76 = .ok (.iload_n 1, 1) := by decide +kernel
theorem zd_Walls_sheet_77 : decode zm_Walls_sheet.2.1 77 = .ok (.iload_n 3, 1) := by decide +kernel
theorem zd_Walls_sheet_78 : decode zm_Walls_sheet.2.1 78 = .ok (.iload 7, 2) := by decide +kernel
theorem zd_Walls_sheet_80 : decode zm_Walls_sheet.2.1 80 = .ok (.iload 4, 2) := by decide +kernel
theorem zd_Walls_sheet_82 : decode zm_Walls_sheet.2.1 82 = .ok (.imul, 1) := by decide +kernel
theorem zd_Walls_sheet_83 : decode zm_Walls_sheet.2.1 83 = .ok (.iadd, 1) := by decide +kernel
theorem zd_Walls_sheet_84 : decode zm_Walls_sheet.2.1 84 = .ok (.invokestatic 213, 3) := by decide +kernel
theorem zd_Walls_sheet_87 : decode zm_Walls_sheet.2.1 87 = .ok (.bipush 9, 2) := by decide +kernel
theorem zd_Walls_sheet_89 : decode zm_Walls_sheet.2.1 89 = .ok (.invokestatic 217, 3) := by decide +kernel
theorem zd_Walls_sheet_92 : decode zm_Walls_sheet.2.1 92 = .ok (.goto 4, 3) := by decide +kernel
theorem zd_Walls_sheet_95 : decode zm_Walls_sheet.2.1 95 = .ok (.iconst 1, 1) := by decide +kernel
theorem zd_Walls_sheet_96 : decode zm_Walls_sheet.2.1 96 = .ok (.iastore, 1) := by decide +kernel
theorem zd_Walls_sheet_97 : decode zm_Walls_sheet.2.1 97 = .ok (.iload 6, 2) := by decide +kernel
theorem zd_Walls_sheet_99 : decode zm_Walls_sheet.2.1 99 = .ok (.aload_n 0, 1) := by decide +kernel
theorem zd_Walls_sheet_100 : decode zm_Walls_sheet.2.1 100 = .ok (.getfield 20, 3) := by decide +kernel
theorem zd_Walls_sheet_103 : decode zm_Walls_sheet.2.1 103 = .ok (.getfield 147, 3) := by decide +kernel
theorem zd_Walls_sheet_106 : decode zm_Walls_sheet.2.1 106 = .ok (.iload 7, 2) := by decide +kernel
theorem zd_Walls_sheet_108 : decode zm_Walls_sheet.2.1 108 = .ok (.iaload, 1) := by decide +kernel
theorem zd_Walls_sheet_109 : decode zm_Walls_sheet.2.1 109 = .ok (.iadd, 1) := by decide +kernel
theorem zd_Walls_sheet_110 : decode zm_Walls_sheet.2.1 110 = .ok (.istore 6, 2) := by decide +kernel
theorem zd_Walls_sheet_112 : decode zm_Walls_sheet.2.1 112 = .ok (.iinc 7 1, 3) := by decide +kernel
theorem zd_Walls_sheet_115 : decode zm_Walls_sheet.2.1 115 = .ok (.goto (-68), 3) := by decide +kernel
theorem zd_Walls_sheet_118 : decode zm_Walls_sheet.2.1 118 = .ok (.iload_n 1, 1) := by decide +kernel
theorem zd_Walls_sheet_119 : decode zm_Walls_sheet.2.1 119 = .ok (.iconst 3, 1) := by decide +kernel
theorem zd_Walls_sheet_120 : decode zm_Walls_sheet.2.1 120 = .ok (.if_icmp .ne 8, 3) := by decide +kernel
theorem zd_Walls_sheet_123 : decode zm_Walls_sheet.2.1 123 = .ok (.bipush (-3), 2) := by decide +kernel
theorem zd_Walls_sheet_125 : decode zm_Walls_sheet.2.1 125 = .ok (.goto 5, 3) := by decide +kernel
theorem zd_Walls_sheet_128 : decode zm_Walls_sheet.2.1 128 = .ok (.iload 6, 2) := by decide +kernel
theorem zd_Walls_sheet_130 : decode zm_Walls_sheet.2.1 130 = .ok (.ireturn, 1) := by decide +kernel
theorem zb_Walls_sheet_0 {Γ : zG} {σ : zS} {x1 x2 x3 x4 : Int32}  (kt : x1 < 0 → z_J Γ zm_Walls_sheet 15 [none, none, none, none, none, none, none, none] [] σ) (kf : ¬ x1 < 0 → z_J Γ zm_Walls_sheet 4 [some (.inr (0)), some (.inl (x1)), some (.inl (x2)), some (.inl (x3)), some (.inl (x4)), none, none, none] [] σ) : z_J Γ zm_Walls_sheet 0 [some (.inr (0)), some (.inl (x1)), some (.inl (x2)), some (.inl (x3)), some (.inl (x4)), none, none, none] [] σ := by
  refine zj_iload_n zd_Walls_sheet_0 rfl ?_
  exact zj_if_lt zd_Walls_sheet_1 (by decide) (fun h => (zj_weak (L' := [none, none, none, none, none, none, none, none]) trivial (kt h))) (fun h => (kf h))
theorem zb_Walls_sheet_4 {Γ : zG} {σ : zS} {x1 x2 x3 x4 : Int32}  (kt : (nI 3) < x1 → z_J Γ zm_Walls_sheet 15 [none, none, none, none, none, none, none, none] [] σ) (kf : ¬ (nI 3) < x1 → z_J Γ zm_Walls_sheet 9 [some (.inr (0)), some (.inl (x1)), some (.inl (x2)), some (.inl (x3)), some (.inl (x4)), none, none, none] [] σ) : z_J Γ zm_Walls_sheet 4 [some (.inr (0)), some (.inl (x1)), some (.inl (x2)), some (.inl (x3)), some (.inl (x4)), none, none, none] [] σ := by
  refine zj_iload_n zd_Walls_sheet_4 rfl ?_
  refine zj_iconst (v := nI 3) zd_Walls_sheet_5 (by decide) ?_
  exact zj_icmp_gt zd_Walls_sheet_6 (by decide) (fun h => (zj_weak (L' := [none, none, none, none, none, none, none, none]) trivial (kt h))) (fun h => (kf h))
theorem zb_Walls_sheet_9 {Γ : zG} {σ : zS} {x1 x2 x3 x4 : Int32}  (kt : x2 ≤ (nI 12) → z_J Γ zm_Walls_sheet 17 [some (.inr (0)), some (.inl (x1)), some (.inl (x2)), some (.inl (x3)), some (.inl (x4)), none, none, none] [] σ) (kf : ¬ x2 ≤ (nI 12) → z_J Γ zm_Walls_sheet 15 [none, none, none, none, none, none, none, none] [] σ) : z_J Γ zm_Walls_sheet 9 [some (.inr (0)), some (.inl (x1)), some (.inl (x2)), some (.inl (x3)), some (.inl (x4)), none, none, none] [] σ := by
  refine zj_iload_n zd_Walls_sheet_9 rfl ?_
  refine zj_bipush (v := nI 12) zd_Walls_sheet_10 (by decide) ?_
  exact zj_icmp_le zd_Walls_sheet_12 (by decide) (fun h => (kt h)) (fun h => (zj_weak (L' := [none, none, none, none, none, none, none, none]) trivial (kf h)))
theorem zb_Walls_sheet_15 {Γ : zG} {σ : zS}  (e : z_end Γ (some ((-1))) σ) : z_J Γ zm_Walls_sheet 15 [none, none, none, none, none, none, none, none] [] σ := by
  refine zj_iconst (v := (-1)) zd_Walls_sheet_15 (by decide) ?_
  exact zj_ireturn rfl zd_Walls_sheet_16 e
theorem zb_Walls_sheet_17 {Γ : zG} {σ : zS} {x1 x2 x3 x4 : Int32}  (kt : x1 = (nI 3) → z_J Γ zm_Walls_sheet 29 [some (.inr (0)), some (.inl (x1)), some (.inl (x2)), some (.inl (x3)), some (.inl (x4)), none, none, none] [] σ) (kf : ¬ x1 = (nI 3) → z_J Γ zm_Walls_sheet 22 [some (.inr (0)), some (.inl (x1)), some (.inl (x2)), some (.inl (x3)), some (.inl (x4)), none, none, none] [] σ) : z_J Γ zm_Walls_sheet 17 [some (.inr (0)), some (.inl (x1)), some (.inl (x2)), some (.inl (x3)), some (.inl (x4)), none, none, none] [] σ := by
  refine zj_iload_n zd_Walls_sheet_17 rfl ?_
  refine zj_iconst (v := nI 3) zd_Walls_sheet_18 (by decide) ?_
  exact zj_icmp_eq zd_Walls_sheet_19 (by decide) (fun h => (kt h)) (fun h => (kf h))
theorem zb_Walls_sheet_22 {Γ : zG} {σ : zS} {x1 x2 x3 x4 : Int32}  (kt : 0 ≤ x2 → z_J Γ zm_Walls_sheet 29 [some (.inr (0)), some (.inl (x1)), some (.inl (x2)), some (.inl (x3)), some (.inl (x4)), none, none, none] [] σ) (kf : ¬ 0 ≤ x2 → z_J Γ zm_Walls_sheet 26 [none, none, none, none, none, none, none, none] [] σ) : z_J Γ zm_Walls_sheet 22 [some (.inr (0)), some (.inl (x1)), some (.inl (x2)), some (.inl (x3)), some (.inl (x4)), none, none, none] [] σ := by
  refine zj_iload_n zd_Walls_sheet_22 rfl ?_
  exact zj_if_ge zd_Walls_sheet_23 (by decide) (fun h => (kt h)) (fun h => (zj_weak (L' := [none, none, none, none, none, none, none, none]) trivial (kf h)))
theorem zb_Walls_sheet_26 {Γ : zG} {σ : zS}  (e : z_end Γ (some ((-2))) σ) : z_J Γ zm_Walls_sheet 26 [none, none, none, none, none, none, none, none] [] σ := by
  refine zj_bipush (v := (-2)) zd_Walls_sheet_26 (by decide) ?_
  exact zj_ireturn rfl zd_Walls_sheet_28 e
theorem zb_Walls_sheet_29 {Γ : zG} {σ : zS} {x1 x2 x3 x4 : Int32}  (kt : ¬ x1 = (nI 3) → z_J Γ zm_Walls_sheet 38 [some (.inr (0)), some (.inl (x1)), some (.inl (x2)), some (.inl (x3)), some (.inl (x4)), none, none, none] [] σ) (kf : x1 = (nI 3) → z_J Γ zm_Walls_sheet 34 [some (.inr (0)), some (.inl (x1)), none, some (.inl (x3)), some (.inl (x4)), none, none, none] [] σ) : z_J Γ zm_Walls_sheet 29 [some (.inr (0)), some (.inl (x1)), some (.inl (x2)), some (.inl (x3)), some (.inl (x4)), none, none, none] [] σ := by
  refine zj_iload_n zd_Walls_sheet_29 rfl ?_
  refine zj_iconst (v := nI 3) zd_Walls_sheet_30 (by decide) ?_
  exact zj_icmp_ne zd_Walls_sheet_31 (by decide) (fun h => (kt h)) (fun h => (zj_weak (L' := [some (.inr (0)), some (.inl (x1)), none, some (.inl (x3)), some (.inl (x4)), none, none, none]) ⟨rfl, ⟨rfl, ⟨rfl, ⟨rfl, trivial⟩⟩⟩⟩ (kf h)))
theorem zb_Walls_sheet_34 {Γ : zG} {σ : zS} {x1 x3 x4 : Int32}  (k : z_J Γ zm_Walls_sheet 39 [some (.inr (0)), some (.inl (x1)), none, some (.inl (x3)), some (.inl (x4)), none, none, none] [.inl (nI 0)] σ) : z_J Γ zm_Walls_sheet 34 [some (.inr (0)), some (.inl (x1)), none, some (.inl (x3)), some (.inl (x4)), none, none, none] [] σ := by
  refine zj_iconst (v := nI 0) zd_Walls_sheet_34 (by decide) ?_
  exact zj_goto zd_Walls_sheet_35 (by decide) k
theorem zb_Walls_sheet_38 {Γ : zG} {σ : zS} {x1 x2 x3 x4 : Int32}  (k : z_J Γ zm_Walls_sheet 39 [some (.inr (0)), some (.inl (x1)), none, some (.inl (x3)), some (.inl (x4)), none, none, none] [.inl (x2)] σ) : z_J Γ zm_Walls_sheet 38 [some (.inr (0)), some (.inl (x1)), some (.inl (x2)), some (.inl (x3)), some (.inl (x4)), none, none, none] [] σ := by
  refine zj_iload_n zd_Walls_sheet_38 rfl ?_
  exact (zj_weak (L' := [some (.inr (0)), some (.inl (x1)), none, some (.inl (x3)), some (.inl (x4)), none, none, none]) ⟨rfl, ⟨rfl, ⟨rfl, ⟨rfl, trivial⟩⟩⟩⟩ k)
theorem zb_Walls_sheet_39 {Γ : zG} {σ : zS} {x1 x3 x4 y0 : Int32}  (k : z_J Γ zm_Walls_sheet 47 [some (.inr (0)), some (.inl (x1)), none, some (.inl (x3)), some (.inl (x4)), some (.inl (y0)), some (.inl (nI 0)), some (.inl (nI 0))] [] σ) : z_J Γ zm_Walls_sheet 39 [some (.inr (0)), some (.inl (x1)), none, some (.inl (x3)), some (.inl (x4)), none, none, none] [.inl (y0)] σ := by
  refine zj_istore (L' := [some (.inr (0)), some (.inl (x1)), none, some (.inl (x3)), some (.inl (x4)), some (.inl (y0)), none, none]) zd_Walls_sheet_39 (by decide) rfl ?_
  refine zj_iconst (v := nI 0) zd_Walls_sheet_41 (by decide) ?_
  refine zj_istore (L' := [some (.inr (0)), some (.inl (x1)), none, some (.inl (x3)), some (.inl (x4)), some (.inl (y0)), some (.inl (nI 0)), none]) zd_Walls_sheet_42 (by decide) rfl ?_
  refine zj_iconst (v := nI 0) zd_Walls_sheet_44 (by decide) ?_
  refine zj_istore (L' := [some (.inr (0)), some (.inl (x1)), none, some (.inl (x3)), some (.inl (x4)), some (.inl (y0)), some (.inl (nI 0)), some (.inl (nI 0))]) zd_Walls_sheet_45 (by decide) rfl ?_
  exact k
theorem zb_Walls_sheet_47 {Γ : zG} {σ : zS} {x1 x3 x4 x5 x6 x7 : Int32}  (kt : (σ.1 33 0) ≤ x7 → z_J Γ zm_Walls_sheet 118 [none, some (.inl (x1)), none, none, none, none, some (.inl (x6)), none] [] σ) (kf : ¬ (σ.1 33 0) ≤ x7 → z_J Γ zm_Walls_sheet 59 [some (.inr (0)), some (.inl (x1)), none, some (.inl (x3)), some (.inl (x4)), some (.inl (x5)), some (.inl (x6)), some (.inl (x7))] [] σ) : z_J Γ zm_Walls_sheet 47 [some (.inr (0)), some (.inl (x1)), none, some (.inl (x3)), some (.inl (x4)), some (.inl (x5)), some (.inl (x6)), some (.inl (x7))] [] σ := by
  refine zj_iload zd_Walls_sheet_47 rfl ?_
  refine zj_aload_n zd_Walls_sheet_49 rfl ?_
  refine zj_getR rfl (by decide) rfl zu_Walls (k := 4) (by decide) rfl zl_Walls_20 zd_Walls_sheet_50 (o' := 33) rfl ?_
  refine zj_getI rfl (by decide) rfl zu_City (k := 0) (by decide) rfl zl_Walls_210 zd_Walls_sheet_53 ?_
  exact zj_icmp_ge zd_Walls_sheet_56 (by decide) (fun h => (zj_weak (L' := [none, some (.inl (x1)), none, none, none, none, some (.inl (x6)), none]) ⟨rfl, ⟨rfl, trivial⟩⟩ (kt h))) (fun h => (kf h))
theorem zb_Walls_sheet_59 {Γ : zG} {σ : zS} {x1 x3 x4 x5 x6 x7 : Int32}  (kt : x5 ≤ x7 → z_J Γ zm_Walls_sheet 95 [some (.inr (0)), some (.inl (x1)), none, some (.inl (x3)), some (.inl (x4)), some (.inl (x5)), some (.inl (x6)), some (.inl (x7))] [.inl (x7), .inr (34)] σ) (kf : ¬ x5 ≤ x7 → z_J Γ zm_Walls_sheet 75 [some (.inr (0)), some (.inl (x1)), none, some (.inl (x3)), some (.inl (x4)), some (.inl (x5)), some (.inl (x6)), some (.inl (x7))] [.inl (x7), .inr (34)] σ) : z_J Γ zm_Walls_sheet 59 [some (.inr (0)), some (.inl (x1)), none, some (.inl (x3)), some (.inl (x4)), some (.inl (x5)), some (.inl (x6)), some (.inl (x7))] [] σ := by
  refine zj_aload_n zd_Walls_sheet_59 rfl ?_
  refine zj_getR rfl (by decide) rfl zu_Walls (k := 4) (by decide) rfl zl_Walls_20 zd_Walls_sheet_60 (o' := 33) rfl ?_
  refine zj_getR rfl (by decide) rfl zu_City (k := 1) (by decide) rfl zl_Walls_147 zd_Walls_sheet_63 (o' := 34) rfl ?_
  refine zj_iload zd_Walls_sheet_66 rfl ?_
  refine zj_iload zd_Walls_sheet_68 rfl ?_
  refine zj_iload zd_Walls_sheet_70 rfl ?_
  exact zj_icmp_ge zd_Walls_sheet_72 (by decide) (fun h => (kt h)) (fun h => (kf h))
theorem zb_Walls_sheet_75 {Γ : zG} {σ : zS} {x1 x3 x4 x5 x6 x7 y0 : Int32} {dc : Nat} {P : Int32 → zS → Prop}  (hm : z_Ci dc zm_Walls_entryOf [.inl (x1), .inl (x3 + (x7 * x4))] σ P) (hdp : dc < z_dep Γ) (k : ∀ r σ1, P r σ1 → z_J Γ zm_Walls_sheet 87 [some (.inr (0)), some (.inl (x1)), none, some (.inl (x3)), some (.inl (x4)), some (.inl (x5)), some (.inl (x6)), some (.inl (x7))] [.inl (r), .inl (nI 1), .inl (y0), .inr (34)] σ1) : z_J Γ zm_Walls_sheet 75 [some (.inr (0)), some (.inl (x1)), none, some (.inl (x3)), some (.inl (x4)), some (.inl (x5)), some (.inl (x6)), some (.inl (x7))] [.inl (y0), .inr (34)] σ := by
  refine zj_iconst (v := nI 1) zd_Walls_sheet_75 (by decide) ?_
  refine zj_iload_n zd_Walls_sheet_76 rfl ?_
  refine zj_iload_n zd_Walls_sheet_77 rfl ?_
  refine zj_iload zd_Walls_sheet_78 rfl ?_
  refine zj_iload zd_Walls_sheet_80 rfl ?_
  refine zj_imul zd_Walls_sheet_82 ?_
  refine zj_iadd zd_Walls_sheet_83 ?_
  exact zj_callSi (As := [.inl (x1), .inl (x3 + (x7 * x4))]) hm hdp zl_Walls_213 zq_Walls_entryOf zd_Walls_sheet_84 rfl (Nat.le_of_ble_eq_true rfl) (fun r σ1 h => (k r σ1 h))
theorem zb_Walls_sheet_87 {Γ : zG} {σ : zS} {x1 x3 x4 x5 x6 x7 y0 y1 y2 : Int32} {dc : Nat} {P : Int32 → zS → Prop}  (hm : z_Ci dc zm_Walls_between [.inl (y1), .inl (y0), .inl (nI 9)] σ P) (hdp : dc < z_dep Γ) (k : ∀ r σ1, P r σ1 → z_J Γ zm_Walls_sheet 92 [some (.inr (0)), some (.inl (x1)), none, some (.inl (x3)), some (.inl (x4)), some (.inl (x5)), some (.inl (x6)), some (.inl (x7))] [.inl (r), .inl (y2), .inr (34)] σ1) : z_J Γ zm_Walls_sheet 87 [some (.inr (0)), some (.inl (x1)), none, some (.inl (x3)), some (.inl (x4)), some (.inl (x5)), some (.inl (x6)), some (.inl (x7))] [.inl (y0), .inl (y1), .inl (y2), .inr (34)] σ := by
  refine zj_bipush (v := nI 9) zd_Walls_sheet_87 (by decide) ?_
  exact zj_callSi (As := [.inl (y1), .inl (y0), .inl (nI 9)]) hm hdp zl_Walls_217 zq_Walls_between zd_Walls_sheet_89 rfl (Nat.le_of_ble_eq_true rfl) (fun r σ1 h => (k r σ1 h))
theorem zb_Walls_sheet_92 {Γ : zG} {σ : zS} {x1 x3 x4 x5 x6 x7 y0 y1 : Int32}  (k : z_J Γ zm_Walls_sheet 96 [some (.inr (0)), some (.inl (x1)), none, some (.inl (x3)), some (.inl (x4)), some (.inl (x5)), some (.inl (x6)), some (.inl (x7))] [.inl (y0), .inl (y1), .inr (34)] σ) : z_J Γ zm_Walls_sheet 92 [some (.inr (0)), some (.inl (x1)), none, some (.inl (x3)), some (.inl (x4)), some (.inl (x5)), some (.inl (x6)), some (.inl (x7))] [.inl (y0), .inl (y1), .inr (34)] σ := by
  exact zj_goto zd_Walls_sheet_92 (by decide) k
theorem zb_Walls_sheet_95 {Γ : zG} {σ : zS} {x1 x3 x4 x5 x6 x7 y0 : Int32}  (k : z_J Γ zm_Walls_sheet 96 [some (.inr (0)), some (.inl (x1)), none, some (.inl (x3)), some (.inl (x4)), some (.inl (x5)), some (.inl (x6)), some (.inl (x7))] [.inl (nI 1), .inl (y0), .inr (34)] σ) : z_J Γ zm_Walls_sheet 95 [some (.inr (0)), some (.inl (x1)), none, some (.inl (x3)), some (.inl (x4)), some (.inl (x5)), some (.inl (x6)), some (.inl (x7))] [.inl (y0), .inr (34)] σ := by
  refine zj_iconst (v := nI 1) zd_Walls_sheet_95 (by decide) ?_
  exact k
theorem zb_Walls_sheet_96 {Γ : zG} {σ : zS} {x1 x3 x4 x5 x6 x7 y0 y1 : Int32} {k1 k2 : Nat}  (b1 : z_ix y1 12 k1) (b2 : z_ix x7 12 k2) (k : z_J Γ zm_Walls_sheet 47 [some (.inr (0)), some (.inl (x1)), none, some (.inl (x3)), some (.inl (x4)), some (.inl (x5)), some (.inl (x6 + ((z_pI σ 34 k1 y0).1 34 k2))), some (.inl (x7 + nI 1))] [] (z_pI σ 34 k1 y0)) : z_J Γ zm_Walls_sheet 96 [some (.inr (0)), some (.inl (x1)), none, some (.inl (x3)), some (.inl (x4)), some (.inl (x5)), some (.inl (x6)), some (.inl (x7))] [.inl (y0), .inl (y1), .inr (34)] σ := by
  refine zj_iastore rfl (by decide) b1 zd_Walls_sheet_96 ?_
  refine zj_iload zd_Walls_sheet_97 rfl ?_
  refine zj_aload_n zd_Walls_sheet_99 rfl ?_
  refine zj_getR rfl (by decide) rfl zu_Walls (k := 4) (by decide) rfl zl_Walls_20 zd_Walls_sheet_100 (o' := 33) rfl ?_
  refine zj_getR rfl (by decide) rfl zu_City (k := 1) (by decide) rfl zl_Walls_147 zd_Walls_sheet_103 (o' := 34) rfl ?_
  refine zj_iload zd_Walls_sheet_106 rfl ?_
  refine zj_iaload rfl (by decide) b2 zd_Walls_sheet_108 ?_
  refine zj_iadd zd_Walls_sheet_109 ?_
  refine zj_istore (L' := [some (.inr (0)), some (.inl (x1)), none, some (.inl (x3)), some (.inl (x4)), some (.inl (x5)), some (.inl (x6 + ((z_pI σ 34 k1 y0).1 34 k2))), some (.inl (x7))]) zd_Walls_sheet_110 (by decide) rfl ?_
  refine zj_iinc (v := nI 1) (L' := [some (.inr (0)), some (.inl (x1)), none, some (.inl (x3)), some (.inl (x4)), some (.inl (x5)), some (.inl (x6 + ((z_pI σ 34 k1 y0).1 34 k2))), some (.inl (x7 + nI 1))]) zd_Walls_sheet_112 rfl (by decide) (by decide) rfl ?_
  exact zj_goto zd_Walls_sheet_115 (by decide) k
theorem zb_Walls_sheet_118 {Γ : zG} {σ : zS} {x1 x6 : Int32}  (kt : ¬ x1 = (nI 3) → z_J Γ zm_Walls_sheet 128 [none, none, none, none, none, none, some (.inl (x6)), none] [] σ) (kf : x1 = (nI 3) → z_J Γ zm_Walls_sheet 123 [none, none, none, none, none, none, none, none] [] σ) : z_J Γ zm_Walls_sheet 118 [none, some (.inl (x1)), none, none, none, none, some (.inl (x6)), none] [] σ := by
  refine zj_iload_n zd_Walls_sheet_118 rfl ?_
  refine zj_iconst (v := nI 3) zd_Walls_sheet_119 (by decide) ?_
  exact zj_icmp_ne zd_Walls_sheet_120 (by decide) (fun h => (zj_weak (L' := [none, none, none, none, none, none, some (.inl (x6)), none]) ⟨rfl, trivial⟩ (kt h))) (fun h => (zj_weak (L' := [none, none, none, none, none, none, none, none]) trivial (kf h)))
theorem zb_Walls_sheet_123 {Γ : zG} {σ : zS}  (k : z_J Γ zm_Walls_sheet 130 [none, none, none, none, none, none, none, none] [.inl ((-3))] σ) : z_J Γ zm_Walls_sheet 123 [none, none, none, none, none, none, none, none] [] σ := by
  refine zj_bipush (v := (-3)) zd_Walls_sheet_123 (by decide) ?_
  exact zj_goto zd_Walls_sheet_125 (by decide) k
theorem zb_Walls_sheet_128 {Γ : zG} {σ : zS} {x6 : Int32}  (k : z_J Γ zm_Walls_sheet 130 [none, none, none, none, none, none, none, none] [.inl (x6)] σ) : z_J Γ zm_Walls_sheet 128 [none, none, none, none, none, none, some (.inl (x6)), none] [] σ := by
  refine zj_iload zd_Walls_sheet_128 rfl ?_
  exact (zj_weak (L' := [none, none, none, none, none, none, none, none]) trivial k)
theorem zb_Walls_sheet_130 {Γ : zG} {σ : zS} {y0 : Int32}  (e : z_end Γ (some (y0)) σ) : z_J Γ zm_Walls_sheet 130 [none, none, none, none, none, none, none, none] [.inl (y0)] σ := by
  exact zj_ireturn rfl zd_Walls_sheet_130 e
theorem zd_Walls_entryOf_0 : decode zm_Walls_entryOf.2.1 0 = .ok (.iload_n 0, 1) := by decide +kernel
theorem zd_Walls_entryOf_1 : decode zm_Walls_entryOf.2.1 1 = .ok (.ifCond .ne 8, 3) := by decide +kernel
theorem zd_Walls_entryOf_4 : decode zm_Walls_entryOf.2.1 4 = .ok (.iload_n 1, 1) := by decide +kernel
theorem zd_Walls_entryOf_5 : decode zm_Walls_entryOf.2.1 5 = .ok (.i2b, 1) := by decide +kernel
theorem zd_Walls_entryOf_6 : decode zm_Walls_entryOf.2.1 6 = .ok (.goto 14, 3) := by decide +kernel
theorem zd_Walls_entryOf_9 : decode zm_Walls_entryOf.2.1 9 = .ok (.iload_n 0, 1) := by decide +kernel
theorem zd_Walls_entryOf_10 : decode zm_Walls_entryOf.2.1 10 = .ok (.iconst 1, 1) := by decide +kernel
theorem zd_Walls_entryOf_11 : decode zm_Walls_entryOf.2.1 11 = .ok (.if_icmp .ne 8, 3) := by decide +kernel
theorem zd_Walls_entryOf_14 : decode zm_Walls_entryOf.2.1 14 = .ok (.iload_n 1, 1) := by decide +kernel
theorem zd_Walls_entryOf_15 : decode zm_Walls_entryOf.2.1 15 = .ok (.i2s, 1) := by decide +kernel
theorem zd_Walls_entryOf_16 : decode zm_Walls_entryOf.2.1 16 = .ok (.goto 4, 3) := by decide +kernel
theorem zd_Walls_entryOf_19 : decode zm_Walls_entryOf.2.1 19 = .ok (.iload_n 1, 1) := by decide +kernel
theorem zd_Walls_entryOf_20 : decode zm_Walls_entryOf.2.1 20 = .ok (.ireturn, 1) := by decide +kernel
theorem zb_Walls_entryOf_0 {Γ : zG} {σ : zS} {x0 x1 : Int32}  (kt : ¬ x0 = 0 → z_J Γ zm_Walls_entryOf 9 [some (.inl (x0)), some (.inl (x1))] [] σ) (kf : x0 = 0 → z_J Γ zm_Walls_entryOf 4 [none, some (.inl (x1))] [] σ) : z_J Γ zm_Walls_entryOf 0 [some (.inl (x0)), some (.inl (x1))] [] σ := by
  refine zj_iload_n zd_Walls_entryOf_0 rfl ?_
  exact zj_if_ne zd_Walls_entryOf_1 (by decide) (fun h => (kt h)) (fun h => (zj_weak (L' := [none, some (.inl (x1))]) ⟨rfl, trivial⟩ (kf h)))
theorem zb_Walls_entryOf_4 {Γ : zG} {σ : zS} {x1 : Int32}  (k : z_J Γ zm_Walls_entryOf 20 [none, none] [.inl ((x1).toInt8.toInt32)] σ) : z_J Γ zm_Walls_entryOf 4 [none, some (.inl (x1))] [] σ := by
  refine zj_iload_n zd_Walls_entryOf_4 rfl ?_
  refine zj_i2b zd_Walls_entryOf_5 ?_
  exact zj_goto zd_Walls_entryOf_6 (by decide) (zj_weak (L' := [none, none]) trivial k)
theorem zb_Walls_entryOf_9 {Γ : zG} {σ : zS} {x0 x1 : Int32}  (kt : ¬ x0 = (nI 1) → z_J Γ zm_Walls_entryOf 19 [none, some (.inl (x1))] [] σ) (kf : x0 = (nI 1) → z_J Γ zm_Walls_entryOf 14 [none, some (.inl (x1))] [] σ) : z_J Γ zm_Walls_entryOf 9 [some (.inl (x0)), some (.inl (x1))] [] σ := by
  refine zj_iload_n zd_Walls_entryOf_9 rfl ?_
  refine zj_iconst (v := nI 1) zd_Walls_entryOf_10 (by decide) ?_
  exact zj_icmp_ne zd_Walls_entryOf_11 (by decide) (fun h => (zj_weak (L' := [none, some (.inl (x1))]) ⟨rfl, trivial⟩ (kt h))) (fun h => (zj_weak (L' := [none, some (.inl (x1))]) ⟨rfl, trivial⟩ (kf h)))
theorem zb_Walls_entryOf_14 {Γ : zG} {σ : zS} {x1 : Int32}  (k : z_J Γ zm_Walls_entryOf 20 [none, none] [.inl ((x1).toInt16.toInt32)] σ) : z_J Γ zm_Walls_entryOf 14 [none, some (.inl (x1))] [] σ := by
  refine zj_iload_n zd_Walls_entryOf_14 rfl ?_
  refine zj_i2s zd_Walls_entryOf_15 ?_
  exact zj_goto zd_Walls_entryOf_16 (by decide) (zj_weak (L' := [none, none]) trivial k)
theorem zb_Walls_entryOf_19 {Γ : zG} {σ : zS} {x1 : Int32}  (k : z_J Γ zm_Walls_entryOf 20 [none, none] [.inl (x1)] σ) : z_J Γ zm_Walls_entryOf 19 [none, some (.inl (x1))] [] σ := by
  refine zj_iload_n zd_Walls_entryOf_19 rfl ?_
  exact (zj_weak (L' := [none, none]) trivial k)
theorem zb_Walls_entryOf_20 {Γ : zG} {σ : zS} {y0 : Int32}  (e : z_end Γ (some (y0)) σ) : z_J Γ zm_Walls_entryOf 20 [none, none] [.inl (y0)] σ := by
  exact zj_ireturn rfl zd_Walls_entryOf_20 e
theorem zd_Walls_lay_0 : decode zm_Walls_lay.2.1 0 = .ok (.aload_n 0, 1) := by decide +kernel
theorem zd_Walls_lay_1 : decode zm_Walls_lay.2.1 1 = .ok (.getfield 47, 3) := by decide +kernel
theorem zd_Walls_lay_4 : decode zm_Walls_lay.2.1 4 = .ok (.aload_n 0, 1) := by decide +kernel
theorem zd_Walls_lay_5 : decode zm_Walls_lay.2.1 5 = .ok (.getfield 20, 3) := by decide +kernel
theorem zd_Walls_lay_8 : decode zm_Walls_lay.2.1 8 = .ok (.invokevirtual 221, 3) := by decide +kernel
theorem zd_Walls_lay_11 : decode zm_Walls_lay.2.1 11 = .ok (.aload_n 0, 1) := by decide +kernel
theorem zd_Walls_lay_12 : decode zm_Walls_lay.2.1 12 = .ok (.aload_n 0, 1) := by decide +kernel
theorem zd_Walls_lay_13 : decode zm_Walls_lay.2.1 13 = .ok (.getfield 20, 3) := by decide +kernel
theorem zd_Walls_lay_16 : decode zm_Walls_lay.2.1 16 = .ok (.iload_n 1, 1) := by decide +kernel
theorem zd_Walls_lay_17 : decode zm_Walls_lay.2.1 17 = .ok (.iload_n 2, 1) := by decide +kernel
theorem zd_Walls_lay_18 : decode zm_Walls_lay.2.1 18 = .ok (.aload_n 0, 1) := by decide +kernel
theorem zd_Walls_lay_19 : decode zm_Walls_lay.2.1 19 = .ok (.getfield 30, 3) := by decide +kernel
theorem zd_Walls_lay_22 : decode zm_Walls_lay.2.1 22 = .ok (.invokevirtual 224, 3) := by decide +kernel
theorem zd_Walls_lay_25 : decode zm_Walls_lay.2.1 25 = .ok (.invokevirtual 227, 3) := by decide +kernel
theorem zd_Walls_lay_28 : decode zm_Walls_lay.2.1 28 = .ok (.ireturn, 1) := by decide +kernel
theorem zb_Walls_lay_0 {Γ : zG} {σ : zS} {x1 x2 : Int32} {dc : Nat} {P : zS → Prop}  (hm : z_Cv dc zm_History_mark [.inr (11), .inr (33)] σ P) (hdp : dc < z_dep Γ) (k : ∀ σ1, P σ1 → z_J Γ zm_Walls_lay 11 [some (.inr (0)), some (.inl (x1)), some (.inl (x2))] [] σ1) : z_J Γ zm_Walls_lay 0 [some (.inr (0)), some (.inl (x1)), some (.inl (x2))] [] σ := by
  refine zj_aload_n zd_Walls_lay_0 rfl ?_
  refine zj_getR rfl (by decide) rfl zu_Walls (k := 9) (by decide) rfl zl_Walls_47 zd_Walls_lay_1 (o' := 11) rfl ?_
  refine zj_aload_n zd_Walls_lay_4 rfl ?_
  refine zj_getR rfl (by decide) rfl zu_Walls (k := 4) (by decide) rfl zl_Walls_20 zd_Walls_lay_5 (o' := 33) rfl ?_
  exact zj_callVv (As := [.inr (33)]) hm hdp rfl (by decide) rfl zl_Walls_221 zq_History_mark zd_Walls_lay_8 rfl (Nat.le_of_ble_eq_true rfl) (fun σ1 h => (k σ1 h))
theorem zb_Walls_lay_11 {Γ : zG} {σ : zS} {x1 x2 : Int32} {dc : Nat} {P : Int32 → zS → Prop}  (m1 : z_oR (σ.2 0 6)) (hm : z_Ci dc zm_City_layOn [.inr (33), .inl (x1), .inl (x2), .inr (σ.2 0 6)] σ P) (hdp : dc < z_dep Γ) (k : ∀ r σ1, P r σ1 → z_J Γ zm_Walls_lay 25 [none, none, none] [.inl (r), .inr (0)] σ1) : z_J Γ zm_Walls_lay 11 [some (.inr (0)), some (.inl (x1)), some (.inl (x2))] [] σ := by
  refine zj_aload_n zd_Walls_lay_11 rfl ?_
  refine zj_aload_n zd_Walls_lay_12 rfl ?_
  refine zj_getR rfl (by decide) rfl zu_Walls (k := 4) (by decide) rfl zl_Walls_20 zd_Walls_lay_13 (o' := 33) rfl ?_
  refine zj_iload_n zd_Walls_lay_16 rfl ?_
  refine zj_iload_n zd_Walls_lay_17 rfl ?_
  refine zj_aload_n zd_Walls_lay_18 rfl ?_
  refine zj_getM rfl (by decide) rfl zu_Walls (k := 6) (by decide) rfl zl_Walls_30 zd_Walls_lay_19 (zk_Rl m1) ?_
  exact zj_callVi (As := [.inl (x1), .inl (x2), .inr (σ.2 0 6)]) hm hdp rfl (by decide) rfl zl_Walls_224 zq_City_layOn zd_Walls_lay_22 rfl (Nat.le_of_ble_eq_true rfl) (fun r σ1 h => (zj_weak (L' := [none, none, none]) trivial (k r σ1 h)))
theorem zb_Walls_lay_25 {Γ : zG} {σ : zS} {y0 : Int32} {dc : Nat} {P : Int32 → zS → Prop}  (hm : z_Ci dc zm_Walls_keepIfDone [.inr (0), .inl (y0)] σ P) (hdp : dc < z_dep Γ) (k : ∀ r σ1, P r σ1 → z_J Γ zm_Walls_lay 28 [none, none, none] [.inl (r)] σ1) : z_J Γ zm_Walls_lay 25 [none, none, none] [.inl (y0), .inr (0)] σ := by
  exact zj_callVi (As := [.inl (y0)]) hm hdp rfl (by decide) rfl zl_Walls_227 zq_Walls_keepIfDone zd_Walls_lay_25 rfl (Nat.le_of_ble_eq_true rfl) (fun r σ1 h => (k r σ1 h))
theorem zb_Walls_lay_28 {Γ : zG} {σ : zS} {y0 : Int32}  (e : z_end Γ (some (y0)) σ) : z_J Γ zm_Walls_lay 28 [none, none, none] [.inl (y0)] σ := by
  exact zj_ireturn rfl zd_Walls_lay_28 e
theorem zd_Walls_keepIfDone_0 : decode zm_Walls_keepIfDone.2.1 0 = .ok (.iload_n 1, 1) := by decide +kernel
theorem zd_Walls_keepIfDone_1 : decode zm_Walls_keepIfDone.2.1 1 = .ok (.ifCond .lt 10, 3) := by decide +kernel
theorem zd_Walls_keepIfDone_4 : decode zm_Walls_keepIfDone.2.1 4 = .ok (.aload_n 0, 1) := by decide +kernel
theorem zd_Walls_keepIfDone_5 : decode zm_Walls_keepIfDone.2.1 5 = .ok (.getfield 47, 3) := by decide +kernel
theorem zd_Walls_keepIfDone_8 : decode zm_Walls_keepIfDone.2.1 8 = .ok (.invokevirtual 248, 3) := by decide +kernel
theorem zd_Walls_keepIfDone_11 : decode zm_Walls_keepIfDone.2.1 11 = .ok (.iload_n 1, 1) := by decide +kernel
theorem zd_Walls_keepIfDone_12 : decode zm_Walls_keepIfDone.2.1 12 = .ok (.ireturn, 1) := by decide +kernel
theorem zb_Walls_keepIfDone_0 {Γ : zG} {σ : zS} {x1 : Int32}  (kt : x1 < 0 → z_J Γ zm_Walls_keepIfDone 11 [none, some (.inl (x1))] [] σ) (kf : ¬ x1 < 0 → z_J Γ zm_Walls_keepIfDone 4 [some (.inr (0)), some (.inl (x1))] [] σ) : z_J Γ zm_Walls_keepIfDone 0 [some (.inr (0)), some (.inl (x1))] [] σ := by
  refine zj_iload_n zd_Walls_keepIfDone_0 rfl ?_
  exact zj_if_lt zd_Walls_keepIfDone_1 (by decide) (fun h => (zj_weak (L' := [none, some (.inl (x1))]) ⟨rfl, trivial⟩ (kt h))) (fun h => (kf h))
theorem zb_Walls_keepIfDone_4 {Γ : zG} {σ : zS} {x1 : Int32} {dc : Nat} {P : zS → Prop}  (hm : z_Cv dc zm_History_keepMark [.inr (11)] σ P) (hdp : dc < z_dep Γ) (k : ∀ σ1, P σ1 → z_J Γ zm_Walls_keepIfDone 11 [none, some (.inl (x1))] [] σ1) : z_J Γ zm_Walls_keepIfDone 4 [some (.inr (0)), some (.inl (x1))] [] σ := by
  refine zj_aload_n zd_Walls_keepIfDone_4 rfl ?_
  refine zj_getR rfl (by decide) rfl zu_Walls (k := 9) (by decide) rfl zl_Walls_47 zd_Walls_keepIfDone_5 (o' := 11) rfl ?_
  exact zj_callVv (As := []) hm hdp rfl (by decide) rfl zl_Walls_248 zq_History_keepMark zd_Walls_keepIfDone_8 rfl (Nat.le_of_ble_eq_true rfl) (fun σ1 h => (zj_weak (L' := [none, some (.inl (x1))]) ⟨rfl, trivial⟩ (k σ1 h)))
theorem zb_Walls_keepIfDone_11 {Γ : zG} {σ : zS} {x1 : Int32}  (e : z_end Γ (some (x1)) σ) : z_J Γ zm_Walls_keepIfDone 11 [none, some (.inl (x1))] [] σ := by
  refine zj_iload_n zd_Walls_keepIfDone_11 rfl ?_
  exact zj_ireturn rfl zd_Walls_keepIfDone_12 e
theorem zd_Walls_lend_0 : decode zm_Walls_lend.2.1 0 = .ok (.aload_n 0, 1) := by decide +kernel
theorem zd_Walls_lend_1 : decode zm_Walls_lend.2.1 1 = .ok (.getfield 47, 3) := by decide +kernel
theorem zd_Walls_lend_4 : decode zm_Walls_lend.2.1 4 = .ok (.aload_n 0, 1) := by decide +kernel
theorem zd_Walls_lend_5 : decode zm_Walls_lend.2.1 5 = .ok (.getfield 20, 3) := by decide +kernel
theorem zd_Walls_lend_8 : decode zm_Walls_lend.2.1 8 = .ok (.invokevirtual 221, 3) := by decide +kernel
theorem zd_Walls_lend_11 : decode zm_Walls_lend.2.1 11 = .ok (.aload_n 0, 1) := by decide +kernel
theorem zd_Walls_lend_12 : decode zm_Walls_lend.2.1 12 = .ok (.aload_n 0, 1) := by decide +kernel
theorem zd_Walls_lend_13 : decode zm_Walls_lend.2.1 13 = .ok (.getfield 20, 3) := by decide +kernel
theorem zd_Walls_lend_16 : decode zm_Walls_lend.2.1 16 = .ok (.iload_n 1, 1) := by decide +kernel
theorem zd_Walls_lend_17 : decode zm_Walls_lend.2.1 17 = .ok (.iload_n 2, 1) := by decide +kernel
theorem zd_Walls_lend_18 : decode zm_Walls_lend.2.1 18 = .ok (.iload_n 3, 1) := by decide +kernel
theorem zd_Walls_lend_19 : decode zm_Walls_lend.2.1 19 = .ok (.invokevirtual 230, 3) := by decide +kernel
theorem zd_Walls_lend_22 : decode zm_Walls_lend.2.1 22 = .ok (.invokevirtual 227, 3) := by decide +kernel
theorem zd_Walls_lend_25 : decode zm_Walls_lend.2.1 25 = .ok (.ireturn, 1) := by decide +kernel
theorem zb_Walls_lend_0 {Γ : zG} {σ : zS} {x1 x2 x3 : Int32} {dc : Nat} {P : zS → Prop}  (hm : z_Cv dc zm_History_mark [.inr (11), .inr (33)] σ P) (hdp : dc < z_dep Γ) (k : ∀ σ1, P σ1 → z_J Γ zm_Walls_lend 11 [some (.inr (0)), some (.inl (x1)), some (.inl (x2)), some (.inl (x3))] [] σ1) : z_J Γ zm_Walls_lend 0 [some (.inr (0)), some (.inl (x1)), some (.inl (x2)), some (.inl (x3))] [] σ := by
  refine zj_aload_n zd_Walls_lend_0 rfl ?_
  refine zj_getR rfl (by decide) rfl zu_Walls (k := 9) (by decide) rfl zl_Walls_47 zd_Walls_lend_1 (o' := 11) rfl ?_
  refine zj_aload_n zd_Walls_lend_4 rfl ?_
  refine zj_getR rfl (by decide) rfl zu_Walls (k := 4) (by decide) rfl zl_Walls_20 zd_Walls_lend_5 (o' := 33) rfl ?_
  exact zj_callVv (As := [.inr (33)]) hm hdp rfl (by decide) rfl zl_Walls_221 zq_History_mark zd_Walls_lend_8 rfl (Nat.le_of_ble_eq_true rfl) (fun σ1 h => (k σ1 h))
theorem zb_Walls_lend_11 {Γ : zG} {σ : zS} {x1 x2 x3 : Int32} {dc : Nat} {P : Int32 → zS → Prop}  (hm : z_Ci dc zm_City_lendTo [.inr (33), .inl (x1), .inl (x2), .inl (x3)] σ P) (hdp : dc < z_dep Γ) (k : ∀ r σ1, P r σ1 → z_J Γ zm_Walls_lend 22 [none, none, none, none] [.inl (r), .inr (0)] σ1) : z_J Γ zm_Walls_lend 11 [some (.inr (0)), some (.inl (x1)), some (.inl (x2)), some (.inl (x3))] [] σ := by
  refine zj_aload_n zd_Walls_lend_11 rfl ?_
  refine zj_aload_n zd_Walls_lend_12 rfl ?_
  refine zj_getR rfl (by decide) rfl zu_Walls (k := 4) (by decide) rfl zl_Walls_20 zd_Walls_lend_13 (o' := 33) rfl ?_
  refine zj_iload_n zd_Walls_lend_16 rfl ?_
  refine zj_iload_n zd_Walls_lend_17 rfl ?_
  refine zj_iload_n zd_Walls_lend_18 rfl ?_
  exact zj_callVi (As := [.inl (x1), .inl (x2), .inl (x3)]) hm hdp rfl (by decide) rfl zl_Walls_230 zq_City_lendTo zd_Walls_lend_19 rfl (Nat.le_of_ble_eq_true rfl) (fun r σ1 h => (zj_weak (L' := [none, none, none, none]) trivial (k r σ1 h)))
theorem zb_Walls_lend_22 {Γ : zG} {σ : zS} {y0 : Int32} {dc : Nat} {P : Int32 → zS → Prop}  (hm : z_Ci dc zm_Walls_keepIfDone [.inr (0), .inl (y0)] σ P) (hdp : dc < z_dep Γ) (k : ∀ r σ1, P r σ1 → z_J Γ zm_Walls_lend 25 [none, none, none, none] [.inl (r)] σ1) : z_J Γ zm_Walls_lend 22 [none, none, none, none] [.inl (y0), .inr (0)] σ := by
  exact zj_callVi (As := [.inl (y0)]) hm hdp rfl (by decide) rfl zl_Walls_227 zq_Walls_keepIfDone zd_Walls_lend_22 rfl (Nat.le_of_ble_eq_true rfl) (fun r σ1 h => (k r σ1 h))
theorem zb_Walls_lend_25 {Γ : zG} {σ : zS} {y0 : Int32}  (e : z_end Γ (some (y0)) σ) : z_J Γ zm_Walls_lend 25 [none, none, none, none] [.inl (y0)] σ := by
  exact zj_ireturn rfl zd_Walls_lend_25 e
theorem zd_Walls_recall_0 : decode zm_Walls_recall.2.1 0 = .ok (.aload_n 0, 1) := by decide +kernel
theorem zd_Walls_recall_1 : decode zm_Walls_recall.2.1 1 = .ok (.getfield 47, 3) := by decide +kernel
theorem zd_Walls_recall_4 : decode zm_Walls_recall.2.1 4 = .ok (.aload_n 0, 1) := by decide +kernel
theorem zd_Walls_recall_5 : decode zm_Walls_recall.2.1 5 = .ok (.getfield 20, 3) := by decide +kernel
theorem zd_Walls_recall_8 : decode zm_Walls_recall.2.1 8 = .ok (.invokevirtual 221, 3) := by decide +kernel
theorem zd_Walls_recall_11 : decode zm_Walls_recall.2.1 11 = .ok (.aload_n 0, 1) := by decide +kernel
theorem zd_Walls_recall_12 : decode zm_Walls_recall.2.1 12 = .ok (.aload_n 0, 1) := by decide +kernel
theorem zd_Walls_recall_13 : decode zm_Walls_recall.2.1 13 = .ok (.getfield 20, 3) := by decide +kernel
theorem zd_Walls_recall_16 : decode zm_Walls_recall.2.1 16 = .ok (.iload_n 1, 1) := by decide +kernel
theorem zd_Walls_recall_17 : decode zm_Walls_recall.2.1 17 = .ok (.invokevirtual 233, 3) := by decide +kernel
theorem zd_Walls_recall_20 : decode zm_Walls_recall.2.1 20 = .ok (.invokevirtual 227, 3) := by decide +kernel
theorem zd_Walls_recall_23 : decode zm_Walls_recall.2.1 23 = .ok (.ireturn, 1) := by decide +kernel
theorem zb_Walls_recall_0 {Γ : zG} {σ : zS} {x1 : Int32} {dc : Nat} {P : zS → Prop}  (hm : z_Cv dc zm_History_mark [.inr (11), .inr (33)] σ P) (hdp : dc < z_dep Γ) (k : ∀ σ1, P σ1 → z_J Γ zm_Walls_recall 11 [some (.inr (0)), some (.inl (x1))] [] σ1) : z_J Γ zm_Walls_recall 0 [some (.inr (0)), some (.inl (x1))] [] σ := by
  refine zj_aload_n zd_Walls_recall_0 rfl ?_
  refine zj_getR rfl (by decide) rfl zu_Walls (k := 9) (by decide) rfl zl_Walls_47 zd_Walls_recall_1 (o' := 11) rfl ?_
  refine zj_aload_n zd_Walls_recall_4 rfl ?_
  refine zj_getR rfl (by decide) rfl zu_Walls (k := 4) (by decide) rfl zl_Walls_20 zd_Walls_recall_5 (o' := 33) rfl ?_
  exact zj_callVv (As := [.inr (33)]) hm hdp rfl (by decide) rfl zl_Walls_221 zq_History_mark zd_Walls_recall_8 rfl (Nat.le_of_ble_eq_true rfl) (fun σ1 h => (k σ1 h))
theorem zb_Walls_recall_11 {Γ : zG} {σ : zS} {x1 : Int32} {dc : Nat} {P : Int32 → zS → Prop}  (hm : z_Ci dc zm_City_callBack [.inr (33), .inl (x1)] σ P) (hdp : dc < z_dep Γ) (k : ∀ r σ1, P r σ1 → z_J Γ zm_Walls_recall 20 [none, none] [.inl (r), .inr (0)] σ1) : z_J Γ zm_Walls_recall 11 [some (.inr (0)), some (.inl (x1))] [] σ := by
  refine zj_aload_n zd_Walls_recall_11 rfl ?_
  refine zj_aload_n zd_Walls_recall_12 rfl ?_
  refine zj_getR rfl (by decide) rfl zu_Walls (k := 4) (by decide) rfl zl_Walls_20 zd_Walls_recall_13 (o' := 33) rfl ?_
  refine zj_iload_n zd_Walls_recall_16 rfl ?_
  exact zj_callVi (As := [.inl (x1)]) hm hdp rfl (by decide) rfl zl_Walls_233 zq_City_callBack zd_Walls_recall_17 rfl (Nat.le_of_ble_eq_true rfl) (fun r σ1 h => (zj_weak (L' := [none, none]) trivial (k r σ1 h)))
theorem zb_Walls_recall_20 {Γ : zG} {σ : zS} {y0 : Int32} {dc : Nat} {P : Int32 → zS → Prop}  (hm : z_Ci dc zm_Walls_keepIfDone [.inr (0), .inl (y0)] σ P) (hdp : dc < z_dep Γ) (k : ∀ r σ1, P r σ1 → z_J Γ zm_Walls_recall 23 [none, none] [.inl (r)] σ1) : z_J Γ zm_Walls_recall 20 [none, none] [.inl (y0), .inr (0)] σ := by
  exact zj_callVi (As := [.inl (y0)]) hm hdp rfl (by decide) rfl zl_Walls_227 zq_Walls_keepIfDone zd_Walls_recall_20 rfl (Nat.le_of_ble_eq_true rfl) (fun r σ1 h => (k r σ1 h))
theorem zb_Walls_recall_23 {Γ : zG} {σ : zS} {y0 : Int32}  (e : z_end Γ (some (y0)) σ) : z_J Γ zm_Walls_recall 23 [none, none] [.inl (y0)] σ := by
  exact zj_ireturn rfl zd_Walls_recall_23 e
theorem zd_Walls_shot_0 : decode zm_Walls_shot.2.1 0 = .ok (.aload_n 0, 1) := by decide +kernel
theorem zd_Walls_shot_1 : decode zm_Walls_shot.2.1 1 = .ok (.getfield 47, 3) := by decide +kernel
theorem zd_Walls_shot_4 : decode zm_Walls_shot.2.1 4 = .ok (.aload_n 0, 1) := by decide +kernel
theorem zd_Walls_shot_5 : decode zm_Walls_shot.2.1 5 = .ok (.getfield 20, 3) := by decide +kernel
theorem zd_Walls_shot_8 : decode zm_Walls_shot.2.1 8 = .ok (.invokevirtual 221, 3) := by decide +kernel
theorem zd_Walls_shot_11 : decode zm_Walls_shot.2.1 11 = .ok (.aload_n 0, 1) := by decide +kernel
theorem zd_Walls_shot_12 : decode zm_Walls_shot.2.1 12 = .ok (.aload_n 0, 1) := by decide +kernel
theorem zd_Walls_shot_13 : decode zm_Walls_shot.2.1 13 = .ok (.getfield 20, 3) := by decide +kernel
theorem zd_Walls_shot_16 : decode zm_Walls_shot.2.1 16 = .ok (.iload_n 1, 1) := by decide +kernel
theorem zd_Walls_shot_17 : decode zm_Walls_shot.2.1 17 = .ok (.iload_n 2, 1) := by decide +kernel
theorem zd_Walls_shot_18 : decode zm_Walls_shot.2.1 18 = .ok (.invokevirtual 236, 3) := by decide +kernel
theorem zd_Walls_shot_21 : decode zm_Walls_shot.2.1 21 = .ok (.invokevirtual 227, 3) := by decide +kernel
theorem zd_Walls_shot_24 : decode zm_Walls_shot.2.1 24 = .ok (.istore_n 3, 1) := by decide +kernel
theorem zd_Walls_shot_25 : decode zm_Walls_shot.2.1 25 = .ok (.iload_n 3, 1) := by decide +kernel
theorem zd_Walls_shot_26 : decode zm_Walls_shot.2.1 26 = .ok (.ifCond .lt 14, 3) := by decide +kernel
theorem zd_Walls_shot_29 : decode zm_Walls_shot.2.1 29 = .ok (.aload_n 0, 1) := by decide +kernel
theorem zd_Walls_shot_30 : decode zm_Walls_shot.2.1 30 = .ok (.aload_n 0, 1) := by decide +kernel
theorem zd_Walls_shot_31 : decode zm_Walls_shot.2.1 31 = .ok (.getfield 20, 3) := by decide +kernel
theorem zd_Walls_shot_34 : decode zm_Walls_shot.2.1 34 = .ok (.getfield 239, 3) := by decide +kernel
theorem zd_Walls_shot_37 : decode zm_Walls_shot.2.1 37 = .ok (.invokevirtual 242, 3) := by decide +kernel
theorem zd_Walls_shot_40 : decode zm_Walls_shot.2.1 40 = .ok (.iload_n 3, 1) := by decide +kernel
theorem zd_Walls_shot_41 : decode zm_Walls_shot.2.1 41 = .ok (.ireturn, 1) := by decide +kernel
theorem zb_Walls_shot_0 {Γ : zG} {σ : zS} {x1 x2 : Int32} {dc : Nat} {P : zS → Prop}  (hm : z_Cv dc zm_History_mark [.inr (11), .inr (33)] σ P) (hdp : dc < z_dep Γ) (k : ∀ σ1, P σ1 → z_J Γ zm_Walls_shot 11 [some (.inr (0)), some (.inl (x1)), some (.inl (x2)), none] [] σ1) : z_J Γ zm_Walls_shot 0 [some (.inr (0)), some (.inl (x1)), some (.inl (x2)), none] [] σ := by
  refine zj_aload_n zd_Walls_shot_0 rfl ?_
  refine zj_getR rfl (by decide) rfl zu_Walls (k := 9) (by decide) rfl zl_Walls_47 zd_Walls_shot_1 (o' := 11) rfl ?_
  refine zj_aload_n zd_Walls_shot_4 rfl ?_
  refine zj_getR rfl (by decide) rfl zu_Walls (k := 4) (by decide) rfl zl_Walls_20 zd_Walls_shot_5 (o' := 33) rfl ?_
  exact zj_callVv (As := [.inr (33)]) hm hdp rfl (by decide) rfl zl_Walls_221 zq_History_mark zd_Walls_shot_8 rfl (Nat.le_of_ble_eq_true rfl) (fun σ1 h => (k σ1 h))
theorem zb_Walls_shot_11 {Γ : zG} {σ : zS} {x1 x2 : Int32} {dc : Nat} {P : Int32 → zS → Prop}  (hm : z_Ci dc zm_City_shoot [.inr (33), .inl (x1), .inl (x2)] σ P) (hdp : dc < z_dep Γ) (k : ∀ r σ1, P r σ1 → z_J Γ zm_Walls_shot 21 [some (.inr (0)), none, none, none] [.inl (r), .inr (0)] σ1) : z_J Γ zm_Walls_shot 11 [some (.inr (0)), some (.inl (x1)), some (.inl (x2)), none] [] σ := by
  refine zj_aload_n zd_Walls_shot_11 rfl ?_
  refine zj_aload_n zd_Walls_shot_12 rfl ?_
  refine zj_getR rfl (by decide) rfl zu_Walls (k := 4) (by decide) rfl zl_Walls_20 zd_Walls_shot_13 (o' := 33) rfl ?_
  refine zj_iload_n zd_Walls_shot_16 rfl ?_
  refine zj_iload_n zd_Walls_shot_17 rfl ?_
  exact zj_callVi (As := [.inl (x1), .inl (x2)]) hm hdp rfl (by decide) rfl zl_Walls_236 zq_City_shoot zd_Walls_shot_18 rfl (Nat.le_of_ble_eq_true rfl) (fun r σ1 h => (zj_weak (L' := [some (.inr (0)), none, none, none]) ⟨rfl, trivial⟩ (k r σ1 h)))
theorem zb_Walls_shot_21 {Γ : zG} {σ : zS} {y0 : Int32} {dc : Nat} {P : Int32 → zS → Prop}  (hm : z_Ci dc zm_Walls_keepIfDone [.inr (0), .inl (y0)] σ P) (hdp : dc < z_dep Γ) (k : ∀ r σ1, P r σ1 → z_J Γ zm_Walls_shot 24 [some (.inr (0)), none, none, none] [.inl (r)] σ1) : z_J Γ zm_Walls_shot 21 [some (.inr (0)), none, none, none] [.inl (y0), .inr (0)] σ := by
  exact zj_callVi (As := [.inl (y0)]) hm hdp rfl (by decide) rfl zl_Walls_227 zq_Walls_keepIfDone zd_Walls_shot_21 rfl (Nat.le_of_ble_eq_true rfl) (fun r σ1 h => (k r σ1 h))
theorem zb_Walls_shot_24 {Γ : zG} {σ : zS} {y0 : Int32}  (kt : y0 < 0 → z_J Γ zm_Walls_shot 40 [none, none, none, some (.inl (y0))] [] σ) (kf : ¬ y0 < 0 → z_J Γ zm_Walls_shot 29 [some (.inr (0)), none, none, some (.inl (y0))] [] σ) : z_J Γ zm_Walls_shot 24 [some (.inr (0)), none, none, none] [.inl (y0)] σ := by
  refine zj_istore_n (L' := [some (.inr (0)), none, none, some (.inl (y0))]) zd_Walls_shot_24 (by decide) rfl ?_
  refine zj_iload_n zd_Walls_shot_25 rfl ?_
  exact zj_if_lt zd_Walls_shot_26 (by decide) (fun h => (zj_weak (L' := [none, none, none, some (.inl (y0))]) ⟨rfl, trivial⟩ (kt h))) (fun h => (kf h))
theorem zb_Walls_shot_29 {Γ : zG} {σ : zS} {x3 : Int32} {dc : Nat} {P : zS → Prop}  (hm : z_Cv dc zm_Walls_tell [.inr (0), .inl (σ.1 33 13)] σ P) (hdp : dc < z_dep Γ) (k : ∀ σ1, P σ1 → z_J Γ zm_Walls_shot 40 [none, none, none, some (.inl (x3))] [] σ1) : z_J Γ zm_Walls_shot 29 [some (.inr (0)), none, none, some (.inl (x3))] [] σ := by
  refine zj_aload_n zd_Walls_shot_29 rfl ?_
  refine zj_aload_n zd_Walls_shot_30 rfl ?_
  refine zj_getR rfl (by decide) rfl zu_Walls (k := 4) (by decide) rfl zl_Walls_20 zd_Walls_shot_31 (o' := 33) rfl ?_
  refine zj_getI rfl (by decide) rfl zu_City (k := 13) (by decide) rfl zl_Walls_239 zd_Walls_shot_34 ?_
  exact zj_callVv (As := [.inl (σ.1 33 13)]) hm hdp rfl (by decide) rfl zl_Walls_242 zq_Walls_tell zd_Walls_shot_37 rfl (Nat.le_of_ble_eq_true rfl) (fun σ1 h => (zj_weak (L' := [none, none, none, some (.inl (x3))]) ⟨rfl, trivial⟩ (k σ1 h)))
theorem zb_Walls_shot_40 {Γ : zG} {σ : zS} {x3 : Int32}  (e : z_end Γ (some (x3)) σ) : z_J Γ zm_Walls_shot 40 [none, none, none, some (.inl (x3))] [] σ := by
  refine zj_iload_n zd_Walls_shot_40 rfl ?_
  exact zj_ireturn rfl zd_Walls_shot_41 e
theorem zd_Walls_tell_0 : decode zm_Walls_tell.2.1 0 = .ok (.aload_n 0, 1) := by decide +kernel
theorem zd_Walls_tell_1 : decode zm_Walls_tell.2.1 1 = .ok (.getfield 13, 3) := by decide +kernel
theorem zd_Walls_tell_4 : decode zm_Walls_tell.2.1 4 = .ok (.iconst 0, 1) := by decide +kernel
theorem zd_Walls_tell_5 : decode zm_Walls_tell.2.1 5 = .ok (.iload_n 1, 1) := by decide +kernel
theorem zd_Walls_tell_6 : decode zm_Walls_tell.2.1 6 = .ok (.iastore, 1) := by decide +kernel
theorem zd_Walls_tell_7 : decode zm_Walls_tell.2.1 7 = .ok (.aload_n 0, 1) := by decide +kernel
theorem zd_Walls_tell_8 : decode zm_Walls_tell.2.1 8 = .ok (.iconst 1, 1) := by decide +kernel
theorem zd_Walls_tell_9 : decode zm_Walls_tell.2.1 9 = .ok (.putfield 349, 3) := by decide +kernel
theorem zd_Walls_tell_12 : decode zm_Walls_tell.2.1 12 = .ok (.return_, 1) := by decide +kernel
theorem zb_Walls_tell_0 {Γ : zG} {σ : zS} {x1 : Int32} {k1 : Nat}  (b1 : z_ix (nI 0) 12 k1) (e : z_end Γ none (z_pI (z_pI σ 2 k1 x1) 0 3 (nI 1))) : z_J Γ zm_Walls_tell 0 [some (.inr (0)), some (.inl (x1))] [] σ := by
  refine zj_aload_n zd_Walls_tell_0 rfl ?_
  refine zj_getR rfl (by decide) rfl zu_Walls (k := 2) (by decide) rfl zl_Walls_13 zd_Walls_tell_1 (o' := 2) rfl ?_
  refine zj_iconst (v := nI 0) zd_Walls_tell_4 (by decide) ?_
  refine zj_iload_n zd_Walls_tell_5 rfl ?_
  refine zj_iastore rfl (by decide) b1 zd_Walls_tell_6 ?_
  refine zj_aload_n zd_Walls_tell_7 rfl ?_
  refine zj_iconst (v := nI 1) zd_Walls_tell_8 (by decide) ?_
  refine zj_putI rfl (by decide) rfl zu_Walls zy_Walls_ok zn_Walls (k := 3) (by decide) rfl rfl zl_Walls_349 rfl rfl zd_Walls_tell_9 ?_
  exact zj_return rfl zd_Walls_tell_12 e
theorem zd_Walls_days_0 : decode zm_Walls_days.2.1 0 = .ok (.aload_n 0, 1) := by decide +kernel
theorem zd_Walls_days_1 : decode zm_Walls_days.2.1 1 = .ok (.getfield 47, 3) := by decide +kernel
theorem zd_Walls_days_4 : decode zm_Walls_days.2.1 4 = .ok (.aload_n 0, 1) := by decide +kernel
theorem zd_Walls_days_5 : decode zm_Walls_days.2.1 5 = .ok (.getfield 20, 3) := by decide +kernel
theorem zd_Walls_days_8 : decode zm_Walls_days.2.1 8 = .ok (.invokevirtual 221, 3) := by decide +kernel
theorem zd_Walls_days_11 : decode zm_Walls_days.2.1 11 = .ok (.aload_n 0, 1) := by decide +kernel
theorem zd_Walls_days_12 : decode zm_Walls_days.2.1 12 = .ok (.getfield 20, 3) := by decide +kernel
theorem zd_Walls_days_15 : decode zm_Walls_days.2.1 15 = .ok (.iload_n 1, 1) := by decide +kernel
theorem zd_Walls_days_16 : decode zm_Walls_days.2.1 16 = .ok (.invokevirtual 245, 3) := by decide +kernel
theorem zd_Walls_days_19 : decode zm_Walls_days.2.1 19 = .ok (.istore_n 2, 1) := by decide +kernel
theorem zd_Walls_days_20 : decode zm_Walls_days.2.1 20 = .ok (.iload_n 2, 1) := by decide +kernel
theorem zd_Walls_days_21 : decode zm_Walls_days.2.1 21 = .ok (.ifCond .ge 5, 3) := by decide +kernel
theorem zd_Walls_days_24 : decode zm_Walls_days.2.1 24 = .ok (.iload_n 2, 1) := by decide +kernel
theorem zd_Walls_days_25 : decode zm_Walls_days.2.1 25 = .ok (.ireturn, 1) := by decide +kernel
theorem zd_Walls_days_26 : decode zm_Walls_days.2.1 26 = .ok (.iload_n 1, 1) := by decide +kernel
theorem zd_Walls_days_27 : decode zm_Walls_days.2.1 27 = .ok (.ifCond .le 10, 3) := by decide +kernel
theorem zd_Walls_days_30 : decode zm_Walls_days.2.1 30 = .ok (.aload_n 0, 1) := by decide +kernel
theorem zd_Walls_days_31 : decode zm_Walls_days.2.1 31 = .ok (.getfield 47, 3) := by decide +kernel
theorem zd_Walls_days_34 : decode zm_Walls_days.2.1 34 = .ok (.invokevirtual 248, 3) := by decide +kernel
theorem zd_Walls_days_37 : decode zm_Walls_days.2.1 37 = .ok (.aload_n 0, 1) := by decide +kernel
theorem zd_Walls_days_38 : decode zm_Walls_days.2.1 38 = .ok (.aload_n 0, 1) := by decide +kernel
theorem zd_Walls_days_39 : decode zm_Walls_days.2.1 39 = .ok (.getfield 20, 3) := by decide +kernel
theorem zd_Walls_days_42 : decode zm_Walls_days.2.1 42 = .ok (.getfield 251, 3) := by decide +kernel
theorem zd_Walls_days_45 : decode zm_Walls_days.2.1 45 = .ok (.aload_n 0, 1) := by decide +kernel
theorem zd_Walls_days_46 : decode zm_Walls_days.2.1 46 = .ok (.getfield 20, 3) := by decide +kernel
theorem zd_Walls_days_49 : decode zm_Walls_days.2.1 49 = .ok (.getfield 254, 3) := by decide +kernel
theorem zd_Walls_days_52 : decode zm_Walls_days.2.1 52 = .ok (.invokevirtual 257, 3) := by decide +kernel
theorem zd_Walls_days_55 : decode zm_Walls_days.2.1 55 = .ok (.iload_n 2, 1) := by decide +kernel
theorem zd_Walls_days_56 : decode zm_Walls_days.2.1 56 = .ok (.ireturn, 1) := by decide +kernel
theorem zb_Walls_days_0 {Γ : zG} {σ : zS} {x1 : Int32} {dc : Nat} {P : zS → Prop}  (hm : z_Cv dc zm_History_mark [.inr (11), .inr (33)] σ P) (hdp : dc < z_dep Γ) (k : ∀ σ1, P σ1 → z_J Γ zm_Walls_days 11 [some (.inr (0)), some (.inl (x1)), none] [] σ1) : z_J Γ zm_Walls_days 0 [some (.inr (0)), some (.inl (x1)), none] [] σ := by
  refine zj_aload_n zd_Walls_days_0 rfl ?_
  refine zj_getR rfl (by decide) rfl zu_Walls (k := 9) (by decide) rfl zl_Walls_47 zd_Walls_days_1 (o' := 11) rfl ?_
  refine zj_aload_n zd_Walls_days_4 rfl ?_
  refine zj_getR rfl (by decide) rfl zu_Walls (k := 4) (by decide) rfl zl_Walls_20 zd_Walls_days_5 (o' := 33) rfl ?_
  exact zj_callVv (As := [.inr (33)]) hm hdp rfl (by decide) rfl zl_Walls_221 zq_History_mark zd_Walls_days_8 rfl (Nat.le_of_ble_eq_true rfl) (fun σ1 h => (k σ1 h))
theorem zb_Walls_days_11 {Γ : zG} {σ : zS} {x1 : Int32} {dc : Nat} {P : Int32 → zS → Prop}  (hm : z_Ci dc zm_City_passDays [.inr (33), .inl (x1)] σ P) (hdp : dc < z_dep Γ) (k : ∀ r σ1, P r σ1 → z_J Γ zm_Walls_days 19 [some (.inr (0)), some (.inl (x1)), none] [.inl (r)] σ1) : z_J Γ zm_Walls_days 11 [some (.inr (0)), some (.inl (x1)), none] [] σ := by
  refine zj_aload_n zd_Walls_days_11 rfl ?_
  refine zj_getR rfl (by decide) rfl zu_Walls (k := 4) (by decide) rfl zl_Walls_20 zd_Walls_days_12 (o' := 33) rfl ?_
  refine zj_iload_n zd_Walls_days_15 rfl ?_
  exact zj_callVi (As := [.inl (x1)]) hm hdp rfl (by decide) rfl zl_Walls_245 zq_City_passDays zd_Walls_days_16 rfl (Nat.le_of_ble_eq_true rfl) (fun r σ1 h => (k r σ1 h))
theorem zb_Walls_days_19 {Γ : zG} {σ : zS} {x1 y0 : Int32}  (kt : 0 ≤ y0 → z_J Γ zm_Walls_days 26 [some (.inr (0)), some (.inl (x1)), some (.inl (y0))] [] σ) (kf : ¬ 0 ≤ y0 → z_J Γ zm_Walls_days 24 [none, none, some (.inl (y0))] [] σ) : z_J Γ zm_Walls_days 19 [some (.inr (0)), some (.inl (x1)), none] [.inl (y0)] σ := by
  refine zj_istore_n (L' := [some (.inr (0)), some (.inl (x1)), some (.inl (y0))]) zd_Walls_days_19 (by decide) rfl ?_
  refine zj_iload_n zd_Walls_days_20 rfl ?_
  exact zj_if_ge zd_Walls_days_21 (by decide) (fun h => (kt h)) (fun h => (zj_weak (L' := [none, none, some (.inl (y0))]) ⟨rfl, trivial⟩ (kf h)))
theorem zb_Walls_days_24 {Γ : zG} {σ : zS} {x2 : Int32}  (e : z_end Γ (some (x2)) σ) : z_J Γ zm_Walls_days 24 [none, none, some (.inl (x2))] [] σ := by
  refine zj_iload_n zd_Walls_days_24 rfl ?_
  exact zj_ireturn rfl zd_Walls_days_25 e
theorem zb_Walls_days_26 {Γ : zG} {σ : zS} {x1 x2 : Int32}  (kt : x1 ≤ 0 → z_J Γ zm_Walls_days 37 [some (.inr (0)), none, some (.inl (x2))] [] σ) (kf : ¬ x1 ≤ 0 → z_J Γ zm_Walls_days 30 [some (.inr (0)), none, some (.inl (x2))] [] σ) : z_J Γ zm_Walls_days 26 [some (.inr (0)), some (.inl (x1)), some (.inl (x2))] [] σ := by
  refine zj_iload_n zd_Walls_days_26 rfl ?_
  exact zj_if_le zd_Walls_days_27 (by decide) (fun h => (zj_weak (L' := [some (.inr (0)), none, some (.inl (x2))]) ⟨rfl, ⟨rfl, trivial⟩⟩ (kt h))) (fun h => (zj_weak (L' := [some (.inr (0)), none, some (.inl (x2))]) ⟨rfl, ⟨rfl, trivial⟩⟩ (kf h)))
theorem zb_Walls_days_30 {Γ : zG} {σ : zS} {x2 : Int32} {dc : Nat} {P : zS → Prop}  (hm : z_Cv dc zm_History_keepMark [.inr (11)] σ P) (hdp : dc < z_dep Γ) (k : ∀ σ1, P σ1 → z_J Γ zm_Walls_days 37 [some (.inr (0)), none, some (.inl (x2))] [] σ1) : z_J Γ zm_Walls_days 30 [some (.inr (0)), none, some (.inl (x2))] [] σ := by
  refine zj_aload_n zd_Walls_days_30 rfl ?_
  refine zj_getR rfl (by decide) rfl zu_Walls (k := 9) (by decide) rfl zl_Walls_47 zd_Walls_days_31 (o' := 11) rfl ?_
  exact zj_callVv (As := []) hm hdp rfl (by decide) rfl zl_Walls_248 zq_History_keepMark zd_Walls_days_34 rfl (Nat.le_of_ble_eq_true rfl) (fun σ1 h => (k σ1 h))
theorem zb_Walls_days_37 {Γ : zG} {σ : zS} {x2 : Int32} {dc : Nat} {P : zS → Prop}  (hm : z_Cv dc zm_Walls_tellTwo [.inr (0), .inl (σ.1 33 14), .inl (σ.1 33 15)] σ P) (hdp : dc < z_dep Γ) (k : ∀ σ1, P σ1 → z_J Γ zm_Walls_days 55 [none, none, some (.inl (x2))] [] σ1) : z_J Γ zm_Walls_days 37 [some (.inr (0)), none, some (.inl (x2))] [] σ := by
  refine zj_aload_n zd_Walls_days_37 rfl ?_
  refine zj_aload_n zd_Walls_days_38 rfl ?_
  refine zj_getR rfl (by decide) rfl zu_Walls (k := 4) (by decide) rfl zl_Walls_20 zd_Walls_days_39 (o' := 33) rfl ?_
  refine zj_getI rfl (by decide) rfl zu_City (k := 14) (by decide) rfl zl_Walls_251 zd_Walls_days_42 ?_
  refine zj_aload_n zd_Walls_days_45 rfl ?_
  refine zj_getR rfl (by decide) rfl zu_Walls (k := 4) (by decide) rfl zl_Walls_20 zd_Walls_days_46 (o' := 33) rfl ?_
  refine zj_getI rfl (by decide) rfl zu_City (k := 15) (by decide) rfl zl_Walls_254 zd_Walls_days_49 ?_
  exact zj_callVv (As := [.inl (σ.1 33 14), .inl (σ.1 33 15)]) hm hdp rfl (by decide) rfl zl_Walls_257 zq_Walls_tellTwo zd_Walls_days_52 rfl (Nat.le_of_ble_eq_true rfl) (fun σ1 h => (zj_weak (L' := [none, none, some (.inl (x2))]) ⟨rfl, trivial⟩ (k σ1 h)))
theorem zb_Walls_days_55 {Γ : zG} {σ : zS} {x2 : Int32}  (e : z_end Γ (some (x2)) σ) : z_J Γ zm_Walls_days 55 [none, none, some (.inl (x2))] [] σ := by
  refine zj_iload_n zd_Walls_days_55 rfl ?_
  exact zj_ireturn rfl zd_Walls_days_56 e
theorem zd_Walls_tellTwo_0 : decode zm_Walls_tellTwo.2.1 0 = .ok (.aload_n 0, 1) := by decide +kernel
theorem zd_Walls_tellTwo_1 : decode zm_Walls_tellTwo.2.1 1 = .ok (.getfield 13, 3) := by decide +kernel
theorem zd_Walls_tellTwo_4 : decode zm_Walls_tellTwo.2.1 4 = .ok (.iconst 0, 1) := by decide +kernel
theorem zd_Walls_tellTwo_5 : decode zm_Walls_tellTwo.2.1 5 = .ok (.iload_n 1, 1) := by decide +kernel
theorem zd_Walls_tellTwo_6 : decode zm_Walls_tellTwo.2.1 6 = .ok (.iastore, 1) := by decide +kernel
theorem zd_Walls_tellTwo_7 : decode zm_Walls_tellTwo.2.1 7 = .ok (.aload_n 0, 1) := by decide +kernel
theorem zd_Walls_tellTwo_8 : decode zm_Walls_tellTwo.2.1 8 = .ok (.getfield 13, 3) := by decide +kernel
theorem zd_Walls_tellTwo_11 : decode zm_Walls_tellTwo.2.1 11 = .ok (.iconst 1, 1) := by decide +kernel
theorem zd_Walls_tellTwo_12 : decode zm_Walls_tellTwo.2.1 12 = .ok (.iload_n 2, 1) := by decide +kernel
theorem zd_Walls_tellTwo_13 : decode zm_Walls_tellTwo.2.1 13 = .ok (.iastore, 1) := by decide +kernel
theorem zd_Walls_tellTwo_14 : decode zm_Walls_tellTwo.2.1 14 = .ok (.aload_n 0, 1) := by decide +kernel
theorem zd_Walls_tellTwo_15 : decode zm_Walls_tellTwo.2.1 15 = .ok (.iconst 2, 1) := by decide +kernel
theorem zd_Walls_tellTwo_16 : decode zm_Walls_tellTwo.2.1 16 = .ok (.putfield 349, 3) := by decide +kernel
theorem zd_Walls_tellTwo_19 : decode zm_Walls_tellTwo.2.1 19 = .ok (.return_, 1) := by decide +kernel
theorem zb_Walls_tellTwo_0 {Γ : zG} {σ : zS} {x1 x2 : Int32} {k1 k2 : Nat}  (b1 : z_ix (nI 0) 12 k1) (b2 : z_ix (nI 1) 12 k2) (e : z_end Γ none (z_pI (z_pI (z_pI σ 2 k1 x1) 2 k2 x2) 0 3 (nI 2))) : z_J Γ zm_Walls_tellTwo 0 [some (.inr (0)), some (.inl (x1)), some (.inl (x2))] [] σ := by
  refine zj_aload_n zd_Walls_tellTwo_0 rfl ?_
  refine zj_getR rfl (by decide) rfl zu_Walls (k := 2) (by decide) rfl zl_Walls_13 zd_Walls_tellTwo_1 (o' := 2) rfl ?_
  refine zj_iconst (v := nI 0) zd_Walls_tellTwo_4 (by decide) ?_
  refine zj_iload_n zd_Walls_tellTwo_5 rfl ?_
  refine zj_iastore rfl (by decide) b1 zd_Walls_tellTwo_6 ?_
  refine zj_aload_n zd_Walls_tellTwo_7 rfl ?_
  refine zj_getR rfl (by decide) rfl zu_Walls (k := 2) (by decide) rfl zl_Walls_13 zd_Walls_tellTwo_8 (o' := 2) rfl ?_
  refine zj_iconst (v := nI 1) zd_Walls_tellTwo_11 (by decide) ?_
  refine zj_iload_n zd_Walls_tellTwo_12 rfl ?_
  refine zj_iastore rfl (by decide) b2 zd_Walls_tellTwo_13 ?_
  refine zj_aload_n zd_Walls_tellTwo_14 rfl ?_
  refine zj_iconst (v := nI 2) zd_Walls_tellTwo_15 (by decide) ?_
  refine zj_putI rfl (by decide) rfl zu_Walls zy_Walls_ok zn_Walls (k := 3) (by decide) rfl rfl zl_Walls_349 rfl rfl zd_Walls_tellTwo_16 ?_
  exact zj_return rfl zd_Walls_tellTwo_19 e
theorem zd_Walls_siege_0 : decode zm_Walls_siege.2.1 0 = .ok (.aload_n 0, 1) := by decide +kernel
theorem zd_Walls_siege_1 : decode zm_Walls_siege.2.1 1 = .ok (.invokevirtual 88, 3) := by decide +kernel
theorem zd_Walls_siege_4 : decode zm_Walls_siege.2.1 4 = .ok (.istore_n 1, 1) := by decide +kernel
theorem zd_Walls_siege_5 : decode zm_Walls_siege.2.1 5 = .ok (.aload_n 0, 1) := by decide +kernel
theorem zd_Walls_siege_6 : decode zm_Walls_siege.2.1 6 = .ok (.getfield 40, 3) := by decide +kernel
theorem zd_Walls_siege_9 : decode zm_Walls_siege.2.1 9 = .ok (.aload_n 0, 1) := by decide +kernel
theorem zd_Walls_siege_10 : decode zm_Walls_siege.2.1 10 = .ok (.getfield 9, 3) := by decide +kernel
theorem zd_Walls_siege_13 : decode zm_Walls_siege.2.1 13 = .ok (.iload_n 1, 1) := by decide +kernel
theorem zd_Walls_siege_14 : decode zm_Walls_siege.2.1 14 = .ok (.invokevirtual 260, 3) := by decide +kernel
theorem zd_Walls_siege_17 : decode zm_Walls_siege.2.1 17 = .ok (.istore_n 2, 1) := by decide +kernel
theorem zd_Walls_siege_18 : decode zm_Walls_siege.2.1 18 = .ok (.iload_n 2, 1) := by decide +kernel
theorem zd_Walls_siege_19 : decode zm_Walls_siege.2.1 19 = .ok (.iconst (-1), 1) := by decide +kernel
theorem zd_Walls_siege_20 : decode zm_Walls_siege.2.1 20 = .ok (.if_icmp .eq 7, 3) := by decide +kernel
theorem zd_Walls_siege_23 : decode zm_Walls_siege.2.1 23 = .ok (.iconst (-1), 1) := by decide +kernel
theorem zd_Walls_siege_24 : decode zm_Walls_siege.2.1 24 = .ok (.iload_n 2, 1) := by decide +kernel
theorem zd_Walls_siege_25 : decode zm_Walls_siege.2.1 25 = .ok (.isub, 1) := by decide +kernel
theorem zd_Walls_siege_26 : decode zm_Walls_siege.2.1 26 = .ok (.ireturn, 1) := by decide +kernel
theorem zd_Walls_siege_27 : decode zm_Walls_siege.2.1 27 = .ok (.aload_n 0, 1) := by decide +kernel
theorem zd_Walls_siege_28 : decode zm_Walls_siege.2.1 28 = .ok (.getfield 47, 3) := by decide +kernel
theorem zd_Walls_siege_31 : decode zm_Walls_siege.2.1 31 = .ok (.aload_n 0, 1) := by decide +kernel
theorem zd_Walls_siege_32 : decode zm_Walls_siege.2.1 32 = .ok (.getfield 20, 3) := by decide +kernel
theorem zd_Walls_siege_35 : decode zm_Walls_siege.2.1 35 = .ok (.invokevirtual 221, 3) := by decide +kernel
theorem zd_Walls_siege_38 : decode zm_Walls_siege.2.1 38 = .ok (.iconst 0, 1) := by decide +kernel
theorem zd_Walls_siege_39 : decode zm_Walls_siege.2.1 39 = .ok (.istore_n 3, 1) := by decide +kernel
theorem zd_Walls_siege_40 : decode zm_Walls_siege.2.1 40 = .ok (.iconst 0, 1) := by decide +kernel
theorem zd_Walls_siege_41 : decode zm_Walls_siege.2.1 41 = .ok (.istore 4, 2) := by decide +kernel
theorem zd_Walls_siege_43 : decode zm_Walls_siege.2.1 43 = .ok (.iload 4, 2) := by decide +kernel
theorem zd_Walls_siege_45 : decode zm_Walls_siege.2.1 45 = .ok (.aload_n 0, 1) := by decide +kernel
theorem zd_Walls_siege_46 : decode zm_Walls_siege.2.1 46 = .ok (.getfield 40, 3) := by decide +kernel
theorem zd_Walls_siege_49 : decode zm_Walls_siege.2.1 49 = .ok (.getfield 264, 3) := by decide +kernel
theorem zd_Walls_siege_52 : decode zm_Walls_siege.2.1 52 = .ok (.if_icmp .ge 21, 3) := by decide +kernel
theorem zd_Walls_siege_55 : decode zm_Walls_siege.2.1 55 = .ok (.aload_n 0, 1) := by decide +kernel
theorem zd_Walls_siege_56 : decode zm_Walls_siege.2.1 56 = .ok (.iload 4, 2) := by decide +kernel
theorem zd_Walls_siege_58 : decode zm_Walls_siege.2.1 58 = .ok (.invokevirtual 267, 3) := by decide +kernel
theorem zd_Walls_siege_61 : decode zm_Walls_siege.2.1 61 = .ok (.ifCond .lt 12, 3) := by decide +kernel
theorem zd_Walls_siege_64 : decode zm_Walls_siege.2.1 64 = .ok (.iinc 3 1, 3) := by decide +kernel
theorem zd_Walls_siege_67 : decode zm_Walls_siege.2.1 67 = .ok (.iinc 4 1, 3) := by decide +kernel
theorem zd_Walls_siege_70 : decode zm_Walls_siege.2.1 70 = .ok (.goto (-27), 3) := by decide +kernel
theorem zd_Walls_siege_73 : decode zm_Walls_siege.2.1 73 = .ok (.iload_n 3, 1) := by decide +kernel
theorem zd_Walls_siege_74 : decode zm_Walls_siege.2.1 74 = .ok (.ifCond .le 10, 3) := by decide +kernel
theorem zd_Walls_siege_77 : decode zm_Walls_siege.2.1 77 = .ok (.aload_n 0, 1) := by decide +kernel
theorem zd_Walls_siege_78 : decode zm_Walls_siege.2.1 78 = .ok (.getfield 47, 3) := by decide +kernel
theorem zd_Walls_siege_81 : decode zm_Walls_siege.2.1 81 = .ok (.invokevirtual 248, 3) := by decide +kernel
theorem zd_Walls_siege_84 : decode zm_Walls_siege.2.1 84 = .ok (.aload_n 0, 1) := by decide +kernel
theorem zd_Walls_siege_85 : decode zm_Walls_siege.2.1 85 = .ok (.iload_n 3, 1) := by decide +kernel
theorem zd_Walls_siege_86 : decode zm_Walls_siege.2.1 86 = .ok (.aload_n 0, 1) := by decide +kernel
theorem zd_Walls_siege_87 : decode zm_Walls_siege.2.1 87 = .ok (.getfield 40, 3) := by decide +kernel
theorem zd_Walls_siege_90 : decode zm_Walls_siege.2.1 90 = .ok (.getfield 264, 3) := by decide +kernel
theorem zd_Walls_siege_93 : decode zm_Walls_siege.2.1 93 = .ok (.if_icmp .ge 7, 3) := by decide +kernel
theorem zd_Walls_siege_96 : decode zm_Walls_siege.2.1 96 = .ok (.iconst 1, 1) := by decide +kernel
theorem zd_Walls_siege_97 : decode zm_Walls_siege.2.1 97 = .ok (.goto 4, 3) := by decide +kernel
theorem zd_Walls_siege_100 : decode zm_Walls_siege.2.1 100 = .ok (.iconst 0, 1) := by decide +kernel
theorem zd_Walls_siege_101 : decode zm_Walls_siege.2.1 101 = .ok (.aload_n 0, 1) := by decide +kernel
theorem zd_Walls_siege_102 : decode zm_Walls_siege.2.1 102 = .ok (.getfield 20, 3) := by decide +kernel
theorem zd_Walls_siege_105 : decode zm_Walls_siege.2.1 105 = .ok (.iconst 1, 1) := by decide +kernel
theorem zd_Walls_siege_106 : decode zm_Walls_siege.2.1 106 = .ok (.invokevirtual 270, 3) := by decide +kernel
theorem zd_Walls_siege_109 : decode zm_Walls_siege.2.1 109 = .ok (.invokestatic 273, 3) := by decide +kernel
theorem zd_Walls_siege_112 : decode zm_Walls_siege.2.1 112 = .ok (.invokevirtual 257, 3) := by decide +kernel
theorem zd_Walls_siege_115 : decode zm_Walls_siege.2.1 115 = .ok (.iload_n 3, 1) := by decide +kernel
theorem zd_Walls_siege_116 : decode zm_Walls_siege.2.1 116 = .ok (.ireturn, 1) := by decide +kernel
theorem zb_Walls_siege_0 {Γ : zG} {σ : zS} {dc : Nat} {P : Int32 → zS → Prop}  (hm : z_Ci dc zm_Walls_takeText [.inr (0)] σ P) (hdp : dc < z_dep Γ) (k : ∀ r σ1, P r σ1 → z_J Γ zm_Walls_siege 4 [some (.inr (0)), none, none, none, none] [.inl (r)] σ1) : z_J Γ zm_Walls_siege 0 [some (.inr (0)), none, none, none, none] [] σ := by
  refine zj_aload_n zd_Walls_siege_0 rfl ?_
  exact zj_callVi (As := []) hm hdp rfl (by decide) rfl zl_Walls_88 zq_Walls_takeText zd_Walls_siege_1 rfl (Nat.le_of_ble_eq_true rfl) (fun r σ1 h => (k r σ1 h))
theorem zb_Walls_siege_4 {Γ : zG} {σ : zS} {y0 : Int32} {dc : Nat} {P : Int32 → zS → Prop}  (hm : z_Ci dc zm_Acts_read [.inr (8), .inr (1), .inl (y0)] σ P) (hdp : dc < z_dep Γ) (k : ∀ r σ1, P r σ1 → z_J Γ zm_Walls_siege 17 [some (.inr (0)), none, none, none, none] [.inl (r)] σ1) : z_J Γ zm_Walls_siege 4 [some (.inr (0)), none, none, none, none] [.inl (y0)] σ := by
  refine zj_istore_n (L' := [some (.inr (0)), some (.inl (y0)), none, none, none]) zd_Walls_siege_4 (by decide) rfl ?_
  refine zj_aload_n zd_Walls_siege_5 rfl ?_
  refine zj_getR rfl (by decide) rfl zu_Walls (k := 8) (by decide) rfl zl_Walls_40 zd_Walls_siege_6 (o' := 8) rfl ?_
  refine zj_aload_n zd_Walls_siege_9 rfl ?_
  refine zj_getR rfl (by decide) rfl zu_Walls (k := 0) (by decide) rfl zl_Walls_9 zd_Walls_siege_10 (o' := 1) rfl ?_
  refine zj_iload_n zd_Walls_siege_13 rfl ?_
  exact zj_callVi (As := [.inr (1), .inl (y0)]) hm hdp rfl (by decide) rfl zl_Walls_260 zq_Acts_read zd_Walls_siege_14 rfl (Nat.le_of_ble_eq_true rfl) (fun r σ1 h => (zj_weak (L' := [some (.inr (0)), none, none, none, none]) ⟨rfl, trivial⟩ (k r σ1 h)))
theorem zb_Walls_siege_17 {Γ : zG} {σ : zS} {y0 : Int32}  (kt : y0 = (-1) → z_J Γ zm_Walls_siege 27 [some (.inr (0)), none, none, none, none] [] σ) (kf : ¬ y0 = (-1) → z_J Γ zm_Walls_siege 23 [none, none, some (.inl (y0)), none, none] [] σ) : z_J Γ zm_Walls_siege 17 [some (.inr (0)), none, none, none, none] [.inl (y0)] σ := by
  refine zj_istore_n (L' := [some (.inr (0)), none, some (.inl (y0)), none, none]) zd_Walls_siege_17 (by decide) rfl ?_
  refine zj_iload_n zd_Walls_siege_18 rfl ?_
  refine zj_iconst (v := (-1)) zd_Walls_siege_19 (by decide) ?_
  exact zj_icmp_eq zd_Walls_siege_20 (by decide) (fun h => (zj_weak (L' := [some (.inr (0)), none, none, none, none]) ⟨rfl, trivial⟩ (kt h))) (fun h => (zj_weak (L' := [none, none, some (.inl (y0)), none, none]) ⟨rfl, trivial⟩ (kf h)))
theorem zb_Walls_siege_23 {Γ : zG} {σ : zS} {x2 : Int32}  (e : z_end Γ (some ((-1) - x2)) σ) : z_J Γ zm_Walls_siege 23 [none, none, some (.inl (x2)), none, none] [] σ := by
  refine zj_iconst (v := (-1)) zd_Walls_siege_23 (by decide) ?_
  refine zj_iload_n zd_Walls_siege_24 rfl ?_
  refine zj_isub zd_Walls_siege_25 ?_
  exact zj_ireturn rfl zd_Walls_siege_26 e
theorem zb_Walls_siege_27 {Γ : zG} {σ : zS} {dc : Nat} {P : zS → Prop}  (hm : z_Cv dc zm_History_mark [.inr (11), .inr (33)] σ P) (hdp : dc < z_dep Γ) (k : ∀ σ1, P σ1 → z_J Γ zm_Walls_siege 38 [some (.inr (0)), none, none, none, none] [] σ1) : z_J Γ zm_Walls_siege 27 [some (.inr (0)), none, none, none, none] [] σ := by
  refine zj_aload_n zd_Walls_siege_27 rfl ?_
  refine zj_getR rfl (by decide) rfl zu_Walls (k := 9) (by decide) rfl zl_Walls_47 zd_Walls_siege_28 (o' := 11) rfl ?_
  refine zj_aload_n zd_Walls_siege_31 rfl ?_
  refine zj_getR rfl (by decide) rfl zu_Walls (k := 4) (by decide) rfl zl_Walls_20 zd_Walls_siege_32 (o' := 33) rfl ?_
  exact zj_callVv (As := [.inr (33)]) hm hdp rfl (by decide) rfl zl_Walls_221 zq_History_mark zd_Walls_siege_35 rfl (Nat.le_of_ble_eq_true rfl) (fun σ1 h => (k σ1 h))
theorem zb_Walls_siege_38 {Γ : zG} {σ : zS}  (k : z_J Γ zm_Walls_siege 43 [some (.inr (0)), none, none, some (.inl (nI 0)), some (.inl (nI 0))] [] σ) : z_J Γ zm_Walls_siege 38 [some (.inr (0)), none, none, none, none] [] σ := by
  refine zj_iconst (v := nI 0) zd_Walls_siege_38 (by decide) ?_
  refine zj_istore_n (L' := [some (.inr (0)), none, none, some (.inl (nI 0)), none]) zd_Walls_siege_39 (by decide) rfl ?_
  refine zj_iconst (v := nI 0) zd_Walls_siege_40 (by decide) ?_
  refine zj_istore (L' := [some (.inr (0)), none, none, some (.inl (nI 0)), some (.inl (nI 0))]) zd_Walls_siege_41 (by decide) rfl ?_
  exact k
theorem zb_Walls_siege_43 {Γ : zG} {σ : zS} {x3 x4 : Int32}  (kt : (σ.1 8 2) ≤ x4 → z_J Γ zm_Walls_siege 73 [some (.inr (0)), none, none, some (.inl (x3)), none] [] σ) (kf : ¬ (σ.1 8 2) ≤ x4 → z_J Γ zm_Walls_siege 55 [some (.inr (0)), none, none, some (.inl (x3)), some (.inl (x4))] [] σ) : z_J Γ zm_Walls_siege 43 [some (.inr (0)), none, none, some (.inl (x3)), some (.inl (x4))] [] σ := by
  refine zj_iload zd_Walls_siege_43 rfl ?_
  refine zj_aload_n zd_Walls_siege_45 rfl ?_
  refine zj_getR rfl (by decide) rfl zu_Walls (k := 8) (by decide) rfl zl_Walls_40 zd_Walls_siege_46 (o' := 8) rfl ?_
  refine zj_getI rfl (by decide) rfl zu_Acts (k := 2) (by decide) rfl zl_Walls_264 zd_Walls_siege_49 ?_
  exact zj_icmp_ge zd_Walls_siege_52 (by decide) (fun h => (zj_weak (L' := [some (.inr (0)), none, none, some (.inl (x3)), none]) ⟨rfl, ⟨rfl, trivial⟩⟩ (kt h))) (fun h => (kf h))
theorem zb_Walls_siege_55 {Γ : zG} {σ : zS} {x3 x4 : Int32} {dc : Nat} {P : Int32 → zS → Prop}  (hm : z_Ci dc zm_Walls_perform [.inr (0), .inl (x4)] σ P) (hdp : dc < z_dep Γ) (k : ∀ r σ1, P r σ1 → z_J Γ zm_Walls_siege 61 [some (.inr (0)), none, none, some (.inl (x3)), some (.inl (x4))] [.inl (r)] σ1) : z_J Γ zm_Walls_siege 55 [some (.inr (0)), none, none, some (.inl (x3)), some (.inl (x4))] [] σ := by
  refine zj_aload_n zd_Walls_siege_55 rfl ?_
  refine zj_iload zd_Walls_siege_56 rfl ?_
  exact zj_callVi (As := [.inl (x4)]) hm hdp rfl (by decide) rfl zl_Walls_267 zq_Walls_perform zd_Walls_siege_58 rfl (Nat.le_of_ble_eq_true rfl) (fun r σ1 h => (k r σ1 h))
theorem zb_Walls_siege_61 {Γ : zG} {σ : zS} {x3 x4 y0 : Int32}  (kt : y0 < 0 → z_J Γ zm_Walls_siege 73 [some (.inr (0)), none, none, some (.inl (x3)), none] [] σ) (kf : ¬ y0 < 0 → z_J Γ zm_Walls_siege 64 [some (.inr (0)), none, none, some (.inl (x3)), some (.inl (x4))] [] σ) : z_J Γ zm_Walls_siege 61 [some (.inr (0)), none, none, some (.inl (x3)), some (.inl (x4))] [.inl (y0)] σ := by
  exact zj_if_lt zd_Walls_siege_61 (by decide) (fun h => (zj_weak (L' := [some (.inr (0)), none, none, some (.inl (x3)), none]) ⟨rfl, ⟨rfl, trivial⟩⟩ (kt h))) (fun h => (kf h))
theorem zb_Walls_siege_64 {Γ : zG} {σ : zS} {x3 x4 : Int32}  (k : z_J Γ zm_Walls_siege 43 [some (.inr (0)), none, none, some (.inl (x3 + nI 1)), some (.inl (x4 + nI 1))] [] σ) : z_J Γ zm_Walls_siege 64 [some (.inr (0)), none, none, some (.inl (x3)), some (.inl (x4))] [] σ := by
  refine zj_iinc (v := nI 1) (L' := [some (.inr (0)), none, none, some (.inl (x3 + nI 1)), some (.inl (x4))]) zd_Walls_siege_64 rfl (by decide) (by decide) rfl ?_
  refine zj_iinc (v := nI 1) (L' := [some (.inr (0)), none, none, some (.inl (x3 + nI 1)), some (.inl (x4 + nI 1))]) zd_Walls_siege_67 rfl (by decide) (by decide) rfl ?_
  exact zj_goto zd_Walls_siege_70 (by decide) k
theorem zb_Walls_siege_73 {Γ : zG} {σ : zS} {x3 : Int32}  (kt : x3 ≤ 0 → z_J Γ zm_Walls_siege 84 [some (.inr (0)), none, none, some (.inl (x3)), none] [] σ) (kf : ¬ x3 ≤ 0 → z_J Γ zm_Walls_siege 77 [some (.inr (0)), none, none, some (.inl (x3)), none] [] σ) : z_J Γ zm_Walls_siege 73 [some (.inr (0)), none, none, some (.inl (x3)), none] [] σ := by
  refine zj_iload_n zd_Walls_siege_73 rfl ?_
  exact zj_if_le zd_Walls_siege_74 (by decide) (fun h => (kt h)) (fun h => (kf h))
theorem zb_Walls_siege_77 {Γ : zG} {σ : zS} {x3 : Int32} {dc : Nat} {P : zS → Prop}  (hm : z_Cv dc zm_History_keepMark [.inr (11)] σ P) (hdp : dc < z_dep Γ) (k : ∀ σ1, P σ1 → z_J Γ zm_Walls_siege 84 [some (.inr (0)), none, none, some (.inl (x3)), none] [] σ1) : z_J Γ zm_Walls_siege 77 [some (.inr (0)), none, none, some (.inl (x3)), none] [] σ := by
  refine zj_aload_n zd_Walls_siege_77 rfl ?_
  refine zj_getR rfl (by decide) rfl zu_Walls (k := 9) (by decide) rfl zl_Walls_47 zd_Walls_siege_78 (o' := 11) rfl ?_
  exact zj_callVv (As := []) hm hdp rfl (by decide) rfl zl_Walls_248 zq_History_keepMark zd_Walls_siege_81 rfl (Nat.le_of_ble_eq_true rfl) (fun σ1 h => (k σ1 h))
theorem zb_Walls_siege_84 {Γ : zG} {σ : zS} {x3 : Int32}  (kt : (σ.1 8 2) ≤ x3 → z_J Γ zm_Walls_siege 100 [some (.inr (0)), none, none, some (.inl (x3)), none] [.inr (0)] σ) (kf : ¬ (σ.1 8 2) ≤ x3 → z_J Γ zm_Walls_siege 96 [some (.inr (0)), none, none, some (.inl (x3)), none] [.inr (0)] σ) : z_J Γ zm_Walls_siege 84 [some (.inr (0)), none, none, some (.inl (x3)), none] [] σ := by
  refine zj_aload_n zd_Walls_siege_84 rfl ?_
  refine zj_iload_n zd_Walls_siege_85 rfl ?_
  refine zj_aload_n zd_Walls_siege_86 rfl ?_
  refine zj_getR rfl (by decide) rfl zu_Walls (k := 8) (by decide) rfl zl_Walls_40 zd_Walls_siege_87 (o' := 8) rfl ?_
  refine zj_getI rfl (by decide) rfl zu_Acts (k := 2) (by decide) rfl zl_Walls_264 zd_Walls_siege_90 ?_
  exact zj_icmp_ge zd_Walls_siege_93 (by decide) (fun h => (kt h)) (fun h => (kf h))
theorem zb_Walls_siege_96 {Γ : zG} {σ : zS} {x3 : Int32}  (k : z_J Γ zm_Walls_siege 101 [some (.inr (0)), none, none, some (.inl (x3)), none] [.inl (nI 1), .inr (0)] σ) : z_J Γ zm_Walls_siege 96 [some (.inr (0)), none, none, some (.inl (x3)), none] [.inr (0)] σ := by
  refine zj_iconst (v := nI 1) zd_Walls_siege_96 (by decide) ?_
  exact zj_goto zd_Walls_siege_97 (by decide) k
theorem zb_Walls_siege_100 {Γ : zG} {σ : zS} {x3 : Int32}  (k : z_J Γ zm_Walls_siege 101 [some (.inr (0)), none, none, some (.inl (x3)), none] [.inl (nI 0), .inr (0)] σ) : z_J Γ zm_Walls_siege 100 [some (.inr (0)), none, none, some (.inl (x3)), none] [.inr (0)] σ := by
  refine zj_iconst (v := nI 0) zd_Walls_siege_100 (by decide) ?_
  exact k
theorem zb_Walls_siege_101 {Γ : zG} {σ : zS} {x3 y0 : Int32} {dc : Nat} {P : Int32 → zS → Prop}  (hm : z_Ci dc zm_City_bitsWhere [.inr (33), .inl (nI 1)] σ P) (hdp : dc < z_dep Γ) (k : ∀ r σ1, P r σ1 → z_J Γ zm_Walls_siege 109 [none, none, none, some (.inl (x3)), none] [.inl (r), .inl (y0), .inr (0)] σ1) : z_J Γ zm_Walls_siege 101 [some (.inr (0)), none, none, some (.inl (x3)), none] [.inl (y0), .inr (0)] σ := by
  refine zj_aload_n zd_Walls_siege_101 rfl ?_
  refine zj_getR rfl (by decide) rfl zu_Walls (k := 4) (by decide) rfl zl_Walls_20 zd_Walls_siege_102 (o' := 33) rfl ?_
  refine zj_iconst (v := nI 1) zd_Walls_siege_105 (by decide) ?_
  exact zj_callVi (As := [.inl (nI 1)]) hm hdp rfl (by decide) rfl zl_Walls_270 zq_City_bitsWhere zd_Walls_siege_106 rfl (Nat.le_of_ble_eq_true rfl) (fun r σ1 h => (zj_weak (L' := [none, none, none, some (.inl (x3)), none]) ⟨rfl, trivial⟩ (k r σ1 h)))
theorem zb_Walls_siege_109 {Γ : zG} {σ : zS} {x3 y0 y1 : Int32} {dc : Nat} {P : zS → Prop}  (hm : z_Cv dc zm_Walls_tellTwo [.inr (0), .inl (y1), .inl (z_bc y0)] σ P) (hdp : dc < z_dep Γ) (k : ∀ σ1, P σ1 → z_J Γ zm_Walls_siege 115 [none, none, none, some (.inl (x3)), none] [] σ1) : z_J Γ zm_Walls_siege 109 [none, none, none, some (.inl (x3)), none] [.inl (y0), .inl (y1), .inr (0)] σ := by
  refine zj_bitc zl_Walls_273 (Nat.lt_of_le_of_lt (Nat.zero_le _) hdp) (Nat.le_of_ble_eq_true rfl) zd_Walls_siege_109 ?_
  exact zj_callVv (As := [.inl (y1), .inl (z_bc y0)]) hm hdp rfl (by decide) rfl zl_Walls_257 zq_Walls_tellTwo zd_Walls_siege_112 rfl (Nat.le_of_ble_eq_true rfl) (fun σ1 h => (k σ1 h))
theorem zb_Walls_siege_115 {Γ : zG} {σ : zS} {x3 : Int32}  (e : z_end Γ (some (x3)) σ) : z_J Γ zm_Walls_siege 115 [none, none, none, some (.inl (x3)), none] [] σ := by
  refine zj_iload_n zd_Walls_siege_115 rfl ?_
  exact zj_ireturn rfl zd_Walls_siege_116 e
theorem zd_Walls_perform_0 : decode zm_Walls_perform.2.1 0 = .ok (.aload_n 0, 1) := by decide +kernel
theorem zd_Walls_perform_1 : decode zm_Walls_perform.2.1 1 = .ok (.getfield 40, 3) := by decide +kernel
theorem zd_Walls_perform_4 : decode zm_Walls_perform.2.1 4 = .ok (.getfield 415, 3) := by decide +kernel
theorem zd_Walls_perform_7 : decode zm_Walls_perform.2.1 7 = .ok (.iload_n 1, 1) := by decide +kernel
theorem zd_Walls_perform_8 : decode zm_Walls_perform.2.1 8 = .ok (.iconst 3, 1) := by decide +kernel
theorem zd_Walls_perform_9 : decode zm_Walls_perform.2.1 9 = .ok (.imul, 1) := by decide +kernel
theorem zd_Walls_perform_10 : decode zm_Walls_perform.2.1 10 = .ok (.iaload, 1) := by decide +kernel
theorem zd_Walls_perform_11 : decode zm_Walls_perform.2.1 11 = .ok (.istore_n 2, 1) := by decide +kernel
theorem zd_Walls_perform_12 : decode zm_Walls_perform.2.1 12 = .ok (.aload_n 0, 1) := by decide +kernel
theorem zd_Walls_perform_13 : decode zm_Walls_perform.2.1 13 = .ok (.getfield 40, 3) := by decide +kernel
theorem zd_Walls_perform_16 : decode zm_Walls_perform.2.1 16 = .ok (.getfield 415, 3) := by decide +kernel
theorem zd_Walls_perform_19 : decode zm_Walls_perform.2.1 19 = .ok (.iload_n 1, 1) := by decide +kernel
theorem zd_Walls_perform_20 : decode zm_Walls_perform.2.1 20 = .ok (.iconst 3, 1) := by decide +kernel
theorem zd_Walls_perform_21 : decode zm_Walls_perform.2.1 21 = .ok (.imul, 1) := by decide +kernel
theorem zd_Walls_perform_22 : decode zm_Walls_perform.2.1 22 = .ok (.iconst 1, 1) := by decide +kernel
theorem zd_Walls_perform_23 : decode zm_Walls_perform.2.1 23 = .ok (.iadd, 1) := by decide +kernel
theorem zd_Walls_perform_24 : decode zm_Walls_perform.2.1 24 = .ok (.iaload, 1) := by decide +kernel
theorem zd_Walls_perform_25 : decode zm_Walls_perform.2.1 25 = .ok (.istore_n 3, 1) := by decide +kernel
theorem zd_Walls_perform_26 : decode zm_Walls_perform.2.1 26 = .ok (.aload_n 0, 1) := by decide +kernel
theorem zd_Walls_perform_27 : decode zm_Walls_perform.2.1 27 = .ok (.getfield 40, 3) := by decide +kernel
theorem zd_Walls_perform_30 : decode zm_Walls_perform.2.1 30 = .ok (.getfield 415, 3) := by decide +kernel
theorem zd_Walls_perform_33 : decode zm_Walls_perform.2.1 33 = .ok (.iload_n 1, 1) := by decide +kernel
theorem zd_Walls_perform_34 : decode zm_Walls_perform.2.1 34 = .ok (.iconst 3, 1) := by decide +kernel
theorem zd_Walls_perform_35 : decode zm_Walls_perform.2.1 35 = .ok (.imul, 1) := by decide +kernel
theorem zd_Walls_perform_36 : decode zm_Walls_perform.2.1 36 = .ok (.iconst 2, 1) := by decide +kernel
theorem zd_Walls_perform_37 : decode zm_Walls_perform.2.1 37 = .ok (.iadd, 1) := by decide +kernel
theorem zd_Walls_perform_38 : decode zm_Walls_perform.2.1 38 = .ok (.iaload, 1) := by decide +kernel
theorem zd_Walls_perform_39 : decode zm_Walls_perform.2.1 39 = .ok (.istore 4, 2) := by decide +kernel
theorem zd_Walls_perform_41 : decode zm_Walls_perform.2.1 41 = .ok (.aload_n 0, 1) := by decide +kernel
theorem zd_Walls_perform_42 : decode zm_Walls_perform.2.1 42 = .ok (.getfield 40, 3) := by decide +kernel
theorem zd_Walls_perform_45 : decode zm_Walls_perform.2.1 45 = .ok (.getfield 418, 3) := by decide +kernel
theorem zd_Walls_perform_48 : decode zm_Walls_perform.2.1 48 = .ok (.iload_n 1, 1) := by decide +kernel
theorem zd_Walls_perform_49 : decode zm_Walls_perform.2.1 49 = .ok (.iaload, 1) := by decide +kernel
theorem zd_Walls_perform_50 : decode zm_Walls_perform.2.1 50 = .ok (.tableswitch 91 108 115 #[46, 91, 91, 60, 91, 91, 72, 81], 46) := by decide +kernel
theorem zd_Walls_perform_96 : decode zm_Walls_perform.2.1 96 = .ok (.aload_n 0, 1) := by decide +kernel
theorem zd_Walls_perform_97 : decode zm_Walls_perform.2.1 97 = .ok (.getfield 20, 3) := by decide +kernel
theorem zd_Walls_perform_100 : decode zm_Walls_perform.2.1 100 = .ok (.iload_n 2, 1) := by decide +kernel
theorem zd_Walls_perform_101 : decode zm_Walls_perform.2.1 101 = .ok (.iload_n 3, 1) := by decide +kernel
theorem zd_Walls_perform_102 : decode zm_Walls_perform.2.1 102 = .ok (.aload_n 0, 1) := by decide +kernel
theorem zd_Walls_perform_103 : decode zm_Walls_perform.2.1 103 = .ok (.getfield 30, 3) := by decide +kernel
theorem zd_Walls_perform_106 : decode zm_Walls_perform.2.1 106 = .ok (.invokevirtual 224, 3) := by decide +kernel
theorem zd_Walls_perform_109 : decode zm_Walls_perform.2.1 109 = .ok (.ireturn, 1) := by decide +kernel
theorem zd_Walls_perform_110 : decode zm_Walls_perform.2.1 110 = .ok (.aload_n 0, 1) := by decide +kernel
theorem zd_Walls_perform_111 : decode zm_Walls_perform.2.1 111 = .ok (.getfield 20, 3) := by decide +kernel
theorem zd_Walls_perform_114 : decode zm_Walls_perform.2.1 114 = .ok (.iload_n 2, 1) := by decide +kernel
theorem zd_Walls_perform_115 : decode zm_Walls_perform.2.1 115 = .ok (.iload_n 3, 1) := by decide +kernel
theorem zd_Walls_perform_116 : decode zm_Walls_perform.2.1 116 = .ok (.iload 4, 2) := by decide +kernel
theorem zd_Walls_perform_118 : decode zm_Walls_perform.2.1 118 = .ok (.invokevirtual 230, 3) := by decide +kernel
theorem zd_Walls_perform_121 : decode zm_Walls_perform.2.1 121 = .ok (.ireturn, 1) := by decide +kernel
theorem zd_Walls_perform_122 : decode zm_Walls_perform.2.1 122 = .ok (.aload_n 0, 1) := by decide +kernel
theorem zd_Walls_perform_123 : decode zm_Walls_perform.2.1 123 = .ok (.getfield 20, 3) := by decide +kernel
theorem zd_Walls_perform_126 : decode zm_Walls_perform.2.1 126 = .ok (.iload_n 2, 1) := by decide +kernel
theorem zd_Walls_perform_127 : decode zm_Walls_perform.2.1 127 = .ok (.invokevirtual 233, 3) := by decide +kernel
theorem zd_Walls_perform_130 : decode zm_Walls_perform.2.1 130 = .ok (.ireturn, 1) := by decide +kernel
theorem zd_Walls_perform_131 : decode zm_Walls_perform.2.1 131 = .ok (.aload_n 0, 1) := by decide +kernel
theorem zd_Walls_perform_132 : decode zm_Walls_perform.2.1 132 = .ok (.getfield 20, 3) := by decide +kernel
theorem zd_Walls_perform_135 : decode zm_Walls_perform.2.1 135 = .ok (.iload_n 2, 1) := by decide +kernel
theorem zd_Walls_perform_136 : decode zm_Walls_perform.2.1 136 = .ok (.iload_n 3, 1) := by decide +kernel
theorem zd_Walls_perform_137 : decode zm_Walls_perform.2.1 137 = .ok (.invokevirtual 236, 3) := by decide +kernel
theorem zd_Walls_perform_140 : decode zm_Walls_perform.2.1 140 = .ok (.ireturn, 1) := by decide +kernel
theorem zd_Walls_perform_141 : decode zm_Walls_perform.2.1 141 = .ok (.aload_n 0, 1) := by decide +kernel
theorem zd_Walls_perform_142 : decode zm_Walls_perform.2.1 142 = .ok (.getfield 20, 3) := by decide +kernel
theorem zd_Walls_perform_145 : decode zm_Walls_perform.2.1 145 = .ok (.iload_n 2, 1) := by decide +kernel
theorem zd_Walls_perform_146 : decode zm_Walls_perform.2.1 146 = .ok (.invokevirtual 245, 3) := by decide +kernel
theorem zd_Walls_perform_149 : decode zm_Walls_perform.2.1 149 = .ok (.ireturn, 1) := by decide +kernel
theorem zb_Walls_perform_0 {Γ : zG} {σ : zS} {x1 : Int32} {k1 k2 k3 k4 : Nat}  (b1 : z_ix (x1 * (nI 3)) 60 k1) (b2 : z_ix ((x1 * (nI 3)) + (nI 1)) 60 k2) (b3 : z_ix ((x1 * (nI 3)) + (nI 2)) 60 k3) (b4 : z_ix x1 20 k4) (kd : (σ.1 9 k4).toInt < 108 ∨ 115 < (σ.1 9 k4).toInt → z_J Γ zm_Walls_perform 141 [some (.inr (0)), none, some (.inl (σ.1 10 k1)), none, none] [] σ) (k108_ : (σ.1 9 k4) = nI 108 → z_J Γ zm_Walls_perform 96 [some (.inr (0)), none, some (.inl (σ.1 10 k1)), some (.inl (σ.1 10 k2)), none] [] σ) (k109_ : (σ.1 9 k4) = nI 109 → z_J Γ zm_Walls_perform 141 [some (.inr (0)), none, some (.inl (σ.1 10 k1)), none, none] [] σ) (k110_ : (σ.1 9 k4) = nI 110 → z_J Γ zm_Walls_perform 141 [some (.inr (0)), none, some (.inl (σ.1 10 k1)), none, none] [] σ) (k111_ : (σ.1 9 k4) = nI 111 → z_J Γ zm_Walls_perform 110 [some (.inr (0)), none, some (.inl (σ.1 10 k1)), some (.inl (σ.1 10 k2)), some (.inl (σ.1 10 k3))] [] σ) (k112_ : (σ.1 9 k4) = nI 112 → z_J Γ zm_Walls_perform 141 [some (.inr (0)), none, some (.inl (σ.1 10 k1)), none, none] [] σ) (k113_ : (σ.1 9 k4) = nI 113 → z_J Γ zm_Walls_perform 141 [some (.inr (0)), none, some (.inl (σ.1 10 k1)), none, none] [] σ) (k114_ : (σ.1 9 k4) = nI 114 → z_J Γ zm_Walls_perform 122 [some (.inr (0)), none, some (.inl (σ.1 10 k1)), none, none] [] σ) (k115_ : (σ.1 9 k4) = nI 115 → z_J Γ zm_Walls_perform 131 [some (.inr (0)), none, some (.inl (σ.1 10 k1)), some (.inl (σ.1 10 k2)), none] [] σ) : z_J Γ zm_Walls_perform 0 [some (.inr (0)), some (.inl (x1)), none, none, none] [] σ := by
  refine zj_aload_n zd_Walls_perform_0 rfl ?_
  refine zj_getR rfl (by decide) rfl zu_Walls (k := 8) (by decide) rfl zl_Walls_40 zd_Walls_perform_1 (o' := 8) rfl ?_
  refine zj_getR rfl (by decide) rfl zu_Acts (k := 1) (by decide) rfl zl_Walls_415 zd_Walls_perform_4 (o' := 10) rfl ?_
  refine zj_iload_n zd_Walls_perform_7 rfl ?_
  refine zj_iconst (v := nI 3) zd_Walls_perform_8 (by decide) ?_
  refine zj_imul zd_Walls_perform_9 ?_
  refine zj_iaload rfl (by decide) b1 zd_Walls_perform_10 ?_
  refine zj_istore_n (L' := [some (.inr (0)), some (.inl (x1)), some (.inl (σ.1 10 k1)), none, none]) zd_Walls_perform_11 (by decide) rfl ?_
  refine zj_aload_n zd_Walls_perform_12 rfl ?_
  refine zj_getR rfl (by decide) rfl zu_Walls (k := 8) (by decide) rfl zl_Walls_40 zd_Walls_perform_13 (o' := 8) rfl ?_
  refine zj_getR rfl (by decide) rfl zu_Acts (k := 1) (by decide) rfl zl_Walls_415 zd_Walls_perform_16 (o' := 10) rfl ?_
  refine zj_iload_n zd_Walls_perform_19 rfl ?_
  refine zj_iconst (v := nI 3) zd_Walls_perform_20 (by decide) ?_
  refine zj_imul zd_Walls_perform_21 ?_
  refine zj_iconst (v := nI 1) zd_Walls_perform_22 (by decide) ?_
  refine zj_iadd zd_Walls_perform_23 ?_
  refine zj_iaload rfl (by decide) b2 zd_Walls_perform_24 ?_
  refine zj_istore_n (L' := [some (.inr (0)), some (.inl (x1)), some (.inl (σ.1 10 k1)), some (.inl (σ.1 10 k2)), none]) zd_Walls_perform_25 (by decide) rfl ?_
  refine zj_aload_n zd_Walls_perform_26 rfl ?_
  refine zj_getR rfl (by decide) rfl zu_Walls (k := 8) (by decide) rfl zl_Walls_40 zd_Walls_perform_27 (o' := 8) rfl ?_
  refine zj_getR rfl (by decide) rfl zu_Acts (k := 1) (by decide) rfl zl_Walls_415 zd_Walls_perform_30 (o' := 10) rfl ?_
  refine zj_iload_n zd_Walls_perform_33 rfl ?_
  refine zj_iconst (v := nI 3) zd_Walls_perform_34 (by decide) ?_
  refine zj_imul zd_Walls_perform_35 ?_
  refine zj_iconst (v := nI 2) zd_Walls_perform_36 (by decide) ?_
  refine zj_iadd zd_Walls_perform_37 ?_
  refine zj_iaload rfl (by decide) b3 zd_Walls_perform_38 ?_
  refine zj_istore (L' := [some (.inr (0)), some (.inl (x1)), some (.inl (σ.1 10 k1)), some (.inl (σ.1 10 k2)), some (.inl (σ.1 10 k3))]) zd_Walls_perform_39 (by decide) rfl ?_
  refine zj_aload_n zd_Walls_perform_41 rfl ?_
  refine zj_getR rfl (by decide) rfl zu_Walls (k := 8) (by decide) rfl zl_Walls_40 zd_Walls_perform_42 (o' := 8) rfl ?_
  refine zj_getR rfl (by decide) rfl zu_Acts (k := 0) (by decide) rfl zl_Walls_418 zd_Walls_perform_45 (o' := 9) rfl ?_
  refine zj_iload_n zd_Walls_perform_48 rfl ?_
  refine zj_iaload rfl (by decide) b4 zd_Walls_perform_49 ?_
  rcases (show ((σ.1 9 k4).toInt < 108 ∨ 115 < (σ.1 9 k4).toInt) ∨ (σ.1 9 k4).toInt = 108 ∨ (σ.1 9 k4).toInt = 109 ∨ (σ.1 9 k4).toInt = 110 ∨ (σ.1 9 k4).toInt = 111 ∨ (σ.1 9 k4).toInt = 112 ∨ (σ.1 9 k4).toInt = 113 ∨ (σ.1 9 k4).toInt = 114 ∨ (σ.1 9 k4).toInt = 115 by omega) with h | h | h | h | h | h | h | h | h
  · exact zj_tblOut zd_Walls_perform_50 h (by decide) (zj_weak (L' := [some (.inr (0)), none, some (.inl (σ.1 10 k1)), none, none]) ⟨rfl, ⟨rfl, trivial⟩⟩ (kd h))
  · exact zj_tblIn zd_Walls_perform_50 (by omega) (by omega) (by rw [h]; rfl) (by decide) (zj_weak (L' := [some (.inr (0)), none, some (.inl (σ.1 10 k1)), some (.inl (σ.1 10 k2)), none]) ⟨rfl, ⟨rfl, ⟨rfl, trivial⟩⟩⟩ (k108_ (Int32.toInt_inj.mp (by rw [h]; decide))))
  · exact zj_tblIn zd_Walls_perform_50 (by omega) (by omega) (by rw [h]; rfl) (by decide) (zj_weak (L' := [some (.inr (0)), none, some (.inl (σ.1 10 k1)), none, none]) ⟨rfl, ⟨rfl, trivial⟩⟩ (k109_ (Int32.toInt_inj.mp (by rw [h]; decide))))
  · exact zj_tblIn zd_Walls_perform_50 (by omega) (by omega) (by rw [h]; rfl) (by decide) (zj_weak (L' := [some (.inr (0)), none, some (.inl (σ.1 10 k1)), none, none]) ⟨rfl, ⟨rfl, trivial⟩⟩ (k110_ (Int32.toInt_inj.mp (by rw [h]; decide))))
  · exact zj_tblIn zd_Walls_perform_50 (by omega) (by omega) (by rw [h]; rfl) (by decide) (zj_weak (L' := [some (.inr (0)), none, some (.inl (σ.1 10 k1)), some (.inl (σ.1 10 k2)), some (.inl (σ.1 10 k3))]) ⟨rfl, ⟨rfl, ⟨rfl, ⟨rfl, trivial⟩⟩⟩⟩ (k111_ (Int32.toInt_inj.mp (by rw [h]; decide))))
  · exact zj_tblIn zd_Walls_perform_50 (by omega) (by omega) (by rw [h]; rfl) (by decide) (zj_weak (L' := [some (.inr (0)), none, some (.inl (σ.1 10 k1)), none, none]) ⟨rfl, ⟨rfl, trivial⟩⟩ (k112_ (Int32.toInt_inj.mp (by rw [h]; decide))))
  · exact zj_tblIn zd_Walls_perform_50 (by omega) (by omega) (by rw [h]; rfl) (by decide) (zj_weak (L' := [some (.inr (0)), none, some (.inl (σ.1 10 k1)), none, none]) ⟨rfl, ⟨rfl, trivial⟩⟩ (k113_ (Int32.toInt_inj.mp (by rw [h]; decide))))
  · exact zj_tblIn zd_Walls_perform_50 (by omega) (by omega) (by rw [h]; rfl) (by decide) (zj_weak (L' := [some (.inr (0)), none, some (.inl (σ.1 10 k1)), none, none]) ⟨rfl, ⟨rfl, trivial⟩⟩ (k114_ (Int32.toInt_inj.mp (by rw [h]; decide))))
  · exact zj_tblIn zd_Walls_perform_50 (by omega) (by omega) (by rw [h]; rfl) (by decide) (zj_weak (L' := [some (.inr (0)), none, some (.inl (σ.1 10 k1)), some (.inl (σ.1 10 k2)), none]) ⟨rfl, ⟨rfl, ⟨rfl, trivial⟩⟩⟩ (k115_ (Int32.toInt_inj.mp (by rw [h]; decide))))
theorem zb_Walls_perform_96 {Γ : zG} {σ : zS} {x2 x3 : Int32} {dc : Nat} {P : Int32 → zS → Prop}  (m1 : z_oR (σ.2 0 6)) (hm : z_Ci dc zm_City_layOn [.inr (33), .inl (x2), .inl (x3), .inr (σ.2 0 6)] σ P) (hdp : dc < z_dep Γ) (k : ∀ r σ1, P r σ1 → z_J Γ zm_Walls_perform 109 [none, none, none, none, none] [.inl (r)] σ1) : z_J Γ zm_Walls_perform 96 [some (.inr (0)), none, some (.inl (x2)), some (.inl (x3)), none] [] σ := by
  refine zj_aload_n zd_Walls_perform_96 rfl ?_
  refine zj_getR rfl (by decide) rfl zu_Walls (k := 4) (by decide) rfl zl_Walls_20 zd_Walls_perform_97 (o' := 33) rfl ?_
  refine zj_iload_n zd_Walls_perform_100 rfl ?_
  refine zj_iload_n zd_Walls_perform_101 rfl ?_
  refine zj_aload_n zd_Walls_perform_102 rfl ?_
  refine zj_getM rfl (by decide) rfl zu_Walls (k := 6) (by decide) rfl zl_Walls_30 zd_Walls_perform_103 (zk_Rl m1) ?_
  exact zj_callVi (As := [.inl (x2), .inl (x3), .inr (σ.2 0 6)]) hm hdp rfl (by decide) rfl zl_Walls_224 zq_City_layOn zd_Walls_perform_106 rfl (Nat.le_of_ble_eq_true rfl) (fun r σ1 h => (zj_weak (L' := [none, none, none, none, none]) trivial (k r σ1 h)))
theorem zb_Walls_perform_109 {Γ : zG} {σ : zS} {y0 : Int32}  (e : z_end Γ (some (y0)) σ) : z_J Γ zm_Walls_perform 109 [none, none, none, none, none] [.inl (y0)] σ := by
  exact zj_ireturn rfl zd_Walls_perform_109 e
theorem zb_Walls_perform_110 {Γ : zG} {σ : zS} {x2 x3 x4 : Int32} {dc : Nat} {P : Int32 → zS → Prop}  (hm : z_Ci dc zm_City_lendTo [.inr (33), .inl (x2), .inl (x3), .inl (x4)] σ P) (hdp : dc < z_dep Γ) (k : ∀ r σ1, P r σ1 → z_J Γ zm_Walls_perform 121 [none, none, none, none, none] [.inl (r)] σ1) : z_J Γ zm_Walls_perform 110 [some (.inr (0)), none, some (.inl (x2)), some (.inl (x3)), some (.inl (x4))] [] σ := by
  refine zj_aload_n zd_Walls_perform_110 rfl ?_
  refine zj_getR rfl (by decide) rfl zu_Walls (k := 4) (by decide) rfl zl_Walls_20 zd_Walls_perform_111 (o' := 33) rfl ?_
  refine zj_iload_n zd_Walls_perform_114 rfl ?_
  refine zj_iload_n zd_Walls_perform_115 rfl ?_
  refine zj_iload zd_Walls_perform_116 rfl ?_
  exact zj_callVi (As := [.inl (x2), .inl (x3), .inl (x4)]) hm hdp rfl (by decide) rfl zl_Walls_230 zq_City_lendTo zd_Walls_perform_118 rfl (Nat.le_of_ble_eq_true rfl) (fun r σ1 h => (zj_weak (L' := [none, none, none, none, none]) trivial (k r σ1 h)))
theorem zb_Walls_perform_121 {Γ : zG} {σ : zS} {y0 : Int32}  (e : z_end Γ (some (y0)) σ) : z_J Γ zm_Walls_perform 121 [none, none, none, none, none] [.inl (y0)] σ := by
  exact zj_ireturn rfl zd_Walls_perform_121 e
theorem zb_Walls_perform_122 {Γ : zG} {σ : zS} {x2 : Int32} {dc : Nat} {P : Int32 → zS → Prop}  (hm : z_Ci dc zm_City_callBack [.inr (33), .inl (x2)] σ P) (hdp : dc < z_dep Γ) (k : ∀ r σ1, P r σ1 → z_J Γ zm_Walls_perform 130 [none, none, none, none, none] [.inl (r)] σ1) : z_J Γ zm_Walls_perform 122 [some (.inr (0)), none, some (.inl (x2)), none, none] [] σ := by
  refine zj_aload_n zd_Walls_perform_122 rfl ?_
  refine zj_getR rfl (by decide) rfl zu_Walls (k := 4) (by decide) rfl zl_Walls_20 zd_Walls_perform_123 (o' := 33) rfl ?_
  refine zj_iload_n zd_Walls_perform_126 rfl ?_
  exact zj_callVi (As := [.inl (x2)]) hm hdp rfl (by decide) rfl zl_Walls_233 zq_City_callBack zd_Walls_perform_127 rfl (Nat.le_of_ble_eq_true rfl) (fun r σ1 h => (zj_weak (L' := [none, none, none, none, none]) trivial (k r σ1 h)))
theorem zb_Walls_perform_130 {Γ : zG} {σ : zS} {y0 : Int32}  (e : z_end Γ (some (y0)) σ) : z_J Γ zm_Walls_perform 130 [none, none, none, none, none] [.inl (y0)] σ := by
  exact zj_ireturn rfl zd_Walls_perform_130 e
theorem zb_Walls_perform_131 {Γ : zG} {σ : zS} {x2 x3 : Int32} {dc : Nat} {P : Int32 → zS → Prop}  (hm : z_Ci dc zm_City_shoot [.inr (33), .inl (x2), .inl (x3)] σ P) (hdp : dc < z_dep Γ) (k : ∀ r σ1, P r σ1 → z_J Γ zm_Walls_perform 140 [none, none, none, none, none] [.inl (r)] σ1) : z_J Γ zm_Walls_perform 131 [some (.inr (0)), none, some (.inl (x2)), some (.inl (x3)), none] [] σ := by
  refine zj_aload_n zd_Walls_perform_131 rfl ?_
  refine zj_getR rfl (by decide) rfl zu_Walls (k := 4) (by decide) rfl zl_Walls_20 zd_Walls_perform_132 (o' := 33) rfl ?_
  refine zj_iload_n zd_Walls_perform_135 rfl ?_
  refine zj_iload_n zd_Walls_perform_136 rfl ?_
  exact zj_callVi (As := [.inl (x2), .inl (x3)]) hm hdp rfl (by decide) rfl zl_Walls_236 zq_City_shoot zd_Walls_perform_137 rfl (Nat.le_of_ble_eq_true rfl) (fun r σ1 h => (zj_weak (L' := [none, none, none, none, none]) trivial (k r σ1 h)))
theorem zb_Walls_perform_140 {Γ : zG} {σ : zS} {y0 : Int32}  (e : z_end Γ (some (y0)) σ) : z_J Γ zm_Walls_perform 140 [none, none, none, none, none] [.inl (y0)] σ := by
  exact zj_ireturn rfl zd_Walls_perform_140 e
theorem zb_Walls_perform_141 {Γ : zG} {σ : zS} {x2 : Int32} {dc : Nat} {P : Int32 → zS → Prop}  (hm : z_Ci dc zm_City_passDays [.inr (33), .inl (x2)] σ P) (hdp : dc < z_dep Γ) (k : ∀ r σ1, P r σ1 → z_J Γ zm_Walls_perform 149 [none, none, none, none, none] [.inl (r)] σ1) : z_J Γ zm_Walls_perform 141 [some (.inr (0)), none, some (.inl (x2)), none, none] [] σ := by
  refine zj_aload_n zd_Walls_perform_141 rfl ?_
  refine zj_getR rfl (by decide) rfl zu_Walls (k := 4) (by decide) rfl zl_Walls_20 zd_Walls_perform_142 (o' := 33) rfl ?_
  refine zj_iload_n zd_Walls_perform_145 rfl ?_
  exact zj_callVi (As := [.inl (x2)]) hm hdp rfl (by decide) rfl zl_Walls_245 zq_City_passDays zd_Walls_perform_146 rfl (Nat.le_of_ble_eq_true rfl) (fun r σ1 h => (zj_weak (L' := [none, none, none, none, none]) trivial (k r σ1 h)))
theorem zb_Walls_perform_149 {Γ : zG} {σ : zS} {y0 : Int32}  (e : z_end Γ (some (y0)) σ) : z_J Γ zm_Walls_perform 149 [none, none, none, none, none] [.inl (y0)] σ := by
  exact zj_ireturn rfl zd_Walls_perform_149 e
