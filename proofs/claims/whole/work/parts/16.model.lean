theorem zd_Model_thrown_0 : decode zm_Model_thrown.2.1 0 = .ok (.aload_n 0, 1) := by decide +kernel
theorem zd_Model_thrown_1 : decode zm_Model_thrown.2.1 1 = .ok (.getfield 91, 3) := by decide +kernel
theorem zd_Model_thrown_4 : decode zm_Model_thrown.2.1 4 = .ok (.ireturn, 1) := by decide +kernel
theorem zb_Model_thrown_0 {Γ : zG} {σ : zS}  (e : z_end Γ (some (σ.1 63 11)) σ) : z_J Γ zm_Model_thrown 0 [some (.inr (63))] [] σ := by
  refine zj_aload_n zd_Model_thrown_0 rfl ?_
  refine zj_getI rfl (by decide) rfl zu_Model (k := 11) (by decide) rfl zl_Model_91 zd_Model_thrown_1 ?_
  exact zj_ireturn rfl zd_Model_thrown_4 e
theorem zd_Model_sign_0 : decode zm_Model_sign.2.1 0 = .ok (.aload_n 0, 1) := by decide +kernel
theorem zd_Model_sign_1 : decode zm_Model_sign.2.1 1 = .ok (.iconst 0, 1) := by decide +kernel
theorem zd_Model_sign_2 : decode zm_Model_sign.2.1 2 = .ok (.putfield 91, 3) := by decide +kernel
theorem zd_Model_sign_5 : decode zm_Model_sign.2.1 5 = .ok (.aload_n 0, 1) := by decide +kernel
theorem zd_Model_sign_6 : decode zm_Model_sign.2.1 6 = .ok (.getfield 107, 3) := by decide +kernel
theorem zd_Model_sign_9 : decode zm_Model_sign.2.1 9 = .ok (.iconst 4, 1) := by decide +kernel
theorem zd_Model_sign_10 : decode zm_Model_sign.2.1 10 = .ok (.iadd, 1) := by decide +kernel
theorem zd_Model_sign_11 : decode zm_Model_sign.2.1 11 = .ok (.bipush 80, 2) := by decide +kernel
theorem zd_Model_sign_13 : decode zm_Model_sign.2.1 13 = .ok (.if_icmp .le 5, 3) := by decide +kernel
theorem zd_Model_sign_16 : decode zm_Model_sign.2.1 16 = .ok (.iconst (-1), 1) := by decide +kernel
theorem zd_Model_sign_17 : decode zm_Model_sign.2.1 17 = .ok (.ireturn, 1) := by decide +kernel
theorem zd_Model_sign_18 : decode zm_Model_sign.2.1 18 = .ok (.iconst 3, 1) := by decide +kernel
theorem zd_Model_sign_19 : decode zm_Model_sign.2.1 19 = .ok (.istore_n 2, 1) := by decide +kernel
theorem zd_Model_sign_20 : decode zm_Model_sign.2.1 20 = .ok (.iload_n 2, 1) := by decide +kernel
theorem zd_Model_sign_21 : decode zm_Model_sign.2.1 21 = .ok (.ifCond .lt 32, 3) := by decide +kernel
theorem zd_Model_sign_24 : decode zm_Model_sign.2.1 24 = .ok (.aload_n 0, 1) := by decide +kernel
theorem zd_Model_sign_25 : decode zm_Model_sign.2.1 25 = .ok (.getfield 26, 3) := by decide +kernel
theorem zd_Model_sign_28 : decode zm_Model_sign.2.1 28 = .ok (.aload_n 0, 1) := by decide +kernel
theorem zd_Model_sign_29 : decode zm_Model_sign.2.1 29 = .ok (.dup, 1) := by decide +kernel
theorem zd_Model_sign_30 : decode zm_Model_sign.2.1 30 = .ok (.getfield 107, 3) := by decide +kernel
theorem zd_Model_sign_33 : decode zm_Model_sign.2.1 33 = .ok (.dup_x1, 1) := by decide +kernel
theorem zd_Model_sign_34 : decode zm_Model_sign.2.1 34 = .ok (.iconst 1, 1) := by decide +kernel
theorem zd_Model_sign_35 : decode zm_Model_sign.2.1 35 = .ok (.iadd, 1) := by decide +kernel
theorem zd_Model_sign_36 : decode zm_Model_sign.2.1 36 = .ok (.putfield 107, 3) := by decide +kernel
theorem zd_Model_sign_39 : decode zm_Model_sign.2.1 39 = .ok (.iload_n 1, 1) := by decide +kernel
theorem zd_Model_sign_40 : decode zm_Model_sign.2.1 40 = .ok (.bipush 8, 2) := by decide +kernel
theorem zd_Model_sign_42 : decode zm_Model_sign.2.1 42 = .ok (.iload_n 2, 1) := by decide +kernel
theorem zd_Model_sign_43 : decode zm_Model_sign.2.1 43 = .ok (.imul, 1) := by decide +kernel
theorem zd_Model_sign_44 : decode zm_Model_sign.2.1 44 = .ok (.ishr, 1) := by decide +kernel
theorem zd_Model_sign_45 : decode zm_Model_sign.2.1 45 = .ok (.i2b, 1) := by decide +kernel
theorem zd_Model_sign_46 : decode zm_Model_sign.2.1 46 = .ok (.bastore, 1) := by decide +kernel
theorem zd_Model_sign_47 : decode zm_Model_sign.2.1 47 = .ok (.iinc 2 (-1), 3) := by decide +kernel
theorem zd_Model_sign_50 : decode zm_Model_sign.2.1 50 = .ok (.goto (-30), 3) := by decide +kernel
theorem zd_Model_sign_53 : decode zm_Model_sign.2.1 53 = .ok (.aload_n 0, 1) := by decide +kernel
theorem zd_Model_sign_54 : decode zm_Model_sign.2.1 54 = .ok (.getfield 107, 3) := by decide +kernel
theorem zd_Model_sign_57 : decode zm_Model_sign.2.1 57 = .ok (.ireturn, 1) := by decide +kernel
theorem zb_Model_sign_0 {Γ : zG} {σ : zS} {x1 : Int32}  (kt : (((z_pI σ 63 11 (nI 0)).1 63 8) + (nI 4)) ≤ (nI 80) → z_J Γ zm_Model_sign 18 [some (.inr (63)), some (.inl (x1)), none] [] (z_pI σ 63 11 (nI 0))) (kf : ¬ (((z_pI σ 63 11 (nI 0)).1 63 8) + (nI 4)) ≤ (nI 80) → z_J Γ zm_Model_sign 16 [none, none, none] [] (z_pI σ 63 11 (nI 0))) : z_J Γ zm_Model_sign 0 [some (.inr (63)), some (.inl (x1)), none] [] σ := by
  refine zj_aload_n zd_Model_sign_0 rfl ?_
  refine zj_iconst (v := nI 0) zd_Model_sign_1 (by decide) ?_
  refine zj_putI rfl (by decide) rfl zu_Model zy_Model_ok zn_Model (k := 11) (by decide) rfl rfl zl_Model_91 rfl rfl zd_Model_sign_2 ?_
  refine zj_aload_n zd_Model_sign_5 rfl ?_
  refine zj_getI rfl (by decide) rfl zu_Model (k := 8) (by decide) rfl zl_Model_107 zd_Model_sign_6 ?_
  refine zj_iconst (v := nI 4) zd_Model_sign_9 (by decide) ?_
  refine zj_iadd zd_Model_sign_10 ?_
  refine zj_bipush (v := nI 80) zd_Model_sign_11 (by decide) ?_
  exact zj_icmp_le zd_Model_sign_13 (by decide) (fun h => (kt h)) (fun h => (zj_weak (L' := [none, none, none]) trivial (kf h)))
theorem zb_Model_sign_16 {Γ : zG} {σ : zS}  (e : z_end Γ (some ((-1))) σ) : z_J Γ zm_Model_sign 16 [none, none, none] [] σ := by
  refine zj_iconst (v := (-1)) zd_Model_sign_16 (by decide) ?_
  exact zj_ireturn rfl zd_Model_sign_17 e
theorem zb_Model_sign_18 {Γ : zG} {σ : zS} {x1 : Int32}  (k : z_J Γ zm_Model_sign 20 [some (.inr (63)), some (.inl (x1)), some (.inl (nI 3))] [] σ) : z_J Γ zm_Model_sign 18 [some (.inr (63)), some (.inl (x1)), none] [] σ := by
  refine zj_iconst (v := nI 3) zd_Model_sign_18 (by decide) ?_
  refine zj_istore_n (L' := [some (.inr (63)), some (.inl (x1)), some (.inl (nI 3))]) zd_Model_sign_19 (by decide) rfl ?_
  exact k
theorem zb_Model_sign_20 {Γ : zG} {σ : zS} {x1 x2 : Int32}  (kt : x2 < 0 → z_J Γ zm_Model_sign 53 [some (.inr (63)), none, none] [] σ) (kf : ¬ x2 < 0 → z_J Γ zm_Model_sign 24 [some (.inr (63)), some (.inl (x1)), some (.inl (x2))] [] σ) : z_J Γ zm_Model_sign 20 [some (.inr (63)), some (.inl (x1)), some (.inl (x2))] [] σ := by
  refine zj_iload_n zd_Model_sign_20 rfl ?_
  exact zj_if_lt zd_Model_sign_21 (by decide) (fun h => (zj_weak (L' := [some (.inr (63)), none, none]) ⟨rfl, trivial⟩ (kt h))) (fun h => (kf h))
theorem zb_Model_sign_24 {Γ : zG} {σ : zS} {x1 x2 : Int32} {k1 : Nat}  (b1 : z_ix (σ.1 63 8) 80 k1) (k : z_J Γ zm_Model_sign 20 [some (.inr (63)), some (.inl (x1)), some (.inl (x2 + (-1)))] [] (z_pI (z_pI σ 63 8 ((σ.1 63 8) + (nI 1))) 68 k1 (vp_nar .byte ((x1 >>> (((nI 8) * x2) &&& 31)).toInt8.toInt32)))) : z_J Γ zm_Model_sign 24 [some (.inr (63)), some (.inl (x1)), some (.inl (x2))] [] σ := by
  refine zj_aload_n zd_Model_sign_24 rfl ?_
  refine zj_getR rfl (by decide) rfl zu_Model (k := 7) (by decide) rfl zl_Model_26 zd_Model_sign_25 (o' := 68) rfl ?_
  refine zj_aload_n zd_Model_sign_28 rfl ?_
  refine zj_dup zd_Model_sign_29 ?_
  refine zj_getI rfl (by decide) rfl zu_Model (k := 8) (by decide) rfl zl_Model_107 zd_Model_sign_30 ?_
  refine zj_dup_x1 zd_Model_sign_33 ?_
  refine zj_iconst (v := nI 1) zd_Model_sign_34 (by decide) ?_
  refine zj_iadd zd_Model_sign_35 ?_
  refine zj_putI rfl (by decide) rfl zu_Model zy_Model_ok zn_Model (k := 8) (by decide) rfl rfl zl_Model_107 rfl rfl zd_Model_sign_36 ?_
  refine zj_iload_n zd_Model_sign_39 rfl ?_
  refine zj_bipush (v := nI 8) zd_Model_sign_40 (by decide) ?_
  refine zj_iload_n zd_Model_sign_42 rfl ?_
  refine zj_imul zd_Model_sign_43 ?_
  refine zj_ishr zd_Model_sign_44 ?_
  refine zj_i2b zd_Model_sign_45 ?_
  refine zj_bastore rfl (by decide) b1 zd_Model_sign_46 ?_
  refine zj_iinc (v := (-1)) (L' := [some (.inr (63)), some (.inl (x1)), some (.inl (x2 + (-1)))]) zd_Model_sign_47 rfl (by decide) (by decide) rfl ?_
  exact zj_goto zd_Model_sign_50 (by decide) k
theorem zb_Model_sign_53 {Γ : zG} {σ : zS}  (e : z_end Γ (some (σ.1 63 8)) σ) : z_J Γ zm_Model_sign 53 [some (.inr (63)), none, none] [] σ := by
  refine zj_aload_n zd_Model_sign_53 rfl ?_
  refine zj_getI rfl (by decide) rfl zu_Model (k := 8) (by decide) rfl zl_Model_107 zd_Model_sign_54 ?_
  exact zj_ireturn rfl zd_Model_sign_57 e
theorem zd_Model_end_0 : decode zm_Model_end.2.1 0 = .ok (.aload_n 0, 1) := by decide +kernel
theorem zd_Model_end_1 : decode zm_Model_end.2.1 1 = .ok (.iconst 0, 1) := by decide +kernel
theorem zd_Model_end_2 : decode zm_Model_end.2.1 2 = .ok (.putfield 91, 3) := by decide +kernel
theorem zd_Model_end_5 : decode zm_Model_end.2.1 5 = .ok (.iload_n 1, 1) := by decide +kernel
theorem zd_Model_end_6 : decode zm_Model_end.2.1 6 = .ok (.iconst 0, 1) := by decide +kernel
theorem zd_Model_end_7 : decode zm_Model_end.2.1 7 = .ok (.aload_n 0, 1) := by decide +kernel
theorem zd_Model_end_8 : decode zm_Model_end.2.1 8 = .ok (.getfield 107, 3) := by decide +kernel
theorem zd_Model_end_11 : decode zm_Model_end.2.1 11 = .ok (.invokestatic 100, 3) := by decide +kernel
theorem zd_Model_end_14 : decode zm_Model_end.2.1 14 = .ok (.ifCond .ne 5, 3) := by decide +kernel
theorem zd_Model_end_17 : decode zm_Model_end.2.1 17 = .ok (.iconst 0, 1) := by decide +kernel
theorem zd_Model_end_18 : decode zm_Model_end.2.1 18 = .ok (.ireturn, 1) := by decide +kernel
theorem zd_Model_end_19 : decode zm_Model_end.2.1 19 = .ok (.aload_n 0, 1) := by decide +kernel
theorem zd_Model_end_20 : decode zm_Model_end.2.1 20 = .ok (.iload_n 1, 1) := by decide +kernel
theorem zd_Model_end_21 : decode zm_Model_end.2.1 21 = .ok (.putfield 107, 3) := by decide +kernel
theorem zd_Model_end_24 : decode zm_Model_end.2.1 24 = .ok (.iconst 1, 1) := by decide +kernel
theorem zd_Model_end_25 : decode zm_Model_end.2.1 25 = .ok (.ireturn, 1) := by decide +kernel
theorem zb_Model_end_0 {Γ : zG} {σ : zS} {x1 : Int32} {dc : Nat} {P : Int32 → zS → Prop}  (hm : z_Ci dc zm_Model_in [.inl (x1), .inl (nI 0), .inl ((z_pI σ 63 11 (nI 0)).1 63 8)] (z_pI σ 63 11 (nI 0)) P) (hdp : dc < z_dep Γ) (k : ∀ r σ1, P r σ1 → z_J Γ zm_Model_end 14 [some (.inr (63)), some (.inl (x1))] [.inl (r)] σ1) : z_J Γ zm_Model_end 0 [some (.inr (63)), some (.inl (x1))] [] σ := by
  refine zj_aload_n zd_Model_end_0 rfl ?_
  refine zj_iconst (v := nI 0) zd_Model_end_1 (by decide) ?_
  refine zj_putI rfl (by decide) rfl zu_Model zy_Model_ok zn_Model (k := 11) (by decide) rfl rfl zl_Model_91 rfl rfl zd_Model_end_2 ?_
  refine zj_iload_n zd_Model_end_5 rfl ?_
  refine zj_iconst (v := nI 0) zd_Model_end_6 (by decide) ?_
  refine zj_aload_n zd_Model_end_7 rfl ?_
  refine zj_getI rfl (by decide) rfl zu_Model (k := 8) (by decide) rfl zl_Model_107 zd_Model_end_8 ?_
  exact zj_callSi (As := [.inl (x1), .inl (nI 0), .inl ((z_pI σ 63 11 (nI 0)).1 63 8)]) hm hdp zl_Model_100 zq_Model_in zd_Model_end_11 rfl (Nat.le_of_ble_eq_true rfl) (fun r σ1 h => (k r σ1 h))
theorem zb_Model_end_14 {Γ : zG} {σ : zS} {x1 y0 : Int32}  (kt : ¬ y0 = 0 → z_J Γ zm_Model_end 19 [some (.inr (63)), some (.inl (x1))] [] σ) (kf : y0 = 0 → z_J Γ zm_Model_end 17 [none, none] [] σ) : z_J Γ zm_Model_end 14 [some (.inr (63)), some (.inl (x1))] [.inl (y0)] σ := by
  exact zj_if_ne zd_Model_end_14 (by decide) (fun h => (kt h)) (fun h => (zj_weak (L' := [none, none]) trivial (kf h)))
theorem zb_Model_end_17 {Γ : zG} {σ : zS}  (e : z_end Γ (some (nI 0)) σ) : z_J Γ zm_Model_end 17 [none, none] [] σ := by
  refine zj_iconst (v := nI 0) zd_Model_end_17 (by decide) ?_
  exact zj_zreturn rfl (Or.inl (by decide)) zd_Model_end_18 e
theorem zb_Model_end_19 {Γ : zG} {σ : zS} {x1 : Int32}  (e : z_end Γ (some (nI 1)) (z_pI σ 63 8 x1)) : z_J Γ zm_Model_end 19 [some (.inr (63)), some (.inl (x1))] [] σ := by
  refine zj_aload_n zd_Model_end_19 rfl ?_
  refine zj_iload_n zd_Model_end_20 rfl ?_
  refine zj_putI rfl (by decide) rfl zu_Model zy_Model_ok zn_Model (k := 8) (by decide) rfl rfl zl_Model_107 rfl rfl zd_Model_end_21 ?_
  refine zj_iconst (v := nI 1) zd_Model_end_24 (by decide) ?_
  exact zj_zreturn rfl (Or.inr (by decide)) zd_Model_end_25 e
theorem zd_Model_in_0 : decode zm_Model_in.2.1 0 = .ok (.iload_n 0, 1) := by decide +kernel
theorem zd_Model_in_1 : decode zm_Model_in.2.1 1 = .ok (.iload_n 1, 1) := by decide +kernel
theorem zd_Model_in_2 : decode zm_Model_in.2.1 2 = .ok (.if_icmp .lt 12, 3) := by decide +kernel
theorem zd_Model_in_5 : decode zm_Model_in.2.1 5 = .ok (.iload_n 0, 1) := by decide +kernel
theorem zd_Model_in_6 : decode zm_Model_in.2.1 6 = .ok (.iload_n 2, 1) := by decide +kernel
theorem zd_Model_in_7 : decode zm_Model_in.2.1 7 = .ok (.if_icmp .gt 7, 3) := by decide +kernel
theorem zd_Model_in_10 : decode zm_Model_in.2.1 10 = .ok (.iconst 1, 1) := by decide +kernel
theorem zd_Model_in_11 : decode zm_Model_in.2.1 11 = .ok (.goto 4, 3) := by decide +kernel
theorem zd_Model_in_14 : decode zm_Model_in.2.1 14 = .ok (.iconst 0, 1) := by decide +kernel
theorem zd_Model_in_15 : decode zm_Model_in.2.1 15 = .ok (.ireturn, 1) := by decide +kernel
theorem zb_Model_in_0 {Γ : zG} {σ : zS} {x0 x1 x2 : Int32}  (kt : x0 < x1 → z_J Γ zm_Model_in 14 [none, none, none] [] σ) (kf : ¬ x0 < x1 → z_J Γ zm_Model_in 5 [some (.inl (x0)), none, some (.inl (x2))] [] σ) : z_J Γ zm_Model_in 0 [some (.inl (x0)), some (.inl (x1)), some (.inl (x2))] [] σ := by
  refine zj_iload_n zd_Model_in_0 rfl ?_
  refine zj_iload_n zd_Model_in_1 rfl ?_
  exact zj_icmp_lt zd_Model_in_2 (by decide) (fun h => (zj_weak (L' := [none, none, none]) trivial (kt h))) (fun h => (zj_weak (L' := [some (.inl (x0)), none, some (.inl (x2))]) ⟨rfl, ⟨rfl, trivial⟩⟩ (kf h)))
theorem zb_Model_in_5 {Γ : zG} {σ : zS} {x0 x2 : Int32}  (kt : x2 < x0 → z_J Γ zm_Model_in 14 [none, none, none] [] σ) (kf : ¬ x2 < x0 → z_J Γ zm_Model_in 10 [none, none, none] [] σ) : z_J Γ zm_Model_in 5 [some (.inl (x0)), none, some (.inl (x2))] [] σ := by
  refine zj_iload_n zd_Model_in_5 rfl ?_
  refine zj_iload_n zd_Model_in_6 rfl ?_
  exact zj_icmp_gt zd_Model_in_7 (by decide) (fun h => (zj_weak (L' := [none, none, none]) trivial (kt h))) (fun h => (zj_weak (L' := [none, none, none]) trivial (kf h)))
theorem zb_Model_in_10 {Γ : zG} {σ : zS}  (k : z_J Γ zm_Model_in 15 [none, none, none] [.inl (nI 1)] σ) : z_J Γ zm_Model_in 10 [none, none, none] [] σ := by
  refine zj_iconst (v := nI 1) zd_Model_in_10 (by decide) ?_
  exact zj_goto zd_Model_in_11 (by decide) k
theorem zb_Model_in_14 {Γ : zG} {σ : zS}  (k : z_J Γ zm_Model_in 15 [none, none, none] [.inl (nI 0)] σ) : z_J Γ zm_Model_in 14 [none, none, none] [] σ := by
  refine zj_iconst (v := nI 0) zd_Model_in_14 (by decide) ?_
  exact k
theorem zb_Model_in_15 {Γ : zG} {σ : zS} {y0 : Int32}  (e : z_end Γ (some (y0)) σ) (z1 : y0 = 0 ∨ y0 = 1) : z_J Γ zm_Model_in 15 [none, none, none] [.inl (y0)] σ := by
  exact zj_zreturn rfl z1 zd_Model_in_15 e
theorem zd_Model_books_0 : decode zm_Model_books.2.1 0 = .ok (.aload_n 0, 1) := by decide +kernel
theorem zd_Model_books_1 : decode zm_Model_books.2.1 1 = .ok (.iconst 0, 1) := by decide +kernel
theorem zd_Model_books_2 : decode zm_Model_books.2.1 2 = .ok (.putfield 91, 3) := by decide +kernel
theorem zd_Model_books_5 : decode zm_Model_books.2.1 5 = .ok (.aload_n 0, 1) := by decide +kernel
theorem zd_Model_books_6 : decode zm_Model_books.2.1 6 = .ok (.bipush 36, 2) := by decide +kernel
theorem zd_Model_books_8 : decode zm_Model_books.2.1 8 = .ok (.invokevirtual 149, 3) := by decide +kernel
theorem zd_Model_books_11 : decode zm_Model_books.2.1 11 = .ok (.aload_n 0, 1) := by decide +kernel
theorem zd_Model_books_12 : decode zm_Model_books.2.1 12 = .ok (.getfield 113, 3) := by decide +kernel
theorem zd_Model_books_15 : decode zm_Model_books.2.1 15 = .ok (.ifCond .ne 5, 3) := by decide +kernel
theorem zd_Model_books_18 : decode zm_Model_books.2.1 18 = .ok (.iconst 0, 1) := by decide +kernel
theorem zd_Model_books_19 : decode zm_Model_books.2.1 19 = .ok (.ireturn, 1) := by decide +kernel
theorem zd_Model_books_20 : decode zm_Model_books.2.1 20 = .ok (.iconst 0, 1) := by decide +kernel
theorem zd_Model_books_21 : decode zm_Model_books.2.1 21 = .ok (.istore_n 1, 1) := by decide +kernel
theorem zd_Model_books_22 : decode zm_Model_books.2.1 22 = .ok (.iconst 1, 1) := by decide +kernel
theorem zd_Model_books_23 : decode zm_Model_books.2.1 23 = .ok (.istore_n 2, 1) := by decide +kernel
theorem zd_Model_books_24 : decode zm_Model_books.2.1 24 = .ok (.iload_n 2, 1) := by decide +kernel
theorem zd_Model_books_25 : decode zm_Model_books.2.1 25 = .ok (.ifCond .eq 81, 3) := by decide +kernel
theorem zd_Model_books_28 : decode zm_Model_books.2.1 28 = .ok (.aload_n 0, 1) := by decide +kernel
theorem zd_Model_books_29 : decode zm_Model_books.2.1 29 = .ok (.invokevirtual 129, 3) := by decide +kernel
theorem zd_Model_books_32 : decode zm_Model_books.2.1 32 = .ok (.ifCond .eq 74, 3) := by decide +kernel
theorem zd_Model_books_35 : decode zm_Model_books.2.1 35 = .ok (.aload_n 0, 1) := by decide +kernel
theorem zd_Model_books_36 : decode zm_Model_books.2.1 36 = .ok (.getfield 97, 3) := by decide +kernel
theorem zd_Model_books_39 : decode zm_Model_books.2.1 39 = .ok (.iload_n 1, 1) := by decide +kernel
theorem zd_Model_books_40 : decode zm_Model_books.2.1 40 = .ok (.iadd, 1) := by decide +kernel
theorem zd_Model_books_41 : decode zm_Model_books.2.1 41 = .ok (.bipush 12, 2) := by decide +kernel
theorem zd_Model_books_43 : decode zm_Model_books.2.1 43 = .ok (.if_icmp .ne 14, 3) := by decide +kernel
theorem zd_Model_books_46 : decode zm_Model_books.2.1 46 = .ok (.aload_n 0, 1) := by decide +kernel
theorem zd_Model_books_47 : decode zm_Model_books.2.1 47 = .ok (.aload_n 0, 1) := by decide +kernel
theorem zd_Model_books_48 : decode zm_Model_books.2.1 48 = .ok (.getfield 119, 3) := by decide +kernel
theorem zd_Model_books_51 : decode zm_Model_books.2.1 51 = .ok (.invokevirtual 141, 3) := by decide +kernel
theorem zd_Model_books_54 : decode zm_Model_books.2.1 54 = .ok (.goto 39, 3) := by decide +kernel
theorem zd_Model_books_57 : decode zm_Model_books.2.1 57 = .ok (.aload_n 0, 1) := by decide +kernel
theorem zd_Model_books_58 : decode zm_Model_books.2.1 58 = .ok (.getfield 33, 3) := by decide +kernel
theorem zd_Model_books_61 : decode zm_Model_books.2.1 61 = .ok (.iconst 2, 1) := by decide +kernel
theorem zd_Model_books_62 : decode zm_Model_books.2.1 62 = .ok (.iload_n 1, 1) := by decide +kernel
theorem zd_Model_books_63 : decode zm_Model_books.2.1 63 = .ok (.imul, 1) := by decide +kernel
theorem zd_Model_books_64 : decode zm_Model_books.2.1 64 = .ok (.aload_n 0, 1) := by decide +kernel
theorem zd_Model_books_65 : decode zm_Model_books.2.1 65 = .ok (.bipush 49, 2) := by decide +kernel
theorem zd_Model_books_67 : decode zm_Model_books.2.1 67 = .ok (.bipush 9, 2) := by decide +kernel
theorem zd_Model_books_69 : decode zm_Model_books.2.1 69 = .ok (.invokevirtual 145, 3) := by decide +kernel
theorem zd_Model_books_72 : decode zm_Model_books.2.1 72 = .ok (.iconst 1, 1) := by decide +kernel
theorem zd_Model_books_73 : decode zm_Model_books.2.1 73 = .ok (.iadd, 1) := by decide +kernel
theorem zd_Model_books_74 : decode zm_Model_books.2.1 74 = .ok (.iastore, 1) := by decide +kernel
theorem zd_Model_books_75 : decode zm_Model_books.2.1 75 = .ok (.aload_n 0, 1) := by decide +kernel
theorem zd_Model_books_76 : decode zm_Model_books.2.1 76 = .ok (.getfield 33, 3) := by decide +kernel
theorem zd_Model_books_79 : decode zm_Model_books.2.1 79 = .ok (.iconst 2, 1) := by decide +kernel
theorem zd_Model_books_80 : decode zm_Model_books.2.1 80 = .ok (.iload_n 1, 1) := by decide +kernel
theorem zd_Model_books_81 : decode zm_Model_books.2.1 81 = .ok (.imul, 1) := by decide +kernel
theorem zd_Model_books_82 : decode zm_Model_books.2.1 82 = .ok (.iconst 1, 1) := by decide +kernel
theorem zd_Model_books_83 : decode zm_Model_books.2.1 83 = .ok (.iadd, 1) := by decide +kernel
theorem zd_Model_books_84 : decode zm_Model_books.2.1 84 = .ok (.aload_n 0, 1) := by decide +kernel
theorem zd_Model_books_85 : decode zm_Model_books.2.1 85 = .ok (.bipush 48, 2) := by decide +kernel
theorem zd_Model_books_87 : decode zm_Model_books.2.1 87 = .ok (.bipush 10, 2) := by decide +kernel
theorem zd_Model_books_89 : decode zm_Model_books.2.1 89 = .ok (.invokevirtual 145, 3) := by decide +kernel
theorem zd_Model_books_92 : decode zm_Model_books.2.1 92 = .ok (.iastore, 1) := by decide +kernel
theorem zd_Model_books_93 : decode zm_Model_books.2.1 93 = .ok (.iinc 1 1, 3) := by decide +kernel
theorem zd_Model_books_96 : decode zm_Model_books.2.1 96 = .ok (.aload_n 0, 1) := by decide +kernel
theorem zd_Model_books_97 : decode zm_Model_books.2.1 97 = .ok (.bipush 59, 2) := by decide +kernel
theorem zd_Model_books_99 : decode zm_Model_books.2.1 99 = .ok (.invokevirtual 137, 3) := by decide +kernel
theorem zd_Model_books_102 : decode zm_Model_books.2.1 102 = .ok (.istore_n 2, 1) := by decide +kernel
theorem zd_Model_books_103 : decode zm_Model_books.2.1 103 = .ok (.goto (-79), 3) := by decide +kernel
theorem zd_Model_books_106 : decode zm_Model_books.2.1 106 = .ok (.aload_n 0, 1) := by decide +kernel
theorem zd_Model_books_107 : decode zm_Model_books.2.1 107 = .ok (.invokevirtual 152, 3) := by decide +kernel
theorem zd_Model_books_110 : decode zm_Model_books.2.1 110 = .ok (.ifCond .ne 10, 3) := by decide +kernel
theorem zd_Model_books_113 : decode zm_Model_books.2.1 113 = .ok (.iconst (-1), 1) := by decide +kernel
theorem zd_Model_books_114 : decode zm_Model_books.2.1 114 = .ok (.aload_n 0, 1) := by decide +kernel
theorem zd_Model_books_115 : decode zm_Model_books.2.1 115 = .ok (.getfield 122, 3) := by decide +kernel
theorem zd_Model_books_118 : decode zm_Model_books.2.1 118 = .ok (.isub, 1) := by decide +kernel
theorem zd_Model_books_119 : decode zm_Model_books.2.1 119 = .ok (.ireturn, 1) := by decide +kernel
theorem zd_Model_books_120 : decode zm_Model_books.2.1 120 = .ok (.iconst 0, 1) := by decide +kernel
theorem zd_Model_books_121 : decode zm_Model_books.2.1 121 = .ok (.istore_n 3, 1) := by decide +kernel
theorem zd_Model_books_122 : decode zm_Model_books.2.1 122 = .ok (.iload_n 3, 1) := by decide +kernel
theorem zd_Model_books_123 : decode zm_Model_books.2.1 123 = .ok (.iload_n 1, 1) := by decide +kernel
theorem zd_Model_books_124 : decode zm_Model_books.2.1 124 = .ok (.if_icmp .ge 65, 3) := by decide +kernel
theorem zd_Model_books_127 : decode zm_Model_books.2.1 127 = .ok (.aload_n 0, 1) := by decide +kernel
theorem zd_Model_books_128 : decode zm_Model_books.2.1 128 = .ok (.getfield 13, 3) := by decide +kernel
theorem zd_Model_books_131 : decode zm_Model_books.2.1 131 = .ok (.aload_n 0, 1) := by decide +kernel
theorem zd_Model_books_132 : decode zm_Model_books.2.1 132 = .ok (.getfield 97, 3) := by decide +kernel
theorem zd_Model_books_135 : decode zm_Model_books.2.1 135 = .ok (.aload_n 0, 1) := by decide +kernel
theorem zd_Model_books_136 : decode zm_Model_books.2.1 136 = .ok (.getfield 33, 3) := by decide +kernel
theorem zd_Model_books_139 : decode zm_Model_books.2.1 139 = .ok (.iconst 2, 1) := by decide +kernel
theorem zd_Model_books_140 : decode zm_Model_books.2.1 140 = .ok (.iload_n 3, 1) := by decide +kernel
theorem zd_Model_books_141 : decode zm_Model_books.2.1 141 = .ok (.imul, 1) := by decide +kernel
theorem zd_Model_books_142 : decode zm_Model_books.2.1 142 = .ok (.iaload, 1) := by decide +kernel
theorem zd_Model_books_143 : decode zm_Model_books.2.1 143 = .ok (.iastore, 1) := by decide +kernel
theorem zd_Model_books_144 : decode zm_Model_books.2.1 144 = .ok (.aload_n 0, 1) := by decide +kernel
theorem zd_Model_books_145 : decode zm_Model_books.2.1 145 = .ok (.getfield 16, 3) := by decide +kernel
theorem zd_Model_books_148 : decode zm_Model_books.2.1 148 = .ok (.aload_n 0, 1) := by decide +kernel
theorem zd_Model_books_149 : decode zm_Model_books.2.1 149 = .ok (.getfield 97, 3) := by decide +kernel
theorem zd_Model_books_152 : decode zm_Model_books.2.1 152 = .ok (.aload_n 0, 1) := by decide +kernel
theorem zd_Model_books_153 : decode zm_Model_books.2.1 153 = .ok (.getfield 33, 3) := by decide +kernel
theorem zd_Model_books_156 : decode zm_Model_books.2.1 156 = .ok (.iconst 2, 1) := by decide +kernel
theorem zd_Model_books_157 : decode zm_Model_books.2.1 157 = .ok (.iload_n 3, 1) := by decide +kernel
theorem zd_Model_books_158 : decode zm_Model_books.2.1 158 = .ok (.imul, 1) := by decide +kernel
theorem zd_Model_books_159 : decode zm_Model_books.2.1 159 = .ok (.iconst 1, 1) := by decide +kernel
theorem zd_Model_books_160 : decode zm_Model_books.2.1 160 = .ok (.iadd, 1) := by decide +kernel
theorem zd_Model_books_161 : decode zm_Model_books.2.1 161 = .ok (.iaload, 1) := by decide +kernel
theorem zd_Model_books_162 : decode zm_Model_books.2.1 162 = .ok (.iastore, 1) := by decide +kernel
theorem zd_Model_books_163 : decode zm_Model_books.2.1 163 = .ok (.aload_n 0, 1) := by decide +kernel
theorem zd_Model_books_164 : decode zm_Model_books.2.1 164 = .ok (.getfield 9, 3) := by decide +kernel
theorem zd_Model_books_167 : decode zm_Model_books.2.1 167 = .ok (.aload_n 0, 1) := by decide +kernel
theorem zd_Model_books_168 : decode zm_Model_books.2.1 168 = .ok (.getfield 97, 3) := by decide +kernel
theorem zd_Model_books_171 : decode zm_Model_books.2.1 171 = .ok (.iconst 0, 1) := by decide +kernel
theorem zd_Model_books_172 : decode zm_Model_books.2.1 172 = .ok (.iastore, 1) := by decide +kernel
theorem zd_Model_books_173 : decode zm_Model_books.2.1 173 = .ok (.aload_n 0, 1) := by decide +kernel
theorem zd_Model_books_174 : decode zm_Model_books.2.1 174 = .ok (.dup, 1) := by decide +kernel
theorem zd_Model_books_175 : decode zm_Model_books.2.1 175 = .ok (.getfield 97, 3) := by decide +kernel
theorem zd_Model_books_178 : decode zm_Model_books.2.1 178 = .ok (.iconst 1, 1) := by decide +kernel
theorem zd_Model_books_179 : decode zm_Model_books.2.1 179 = .ok (.iadd, 1) := by decide +kernel
theorem zd_Model_books_180 : decode zm_Model_books.2.1 180 = .ok (.putfield 97, 3) := by decide +kernel
theorem zd_Model_books_183 : decode zm_Model_books.2.1 183 = .ok (.iinc 3 1, 3) := by decide +kernel
theorem zd_Model_books_186 : decode zm_Model_books.2.1 186 = .ok (.goto (-64), 3) := by decide +kernel
theorem zd_Model_books_189 : decode zm_Model_books.2.1 189 = .ok (.aload_n 0, 1) := by decide +kernel
theorem zd_Model_books_190 : decode zm_Model_books.2.1 190 = .ok (.iconst 0, 1) := by decide +kernel
theorem zd_Model_books_191 : decode zm_Model_books.2.1 191 = .ok (.putfield 155, 3) := by decide +kernel
theorem zd_Model_books_194 : decode zm_Model_books.2.1 194 = .ok (.aload_n 0, 1) := by decide +kernel
theorem zd_Model_books_195 : decode zm_Model_books.2.1 195 = .ok (.dup, 1) := by decide +kernel
theorem zd_Model_books_196 : decode zm_Model_books.2.1 196 = .ok (.getfield 158, 3) := by decide +kernel
theorem zd_Model_books_199 : decode zm_Model_books.2.1 199 = .ok (.iconst 1, 1) := by decide +kernel
theorem zd_Model_books_200 : decode zm_Model_books.2.1 200 = .ok (.iadd, 1) := by decide +kernel
theorem zd_Model_books_201 : decode zm_Model_books.2.1 201 = .ok (.putfield 158, 3) := by decide +kernel
theorem zd_Model_books_204 : decode zm_Model_books.2.1 204 = .ok (.iload_n 1, 1) := by decide +kernel
theorem zd_Model_books_205 : decode zm_Model_books.2.1 205 = .ok (.ireturn, 1) := by decide +kernel
theorem zb_Model_books_0 {Γ : zG} {σ : zS} {dc : Nat} {P : zS → Prop}  (hm : z_Cv dc zm_Model_beginText [.inr (63), .inl (nI 36)] (z_pI σ 63 11 (nI 0)) P) (hdp : dc < z_dep Γ) (k : ∀ σ1, P σ1 → z_J Γ zm_Model_books 11 [some (.inr (63)), none, none, none] [] σ1) : z_J Γ zm_Model_books 0 [some (.inr (63)), none, none, none] [] σ := by
  refine zj_aload_n zd_Model_books_0 rfl ?_
  refine zj_iconst (v := nI 0) zd_Model_books_1 (by decide) ?_
  refine zj_putI rfl (by decide) rfl zu_Model zy_Model_ok zn_Model (k := 11) (by decide) rfl rfl zl_Model_91 rfl rfl zd_Model_books_2 ?_
  refine zj_aload_n zd_Model_books_5 rfl ?_
  refine zj_bipush (v := nI 36) zd_Model_books_6 (by decide) ?_
  exact zj_callVv (As := [.inl (nI 36)]) hm hdp rfl (by decide) rfl zl_Model_149 zq_Model_beginText zd_Model_books_8 rfl (Nat.le_of_ble_eq_true rfl) (fun σ1 h => (k σ1 h))
theorem zb_Model_books_11 {Γ : zG} {σ : zS}  (kt : ¬ (σ.1 63 13) = 0 → z_J Γ zm_Model_books 20 [some (.inr (63)), none, none, none] [] σ) (kf : (σ.1 63 13) = 0 → z_J Γ zm_Model_books 18 [none, none, none, none] [] σ) : z_J Γ zm_Model_books 11 [some (.inr (63)), none, none, none] [] σ := by
  refine zj_aload_n zd_Model_books_11 rfl ?_
  refine zj_getI rfl (by decide) rfl zu_Model (k := 13) (by decide) rfl zl_Model_113 zd_Model_books_12 ?_
  exact zj_if_ne zd_Model_books_15 (by decide) (fun h => (kt h)) (fun h => (zj_weak (L' := [none, none, none, none]) trivial (kf h)))
theorem zb_Model_books_18 {Γ : zG} {σ : zS}  (e : z_end Γ (some (nI 0)) σ) : z_J Γ zm_Model_books 18 [none, none, none, none] [] σ := by
  refine zj_iconst (v := nI 0) zd_Model_books_18 (by decide) ?_
  exact zj_ireturn rfl zd_Model_books_19 e
theorem zb_Model_books_20 {Γ : zG} {σ : zS}  (k : z_J Γ zm_Model_books 24 [some (.inr (63)), some (.inl (nI 0)), some (.inl (nI 1)), none] [] σ) : z_J Γ zm_Model_books 20 [some (.inr (63)), none, none, none] [] σ := by
  refine zj_iconst (v := nI 0) zd_Model_books_20 (by decide) ?_
  refine zj_istore_n (L' := [some (.inr (63)), some (.inl (nI 0)), none, none]) zd_Model_books_21 (by decide) rfl ?_
  refine zj_iconst (v := nI 1) zd_Model_books_22 (by decide) ?_
  refine zj_istore_n (L' := [some (.inr (63)), some (.inl (nI 0)), some (.inl (nI 1)), none]) zd_Model_books_23 (by decide) rfl ?_
  exact k
theorem zb_Model_books_24 {Γ : zG} {σ : zS} {x1 x2 : Int32}  (kt : x2 = 0 → z_J Γ zm_Model_books 106 [some (.inr (63)), some (.inl (x1)), none, none] [] σ) (kf : ¬ x2 = 0 → z_J Γ zm_Model_books 28 [some (.inr (63)), some (.inl (x1)), none, none] [] σ) : z_J Γ zm_Model_books 24 [some (.inr (63)), some (.inl (x1)), some (.inl (x2)), none] [] σ := by
  refine zj_iload_n zd_Model_books_24 rfl ?_
  exact zj_if_eq zd_Model_books_25 (by decide) (fun h => (zj_weak (L' := [some (.inr (63)), some (.inl (x1)), none, none]) ⟨rfl, ⟨rfl, trivial⟩⟩ (kt h))) (fun h => (zj_weak (L' := [some (.inr (63)), some (.inl (x1)), none, none]) ⟨rfl, ⟨rfl, trivial⟩⟩ (kf h)))
theorem zb_Model_books_28 {Γ : zG} {σ : zS} {x1 : Int32} {dc : Nat} {P : Int32 → zS → Prop}  (hm : z_Ci dc zm_Model_fine [.inr (63)] σ P) (hdp : dc < z_dep Γ) (k : ∀ r σ1, P r σ1 → z_J Γ zm_Model_books 32 [some (.inr (63)), some (.inl (x1)), none, none] [.inl (r)] σ1) : z_J Γ zm_Model_books 28 [some (.inr (63)), some (.inl (x1)), none, none] [] σ := by
  refine zj_aload_n zd_Model_books_28 rfl ?_
  exact zj_callVi (As := []) hm hdp rfl (by decide) rfl zl_Model_129 zq_Model_fine zd_Model_books_29 rfl (Nat.le_of_ble_eq_true rfl) (fun r σ1 h => (k r σ1 h))
theorem zb_Model_books_32 {Γ : zG} {σ : zS} {x1 y0 : Int32}  (kt : y0 = 0 → z_J Γ zm_Model_books 106 [some (.inr (63)), some (.inl (x1)), none, none] [] σ) (kf : ¬ y0 = 0 → z_J Γ zm_Model_books 35 [some (.inr (63)), some (.inl (x1)), none, none] [] σ) : z_J Γ zm_Model_books 32 [some (.inr (63)), some (.inl (x1)), none, none] [.inl (y0)] σ := by
  exact zj_if_eq zd_Model_books_32 (by decide) (fun h => (kt h)) (fun h => (kf h))
theorem zb_Model_books_35 {Γ : zG} {σ : zS} {x1 : Int32}  (kt : ¬ ((σ.1 63 1) + x1) = (nI 12) → z_J Γ zm_Model_books 57 [some (.inr (63)), some (.inl (x1)), none, none] [] σ) (kf : ((σ.1 63 1) + x1) = (nI 12) → z_J Γ zm_Model_books 46 [some (.inr (63)), some (.inl (x1)), none, none] [] σ) : z_J Γ zm_Model_books 35 [some (.inr (63)), some (.inl (x1)), none, none] [] σ := by
  refine zj_aload_n zd_Model_books_35 rfl ?_
  refine zj_getI rfl (by decide) rfl zu_Model (k := 1) (by decide) rfl zl_Model_97 zd_Model_books_36 ?_
  refine zj_iload_n zd_Model_books_39 rfl ?_
  refine zj_iadd zd_Model_books_40 ?_
  refine zj_bipush (v := nI 12) zd_Model_books_41 (by decide) ?_
  exact zj_icmp_ne zd_Model_books_43 (by decide) (fun h => (kt h)) (fun h => (kf h))
theorem zb_Model_books_46 {Γ : zG} {σ : zS} {x1 : Int32} {dc : Nat} {P : zS → Prop}  (hm : z_Cv dc zm_Model_fault [.inr (63), .inl (σ.1 63 15)] σ P) (hdp : dc < z_dep Γ) (k : ∀ σ1, P σ1 → z_J Γ zm_Model_books 54 [some (.inr (63)), some (.inl (x1)), none, none] [] σ1) : z_J Γ zm_Model_books 46 [some (.inr (63)), some (.inl (x1)), none, none] [] σ := by
  refine zj_aload_n zd_Model_books_46 rfl ?_
  refine zj_aload_n zd_Model_books_47 rfl ?_
  refine zj_getI rfl (by decide) rfl zu_Model (k := 15) (by decide) rfl zl_Model_119 zd_Model_books_48 ?_
  exact zj_callVv (As := [.inl (σ.1 63 15)]) hm hdp rfl (by decide) rfl zl_Model_141 zq_Model_fault zd_Model_books_51 rfl (Nat.le_of_ble_eq_true rfl) (fun σ1 h => (k σ1 h))
theorem zb_Model_books_54 {Γ : zG} {σ : zS} {x1 : Int32}  (k : z_J Γ zm_Model_books 93 [some (.inr (63)), some (.inl (x1)), none, none] [] σ) : z_J Γ zm_Model_books 54 [some (.inr (63)), some (.inl (x1)), none, none] [] σ := by
  exact zj_goto zd_Model_books_54 (by decide) k
theorem zb_Model_books_57 {Γ : zG} {σ : zS} {x1 : Int32} {dc : Nat} {P : Int32 → zS → Prop}  (hm : z_Ci dc zm_Model_oneOf [.inr (63), .inl (nI 49), .inl (nI 9)] σ P) (hdp : dc < z_dep Γ) (k : ∀ r σ1, P r σ1 → z_J Γ zm_Model_books 72 [some (.inr (63)), some (.inl (x1)), none, none] [.inl (r), .inl ((nI 2) * x1), .inr (70)] σ1) : z_J Γ zm_Model_books 57 [some (.inr (63)), some (.inl (x1)), none, none] [] σ := by
  refine zj_aload_n zd_Model_books_57 rfl ?_
  refine zj_getR rfl (by decide) rfl zu_Model (k := 17) (by decide) rfl zl_Model_33 zd_Model_books_58 (o' := 70) rfl ?_
  refine zj_iconst (v := nI 2) zd_Model_books_61 (by decide) ?_
  refine zj_iload_n zd_Model_books_62 rfl ?_
  refine zj_imul zd_Model_books_63 ?_
  refine zj_aload_n zd_Model_books_64 rfl ?_
  refine zj_bipush (v := nI 49) zd_Model_books_65 (by decide) ?_
  refine zj_bipush (v := nI 9) zd_Model_books_67 (by decide) ?_
  exact zj_callVi (As := [.inl (nI 49), .inl (nI 9)]) hm hdp rfl (by decide) rfl zl_Model_145 zq_Model_oneOf zd_Model_books_69 rfl (Nat.le_of_ble_eq_true rfl) (fun r σ1 h => (k r σ1 h))
theorem zb_Model_books_72 {Γ : zG} {σ : zS} {x1 y0 y1 : Int32} {k1 : Nat} {dc : Nat} {P : Int32 → zS → Prop}  (b1 : z_ix y1 24 k1) (hm : z_Ci dc zm_Model_oneOf [.inr (63), .inl (nI 48), .inl (nI 10)] (z_pI σ 70 k1 (y0 + (nI 1))) P) (hdp : dc < z_dep Γ) (k : ∀ r σ1, P r σ1 → z_J Γ zm_Model_books 92 [some (.inr (63)), some (.inl (x1)), none, none] [.inl (r), .inl (((nI 2) * x1) + (nI 1)), .inr (70)] σ1) : z_J Γ zm_Model_books 72 [some (.inr (63)), some (.inl (x1)), none, none] [.inl (y0), .inl (y1), .inr (70)] σ := by
  refine zj_iconst (v := nI 1) zd_Model_books_72 (by decide) ?_
  refine zj_iadd zd_Model_books_73 ?_
  refine zj_iastore rfl (by decide) b1 zd_Model_books_74 ?_
  refine zj_aload_n zd_Model_books_75 rfl ?_
  refine zj_getR rfl (by decide) rfl zu_Model (k := 17) (by decide) rfl zl_Model_33 zd_Model_books_76 (o' := 70) rfl ?_
  refine zj_iconst (v := nI 2) zd_Model_books_79 (by decide) ?_
  refine zj_iload_n zd_Model_books_80 rfl ?_
  refine zj_imul zd_Model_books_81 ?_
  refine zj_iconst (v := nI 1) zd_Model_books_82 (by decide) ?_
  refine zj_iadd zd_Model_books_83 ?_
  refine zj_aload_n zd_Model_books_84 rfl ?_
  refine zj_bipush (v := nI 48) zd_Model_books_85 (by decide) ?_
  refine zj_bipush (v := nI 10) zd_Model_books_87 (by decide) ?_
  exact zj_callVi (As := [.inl (nI 48), .inl (nI 10)]) hm hdp rfl (by decide) rfl zl_Model_145 zq_Model_oneOf zd_Model_books_89 rfl (Nat.le_of_ble_eq_true rfl) (fun r σ1 h => (k r σ1 h))
theorem zb_Model_books_92 {Γ : zG} {σ : zS} {x1 y0 y1 : Int32} {k1 : Nat}  (b1 : z_ix y1 24 k1) (k : z_J Γ zm_Model_books 93 [some (.inr (63)), some (.inl (x1)), none, none] [] (z_pI σ 70 k1 y0)) : z_J Γ zm_Model_books 92 [some (.inr (63)), some (.inl (x1)), none, none] [.inl (y0), .inl (y1), .inr (70)] σ := by
  refine zj_iastore rfl (by decide) b1 zd_Model_books_92 ?_
  exact k
theorem zb_Model_books_93 {Γ : zG} {σ : zS} {x1 : Int32} {dc : Nat} {P : Int32 → zS → Prop}  (hm : z_Ci dc zm_Model_passes [.inr (63), .inl (nI 59)] σ P) (hdp : dc < z_dep Γ) (k : ∀ r σ1, P r σ1 → z_J Γ zm_Model_books 102 [some (.inr (63)), some (.inl (x1 + nI 1)), none, none] [.inl (r)] σ1) : z_J Γ zm_Model_books 93 [some (.inr (63)), some (.inl (x1)), none, none] [] σ := by
  refine zj_iinc (v := nI 1) (L' := [some (.inr (63)), some (.inl (x1 + nI 1)), none, none]) zd_Model_books_93 rfl (by decide) (by decide) rfl ?_
  refine zj_aload_n zd_Model_books_96 rfl ?_
  refine zj_bipush (v := nI 59) zd_Model_books_97 (by decide) ?_
  exact zj_callVi (As := [.inl (nI 59)]) hm hdp rfl (by decide) rfl zl_Model_137 zq_Model_passes zd_Model_books_99 rfl (Nat.le_of_ble_eq_true rfl) (fun r σ1 h => (k r σ1 h))
theorem zb_Model_books_102 {Γ : zG} {σ : zS} {x1 y0 : Int32}  (k : z_J Γ zm_Model_books 24 [some (.inr (63)), some (.inl (x1)), some (.inl (y0)), none] [] σ) : z_J Γ zm_Model_books 102 [some (.inr (63)), some (.inl (x1)), none, none] [.inl (y0)] σ := by
  refine zj_istore_n (L' := [some (.inr (63)), some (.inl (x1)), some (.inl (y0)), none]) zd_Model_books_102 (by decide) rfl ?_
  exact zj_goto zd_Model_books_103 (by decide) k
theorem zb_Model_books_106 {Γ : zG} {σ : zS} {x1 : Int32} {dc : Nat} {P : Int32 → zS → Prop}  (hm : z_Ci dc zm_Model_wasRight [.inr (63)] σ P) (hdp : dc < z_dep Γ) (k : ∀ r σ1, P r σ1 → z_J Γ zm_Model_books 110 [some (.inr (63)), some (.inl (x1)), none, none] [.inl (r)] σ1) : z_J Γ zm_Model_books 106 [some (.inr (63)), some (.inl (x1)), none, none] [] σ := by
  refine zj_aload_n zd_Model_books_106 rfl ?_
  exact zj_callVi (As := []) hm hdp rfl (by decide) rfl zl_Model_152 zq_Model_wasRight zd_Model_books_107 rfl (Nat.le_of_ble_eq_true rfl) (fun r σ1 h => (k r σ1 h))
theorem zb_Model_books_110 {Γ : zG} {σ : zS} {x1 y0 : Int32}  (kt : ¬ y0 = 0 → z_J Γ zm_Model_books 120 [some (.inr (63)), some (.inl (x1)), none, none] [] σ) (kf : y0 = 0 → z_J Γ zm_Model_books 113 [some (.inr (63)), none, none, none] [] σ) : z_J Γ zm_Model_books 110 [some (.inr (63)), some (.inl (x1)), none, none] [.inl (y0)] σ := by
  exact zj_if_ne zd_Model_books_110 (by decide) (fun h => (kt h)) (fun h => (zj_weak (L' := [some (.inr (63)), none, none, none]) ⟨rfl, trivial⟩ (kf h)))
theorem zb_Model_books_113 {Γ : zG} {σ : zS}  (e : z_end Γ (some ((-1) - (σ.1 63 16))) σ) : z_J Γ zm_Model_books 113 [some (.inr (63)), none, none, none] [] σ := by
  refine zj_iconst (v := (-1)) zd_Model_books_113 (by decide) ?_
  refine zj_aload_n zd_Model_books_114 rfl ?_
  refine zj_getI rfl (by decide) rfl zu_Model (k := 16) (by decide) rfl zl_Model_122 zd_Model_books_115 ?_
  refine zj_isub zd_Model_books_118 ?_
  exact zj_ireturn rfl zd_Model_books_119 e
theorem zb_Model_books_120 {Γ : zG} {σ : zS} {x1 : Int32}  (k : z_J Γ zm_Model_books 122 [some (.inr (63)), some (.inl (x1)), none, some (.inl (nI 0))] [] σ) : z_J Γ zm_Model_books 120 [some (.inr (63)), some (.inl (x1)), none, none] [] σ := by
  refine zj_iconst (v := nI 0) zd_Model_books_120 (by decide) ?_
  refine zj_istore_n (L' := [some (.inr (63)), some (.inl (x1)), none, some (.inl (nI 0))]) zd_Model_books_121 (by decide) rfl ?_
  exact k
theorem zb_Model_books_122 {Γ : zG} {σ : zS} {x1 x3 : Int32}  (kt : x1 ≤ x3 → z_J Γ zm_Model_books 189 [some (.inr (63)), some (.inl (x1)), none, none] [] σ) (kf : ¬ x1 ≤ x3 → z_J Γ zm_Model_books 127 [some (.inr (63)), some (.inl (x1)), none, some (.inl (x3))] [] σ) : z_J Γ zm_Model_books 122 [some (.inr (63)), some (.inl (x1)), none, some (.inl (x3))] [] σ := by
  refine zj_iload_n zd_Model_books_122 rfl ?_
  refine zj_iload_n zd_Model_books_123 rfl ?_
  exact zj_icmp_ge zd_Model_books_124 (by decide) (fun h => (zj_weak (L' := [some (.inr (63)), some (.inl (x1)), none, none]) ⟨rfl, ⟨rfl, trivial⟩⟩ (kt h))) (fun h => (kf h))
theorem zb_Model_books_127 {Γ : zG} {σ : zS} {x1 x3 : Int32} {k1 k2 k3 k4 k5 : Nat}  (b1 : z_ix ((nI 2) * x3) 24 k1) (b2 : z_ix (σ.1 63 1) 12 k2) (b3 : z_ix (((nI 2) * x3) + (nI 1)) 24 k3) (b4 : z_ix ((z_pI σ 65 k2 (σ.1 70 k1)).1 63 1) 12 k4) (b5 : z_ix ((z_pI (z_pI σ 65 k2 (σ.1 70 k1)) 66 k4 ((z_pI σ 65 k2 (σ.1 70 k1)).1 70 k3)).1 63 1) 53 k5) (k : z_J Γ zm_Model_books 122 [some (.inr (63)), some (.inl (x1)), none, some (.inl (x3 + nI 1))] [] (z_pI (z_pI (z_pI (z_pI σ 65 k2 (σ.1 70 k1)) 66 k4 ((z_pI σ 65 k2 (σ.1 70 k1)).1 70 k3)) 64 k5 (nI 0)) 63 1 (((z_pI (z_pI (z_pI σ 65 k2 (σ.1 70 k1)) 66 k4 ((z_pI σ 65 k2 (σ.1 70 k1)).1 70 k3)) 64 k5 (nI 0)).1 63 1) + (nI 1)))) : z_J Γ zm_Model_books 127 [some (.inr (63)), some (.inl (x1)), none, some (.inl (x3))] [] σ := by
  refine zj_aload_n zd_Model_books_127 rfl ?_
  refine zj_getR rfl (by decide) rfl zu_Model (k := 2) (by decide) rfl zl_Model_13 zd_Model_books_128 (o' := 65) rfl ?_
  refine zj_aload_n zd_Model_books_131 rfl ?_
  refine zj_getI rfl (by decide) rfl zu_Model (k := 1) (by decide) rfl zl_Model_97 zd_Model_books_132 ?_
  refine zj_aload_n zd_Model_books_135 rfl ?_
  refine zj_getR rfl (by decide) rfl zu_Model (k := 17) (by decide) rfl zl_Model_33 zd_Model_books_136 (o' := 70) rfl ?_
  refine zj_iconst (v := nI 2) zd_Model_books_139 (by decide) ?_
  refine zj_iload_n zd_Model_books_140 rfl ?_
  refine zj_imul zd_Model_books_141 ?_
  refine zj_iaload rfl (by decide) b1 zd_Model_books_142 ?_
  refine zj_iastore rfl (by decide) b2 zd_Model_books_143 ?_
  refine zj_aload_n zd_Model_books_144 rfl ?_
  refine zj_getR rfl (by decide) rfl zu_Model (k := 3) (by decide) rfl zl_Model_16 zd_Model_books_145 (o' := 66) rfl ?_
  refine zj_aload_n zd_Model_books_148 rfl ?_
  refine zj_getI rfl (by decide) rfl zu_Model (k := 1) (by decide) rfl zl_Model_97 zd_Model_books_149 ?_
  refine zj_aload_n zd_Model_books_152 rfl ?_
  refine zj_getR rfl (by decide) rfl zu_Model (k := 17) (by decide) rfl zl_Model_33 zd_Model_books_153 (o' := 70) rfl ?_
  refine zj_iconst (v := nI 2) zd_Model_books_156 (by decide) ?_
  refine zj_iload_n zd_Model_books_157 rfl ?_
  refine zj_imul zd_Model_books_158 ?_
  refine zj_iconst (v := nI 1) zd_Model_books_159 (by decide) ?_
  refine zj_iadd zd_Model_books_160 ?_
  refine zj_iaload rfl (by decide) b3 zd_Model_books_161 ?_
  refine zj_iastore rfl (by decide) b4 zd_Model_books_162 ?_
  refine zj_aload_n zd_Model_books_163 rfl ?_
  refine zj_getR rfl (by decide) rfl zu_Model (k := 0) (by decide) rfl zl_Model_9 zd_Model_books_164 (o' := 64) rfl ?_
  refine zj_aload_n zd_Model_books_167 rfl ?_
  refine zj_getI rfl (by decide) rfl zu_Model (k := 1) (by decide) rfl zl_Model_97 zd_Model_books_168 ?_
  refine zj_iconst (v := nI 0) zd_Model_books_171 (by decide) ?_
  refine zj_iastore rfl (by decide) b5 zd_Model_books_172 ?_
  refine zj_aload_n zd_Model_books_173 rfl ?_
  refine zj_dup zd_Model_books_174 ?_
  refine zj_getI rfl (by decide) rfl zu_Model (k := 1) (by decide) rfl zl_Model_97 zd_Model_books_175 ?_
  refine zj_iconst (v := nI 1) zd_Model_books_178 (by decide) ?_
  refine zj_iadd zd_Model_books_179 ?_
  refine zj_putI rfl (by decide) rfl zu_Model zy_Model_ok zn_Model (k := 1) (by decide) rfl rfl zl_Model_97 rfl rfl zd_Model_books_180 ?_
  refine zj_iinc (v := nI 1) (L' := [some (.inr (63)), some (.inl (x1)), none, some (.inl (x3 + nI 1))]) zd_Model_books_183 rfl (by decide) (by decide) rfl ?_
  exact zj_goto zd_Model_books_186 (by decide) k
theorem zb_Model_books_189 {Γ : zG} {σ : zS} {x1 : Int32}  (e : z_end Γ (some (x1)) (z_pI (z_pI σ 63 27 (nI 0)) 63 44 (((z_pI σ 63 27 (nI 0)).1 63 44) + (nI 1)))) : z_J Γ zm_Model_books 189 [some (.inr (63)), some (.inl (x1)), none, none] [] σ := by
  refine zj_aload_n zd_Model_books_189 rfl ?_
  refine zj_iconst (v := nI 0) zd_Model_books_190 (by decide) ?_
  refine zj_putI rfl (by decide) rfl zu_Model zy_Model_ok zn_Model (k := 27) (by decide) rfl rfl zl_Model_155 rfl rfl zd_Model_books_191 ?_
  refine zj_aload_n zd_Model_books_194 rfl ?_
  refine zj_dup zd_Model_books_195 ?_
  refine zj_getI rfl (by decide) rfl zu_Model (k := 44) (by decide) rfl zl_Model_158 zd_Model_books_196 ?_
  refine zj_iconst (v := nI 1) zd_Model_books_199 (by decide) ?_
  refine zj_iadd zd_Model_books_200 ?_
  refine zj_putI rfl (by decide) rfl zu_Model zy_Model_ok zn_Model (k := 44) (by decide) rfl rfl zl_Model_158 rfl rfl zd_Model_books_201 ?_
  refine zj_iload_n zd_Model_books_204 rfl ?_
  exact zj_ireturn rfl zd_Model_books_205 e
theorem zd_Model_beginText_0 : decode zm_Model_beginText.2.1 0 = .ok (.aload_n 0, 1) := by decide +kernel
theorem zd_Model_beginText_1 : decode zm_Model_beginText.2.1 1 = .ok (.aload_n 0, 1) := by decide +kernel
theorem zd_Model_beginText_2 : decode zm_Model_beginText.2.1 2 = .ok (.getfield 26, 3) := by decide +kernel
theorem zd_Model_beginText_5 : decode zm_Model_beginText.2.1 5 = .ok (.aload_n 0, 1) := by decide +kernel
theorem zd_Model_beginText_6 : decode zm_Model_beginText.2.1 6 = .ok (.getfield 107, 3) := by decide +kernel
theorem zd_Model_beginText_9 : decode zm_Model_beginText.2.1 9 = .ok (.iload_n 1, 1) := by decide +kernel
theorem zd_Model_beginText_10 : decode zm_Model_beginText.2.1 10 = .ok (.invokevirtual 125, 3) := by decide +kernel
theorem zd_Model_beginText_13 : decode zm_Model_beginText.2.1 13 = .ok (.aload_n 0, 1) := by decide +kernel
theorem zd_Model_beginText_14 : decode zm_Model_beginText.2.1 14 = .ok (.iconst 0, 1) := by decide +kernel
theorem zd_Model_beginText_15 : decode zm_Model_beginText.2.1 15 = .ok (.putfield 107, 3) := by decide +kernel
theorem zd_Model_beginText_18 : decode zm_Model_beginText.2.1 18 = .ok (.return_, 1) := by decide +kernel
theorem zb_Model_beginText_0 {Γ : zG} {σ : zS} {x1 : Int32} {dc : Nat} {P : zS → Prop}  (hm : z_Cv dc zm_Model_begin [.inr (63), .inr (68), .inl (σ.1 63 8), .inl (x1)] σ P) (hdp : dc < z_dep Γ) (k : ∀ σ1, P σ1 → z_J Γ zm_Model_beginText 13 [some (.inr (63)), none] [] σ1) : z_J Γ zm_Model_beginText 0 [some (.inr (63)), some (.inl (x1))] [] σ := by
  refine zj_aload_n zd_Model_beginText_0 rfl ?_
  refine zj_aload_n zd_Model_beginText_1 rfl ?_
  refine zj_getR rfl (by decide) rfl zu_Model (k := 7) (by decide) rfl zl_Model_26 zd_Model_beginText_2 (o' := 68) rfl ?_
  refine zj_aload_n zd_Model_beginText_5 rfl ?_
  refine zj_getI rfl (by decide) rfl zu_Model (k := 8) (by decide) rfl zl_Model_107 zd_Model_beginText_6 ?_
  refine zj_iload_n zd_Model_beginText_9 rfl ?_
  exact zj_callVv (As := [.inr (68), .inl (σ.1 63 8), .inl (x1)]) hm hdp rfl (by decide) rfl zl_Model_125 zq_Model_begin zd_Model_beginText_10 rfl (Nat.le_of_ble_eq_true rfl) (fun σ1 h => (zj_weak (L' := [some (.inr (63)), none]) ⟨rfl, trivial⟩ (k σ1 h)))
theorem zb_Model_beginText_13 {Γ : zG} {σ : zS}  (e : z_end Γ none (z_pI σ 63 8 (nI 0))) : z_J Γ zm_Model_beginText 13 [some (.inr (63)), none] [] σ := by
  refine zj_aload_n zd_Model_beginText_13 rfl ?_
  refine zj_iconst (v := nI 0) zd_Model_beginText_14 (by decide) ?_
  refine zj_putI rfl (by decide) rfl zu_Model zy_Model_ok zn_Model (k := 8) (by decide) rfl rfl zl_Model_107 rfl rfl zd_Model_beginText_15 ?_
  exact zj_return rfl zd_Model_beginText_18 e
theorem zd_Model_begin_0 : decode zm_Model_begin.2.1 0 = .ok (.aload_n 0, 1) := by decide +kernel
theorem zd_Model_begin_1 : decode zm_Model_begin.2.1 1 = .ok (.aload_n 1, 1) := by decide +kernel
theorem zd_Model_begin_2 : decode zm_Model_begin.2.1 2 = .ok (.putfield 110, 3) := by decide +kernel
theorem zd_Model_begin_5 : decode zm_Model_begin.2.1 5 = .ok (.aload_n 0, 1) := by decide +kernel
theorem zd_Model_begin_6 : decode zm_Model_begin.2.1 6 = .ok (.iload_n 2, 1) := by decide +kernel
theorem zd_Model_begin_7 : decode zm_Model_begin.2.1 7 = .ok (.putfield 113, 3) := by decide +kernel
theorem zd_Model_begin_10 : decode zm_Model_begin.2.1 10 = .ok (.aload_n 0, 1) := by decide +kernel
theorem zd_Model_begin_11 : decode zm_Model_begin.2.1 11 = .ok (.iload_n 3, 1) := by decide +kernel
theorem zd_Model_begin_12 : decode zm_Model_begin.2.1 12 = .ok (.putfield 116, 3) := by decide +kernel
theorem zd_Model_begin_15 : decode zm_Model_begin.2.1 15 = .ok (.aload_n 0, 1) := by decide +kernel
theorem zd_Model_begin_16 : decode zm_Model_begin.2.1 16 = .ok (.iconst 0, 1) := by decide +kernel
theorem zd_Model_begin_17 : decode zm_Model_begin.2.1 17 = .ok (.putfield 119, 3) := by decide +kernel
theorem zd_Model_begin_20 : decode zm_Model_begin.2.1 20 = .ok (.aload_n 0, 1) := by decide +kernel
theorem zd_Model_begin_21 : decode zm_Model_begin.2.1 21 = .ok (.iconst (-1), 1) := by decide +kernel
theorem zd_Model_begin_22 : decode zm_Model_begin.2.1 22 = .ok (.putfield 122, 3) := by decide +kernel
theorem zd_Model_begin_25 : decode zm_Model_begin.2.1 25 = .ok (.return_, 1) := by decide +kernel
theorem zb_Model_begin_0 {Γ : zG} {σ : zS} {a1 : Nat} {n1 : Nat} {x2 x3 : Int32} (h_a1 : z_kd a1 = (9, n1)) (e : z_end Γ none (z_pI (z_pI (z_pI (z_pI (z_pR σ 63 12 a1) 63 13 x2) 63 14 x3) 63 15 (nI 0)) 63 16 (-1))) : z_J Γ zm_Model_begin 0 [some (.inr (63)), some (.inr (a1)), some (.inl (x2)), some (.inl (x3))] [] σ := by
  refine zj_aload_n zd_Model_begin_0 rfl ?_
  refine zj_aload_n zd_Model_begin_1 rfl ?_
  refine zj_putM rfl (by decide) rfl zu_Model zy_Model_ok zn_Model (k := 12) (by decide) rfl rfl zl_Model_110 (z_lt h_a1 (by decide)) (fun _ => rfl) (fun _ => rfl) zd_Model_begin_2 ?_
  refine zj_aload_n zd_Model_begin_5 rfl ?_
  refine zj_iload_n zd_Model_begin_6 rfl ?_
  refine zj_putI rfl (by decide) rfl zu_Model zy_Model_ok zn_Model (k := 13) (by decide) rfl rfl zl_Model_113 rfl rfl zd_Model_begin_7 ?_
  refine zj_aload_n zd_Model_begin_10 rfl ?_
  refine zj_iload_n zd_Model_begin_11 rfl ?_
  refine zj_putI rfl (by decide) rfl zu_Model zy_Model_ok zn_Model (k := 14) (by decide) rfl rfl zl_Model_116 rfl rfl zd_Model_begin_12 ?_
  refine zj_aload_n zd_Model_begin_15 rfl ?_
  refine zj_iconst (v := nI 0) zd_Model_begin_16 (by decide) ?_
  refine zj_putI rfl (by decide) rfl zu_Model zy_Model_ok zn_Model (k := 15) (by decide) rfl rfl zl_Model_119 rfl rfl zd_Model_begin_17 ?_
  refine zj_aload_n zd_Model_begin_20 rfl ?_
  refine zj_iconst (v := (-1)) zd_Model_begin_21 (by decide) ?_
  refine zj_putI rfl (by decide) rfl zu_Model zy_Model_ok zn_Model (k := 16) (by decide) rfl rfl zl_Model_122 rfl rfl zd_Model_begin_22 ?_
  exact zj_return rfl zd_Model_begin_25 e
theorem zd_Model_fine_0 : decode zm_Model_fine.2.1 0 = .ok (.aload_n 0, 1) := by decide +kernel
theorem zd_Model_fine_1 : decode zm_Model_fine.2.1 1 = .ok (.getfield 122, 3) := by decide +kernel
theorem zd_Model_fine_4 : decode zm_Model_fine.2.1 4 = .ok (.iconst (-1), 1) := by decide +kernel
theorem zd_Model_fine_5 : decode zm_Model_fine.2.1 5 = .ok (.if_icmp .ne 7, 3) := by decide +kernel
theorem zd_Model_fine_8 : decode zm_Model_fine.2.1 8 = .ok (.iconst 1, 1) := by decide +kernel
theorem zd_Model_fine_9 : decode zm_Model_fine.2.1 9 = .ok (.goto 4, 3) := by decide +kernel
theorem zd_Model_fine_12 : decode zm_Model_fine.2.1 12 = .ok (.iconst 0, 1) := by decide +kernel
theorem zd_Model_fine_13 : decode zm_Model_fine.2.1 13 = .ok (.ireturn, 1) := by decide +kernel
theorem zb_Model_fine_0 {Γ : zG} {σ : zS}  (kt : ¬ (σ.1 63 16) = (-1) → z_J Γ zm_Model_fine 12 [none] [] σ) (kf : (σ.1 63 16) = (-1) → z_J Γ zm_Model_fine 8 [none] [] σ) : z_J Γ zm_Model_fine 0 [some (.inr (63))] [] σ := by
  refine zj_aload_n zd_Model_fine_0 rfl ?_
  refine zj_getI rfl (by decide) rfl zu_Model (k := 16) (by decide) rfl zl_Model_122 zd_Model_fine_1 ?_
  refine zj_iconst (v := (-1)) zd_Model_fine_4 (by decide) ?_
  exact zj_icmp_ne zd_Model_fine_5 (by decide) (fun h => (zj_weak (L' := [none]) trivial (kt h))) (fun h => (zj_weak (L' := [none]) trivial (kf h)))
theorem zb_Model_fine_8 {Γ : zG} {σ : zS}  (k : z_J Γ zm_Model_fine 13 [none] [.inl (nI 1)] σ) : z_J Γ zm_Model_fine 8 [none] [] σ := by
  refine zj_iconst (v := nI 1) zd_Model_fine_8 (by decide) ?_
  exact zj_goto zd_Model_fine_9 (by decide) k
theorem zb_Model_fine_12 {Γ : zG} {σ : zS}  (k : z_J Γ zm_Model_fine 13 [none] [.inl (nI 0)] σ) : z_J Γ zm_Model_fine 12 [none] [] σ := by
  refine zj_iconst (v := nI 0) zd_Model_fine_12 (by decide) ?_
  exact k
theorem zb_Model_fine_13 {Γ : zG} {σ : zS} {y0 : Int32}  (e : z_end Γ (some (y0)) σ) (z1 : y0 = 0 ∨ y0 = 1) : z_J Γ zm_Model_fine 13 [none] [.inl (y0)] σ := by
  exact zj_zreturn rfl z1 zd_Model_fine_13 e
theorem zd_Model_fault_0 : decode zm_Model_fault.2.1 0 = .ok (.aload_n 0, 1) := by decide +kernel
theorem zd_Model_fault_1 : decode zm_Model_fault.2.1 1 = .ok (.invokevirtual 129, 3) := by decide +kernel
theorem zd_Model_fault_4 : decode zm_Model_fault.2.1 4 = .ok (.ifCond .eq 8, 3) := by decide +kernel
theorem zd_Model_fault_7 : decode zm_Model_fault.2.1 7 = .ok (.aload_n 0, 1) := by decide +kernel
theorem zd_Model_fault_8 : decode zm_Model_fault.2.1 8 = .ok (.iload_n 1, 1) := by decide +kernel
theorem zd_Model_fault_9 : decode zm_Model_fault.2.1 9 = .ok (.putfield 122, 3) := by decide +kernel
theorem zd_Model_fault_12 : decode zm_Model_fault.2.1 12 = .ok (.return_, 1) := by decide +kernel
theorem zb_Model_fault_0 {Γ : zG} {σ : zS} {x1 : Int32} {dc : Nat} {P : Int32 → zS → Prop}  (hm : z_Ci dc zm_Model_fine [.inr (63)] σ P) (hdp : dc < z_dep Γ) (k : ∀ r σ1, P r σ1 → z_J Γ zm_Model_fault 4 [some (.inr (63)), some (.inl (x1))] [.inl (r)] σ1) : z_J Γ zm_Model_fault 0 [some (.inr (63)), some (.inl (x1))] [] σ := by
  refine zj_aload_n zd_Model_fault_0 rfl ?_
  exact zj_callVi (As := []) hm hdp rfl (by decide) rfl zl_Model_129 zq_Model_fine zd_Model_fault_1 rfl (Nat.le_of_ble_eq_true rfl) (fun r σ1 h => (k r σ1 h))
theorem zb_Model_fault_4 {Γ : zG} {σ : zS} {x1 y0 : Int32}  (kt : y0 = 0 → z_J Γ zm_Model_fault 12 [none, none] [] σ) (kf : ¬ y0 = 0 → z_J Γ zm_Model_fault 7 [some (.inr (63)), some (.inl (x1))] [] σ) : z_J Γ zm_Model_fault 4 [some (.inr (63)), some (.inl (x1))] [.inl (y0)] σ := by
  exact zj_if_eq zd_Model_fault_4 (by decide) (fun h => (zj_weak (L' := [none, none]) trivial (kt h))) (fun h => (kf h))
theorem zb_Model_fault_7 {Γ : zG} {σ : zS} {x1 : Int32}  (k : z_J Γ zm_Model_fault 12 [none, none] [] (z_pI σ 63 16 x1)) : z_J Γ zm_Model_fault 7 [some (.inr (63)), some (.inl (x1))] [] σ := by
  refine zj_aload_n zd_Model_fault_7 rfl ?_
  refine zj_iload_n zd_Model_fault_8 rfl ?_
  refine zj_putI rfl (by decide) rfl zu_Model zy_Model_ok zn_Model (k := 16) (by decide) rfl rfl zl_Model_122 rfl rfl zd_Model_fault_9 ?_
  exact (zj_weak (L' := [none, none]) trivial k)
theorem zb_Model_fault_12 {Γ : zG} {σ : zS}  (e : z_end Γ none σ) : z_J Γ zm_Model_fault 12 [none, none] [] σ := by
  exact zj_return rfl zd_Model_fault_12 e
theorem zd_Model_oneOf_0 : decode zm_Model_oneOf.2.1 0 = .ok (.aload_n 0, 1) := by decide +kernel
theorem zd_Model_oneOf_1 : decode zm_Model_oneOf.2.1 1 = .ok (.invokevirtual 129, 3) := by decide +kernel
theorem zd_Model_oneOf_4 : decode zm_Model_oneOf.2.1 4 = .ok (.ifCond .ne 5, 3) := by decide +kernel
theorem zd_Model_oneOf_7 : decode zm_Model_oneOf.2.1 7 = .ok (.iconst 0, 1) := by decide +kernel
theorem zd_Model_oneOf_8 : decode zm_Model_oneOf.2.1 8 = .ok (.ireturn, 1) := by decide +kernel
theorem zd_Model_oneOf_9 : decode zm_Model_oneOf.2.1 9 = .ok (.aload_n 0, 1) := by decide +kernel
theorem zd_Model_oneOf_10 : decode zm_Model_oneOf.2.1 10 = .ok (.invokevirtual 133, 3) := by decide +kernel
theorem zd_Model_oneOf_13 : decode zm_Model_oneOf.2.1 13 = .ok (.iload_n 1, 1) := by decide +kernel
theorem zd_Model_oneOf_14 : decode zm_Model_oneOf.2.1 14 = .ok (.iload_n 1, 1) := by decide +kernel
theorem zd_Model_oneOf_15 : decode zm_Model_oneOf.2.1 15 = .ok (.iload_n 2, 1) := by decide +kernel
theorem zd_Model_oneOf_16 : decode zm_Model_oneOf.2.1 16 = .ok (.iadd, 1) := by decide +kernel
theorem zd_Model_oneOf_17 : decode zm_Model_oneOf.2.1 17 = .ok (.iconst 1, 1) := by decide +kernel
theorem zd_Model_oneOf_18 : decode zm_Model_oneOf.2.1 18 = .ok (.isub, 1) := by decide +kernel
theorem zd_Model_oneOf_19 : decode zm_Model_oneOf.2.1 19 = .ok (.invokestatic 100, 3) := by decide +kernel
theorem zd_Model_oneOf_22 : decode zm_Model_oneOf.2.1 22 = .ok (.ifCond .ne 13, 3) := by decide +kernel
theorem zd_Model_oneOf_25 : decode zm_Model_oneOf.2.1 25 = .ok (.aload_n 0, 1) := by decide +kernel
theorem zd_Model_oneOf_26 : decode zm_Model_oneOf.2.1 26 = .ok (.aload_n 0, 1) := by decide +kernel
theorem zd_Model_oneOf_27 : decode zm_Model_oneOf.2.1 27 = .ok (.getfield 119, 3) := by decide +kernel
theorem zd_Model_oneOf_30 : decode zm_Model_oneOf.2.1 30 = .ok (.invokevirtual 141, 3) := by decide +kernel
theorem zd_Model_oneOf_33 : decode zm_Model_oneOf.2.1 33 = .ok (.iconst 0, 1) := by decide +kernel
theorem zd_Model_oneOf_34 : decode zm_Model_oneOf.2.1 34 = .ok (.ireturn, 1) := by decide +kernel
theorem zd_Model_oneOf_35 : decode zm_Model_oneOf.2.1 35 = .ok (.aload_n 0, 1) := by decide +kernel
theorem zd_Model_oneOf_36 : decode zm_Model_oneOf.2.1 36 = .ok (.dup, 1) := by decide +kernel
theorem zd_Model_oneOf_37 : decode zm_Model_oneOf.2.1 37 = .ok (.getfield 119, 3) := by decide +kernel
theorem zd_Model_oneOf_40 : decode zm_Model_oneOf.2.1 40 = .ok (.iconst 1, 1) := by decide +kernel
theorem zd_Model_oneOf_41 : decode zm_Model_oneOf.2.1 41 = .ok (.iadd, 1) := by decide +kernel
theorem zd_Model_oneOf_42 : decode zm_Model_oneOf.2.1 42 = .ok (.putfield 119, 3) := by decide +kernel
theorem zd_Model_oneOf_45 : decode zm_Model_oneOf.2.1 45 = .ok (.aload_n 0, 1) := by decide +kernel
theorem zd_Model_oneOf_46 : decode zm_Model_oneOf.2.1 46 = .ok (.getfield 110, 3) := by decide +kernel
theorem zd_Model_oneOf_49 : decode zm_Model_oneOf.2.1 49 = .ok (.aload_n 0, 1) := by decide +kernel
theorem zd_Model_oneOf_50 : decode zm_Model_oneOf.2.1 50 = .ok (.getfield 119, 3) := by decide +kernel
theorem zd_Model_oneOf_53 : decode zm_Model_oneOf.2.1 53 = .ok (.iconst 1, 1) := by decide +kernel
theorem zd_Model_oneOf_54 : decode zm_Model_oneOf.2.1 54 = .ok (.isub, 1) := by decide +kernel
theorem zd_Model_oneOf_55 : decode zm_Model_oneOf.2.1 55 = .ok (.baload, 1) := by decide +kernel
theorem zd_Model_oneOf_56 : decode zm_Model_oneOf.2.1 56 = .ok (.iload_n 1, 1) := by decide +kernel
theorem zd_Model_oneOf_57 : decode zm_Model_oneOf.2.1 57 = .ok (.isub, 1) := by decide +kernel
theorem zd_Model_oneOf_58 : decode zm_Model_oneOf.2.1 58 = .ok (.ireturn, 1) := by decide +kernel
theorem zb_Model_oneOf_0 {Γ : zG} {σ : zS} {x1 x2 : Int32} {dc : Nat} {P : Int32 → zS → Prop}  (hm : z_Ci dc zm_Model_fine [.inr (63)] σ P) (hdp : dc < z_dep Γ) (k : ∀ r σ1, P r σ1 → z_J Γ zm_Model_oneOf 4 [some (.inr (63)), some (.inl (x1)), some (.inl (x2))] [.inl (r)] σ1) : z_J Γ zm_Model_oneOf 0 [some (.inr (63)), some (.inl (x1)), some (.inl (x2))] [] σ := by
  refine zj_aload_n zd_Model_oneOf_0 rfl ?_
  exact zj_callVi (As := []) hm hdp rfl (by decide) rfl zl_Model_129 zq_Model_fine zd_Model_oneOf_1 rfl (Nat.le_of_ble_eq_true rfl) (fun r σ1 h => (k r σ1 h))
theorem zb_Model_oneOf_4 {Γ : zG} {σ : zS} {x1 x2 y0 : Int32}  (kt : ¬ y0 = 0 → z_J Γ zm_Model_oneOf 9 [some (.inr (63)), some (.inl (x1)), some (.inl (x2))] [] σ) (kf : y0 = 0 → z_J Γ zm_Model_oneOf 7 [none, none, none] [] σ) : z_J Γ zm_Model_oneOf 4 [some (.inr (63)), some (.inl (x1)), some (.inl (x2))] [.inl (y0)] σ := by
  exact zj_if_ne zd_Model_oneOf_4 (by decide) (fun h => (kt h)) (fun h => (zj_weak (L' := [none, none, none]) trivial (kf h)))
theorem zb_Model_oneOf_7 {Γ : zG} {σ : zS}  (e : z_end Γ (some (nI 0)) σ) : z_J Γ zm_Model_oneOf 7 [none, none, none] [] σ := by
  refine zj_iconst (v := nI 0) zd_Model_oneOf_7 (by decide) ?_
  exact zj_ireturn rfl zd_Model_oneOf_8 e
theorem zb_Model_oneOf_9 {Γ : zG} {σ : zS} {x1 x2 : Int32} {dc : Nat} {P : Int32 → zS → Prop}  (hm : z_Ci dc zm_Model_here [.inr (63)] σ P) (hdp : dc < z_dep Γ) (k : ∀ r σ1, P r σ1 → z_J Γ zm_Model_oneOf 13 [some (.inr (63)), some (.inl (x1)), some (.inl (x2))] [.inl (r)] σ1) : z_J Γ zm_Model_oneOf 9 [some (.inr (63)), some (.inl (x1)), some (.inl (x2))] [] σ := by
  refine zj_aload_n zd_Model_oneOf_9 rfl ?_
  exact zj_callVi (As := []) hm hdp rfl (by decide) rfl zl_Model_133 zq_Model_here zd_Model_oneOf_10 rfl (Nat.le_of_ble_eq_true rfl) (fun r σ1 h => (k r σ1 h))
theorem zb_Model_oneOf_13 {Γ : zG} {σ : zS} {x1 x2 y0 : Int32} {dc : Nat} {P : Int32 → zS → Prop}  (hm : z_Ci dc zm_Model_in [.inl (y0), .inl (x1), .inl ((x1 + x2) - (nI 1))] σ P) (hdp : dc < z_dep Γ) (k : ∀ r σ1, P r σ1 → z_J Γ zm_Model_oneOf 22 [some (.inr (63)), some (.inl (x1)), none] [.inl (r)] σ1) : z_J Γ zm_Model_oneOf 13 [some (.inr (63)), some (.inl (x1)), some (.inl (x2))] [.inl (y0)] σ := by
  refine zj_iload_n zd_Model_oneOf_13 rfl ?_
  refine zj_iload_n zd_Model_oneOf_14 rfl ?_
  refine zj_iload_n zd_Model_oneOf_15 rfl ?_
  refine zj_iadd zd_Model_oneOf_16 ?_
  refine zj_iconst (v := nI 1) zd_Model_oneOf_17 (by decide) ?_
  refine zj_isub zd_Model_oneOf_18 ?_
  exact zj_callSi (As := [.inl (y0), .inl (x1), .inl ((x1 + x2) - (nI 1))]) hm hdp zl_Model_100 zq_Model_in zd_Model_oneOf_19 rfl (Nat.le_of_ble_eq_true rfl) (fun r σ1 h => (zj_weak (L' := [some (.inr (63)), some (.inl (x1)), none]) ⟨rfl, ⟨rfl, trivial⟩⟩ (k r σ1 h)))
theorem zb_Model_oneOf_22 {Γ : zG} {σ : zS} {x1 y0 : Int32}  (kt : ¬ y0 = 0 → z_J Γ zm_Model_oneOf 35 [some (.inr (63)), some (.inl (x1)), none] [] σ) (kf : y0 = 0 → z_J Γ zm_Model_oneOf 25 [some (.inr (63)), none, none] [] σ) : z_J Γ zm_Model_oneOf 22 [some (.inr (63)), some (.inl (x1)), none] [.inl (y0)] σ := by
  exact zj_if_ne zd_Model_oneOf_22 (by decide) (fun h => (kt h)) (fun h => (zj_weak (L' := [some (.inr (63)), none, none]) ⟨rfl, trivial⟩ (kf h)))
theorem zb_Model_oneOf_25 {Γ : zG} {σ : zS} {dc : Nat} {P : zS → Prop}  (hm : z_Cv dc zm_Model_fault [.inr (63), .inl (σ.1 63 15)] σ P) (hdp : dc < z_dep Γ) (k : ∀ σ1, P σ1 → z_J Γ zm_Model_oneOf 33 [none, none, none] [] σ1) : z_J Γ zm_Model_oneOf 25 [some (.inr (63)), none, none] [] σ := by
  refine zj_aload_n zd_Model_oneOf_25 rfl ?_
  refine zj_aload_n zd_Model_oneOf_26 rfl ?_
  refine zj_getI rfl (by decide) rfl zu_Model (k := 15) (by decide) rfl zl_Model_119 zd_Model_oneOf_27 ?_
  exact zj_callVv (As := [.inl (σ.1 63 15)]) hm hdp rfl (by decide) rfl zl_Model_141 zq_Model_fault zd_Model_oneOf_30 rfl (Nat.le_of_ble_eq_true rfl) (fun σ1 h => (zj_weak (L' := [none, none, none]) trivial (k σ1 h)))
theorem zb_Model_oneOf_33 {Γ : zG} {σ : zS}  (e : z_end Γ (some (nI 0)) σ) : z_J Γ zm_Model_oneOf 33 [none, none, none] [] σ := by
  refine zj_iconst (v := nI 0) zd_Model_oneOf_33 (by decide) ?_
  exact zj_ireturn rfl zd_Model_oneOf_34 e
theorem zb_Model_oneOf_35 {Γ : zG} {σ : zS} {x1 : Int32} {nm1 k1 : Nat} (hs_nm1 : nm1 < 2 ^ 31) (m1 : z_kd (σ.2 63 12) = (9, nm1)) (b1 : z_ix (((z_pI σ 63 15 ((σ.1 63 15) + (nI 1))).1 63 15) - (nI 1)) nm1 k1) (e : z_end Γ (some (((z_pI σ 63 15 ((σ.1 63 15) + (nI 1))).1 (σ.2 63 12) k1) - x1)) (z_pI σ 63 15 ((σ.1 63 15) + (nI 1)))) : z_J Γ zm_Model_oneOf 35 [some (.inr (63)), some (.inl (x1)), none] [] σ := by
  refine zj_aload_n zd_Model_oneOf_35 rfl ?_
  refine zj_dup zd_Model_oneOf_36 ?_
  refine zj_getI rfl (by decide) rfl zu_Model (k := 15) (by decide) rfl zl_Model_119 zd_Model_oneOf_37 ?_
  refine zj_iconst (v := nI 1) zd_Model_oneOf_40 (by decide) ?_
  refine zj_iadd zd_Model_oneOf_41 ?_
  refine zj_putI rfl (by decide) rfl zu_Model zy_Model_ok zn_Model (k := 15) (by decide) rfl rfl zl_Model_119 rfl rfl zd_Model_oneOf_42 ?_
  refine zj_aload_n zd_Model_oneOf_45 rfl ?_
  refine zj_getM rfl (by decide) rfl zu_Model (k := 12) (by decide) rfl zl_Model_110 zd_Model_oneOf_46 (z_lt m1 (by decide)) ?_
  refine zj_aload_n zd_Model_oneOf_49 rfl ?_
  refine zj_getI rfl (by decide) rfl zu_Model (k := 15) (by decide) rfl zl_Model_119 zd_Model_oneOf_50 ?_
  refine zj_iconst (v := nI 1) zd_Model_oneOf_53 (by decide) ?_
  refine zj_isub zd_Model_oneOf_54 ?_
  refine zj_baload m1 hs_nm1 b1 zd_Model_oneOf_55 ?_
  refine zj_iload_n zd_Model_oneOf_56 rfl ?_
  refine zj_isub zd_Model_oneOf_57 ?_
  exact zj_ireturn rfl zd_Model_oneOf_58 e
theorem zd_Model_here_0 : decode zm_Model_here.2.1 0 = .ok (.aload_n 0, 1) := by decide +kernel
theorem zd_Model_here_1 : decode zm_Model_here.2.1 1 = .ok (.getfield 119, 3) := by decide +kernel
theorem zd_Model_here_4 : decode zm_Model_here.2.1 4 = .ok (.aload_n 0, 1) := by decide +kernel
theorem zd_Model_here_5 : decode zm_Model_here.2.1 5 = .ok (.getfield 113, 3) := by decide +kernel
theorem zd_Model_here_8 : decode zm_Model_here.2.1 8 = .ok (.if_icmp .ge 30, 3) := by decide +kernel
theorem zd_Model_here_11 : decode zm_Model_here.2.1 11 = .ok (.aload_n 0, 1) := by decide +kernel
theorem zd_Model_here_12 : decode zm_Model_here.2.1 12 = .ok (.getfield 119, 3) := by decide +kernel
theorem zd_Model_here_15 : decode zm_Model_here.2.1 15 = .ok (.aload_n 0, 1) := by decide +kernel
theorem zd_Model_here_16 : decode zm_Model_here.2.1 16 = .ok (.getfield 116, 3) := by decide +kernel
theorem zd_Model_here_19 : decode zm_Model_here.2.1 19 = .ok (.if_icmp .ge 19, 3) := by decide +kernel
theorem zd_Model_here_22 : decode zm_Model_here.2.1 22 = .ok (.aload_n 0, 1) := by decide +kernel
theorem zd_Model_here_23 : decode zm_Model_here.2.1 23 = .ok (.getfield 110, 3) := by decide +kernel
theorem zd_Model_here_26 : decode zm_Model_here.2.1 26 = .ok (.aload_n 0, 1) := by decide +kernel
theorem zd_Model_here_27 : decode zm_Model_here.2.1 27 = .ok (.getfield 119, 3) := by decide +kernel
theorem zd_Model_here_30 : decode zm_Model_here.2.1 30 = .ok (.baload, 1) := by decide +kernel
theorem zd_Model_here_31 : decode zm_Model_here.2.1 31 = .ok (.sipush 255, 3) := by decide +kernel
theorem zd_Model_here_34 : decode zm_Model_here.2.1 34 = .ok (.iand, 1) := by decide +kernel
theorem zd_Model_here_35 : decode zm_Model_here.2.1 35 = .ok (.goto 4, 3) := by decide +kernel
theorem zd_Model_here_38 : decode zm_Model_here.2.1 38 = .ok (.iconst (-1), 1) := by decide +kernel
theorem zd_Model_here_39 : decode zm_Model_here.2.1 39 = .ok (.ireturn, 1) := by decide +kernel
theorem zb_Model_here_0 {Γ : zG} {σ : zS}  (kt : (σ.1 63 13) ≤ (σ.1 63 15) → z_J Γ zm_Model_here 38 [none] [] σ) (kf : ¬ (σ.1 63 13) ≤ (σ.1 63 15) → z_J Γ zm_Model_here 11 [some (.inr (63))] [] σ) : z_J Γ zm_Model_here 0 [some (.inr (63))] [] σ := by
  refine zj_aload_n zd_Model_here_0 rfl ?_
  refine zj_getI rfl (by decide) rfl zu_Model (k := 15) (by decide) rfl zl_Model_119 zd_Model_here_1 ?_
  refine zj_aload_n zd_Model_here_4 rfl ?_
  refine zj_getI rfl (by decide) rfl zu_Model (k := 13) (by decide) rfl zl_Model_113 zd_Model_here_5 ?_
  exact zj_icmp_ge zd_Model_here_8 (by decide) (fun h => (zj_weak (L' := [none]) trivial (kt h))) (fun h => (kf h))
theorem zb_Model_here_11 {Γ : zG} {σ : zS}  (kt : (σ.1 63 14) ≤ (σ.1 63 15) → z_J Γ zm_Model_here 38 [none] [] σ) (kf : ¬ (σ.1 63 14) ≤ (σ.1 63 15) → z_J Γ zm_Model_here 22 [some (.inr (63))] [] σ) : z_J Γ zm_Model_here 11 [some (.inr (63))] [] σ := by
  refine zj_aload_n zd_Model_here_11 rfl ?_
  refine zj_getI rfl (by decide) rfl zu_Model (k := 15) (by decide) rfl zl_Model_119 zd_Model_here_12 ?_
  refine zj_aload_n zd_Model_here_15 rfl ?_
  refine zj_getI rfl (by decide) rfl zu_Model (k := 14) (by decide) rfl zl_Model_116 zd_Model_here_16 ?_
  exact zj_icmp_ge zd_Model_here_19 (by decide) (fun h => (zj_weak (L' := [none]) trivial (kt h))) (fun h => (kf h))
theorem zb_Model_here_22 {Γ : zG} {σ : zS} {nm1 k1 : Nat} (hs_nm1 : nm1 < 2 ^ 31) (m1 : z_kd (σ.2 63 12) = (9, nm1)) (b1 : z_ix (σ.1 63 15) nm1 k1) (k : z_J Γ zm_Model_here 39 [none] [.inl ((σ.1 (σ.2 63 12) k1) &&& (nI 255))] σ) : z_J Γ zm_Model_here 22 [some (.inr (63))] [] σ := by
  refine zj_aload_n zd_Model_here_22 rfl ?_
  refine zj_getM rfl (by decide) rfl zu_Model (k := 12) (by decide) rfl zl_Model_110 zd_Model_here_23 (z_lt m1 (by decide)) ?_
  refine zj_aload_n zd_Model_here_26 rfl ?_
  refine zj_getI rfl (by decide) rfl zu_Model (k := 15) (by decide) rfl zl_Model_119 zd_Model_here_27 ?_
  refine zj_baload m1 hs_nm1 b1 zd_Model_here_30 ?_
  refine zj_sipush (v := nI 255) zd_Model_here_31 (by decide) ?_
  refine zj_iand zd_Model_here_34 ?_
  exact zj_goto zd_Model_here_35 (by decide) (zj_weak (L' := [none]) trivial k)
theorem zb_Model_here_38 {Γ : zG} {σ : zS}  (k : z_J Γ zm_Model_here 39 [none] [.inl ((-1))] σ) : z_J Γ zm_Model_here 38 [none] [] σ := by
  refine zj_iconst (v := (-1)) zd_Model_here_38 (by decide) ?_
  exact k
theorem zb_Model_here_39 {Γ : zG} {σ : zS} {y0 : Int32}  (e : z_end Γ (some (y0)) σ) : z_J Γ zm_Model_here 39 [none] [.inl (y0)] σ := by
  exact zj_ireturn rfl zd_Model_here_39 e
theorem zd_Model_passes_0 : decode zm_Model_passes.2.1 0 = .ok (.aload_n 0, 1) := by decide +kernel
theorem zd_Model_passes_1 : decode zm_Model_passes.2.1 1 = .ok (.invokevirtual 129, 3) := by decide +kernel
theorem zd_Model_passes_4 : decode zm_Model_passes.2.1 4 = .ok (.ifCond .eq 11, 3) := by decide +kernel
theorem zd_Model_passes_7 : decode zm_Model_passes.2.1 7 = .ok (.aload_n 0, 1) := by decide +kernel
theorem zd_Model_passes_8 : decode zm_Model_passes.2.1 8 = .ok (.invokevirtual 133, 3) := by decide +kernel
theorem zd_Model_passes_11 : decode zm_Model_passes.2.1 11 = .ok (.iload_n 1, 1) := by decide +kernel
theorem zd_Model_passes_12 : decode zm_Model_passes.2.1 12 = .ok (.if_icmp .eq 5, 3) := by decide +kernel
theorem zd_Model_passes_15 : decode zm_Model_passes.2.1 15 = .ok (.iconst 0, 1) := by decide +kernel
theorem zd_Model_passes_16 : decode zm_Model_passes.2.1 16 = .ok (.ireturn, 1) := by decide +kernel
theorem zd_Model_passes_17 : decode zm_Model_passes.2.1 17 = .ok (.aload_n 0, 1) := by decide +kernel
theorem zd_Model_passes_18 : decode zm_Model_passes.2.1 18 = .ok (.dup, 1) := by decide +kernel
theorem zd_Model_passes_19 : decode zm_Model_passes.2.1 19 = .ok (.getfield 119, 3) := by decide +kernel
theorem zd_Model_passes_22 : decode zm_Model_passes.2.1 22 = .ok (.iconst 1, 1) := by decide +kernel
theorem zd_Model_passes_23 : decode zm_Model_passes.2.1 23 = .ok (.iadd, 1) := by decide +kernel
theorem zd_Model_passes_24 : decode zm_Model_passes.2.1 24 = .ok (.putfield 119, 3) := by decide +kernel
theorem zd_Model_passes_27 : decode zm_Model_passes.2.1 27 = .ok (.iconst 1, 1) := by decide +kernel
theorem zd_Model_passes_28 : decode zm_Model_passes.2.1 28 = .ok (.ireturn, 1) := by decide +kernel
theorem zb_Model_passes_0 {Γ : zG} {σ : zS} {x1 : Int32} {dc : Nat} {P : Int32 → zS → Prop}  (hm : z_Ci dc zm_Model_fine [.inr (63)] σ P) (hdp : dc < z_dep Γ) (k : ∀ r σ1, P r σ1 → z_J Γ zm_Model_passes 4 [some (.inr (63)), some (.inl (x1))] [.inl (r)] σ1) : z_J Γ zm_Model_passes 0 [some (.inr (63)), some (.inl (x1))] [] σ := by
  refine zj_aload_n zd_Model_passes_0 rfl ?_
  exact zj_callVi (As := []) hm hdp rfl (by decide) rfl zl_Model_129 zq_Model_fine zd_Model_passes_1 rfl (Nat.le_of_ble_eq_true rfl) (fun r σ1 h => (k r σ1 h))
theorem zb_Model_passes_4 {Γ : zG} {σ : zS} {x1 y0 : Int32}  (kt : y0 = 0 → z_J Γ zm_Model_passes 15 [none, none] [] σ) (kf : ¬ y0 = 0 → z_J Γ zm_Model_passes 7 [some (.inr (63)), some (.inl (x1))] [] σ) : z_J Γ zm_Model_passes 4 [some (.inr (63)), some (.inl (x1))] [.inl (y0)] σ := by
  exact zj_if_eq zd_Model_passes_4 (by decide) (fun h => (zj_weak (L' := [none, none]) trivial (kt h))) (fun h => (kf h))
theorem zb_Model_passes_7 {Γ : zG} {σ : zS} {x1 : Int32} {dc : Nat} {P : Int32 → zS → Prop}  (hm : z_Ci dc zm_Model_here [.inr (63)] σ P) (hdp : dc < z_dep Γ) (k : ∀ r σ1, P r σ1 → z_J Γ zm_Model_passes 11 [some (.inr (63)), some (.inl (x1))] [.inl (r)] σ1) : z_J Γ zm_Model_passes 7 [some (.inr (63)), some (.inl (x1))] [] σ := by
  refine zj_aload_n zd_Model_passes_7 rfl ?_
  exact zj_callVi (As := []) hm hdp rfl (by decide) rfl zl_Model_133 zq_Model_here zd_Model_passes_8 rfl (Nat.le_of_ble_eq_true rfl) (fun r σ1 h => (k r σ1 h))
theorem zb_Model_passes_11 {Γ : zG} {σ : zS} {x1 y0 : Int32}  (kt : y0 = x1 → z_J Γ zm_Model_passes 17 [some (.inr (63)), none] [] σ) (kf : ¬ y0 = x1 → z_J Γ zm_Model_passes 15 [none, none] [] σ) : z_J Γ zm_Model_passes 11 [some (.inr (63)), some (.inl (x1))] [.inl (y0)] σ := by
  refine zj_iload_n zd_Model_passes_11 rfl ?_
  exact zj_icmp_eq zd_Model_passes_12 (by decide) (fun h => (zj_weak (L' := [some (.inr (63)), none]) ⟨rfl, trivial⟩ (kt h))) (fun h => (zj_weak (L' := [none, none]) trivial (kf h)))
theorem zb_Model_passes_15 {Γ : zG} {σ : zS}  (e : z_end Γ (some (nI 0)) σ) : z_J Γ zm_Model_passes 15 [none, none] [] σ := by
  refine zj_iconst (v := nI 0) zd_Model_passes_15 (by decide) ?_
  exact zj_zreturn rfl (Or.inl (by decide)) zd_Model_passes_16 e
theorem zb_Model_passes_17 {Γ : zG} {σ : zS}  (e : z_end Γ (some (nI 1)) (z_pI σ 63 15 ((σ.1 63 15) + (nI 1)))) : z_J Γ zm_Model_passes 17 [some (.inr (63)), none] [] σ := by
  refine zj_aload_n zd_Model_passes_17 rfl ?_
  refine zj_dup zd_Model_passes_18 ?_
  refine zj_getI rfl (by decide) rfl zu_Model (k := 15) (by decide) rfl zl_Model_119 zd_Model_passes_19 ?_
  refine zj_iconst (v := nI 1) zd_Model_passes_22 (by decide) ?_
  refine zj_iadd zd_Model_passes_23 ?_
  refine zj_putI rfl (by decide) rfl zu_Model zy_Model_ok zn_Model (k := 15) (by decide) rfl rfl zl_Model_119 rfl rfl zd_Model_passes_24 ?_
  refine zj_iconst (v := nI 1) zd_Model_passes_27 (by decide) ?_
  exact zj_zreturn rfl (Or.inr (by decide)) zd_Model_passes_28 e
theorem zd_Model_wasRight_0 : decode zm_Model_wasRight.2.1 0 = .ok (.aload_n 0, 1) := by decide +kernel
theorem zd_Model_wasRight_1 : decode zm_Model_wasRight.2.1 1 = .ok (.getfield 119, 3) := by decide +kernel
theorem zd_Model_wasRight_4 : decode zm_Model_wasRight.2.1 4 = .ok (.aload_n 0, 1) := by decide +kernel
theorem zd_Model_wasRight_5 : decode zm_Model_wasRight.2.1 5 = .ok (.getfield 113, 3) := by decide +kernel
theorem zd_Model_wasRight_8 : decode zm_Model_wasRight.2.1 8 = .ok (.if_icmp .ge 11, 3) := by decide +kernel
theorem zd_Model_wasRight_11 : decode zm_Model_wasRight.2.1 11 = .ok (.aload_n 0, 1) := by decide +kernel
theorem zd_Model_wasRight_12 : decode zm_Model_wasRight.2.1 12 = .ok (.aload_n 0, 1) := by decide +kernel
theorem zd_Model_wasRight_13 : decode zm_Model_wasRight.2.1 13 = .ok (.getfield 119, 3) := by decide +kernel
theorem zd_Model_wasRight_16 : decode zm_Model_wasRight.2.1 16 = .ok (.invokevirtual 141, 3) := by decide +kernel
theorem zd_Model_wasRight_19 : decode zm_Model_wasRight.2.1 19 = .ok (.aload_n 0, 1) := by decide +kernel
theorem zd_Model_wasRight_20 : decode zm_Model_wasRight.2.1 20 = .ok (.invokevirtual 129, 3) := by decide +kernel
theorem zd_Model_wasRight_23 : decode zm_Model_wasRight.2.1 23 = .ok (.ireturn, 1) := by decide +kernel
theorem zb_Model_wasRight_0 {Γ : zG} {σ : zS}  (kt : (σ.1 63 13) ≤ (σ.1 63 15) → z_J Γ zm_Model_wasRight 19 [some (.inr (63))] [] σ) (kf : ¬ (σ.1 63 13) ≤ (σ.1 63 15) → z_J Γ zm_Model_wasRight 11 [some (.inr (63))] [] σ) : z_J Γ zm_Model_wasRight 0 [some (.inr (63))] [] σ := by
  refine zj_aload_n zd_Model_wasRight_0 rfl ?_
  refine zj_getI rfl (by decide) rfl zu_Model (k := 15) (by decide) rfl zl_Model_119 zd_Model_wasRight_1 ?_
  refine zj_aload_n zd_Model_wasRight_4 rfl ?_
  refine zj_getI rfl (by decide) rfl zu_Model (k := 13) (by decide) rfl zl_Model_113 zd_Model_wasRight_5 ?_
  exact zj_icmp_ge zd_Model_wasRight_8 (by decide) (fun h => (kt h)) (fun h => (kf h))
theorem zb_Model_wasRight_11 {Γ : zG} {σ : zS} {dc : Nat} {P : zS → Prop}  (hm : z_Cv dc zm_Model_fault [.inr (63), .inl (σ.1 63 15)] σ P) (hdp : dc < z_dep Γ) (k : ∀ σ1, P σ1 → z_J Γ zm_Model_wasRight 19 [some (.inr (63))] [] σ1) : z_J Γ zm_Model_wasRight 11 [some (.inr (63))] [] σ := by
  refine zj_aload_n zd_Model_wasRight_11 rfl ?_
  refine zj_aload_n zd_Model_wasRight_12 rfl ?_
  refine zj_getI rfl (by decide) rfl zu_Model (k := 15) (by decide) rfl zl_Model_119 zd_Model_wasRight_13 ?_
  exact zj_callVv (As := [.inl (σ.1 63 15)]) hm hdp rfl (by decide) rfl zl_Model_141 zq_Model_fault zd_Model_wasRight_16 rfl (Nat.le_of_ble_eq_true rfl) (fun σ1 h => (k σ1 h))
theorem zb_Model_wasRight_19 {Γ : zG} {σ : zS} {dc : Nat} {P : Int32 → zS → Prop}  (hm : z_Ci dc zm_Model_fine [.inr (63)] σ P) (hdp : dc < z_dep Γ) (k : ∀ r σ1, P r σ1 → z_J Γ zm_Model_wasRight 23 [none] [.inl (r)] σ1) : z_J Γ zm_Model_wasRight 19 [some (.inr (63))] [] σ := by
  refine zj_aload_n zd_Model_wasRight_19 rfl ?_
  exact zj_callVi (As := []) hm hdp rfl (by decide) rfl zl_Model_129 zq_Model_fine zd_Model_wasRight_20 rfl (Nat.le_of_ble_eq_true rfl) (fun r σ1 h => (zj_weak (L' := [none]) trivial (k r σ1 h)))
theorem zb_Model_wasRight_23 {Γ : zG} {σ : zS} {y0 : Int32}  (e : z_end Γ (some (y0)) σ) (z1 : y0 = 0 ∨ y0 = 1) : z_J Γ zm_Model_wasRight 23 [none] [.inl (y0)] σ := by
  exact zj_zreturn rfl z1 zd_Model_wasRight_23 e
theorem zd_Model_wall_0 : decode zm_Model_wall.2.1 0 = .ok (.aload_n 0, 1) := by decide +kernel
theorem zd_Model_wall_1 : decode zm_Model_wall.2.1 1 = .ok (.iconst 0, 1) := by decide +kernel
theorem zd_Model_wall_2 : decode zm_Model_wall.2.1 2 = .ok (.putfield 91, 3) := by decide +kernel
theorem zd_Model_wall_5 : decode zm_Model_wall.2.1 5 = .ok (.aload_n 0, 1) := by decide +kernel
theorem zd_Model_wall_6 : decode zm_Model_wall.2.1 6 = .ok (.bipush 80, 2) := by decide +kernel
theorem zd_Model_wall_8 : decode zm_Model_wall.2.1 8 = .ok (.invokevirtual 149, 3) := by decide +kernel
theorem zd_Model_wall_11 : decode zm_Model_wall.2.1 11 = .ok (.iconst 0, 1) := by decide +kernel
theorem zd_Model_wall_12 : decode zm_Model_wall.2.1 12 = .ok (.istore_n 1, 1) := by decide +kernel
theorem zd_Model_wall_13 : decode zm_Model_wall.2.1 13 = .ok (.iconst 0, 1) := by decide +kernel
theorem zd_Model_wall_14 : decode zm_Model_wall.2.1 14 = .ok (.istore_n 2, 1) := by decide +kernel
theorem zd_Model_wall_15 : decode zm_Model_wall.2.1 15 = .ok (.iconst 1, 1) := by decide +kernel
theorem zd_Model_wall_16 : decode zm_Model_wall.2.1 16 = .ok (.istore_n 3, 1) := by decide +kernel
theorem zd_Model_wall_17 : decode zm_Model_wall.2.1 17 = .ok (.iload_n 3, 1) := by decide +kernel
theorem zd_Model_wall_18 : decode zm_Model_wall.2.1 18 = .ok (.ifCond .eq 53, 3) := by decide +kernel
theorem zd_Model_wall_21 : decode zm_Model_wall.2.1 21 = .ok (.aload_n 0, 1) := by decide +kernel
theorem zd_Model_wall_22 : decode zm_Model_wall.2.1 22 = .ok (.invokevirtual 129, 3) := by decide +kernel
theorem zd_Model_wall_25 : decode zm_Model_wall.2.1 25 = .ok (.ifCond .eq 46, 3) := by decide +kernel
theorem zd_Model_wall_28 : decode zm_Model_wall.2.1 28 = .ok (.aload_n 0, 1) := by decide +kernel
theorem zd_Model_wall_29 : decode zm_Model_wall.2.1 29 = .ok (.bipush 45, 2) := by decide +kernel
theorem zd_Model_wall_31 : decode zm_Model_wall.2.1 31 = .ok (.invokevirtual 137, 3) := by decide +kernel
theorem zd_Model_wall_34 : decode zm_Model_wall.2.1 34 = .ok (.ifCond .ne 10, 3) := by decide +kernel
theorem zd_Model_wall_37 : decode zm_Model_wall.2.1 37 = .ok (.aload_n 0, 1) := by decide +kernel
theorem zd_Model_wall_38 : decode zm_Model_wall.2.1 38 = .ok (.iload_n 1, 1) := by decide +kernel
theorem zd_Model_wall_39 : decode zm_Model_wall.2.1 39 = .ok (.iload_n 2, 1) := by decide +kernel
theorem zd_Model_wall_40 : decode zm_Model_wall.2.1 40 = .ok (.invokevirtual 161, 3) := by decide +kernel
theorem zd_Model_wall_43 : decode zm_Model_wall.2.1 43 = .ok (.istore_n 2, 1) := by decide +kernel
theorem zd_Model_wall_44 : decode zm_Model_wall.2.1 44 = .ok (.iinc 1 1, 3) := by decide +kernel
theorem zd_Model_wall_47 : decode zm_Model_wall.2.1 47 = .ok (.iload_n 1, 1) := by decide +kernel
theorem zd_Model_wall_48 : decode zm_Model_wall.2.1 48 = .ok (.bipush 6, 2) := by decide +kernel
theorem zd_Model_wall_50 : decode zm_Model_wall.2.1 50 = .ok (.if_icmp .ge 16, 3) := by decide +kernel
theorem zd_Model_wall_53 : decode zm_Model_wall.2.1 53 = .ok (.aload_n 0, 1) := by decide +kernel
theorem zd_Model_wall_54 : decode zm_Model_wall.2.1 54 = .ok (.bipush 47, 2) := by decide +kernel
theorem zd_Model_wall_56 : decode zm_Model_wall.2.1 56 = .ok (.invokevirtual 137, 3) := by decide +kernel
theorem zd_Model_wall_59 : decode zm_Model_wall.2.1 59 = .ok (.ifCond .eq 7, 3) := by decide +kernel
theorem zd_Model_wall_62 : decode zm_Model_wall.2.1 62 = .ok (.iconst 1, 1) := by decide +kernel
theorem zd_Model_wall_63 : decode zm_Model_wall.2.1 63 = .ok (.goto 4, 3) := by decide +kernel
theorem zd_Model_wall_66 : decode zm_Model_wall.2.1 66 = .ok (.iconst 0, 1) := by decide +kernel
theorem zd_Model_wall_67 : decode zm_Model_wall.2.1 67 = .ok (.istore_n 3, 1) := by decide +kernel
theorem zd_Model_wall_68 : decode zm_Model_wall.2.1 68 = .ok (.goto (-51), 3) := by decide +kernel
theorem zd_Model_wall_71 : decode zm_Model_wall.2.1 71 = .ok (.aload_n 0, 1) := by decide +kernel
theorem zd_Model_wall_72 : decode zm_Model_wall.2.1 72 = .ok (.invokevirtual 152, 3) := by decide +kernel
theorem zd_Model_wall_75 : decode zm_Model_wall.2.1 75 = .ok (.ifCond .ne 10, 3) := by decide +kernel
theorem zd_Model_wall_78 : decode zm_Model_wall.2.1 78 = .ok (.iconst (-1), 1) := by decide +kernel
theorem zd_Model_wall_79 : decode zm_Model_wall.2.1 79 = .ok (.aload_n 0, 1) := by decide +kernel
theorem zd_Model_wall_80 : decode zm_Model_wall.2.1 80 = .ok (.getfield 122, 3) := by decide +kernel
theorem zd_Model_wall_83 : decode zm_Model_wall.2.1 83 = .ok (.isub, 1) := by decide +kernel
theorem zd_Model_wall_84 : decode zm_Model_wall.2.1 84 = .ok (.ireturn, 1) := by decide +kernel
theorem zd_Model_wall_85 : decode zm_Model_wall.2.1 85 = .ok (.aload_n 0, 1) := by decide +kernel
theorem zd_Model_wall_86 : decode zm_Model_wall.2.1 86 = .ok (.getfield 9, 3) := by decide +kernel
theorem zd_Model_wall_89 : decode zm_Model_wall.2.1 89 = .ok (.aload_n 0, 1) := by decide +kernel
theorem zd_Model_wall_90 : decode zm_Model_wall.2.1 90 = .ok (.getfield 60, 3) := by decide +kernel
theorem zd_Model_wall_93 : decode zm_Model_wall.2.1 93 = .ok (.iconst 0, 1) := by decide +kernel
theorem zd_Model_wall_94 : decode zm_Model_wall.2.1 94 = .ok (.invokestatic 165, 3) := by decide +kernel
theorem zd_Model_wall_97 : decode zm_Model_wall.2.1 97 = .ok (.iconst 0, 1) := by decide +kernel
theorem zd_Model_wall_98 : decode zm_Model_wall.2.1 98 = .ok (.istore 4, 2) := by decide +kernel
theorem zd_Model_wall_100 : decode zm_Model_wall.2.1 100 = .ok (.iload 4, 2) := by decide +kernel
theorem zd_Model_wall_102 : decode zm_Model_wall.2.1 102 = .ok (.aload_n 0, 1) := by decide +kernel
theorem zd_Model_wall_103 : decode zm_Model_wall.2.1 103 = .ok (.getfield 97, 3) := by decide +kernel
theorem zd_Model_wall_106 : decode zm_Model_wall.2.1 106 = .ok (.if_icmp .ge 46, 3) := by decide +kernel
theorem zd_Model_wall_109 : decode zm_Model_wall.2.1 109 = .ok (.aload_n 0, 1) := by decide +kernel
theorem zd_Model_wall_110 : decode zm_Model_wall.2.1 110 = .ok (.getfield 60, 3) := by decide +kernel
theorem zd_Model_wall_113 : decode zm_Model_wall.2.1 113 = .ok (.iload 4, 2) := by decide +kernel
theorem zd_Model_wall_115 : decode zm_Model_wall.2.1 115 = .ok (.iload_n 2, 1) := by decide +kernel
theorem zd_Model_wall_116 : decode zm_Model_wall.2.1 116 = .ok (.iload 4, 2) := by decide +kernel
theorem zd_Model_wall_118 : decode zm_Model_wall.2.1 118 = .ok (.invokestatic 169, 3) := by decide +kernel
theorem zd_Model_wall_121 : decode zm_Model_wall.2.1 121 = .ok (.ifCond .eq 7, 3) := by decide +kernel
theorem zd_Model_wall_124 : decode zm_Model_wall.2.1 124 = .ok (.iconst 1, 1) := by decide +kernel
theorem zd_Model_wall_125 : decode zm_Model_wall.2.1 125 = .ok (.goto 4, 3) := by decide +kernel
theorem zd_Model_wall_128 : decode zm_Model_wall.2.1 128 = .ok (.iconst 0, 1) := by decide +kernel
theorem zd_Model_wall_129 : decode zm_Model_wall.2.1 129 = .ok (.aload_n 0, 1) := by decide +kernel
theorem zd_Model_wall_130 : decode zm_Model_wall.2.1 130 = .ok (.getfield 36, 3) := by decide +kernel
theorem zd_Model_wall_133 : decode zm_Model_wall.2.1 133 = .ok (.iload 4, 2) := by decide +kernel
theorem zd_Model_wall_135 : decode zm_Model_wall.2.1 135 = .ok (.iaload, 1) := by decide +kernel
theorem zd_Model_wall_136 : decode zm_Model_wall.2.1 136 = .ok (.aload_n 0, 1) := by decide +kernel
theorem zd_Model_wall_137 : decode zm_Model_wall.2.1 137 = .ok (.getfield 39, 3) := by decide +kernel
theorem zd_Model_wall_140 : decode zm_Model_wall.2.1 140 = .ok (.iload 4, 2) := by decide +kernel
theorem zd_Model_wall_142 : decode zm_Model_wall.2.1 142 = .ok (.iaload, 1) := by decide +kernel
theorem zd_Model_wall_143 : decode zm_Model_wall.2.1 143 = .ok (.invokestatic 173, 3) := by decide +kernel
theorem zd_Model_wall_146 : decode zm_Model_wall.2.1 146 = .ok (.iinc 4 1, 3) := by decide +kernel
theorem zd_Model_wall_149 : decode zm_Model_wall.2.1 149 = .ok (.goto (-49), 3) := by decide +kernel
theorem zd_Model_wall_152 : decode zm_Model_wall.2.1 152 = .ok (.iconst 0, 1) := by decide +kernel
theorem zd_Model_wall_153 : decode zm_Model_wall.2.1 153 = .ok (.istore 4, 2) := by decide +kernel
theorem zd_Model_wall_155 : decode zm_Model_wall.2.1 155 = .ok (.iload 4, 2) := by decide +kernel
theorem zd_Model_wall_157 : decode zm_Model_wall.2.1 157 = .ok (.iload_n 1, 1) := by decide +kernel
theorem zd_Model_wall_158 : decode zm_Model_wall.2.1 158 = .ok (.if_icmp .ge 26, 3) := by decide +kernel
theorem zd_Model_wall_161 : decode zm_Model_wall.2.1 161 = .ok (.aload_n 0, 1) := by decide +kernel
theorem zd_Model_wall_162 : decode zm_Model_wall.2.1 162 = .ok (.aload_n 0, 1) := by decide +kernel
theorem zd_Model_wall_163 : decode zm_Model_wall.2.1 163 = .ok (.getfield 60, 3) := by decide +kernel
theorem zd_Model_wall_166 : decode zm_Model_wall.2.1 166 = .ok (.iload 4, 2) := by decide +kernel
theorem zd_Model_wall_168 : decode zm_Model_wall.2.1 168 = .ok (.invokevirtual 177, 3) := by decide +kernel
theorem zd_Model_wall_171 : decode zm_Model_wall.2.1 171 = .ok (.ifCond .ne 7, 3) := by decide +kernel
theorem zd_Model_wall_174 : decode zm_Model_wall.2.1 174 = .ok (.sipush (-200), 3) := by decide +kernel
theorem zd_Model_wall_177 : decode zm_Model_wall.2.1 177 = .ok (.ireturn, 1) := by decide +kernel
theorem zd_Model_wall_178 : decode zm_Model_wall.2.1 178 = .ok (.iinc 4 1, 3) := by decide +kernel
theorem zd_Model_wall_181 : decode zm_Model_wall.2.1 181 = .ok (.goto (-26), 3) := by decide +kernel
theorem zd_Model_wall_184 : decode zm_Model_wall.2.1 184 = .ok (.iconst 0, 1) := by decide +kernel
theorem zd_Model_wall_185 : decode zm_Model_wall.2.1 185 = .ok (.istore 4, 2) := by decide +kernel
theorem zd_Model_wall_187 : decode zm_Model_wall.2.1 187 = .ok (.iload 4, 2) := by decide +kernel
theorem zd_Model_wall_189 : decode zm_Model_wall.2.1 189 = .ok (.bipush 53, 2) := by decide +kernel
theorem zd_Model_wall_191 : decode zm_Model_wall.2.1 191 = .ok (.if_icmp .ge 23, 3) := by decide +kernel
theorem zd_Model_wall_194 : decode zm_Model_wall.2.1 194 = .ok (.aload_n 0, 1) := by decide +kernel
theorem zd_Model_wall_195 : decode zm_Model_wall.2.1 195 = .ok (.getfield 9, 3) := by decide +kernel
theorem zd_Model_wall_198 : decode zm_Model_wall.2.1 198 = .ok (.iload 4, 2) := by decide +kernel
theorem zd_Model_wall_200 : decode zm_Model_wall.2.1 200 = .ok (.aload_n 0, 1) := by decide +kernel
theorem zd_Model_wall_201 : decode zm_Model_wall.2.1 201 = .ok (.getfield 60, 3) := by decide +kernel
theorem zd_Model_wall_204 : decode zm_Model_wall.2.1 204 = .ok (.iload 4, 2) := by decide +kernel
theorem zd_Model_wall_206 : decode zm_Model_wall.2.1 206 = .ok (.iaload, 1) := by decide +kernel
theorem zd_Model_wall_207 : decode zm_Model_wall.2.1 207 = .ok (.iastore, 1) := by decide +kernel
theorem zd_Model_wall_208 : decode zm_Model_wall.2.1 208 = .ok (.iinc 4 1, 3) := by decide +kernel
theorem zd_Model_wall_211 : decode zm_Model_wall.2.1 211 = .ok (.goto (-24), 3) := by decide +kernel
theorem zd_Model_wall_214 : decode zm_Model_wall.2.1 214 = .ok (.aload_n 0, 1) := by decide +kernel
theorem zd_Model_wall_215 : decode zm_Model_wall.2.1 215 = .ok (.iload_n 1, 1) := by decide +kernel
theorem zd_Model_wall_216 : decode zm_Model_wall.2.1 216 = .ok (.putfield 19, 3) := by decide +kernel
theorem zd_Model_wall_219 : decode zm_Model_wall.2.1 219 = .ok (.aload_n 0, 1) := by decide +kernel
theorem zd_Model_wall_220 : decode zm_Model_wall.2.1 220 = .ok (.iconst 0, 1) := by decide +kernel
theorem zd_Model_wall_221 : decode zm_Model_wall.2.1 221 = .ok (.putfield 181, 3) := by decide +kernel
theorem zd_Model_wall_224 : decode zm_Model_wall.2.1 224 = .ok (.aload_n 0, 1) := by decide +kernel
theorem zd_Model_wall_225 : decode zm_Model_wall.2.1 225 = .ok (.iconst 0, 1) := by decide +kernel
theorem zd_Model_wall_226 : decode zm_Model_wall.2.1 226 = .ok (.putfield 155, 3) := by decide +kernel
theorem zd_Model_wall_229 : decode zm_Model_wall.2.1 229 = .ok (.aload_n 0, 1) := by decide +kernel
theorem zd_Model_wall_230 : decode zm_Model_wall.2.1 230 = .ok (.dup, 1) := by decide +kernel
theorem zd_Model_wall_231 : decode zm_Model_wall.2.1 231 = .ok (.getfield 158, 3) := by decide +kernel
theorem zd_Model_wall_234 : decode zm_Model_wall.2.1 234 = .ok (.iconst 1, 1) := by decide +kernel
theorem zd_Model_wall_235 : decode zm_Model_wall.2.1 235 = .ok (.iadd, 1) := by decide +kernel
theorem zd_Model_wall_236 : decode zm_Model_wall.2.1 236 = .ok (.putfield 158, 3) := by decide +kernel
theorem zd_Model_wall_239 : decode zm_Model_wall.2.1 239 = .ok (.iload_n 1, 1) := by decide +kernel
theorem zd_Model_wall_240 : decode zm_Model_wall.2.1 240 = .ok (.ireturn, 1) := by decide +kernel
theorem zb_Model_wall_0 {Γ : zG} {σ : zS} {dc : Nat} {P : zS → Prop}  (hm : z_Cv dc zm_Model_beginText [.inr (63), .inl (nI 80)] (z_pI σ 63 11 (nI 0)) P) (hdp : dc < z_dep Γ) (k : ∀ σ1, P σ1 → z_J Γ zm_Model_wall 11 [some (.inr (63)), none, none, none, none] [] σ1) : z_J Γ zm_Model_wall 0 [some (.inr (63)), none, none, none, none] [] σ := by
  refine zj_aload_n zd_Model_wall_0 rfl ?_
  refine zj_iconst (v := nI 0) zd_Model_wall_1 (by decide) ?_
  refine zj_putI rfl (by decide) rfl zu_Model zy_Model_ok zn_Model (k := 11) (by decide) rfl rfl zl_Model_91 rfl rfl zd_Model_wall_2 ?_
  refine zj_aload_n zd_Model_wall_5 rfl ?_
  refine zj_bipush (v := nI 80) zd_Model_wall_6 (by decide) ?_
  exact zj_callVv (As := [.inl (nI 80)]) hm hdp rfl (by decide) rfl zl_Model_149 zq_Model_beginText zd_Model_wall_8 rfl (Nat.le_of_ble_eq_true rfl) (fun σ1 h => (k σ1 h))
theorem zb_Model_wall_11 {Γ : zG} {σ : zS}  (k : z_J Γ zm_Model_wall 17 [some (.inr (63)), some (.inl (nI 0)), some (.inl (nI 0)), some (.inl (nI 1)), none] [] σ) : z_J Γ zm_Model_wall 11 [some (.inr (63)), none, none, none, none] [] σ := by
  refine zj_iconst (v := nI 0) zd_Model_wall_11 (by decide) ?_
  refine zj_istore_n (L' := [some (.inr (63)), some (.inl (nI 0)), none, none, none]) zd_Model_wall_12 (by decide) rfl ?_
  refine zj_iconst (v := nI 0) zd_Model_wall_13 (by decide) ?_
  refine zj_istore_n (L' := [some (.inr (63)), some (.inl (nI 0)), some (.inl (nI 0)), none, none]) zd_Model_wall_14 (by decide) rfl ?_
  refine zj_iconst (v := nI 1) zd_Model_wall_15 (by decide) ?_
  refine zj_istore_n (L' := [some (.inr (63)), some (.inl (nI 0)), some (.inl (nI 0)), some (.inl (nI 1)), none]) zd_Model_wall_16 (by decide) rfl ?_
  exact k
theorem zb_Model_wall_17 {Γ : zG} {σ : zS} {x1 x2 x3 : Int32}  (kt : x3 = 0 → z_J Γ zm_Model_wall 71 [some (.inr (63)), some (.inl (x1)), some (.inl (x2)), none, none] [] σ) (kf : ¬ x3 = 0 → z_J Γ zm_Model_wall 21 [some (.inr (63)), some (.inl (x1)), some (.inl (x2)), none, none] [] σ) : z_J Γ zm_Model_wall 17 [some (.inr (63)), some (.inl (x1)), some (.inl (x2)), some (.inl (x3)), none] [] σ := by
  refine zj_iload_n zd_Model_wall_17 rfl ?_
  exact zj_if_eq zd_Model_wall_18 (by decide) (fun h => (zj_weak (L' := [some (.inr (63)), some (.inl (x1)), some (.inl (x2)), none, none]) ⟨rfl, ⟨rfl, ⟨rfl, trivial⟩⟩⟩ (kt h))) (fun h => (zj_weak (L' := [some (.inr (63)), some (.inl (x1)), some (.inl (x2)), none, none]) ⟨rfl, ⟨rfl, ⟨rfl, trivial⟩⟩⟩ (kf h)))
theorem zb_Model_wall_21 {Γ : zG} {σ : zS} {x1 x2 : Int32} {dc : Nat} {P : Int32 → zS → Prop}  (hm : z_Ci dc zm_Model_fine [.inr (63)] σ P) (hdp : dc < z_dep Γ) (k : ∀ r σ1, P r σ1 → z_J Γ zm_Model_wall 25 [some (.inr (63)), some (.inl (x1)), some (.inl (x2)), none, none] [.inl (r)] σ1) : z_J Γ zm_Model_wall 21 [some (.inr (63)), some (.inl (x1)), some (.inl (x2)), none, none] [] σ := by
  refine zj_aload_n zd_Model_wall_21 rfl ?_
  exact zj_callVi (As := []) hm hdp rfl (by decide) rfl zl_Model_129 zq_Model_fine zd_Model_wall_22 rfl (Nat.le_of_ble_eq_true rfl) (fun r σ1 h => (k r σ1 h))
theorem zb_Model_wall_25 {Γ : zG} {σ : zS} {x1 x2 y0 : Int32}  (kt : y0 = 0 → z_J Γ zm_Model_wall 71 [some (.inr (63)), some (.inl (x1)), some (.inl (x2)), none, none] [] σ) (kf : ¬ y0 = 0 → z_J Γ zm_Model_wall 28 [some (.inr (63)), some (.inl (x1)), some (.inl (x2)), none, none] [] σ) : z_J Γ zm_Model_wall 25 [some (.inr (63)), some (.inl (x1)), some (.inl (x2)), none, none] [.inl (y0)] σ := by
  exact zj_if_eq zd_Model_wall_25 (by decide) (fun h => (kt h)) (fun h => (kf h))
theorem zb_Model_wall_28 {Γ : zG} {σ : zS} {x1 x2 : Int32} {dc : Nat} {P : Int32 → zS → Prop}  (hm : z_Ci dc zm_Model_passes [.inr (63), .inl (nI 45)] σ P) (hdp : dc < z_dep Γ) (k : ∀ r σ1, P r σ1 → z_J Γ zm_Model_wall 34 [some (.inr (63)), some (.inl (x1)), some (.inl (x2)), none, none] [.inl (r)] σ1) : z_J Γ zm_Model_wall 28 [some (.inr (63)), some (.inl (x1)), some (.inl (x2)), none, none] [] σ := by
  refine zj_aload_n zd_Model_wall_28 rfl ?_
  refine zj_bipush (v := nI 45) zd_Model_wall_29 (by decide) ?_
  exact zj_callVi (As := [.inl (nI 45)]) hm hdp rfl (by decide) rfl zl_Model_137 zq_Model_passes zd_Model_wall_31 rfl (Nat.le_of_ble_eq_true rfl) (fun r σ1 h => (k r σ1 h))
theorem zb_Model_wall_34 {Γ : zG} {σ : zS} {x1 x2 y0 : Int32}  (kt : ¬ y0 = 0 → z_J Γ zm_Model_wall 44 [some (.inr (63)), some (.inl (x1)), some (.inl (x2)), none, none] [] σ) (kf : y0 = 0 → z_J Γ zm_Model_wall 37 [some (.inr (63)), some (.inl (x1)), some (.inl (x2)), none, none] [] σ) : z_J Γ zm_Model_wall 34 [some (.inr (63)), some (.inl (x1)), some (.inl (x2)), none, none] [.inl (y0)] σ := by
  exact zj_if_ne zd_Model_wall_34 (by decide) (fun h => (kt h)) (fun h => (kf h))
theorem zb_Model_wall_37 {Γ : zG} {σ : zS} {x1 x2 : Int32} {dc : Nat} {P : Int32 → zS → Prop}  (hm : z_Ci dc zm_Model_readColumn [.inr (63), .inl (x1), .inl (x2)] σ P) (hdp : dc < z_dep Γ) (k : ∀ r σ1, P r σ1 → z_J Γ zm_Model_wall 43 [some (.inr (63)), some (.inl (x1)), none, none, none] [.inl (r)] σ1) : z_J Γ zm_Model_wall 37 [some (.inr (63)), some (.inl (x1)), some (.inl (x2)), none, none] [] σ := by
  refine zj_aload_n zd_Model_wall_37 rfl ?_
  refine zj_iload_n zd_Model_wall_38 rfl ?_
  refine zj_iload_n zd_Model_wall_39 rfl ?_
  exact zj_callVi (As := [.inl (x1), .inl (x2)]) hm hdp rfl (by decide) rfl zl_Model_161 zq_Model_readColumn zd_Model_wall_40 rfl (Nat.le_of_ble_eq_true rfl) (fun r σ1 h => (zj_weak (L' := [some (.inr (63)), some (.inl (x1)), none, none, none]) ⟨rfl, ⟨rfl, trivial⟩⟩ (k r σ1 h)))
theorem zb_Model_wall_43 {Γ : zG} {σ : zS} {x1 y0 : Int32}  (k : z_J Γ zm_Model_wall 44 [some (.inr (63)), some (.inl (x1)), some (.inl (y0)), none, none] [] σ) : z_J Γ zm_Model_wall 43 [some (.inr (63)), some (.inl (x1)), none, none, none] [.inl (y0)] σ := by
  refine zj_istore_n (L' := [some (.inr (63)), some (.inl (x1)), some (.inl (y0)), none, none]) zd_Model_wall_43 (by decide) rfl ?_
  exact k
theorem zb_Model_wall_44 {Γ : zG} {σ : zS} {x1 x2 : Int32}  (kt : (nI 6) ≤ (x1 + nI 1) → z_J Γ zm_Model_wall 66 [some (.inr (63)), some (.inl (x1 + nI 1)), some (.inl (x2)), none, none] [] σ) (kf : ¬ (nI 6) ≤ (x1 + nI 1) → z_J Γ zm_Model_wall 53 [some (.inr (63)), some (.inl (x1 + nI 1)), some (.inl (x2)), none, none] [] σ) : z_J Γ zm_Model_wall 44 [some (.inr (63)), some (.inl (x1)), some (.inl (x2)), none, none] [] σ := by
  refine zj_iinc (v := nI 1) (L' := [some (.inr (63)), some (.inl (x1 + nI 1)), some (.inl (x2)), none, none]) zd_Model_wall_44 rfl (by decide) (by decide) rfl ?_
  refine zj_iload_n zd_Model_wall_47 rfl ?_
  refine zj_bipush (v := nI 6) zd_Model_wall_48 (by decide) ?_
  exact zj_icmp_ge zd_Model_wall_50 (by decide) (fun h => (kt h)) (fun h => (kf h))
theorem zb_Model_wall_53 {Γ : zG} {σ : zS} {x1 x2 : Int32} {dc : Nat} {P : Int32 → zS → Prop}  (hm : z_Ci dc zm_Model_passes [.inr (63), .inl (nI 47)] σ P) (hdp : dc < z_dep Γ) (k : ∀ r σ1, P r σ1 → z_J Γ zm_Model_wall 59 [some (.inr (63)), some (.inl (x1)), some (.inl (x2)), none, none] [.inl (r)] σ1) : z_J Γ zm_Model_wall 53 [some (.inr (63)), some (.inl (x1)), some (.inl (x2)), none, none] [] σ := by
  refine zj_aload_n zd_Model_wall_53 rfl ?_
  refine zj_bipush (v := nI 47) zd_Model_wall_54 (by decide) ?_
  exact zj_callVi (As := [.inl (nI 47)]) hm hdp rfl (by decide) rfl zl_Model_137 zq_Model_passes zd_Model_wall_56 rfl (Nat.le_of_ble_eq_true rfl) (fun r σ1 h => (k r σ1 h))
theorem zb_Model_wall_59 {Γ : zG} {σ : zS} {x1 x2 y0 : Int32}  (kt : y0 = 0 → z_J Γ zm_Model_wall 66 [some (.inr (63)), some (.inl (x1)), some (.inl (x2)), none, none] [] σ) (kf : ¬ y0 = 0 → z_J Γ zm_Model_wall 62 [some (.inr (63)), some (.inl (x1)), some (.inl (x2)), none, none] [] σ) : z_J Γ zm_Model_wall 59 [some (.inr (63)), some (.inl (x1)), some (.inl (x2)), none, none] [.inl (y0)] σ := by
  exact zj_if_eq zd_Model_wall_59 (by decide) (fun h => (kt h)) (fun h => (kf h))
theorem zb_Model_wall_62 {Γ : zG} {σ : zS} {x1 x2 : Int32}  (k : z_J Γ zm_Model_wall 67 [some (.inr (63)), some (.inl (x1)), some (.inl (x2)), none, none] [.inl (nI 1)] σ) : z_J Γ zm_Model_wall 62 [some (.inr (63)), some (.inl (x1)), some (.inl (x2)), none, none] [] σ := by
  refine zj_iconst (v := nI 1) zd_Model_wall_62 (by decide) ?_
  exact zj_goto zd_Model_wall_63 (by decide) k
theorem zb_Model_wall_66 {Γ : zG} {σ : zS} {x1 x2 : Int32}  (k : z_J Γ zm_Model_wall 67 [some (.inr (63)), some (.inl (x1)), some (.inl (x2)), none, none] [.inl (nI 0)] σ) : z_J Γ zm_Model_wall 66 [some (.inr (63)), some (.inl (x1)), some (.inl (x2)), none, none] [] σ := by
  refine zj_iconst (v := nI 0) zd_Model_wall_66 (by decide) ?_
  exact k
theorem zb_Model_wall_67 {Γ : zG} {σ : zS} {x1 x2 y0 : Int32}  (k : z_J Γ zm_Model_wall 17 [some (.inr (63)), some (.inl (x1)), some (.inl (x2)), some (.inl (y0)), none] [] σ) : z_J Γ zm_Model_wall 67 [some (.inr (63)), some (.inl (x1)), some (.inl (x2)), none, none] [.inl (y0)] σ := by
  refine zj_istore_n (L' := [some (.inr (63)), some (.inl (x1)), some (.inl (x2)), some (.inl (y0)), none]) zd_Model_wall_67 (by decide) rfl ?_
  exact zj_goto zd_Model_wall_68 (by decide) k
theorem zb_Model_wall_71 {Γ : zG} {σ : zS} {x1 x2 : Int32} {dc : Nat} {P : Int32 → zS → Prop}  (hm : z_Ci dc zm_Model_wasRight [.inr (63)] σ P) (hdp : dc < z_dep Γ) (k : ∀ r σ1, P r σ1 → z_J Γ zm_Model_wall 75 [some (.inr (63)), some (.inl (x1)), some (.inl (x2)), none, none] [.inl (r)] σ1) : z_J Γ zm_Model_wall 71 [some (.inr (63)), some (.inl (x1)), some (.inl (x2)), none, none] [] σ := by
  refine zj_aload_n zd_Model_wall_71 rfl ?_
  exact zj_callVi (As := []) hm hdp rfl (by decide) rfl zl_Model_152 zq_Model_wasRight zd_Model_wall_72 rfl (Nat.le_of_ble_eq_true rfl) (fun r σ1 h => (k r σ1 h))
theorem zb_Model_wall_75 {Γ : zG} {σ : zS} {x1 x2 y0 : Int32}  (kt : ¬ y0 = 0 → z_J Γ zm_Model_wall 85 [some (.inr (63)), some (.inl (x1)), some (.inl (x2)), none, none] [] σ) (kf : y0 = 0 → z_J Γ zm_Model_wall 78 [some (.inr (63)), none, none, none, none] [] σ) : z_J Γ zm_Model_wall 75 [some (.inr (63)), some (.inl (x1)), some (.inl (x2)), none, none] [.inl (y0)] σ := by
  exact zj_if_ne zd_Model_wall_75 (by decide) (fun h => (kt h)) (fun h => (zj_weak (L' := [some (.inr (63)), none, none, none, none]) ⟨rfl, trivial⟩ (kf h)))
theorem zb_Model_wall_78 {Γ : zG} {σ : zS}  (e : z_end Γ (some ((-1) - (σ.1 63 16))) σ) : z_J Γ zm_Model_wall 78 [some (.inr (63)), none, none, none, none] [] σ := by
  refine zj_iconst (v := (-1)) zd_Model_wall_78 (by decide) ?_
  refine zj_aload_n zd_Model_wall_79 rfl ?_
  refine zj_getI rfl (by decide) rfl zu_Model (k := 16) (by decide) rfl zl_Model_122 zd_Model_wall_80 ?_
  refine zj_isub zd_Model_wall_83 ?_
  exact zj_ireturn rfl zd_Model_wall_84 e
theorem zb_Model_wall_85 {Γ : zG} {σ : zS} {x1 x2 : Int32} {dc : Nat} {P : zS → Prop}  (hm : z_Cv dc zm_Model_lay_1 [.inr (64), .inr (78), .inl (nI 0)] σ P) (hdp : dc < z_dep Γ) (k : ∀ σ1, P σ1 → z_J Γ zm_Model_wall 97 [some (.inr (63)), some (.inl (x1)), some (.inl (x2)), none, none] [] σ1) : z_J Γ zm_Model_wall 85 [some (.inr (63)), some (.inl (x1)), some (.inl (x2)), none, none] [] σ := by
  refine zj_aload_n zd_Model_wall_85 rfl ?_
  refine zj_getR rfl (by decide) rfl zu_Model (k := 0) (by decide) rfl zl_Model_9 zd_Model_wall_86 (o' := 64) rfl ?_
  refine zj_aload_n zd_Model_wall_89 rfl ?_
  refine zj_getR rfl (by decide) rfl zu_Model (k := 29) (by decide) rfl zl_Model_60 zd_Model_wall_90 (o' := 78) rfl ?_
  refine zj_iconst (v := nI 0) zd_Model_wall_93 (by decide) ?_
  exact zj_callSv (As := [.inr (64), .inr (78), .inl (nI 0)]) hm hdp zl_Model_165 zq_Model_lay_1 zd_Model_wall_94 rfl (Nat.le_of_ble_eq_true rfl) (fun σ1 h => (k σ1 h))
theorem zb_Model_wall_97 {Γ : zG} {σ : zS} {x1 x2 : Int32}  (k : z_J Γ zm_Model_wall 100 [some (.inr (63)), some (.inl (x1)), some (.inl (x2)), none, some (.inl (nI 0))] [] σ) : z_J Γ zm_Model_wall 97 [some (.inr (63)), some (.inl (x1)), some (.inl (x2)), none, none] [] σ := by
  refine zj_iconst (v := nI 0) zd_Model_wall_97 (by decide) ?_
  refine zj_istore (L' := [some (.inr (63)), some (.inl (x1)), some (.inl (x2)), none, some (.inl (nI 0))]) zd_Model_wall_98 (by decide) rfl ?_
  exact k
theorem zb_Model_wall_100 {Γ : zG} {σ : zS} {x1 x2 x4 : Int32}  (kt : (σ.1 63 1) ≤ x4 → z_J Γ zm_Model_wall 152 [some (.inr (63)), some (.inl (x1)), none, none, none] [] σ) (kf : ¬ (σ.1 63 1) ≤ x4 → z_J Γ zm_Model_wall 109 [some (.inr (63)), some (.inl (x1)), some (.inl (x2)), none, some (.inl (x4))] [] σ) : z_J Γ zm_Model_wall 100 [some (.inr (63)), some (.inl (x1)), some (.inl (x2)), none, some (.inl (x4))] [] σ := by
  refine zj_iload zd_Model_wall_100 rfl ?_
  refine zj_aload_n zd_Model_wall_102 rfl ?_
  refine zj_getI rfl (by decide) rfl zu_Model (k := 1) (by decide) rfl zl_Model_97 zd_Model_wall_103 ?_
  exact zj_icmp_ge zd_Model_wall_106 (by decide) (fun h => (zj_weak (L' := [some (.inr (63)), some (.inl (x1)), none, none, none]) ⟨rfl, ⟨rfl, trivial⟩⟩ (kt h))) (fun h => (kf h))
theorem zb_Model_wall_109 {Γ : zG} {σ : zS} {x1 x2 x4 : Int32} {dc : Nat} {P : Int32 → zS → Prop}  (hm : z_Ci dc zm_Model_has [.inl (x2), .inl (x4)] σ P) (hdp : dc < z_dep Γ) (k : ∀ r σ1, P r σ1 → z_J Γ zm_Model_wall 121 [some (.inr (63)), some (.inl (x1)), some (.inl (x2)), none, some (.inl (x4))] [.inl (r), .inl (x4), .inr (78)] σ1) : z_J Γ zm_Model_wall 109 [some (.inr (63)), some (.inl (x1)), some (.inl (x2)), none, some (.inl (x4))] [] σ := by
  refine zj_aload_n zd_Model_wall_109 rfl ?_
  refine zj_getR rfl (by decide) rfl zu_Model (k := 29) (by decide) rfl zl_Model_60 zd_Model_wall_110 (o' := 78) rfl ?_
  refine zj_iload zd_Model_wall_113 rfl ?_
  refine zj_iload_n zd_Model_wall_115 rfl ?_
  refine zj_iload zd_Model_wall_116 rfl ?_
  exact zj_callSi (As := [.inl (x2), .inl (x4)]) hm hdp zl_Model_169 zq_Model_has zd_Model_wall_118 rfl (Nat.le_of_ble_eq_true rfl) (fun r σ1 h => (k r σ1 h))
theorem zb_Model_wall_121 {Γ : zG} {σ : zS} {x1 x2 x4 y0 y1 : Int32}  (kt : y0 = 0 → z_J Γ zm_Model_wall 128 [some (.inr (63)), some (.inl (x1)), some (.inl (x2)), none, some (.inl (x4))] [.inl (y1), .inr (78)] σ) (kf : ¬ y0 = 0 → z_J Γ zm_Model_wall 124 [some (.inr (63)), some (.inl (x1)), some (.inl (x2)), none, some (.inl (x4))] [.inl (y1), .inr (78)] σ) : z_J Γ zm_Model_wall 121 [some (.inr (63)), some (.inl (x1)), some (.inl (x2)), none, some (.inl (x4))] [.inl (y0), .inl (y1), .inr (78)] σ := by
  exact zj_if_eq zd_Model_wall_121 (by decide) (fun h => (kt h)) (fun h => (kf h))
theorem zb_Model_wall_124 {Γ : zG} {σ : zS} {x1 x2 x4 y0 : Int32}  (k : z_J Γ zm_Model_wall 129 [some (.inr (63)), some (.inl (x1)), some (.inl (x2)), none, some (.inl (x4))] [.inl (nI 1), .inl (y0), .inr (78)] σ) : z_J Γ zm_Model_wall 124 [some (.inr (63)), some (.inl (x1)), some (.inl (x2)), none, some (.inl (x4))] [.inl (y0), .inr (78)] σ := by
  refine zj_iconst (v := nI 1) zd_Model_wall_124 (by decide) ?_
  exact zj_goto zd_Model_wall_125 (by decide) k
theorem zb_Model_wall_128 {Γ : zG} {σ : zS} {x1 x2 x4 y0 : Int32}  (k : z_J Γ zm_Model_wall 129 [some (.inr (63)), some (.inl (x1)), some (.inl (x2)), none, some (.inl (x4))] [.inl (nI 0), .inl (y0), .inr (78)] σ) : z_J Γ zm_Model_wall 128 [some (.inr (63)), some (.inl (x1)), some (.inl (x2)), none, some (.inl (x4))] [.inl (y0), .inr (78)] σ := by
  refine zj_iconst (v := nI 0) zd_Model_wall_128 (by decide) ?_
  exact k
theorem zb_Model_wall_129 {Γ : zG} {σ : zS} {x1 x2 x4 y0 y1 : Int32} {k1 k2 : Nat} {dc : Nat} {P : zS → Prop}  (b1 : z_ix x4 12 k1) (b2 : z_ix x4 12 k2) (hm : z_Cv dc zm_Model_put [.inr (78), .inl (y1), .inl (y0), .inl (σ.1 71 k1), .inl (σ.1 72 k2)] σ P) (hdp : dc < z_dep Γ) (k : ∀ σ1, P σ1 → z_J Γ zm_Model_wall 146 [some (.inr (63)), some (.inl (x1)), some (.inl (x2)), none, some (.inl (x4))] [] σ1) : z_J Γ zm_Model_wall 129 [some (.inr (63)), some (.inl (x1)), some (.inl (x2)), none, some (.inl (x4))] [.inl (y0), .inl (y1), .inr (78)] σ := by
  refine zj_aload_n zd_Model_wall_129 rfl ?_
  refine zj_getR rfl (by decide) rfl zu_Model (k := 18) (by decide) rfl zl_Model_36 zd_Model_wall_130 (o' := 71) rfl ?_
  refine zj_iload zd_Model_wall_133 rfl ?_
  refine zj_iaload rfl (by decide) b1 zd_Model_wall_135 ?_
  refine zj_aload_n zd_Model_wall_136 rfl ?_
  refine zj_getR rfl (by decide) rfl zu_Model (k := 19) (by decide) rfl zl_Model_39 zd_Model_wall_137 (o' := 72) rfl ?_
  refine zj_iload zd_Model_wall_140 rfl ?_
  refine zj_iaload rfl (by decide) b2 zd_Model_wall_142 ?_
  exact zj_callSv (As := [.inr (78), .inl (y1), .inl (y0), .inl (σ.1 71 k1), .inl (σ.1 72 k2)]) hm hdp zl_Model_173 zq_Model_put zd_Model_wall_143 rfl (Nat.le_of_ble_eq_true rfl) (fun σ1 h => (k σ1 h))
theorem zb_Model_wall_146 {Γ : zG} {σ : zS} {x1 x2 x4 : Int32}  (k : z_J Γ zm_Model_wall 100 [some (.inr (63)), some (.inl (x1)), some (.inl (x2)), none, some (.inl (x4 + nI 1))] [] σ) : z_J Γ zm_Model_wall 146 [some (.inr (63)), some (.inl (x1)), some (.inl (x2)), none, some (.inl (x4))] [] σ := by
  refine zj_iinc (v := nI 1) (L' := [some (.inr (63)), some (.inl (x1)), some (.inl (x2)), none, some (.inl (x4 + nI 1))]) zd_Model_wall_146 rfl (by decide) (by decide) rfl ?_
  exact zj_goto zd_Model_wall_149 (by decide) k
theorem zb_Model_wall_152 {Γ : zG} {σ : zS} {x1 : Int32}  (k : z_J Γ zm_Model_wall 155 [some (.inr (63)), some (.inl (x1)), none, none, some (.inl (nI 0))] [] σ) : z_J Γ zm_Model_wall 152 [some (.inr (63)), some (.inl (x1)), none, none, none] [] σ := by
  refine zj_iconst (v := nI 0) zd_Model_wall_152 (by decide) ?_
  refine zj_istore (L' := [some (.inr (63)), some (.inl (x1)), none, none, some (.inl (nI 0))]) zd_Model_wall_153 (by decide) rfl ?_
  exact k
theorem zb_Model_wall_155 {Γ : zG} {σ : zS} {x1 x4 : Int32}  (kt : x1 ≤ x4 → z_J Γ zm_Model_wall 184 [some (.inr (63)), some (.inl (x1)), none, none, none] [] σ) (kf : ¬ x1 ≤ x4 → z_J Γ zm_Model_wall 161 [some (.inr (63)), some (.inl (x1)), none, none, some (.inl (x4))] [] σ) : z_J Γ zm_Model_wall 155 [some (.inr (63)), some (.inl (x1)), none, none, some (.inl (x4))] [] σ := by
  refine zj_iload zd_Model_wall_155 rfl ?_
  refine zj_iload_n zd_Model_wall_157 rfl ?_
  exact zj_icmp_ge zd_Model_wall_158 (by decide) (fun h => (zj_weak (L' := [some (.inr (63)), some (.inl (x1)), none, none, none]) ⟨rfl, ⟨rfl, trivial⟩⟩ (kt h))) (fun h => (kf h))
theorem zb_Model_wall_161 {Γ : zG} {σ : zS} {x1 x4 : Int32} {dc : Nat} {P : Int32 → zS → Prop}  (hm : z_Ci dc zm_Model_isHeld [.inr (63), .inr (78), .inl (x4)] σ P) (hdp : dc < z_dep Γ) (k : ∀ r σ1, P r σ1 → z_J Γ zm_Model_wall 171 [some (.inr (63)), some (.inl (x1)), none, none, some (.inl (x4))] [.inl (r)] σ1) : z_J Γ zm_Model_wall 161 [some (.inr (63)), some (.inl (x1)), none, none, some (.inl (x4))] [] σ := by
  refine zj_aload_n zd_Model_wall_161 rfl ?_
  refine zj_aload_n zd_Model_wall_162 rfl ?_
  refine zj_getR rfl (by decide) rfl zu_Model (k := 29) (by decide) rfl zl_Model_60 zd_Model_wall_163 (o' := 78) rfl ?_
  refine zj_iload zd_Model_wall_166 rfl ?_
  exact zj_callVi (As := [.inr (78), .inl (x4)]) hm hdp rfl (by decide) rfl zl_Model_177 zq_Model_isHeld zd_Model_wall_168 rfl (Nat.le_of_ble_eq_true rfl) (fun r σ1 h => (k r σ1 h))
theorem zb_Model_wall_171 {Γ : zG} {σ : zS} {x1 x4 y0 : Int32}  (kt : ¬ y0 = 0 → z_J Γ zm_Model_wall 178 [some (.inr (63)), some (.inl (x1)), none, none, some (.inl (x4))] [] σ) (kf : y0 = 0 → z_J Γ zm_Model_wall 174 [none, none, none, none, none] [] σ) : z_J Γ zm_Model_wall 171 [some (.inr (63)), some (.inl (x1)), none, none, some (.inl (x4))] [.inl (y0)] σ := by
  exact zj_if_ne zd_Model_wall_171 (by decide) (fun h => (kt h)) (fun h => (zj_weak (L' := [none, none, none, none, none]) trivial (kf h)))
theorem zb_Model_wall_174 {Γ : zG} {σ : zS}  (e : z_end Γ (some ((-200))) σ) : z_J Γ zm_Model_wall 174 [none, none, none, none, none] [] σ := by
  refine zj_sipush (v := (-200)) zd_Model_wall_174 (by decide) ?_
  exact zj_ireturn rfl zd_Model_wall_177 e
theorem zb_Model_wall_178 {Γ : zG} {σ : zS} {x1 x4 : Int32}  (k : z_J Γ zm_Model_wall 155 [some (.inr (63)), some (.inl (x1)), none, none, some (.inl (x4 + nI 1))] [] σ) : z_J Γ zm_Model_wall 178 [some (.inr (63)), some (.inl (x1)), none, none, some (.inl (x4))] [] σ := by
  refine zj_iinc (v := nI 1) (L' := [some (.inr (63)), some (.inl (x1)), none, none, some (.inl (x4 + nI 1))]) zd_Model_wall_178 rfl (by decide) (by decide) rfl ?_
  exact zj_goto zd_Model_wall_181 (by decide) k
theorem zb_Model_wall_184 {Γ : zG} {σ : zS} {x1 : Int32}  (k : z_J Γ zm_Model_wall 187 [some (.inr (63)), some (.inl (x1)), none, none, some (.inl (nI 0))] [] σ) : z_J Γ zm_Model_wall 184 [some (.inr (63)), some (.inl (x1)), none, none, none] [] σ := by
  refine zj_iconst (v := nI 0) zd_Model_wall_184 (by decide) ?_
  refine zj_istore (L' := [some (.inr (63)), some (.inl (x1)), none, none, some (.inl (nI 0))]) zd_Model_wall_185 (by decide) rfl ?_
  exact k
theorem zb_Model_wall_187 {Γ : zG} {σ : zS} {x1 x4 : Int32}  (kt : (nI 53) ≤ x4 → z_J Γ zm_Model_wall 214 [some (.inr (63)), some (.inl (x1)), none, none, none] [] σ) (kf : ¬ (nI 53) ≤ x4 → z_J Γ zm_Model_wall 194 [some (.inr (63)), some (.inl (x1)), none, none, some (.inl (x4))] [] σ) : z_J Γ zm_Model_wall 187 [some (.inr (63)), some (.inl (x1)), none, none, some (.inl (x4))] [] σ := by
  refine zj_iload zd_Model_wall_187 rfl ?_
  refine zj_bipush (v := nI 53) zd_Model_wall_189 (by decide) ?_
  exact zj_icmp_ge zd_Model_wall_191 (by decide) (fun h => (zj_weak (L' := [some (.inr (63)), some (.inl (x1)), none, none, none]) ⟨rfl, ⟨rfl, trivial⟩⟩ (kt h))) (fun h => (kf h))
theorem zb_Model_wall_194 {Γ : zG} {σ : zS} {x1 x4 : Int32} {k1 k2 : Nat}  (b1 : z_ix x4 53 k1) (b2 : z_ix x4 53 k2) (k : z_J Γ zm_Model_wall 187 [some (.inr (63)), some (.inl (x1)), none, none, some (.inl (x4 + nI 1))] [] (z_pI σ 64 k2 (σ.1 78 k1))) : z_J Γ zm_Model_wall 194 [some (.inr (63)), some (.inl (x1)), none, none, some (.inl (x4))] [] σ := by
  refine zj_aload_n zd_Model_wall_194 rfl ?_
  refine zj_getR rfl (by decide) rfl zu_Model (k := 0) (by decide) rfl zl_Model_9 zd_Model_wall_195 (o' := 64) rfl ?_
  refine zj_iload zd_Model_wall_198 rfl ?_
  refine zj_aload_n zd_Model_wall_200 rfl ?_
  refine zj_getR rfl (by decide) rfl zu_Model (k := 29) (by decide) rfl zl_Model_60 zd_Model_wall_201 (o' := 78) rfl ?_
  refine zj_iload zd_Model_wall_204 rfl ?_
  refine zj_iaload rfl (by decide) b1 zd_Model_wall_206 ?_
  refine zj_iastore rfl (by decide) b2 zd_Model_wall_207 ?_
  refine zj_iinc (v := nI 1) (L' := [some (.inr (63)), some (.inl (x1)), none, none, some (.inl (x4 + nI 1))]) zd_Model_wall_208 rfl (by decide) (by decide) rfl ?_
  exact zj_goto zd_Model_wall_211 (by decide) k
theorem zb_Model_wall_214 {Γ : zG} {σ : zS} {x1 : Int32}  (e : z_end Γ (some (x1)) (z_pI (z_pI (z_pI (z_pI σ 63 4 x1) 63 41 (nI 0)) 63 27 (nI 0)) 63 44 (((z_pI (z_pI (z_pI σ 63 4 x1) 63 41 (nI 0)) 63 27 (nI 0)).1 63 44) + (nI 1)))) : z_J Γ zm_Model_wall 214 [some (.inr (63)), some (.inl (x1)), none, none, none] [] σ := by
  refine zj_aload_n zd_Model_wall_214 rfl ?_
  refine zj_iload_n zd_Model_wall_215 rfl ?_
  refine zj_putI rfl (by decide) rfl zu_Model zy_Model_ok zn_Model (k := 4) (by decide) rfl rfl zl_Model_19 rfl rfl zd_Model_wall_216 ?_
  refine zj_aload_n zd_Model_wall_219 rfl ?_
  refine zj_iconst (v := nI 0) zd_Model_wall_220 (by decide) ?_
  refine zj_putI rfl (by decide) rfl zu_Model zy_Model_ok zn_Model (k := 41) (by decide) rfl rfl zl_Model_181 rfl rfl zd_Model_wall_221 ?_
  refine zj_aload_n zd_Model_wall_224 rfl ?_
  refine zj_iconst (v := nI 0) zd_Model_wall_225 (by decide) ?_
  refine zj_putI rfl (by decide) rfl zu_Model zy_Model_ok zn_Model (k := 27) (by decide) rfl rfl zl_Model_155 rfl rfl zd_Model_wall_226 ?_
  refine zj_aload_n zd_Model_wall_229 rfl ?_
  refine zj_dup zd_Model_wall_230 ?_
  refine zj_getI rfl (by decide) rfl zu_Model (k := 44) (by decide) rfl zl_Model_158 zd_Model_wall_231 ?_
  refine zj_iconst (v := nI 1) zd_Model_wall_234 (by decide) ?_
  refine zj_iadd zd_Model_wall_235 ?_
  refine zj_putI rfl (by decide) rfl zu_Model zy_Model_ok zn_Model (k := 44) (by decide) rfl rfl zl_Model_158 rfl rfl zd_Model_wall_236 ?_
  refine zj_iload_n zd_Model_wall_239 rfl ?_
  exact zj_ireturn rfl zd_Model_wall_240 e
theorem zd_Model_readColumn_0 : decode zm_Model_readColumn.2.1 0 = .ok (.iload_n 2, 1) := by decide +kernel
theorem zd_Model_readColumn_1 : decode zm_Model_readColumn.2.1 1 = .ok (.istore_n 3, 1) := by decide +kernel
theorem zd_Model_readColumn_2 : decode zm_Model_readColumn.2.1 2 = .ok (.iconst 0, 1) := by decide +kernel
theorem zd_Model_readColumn_3 : decode zm_Model_readColumn.2.1 3 = .ok (.istore 4, 2) := by decide +kernel
theorem zd_Model_readColumn_5 : decode zm_Model_readColumn.2.1 5 = .ok (.aload_n 0, 1) := by decide +kernel
theorem zd_Model_readColumn_6 : decode zm_Model_readColumn.2.1 6 = .ok (.invokevirtual 129, 3) := by decide +kernel
theorem zd_Model_readColumn_9 : decode zm_Model_readColumn.2.1 9 = .ok (.ifCond .eq 106, 3) := by decide +kernel
theorem zd_Model_readColumn_12 : decode zm_Model_readColumn.2.1 12 = .ok (.iload 4, 2) := by decide +kernel
theorem zd_Model_readColumn_14 : decode zm_Model_readColumn.2.1 14 = .ok (.ifCond .eq 17, 3) := by decide +kernel
theorem zd_Model_readColumn_17 : decode zm_Model_readColumn.2.1 17 = .ok (.aload_n 0, 1) := by decide +kernel
theorem zd_Model_readColumn_18 : decode zm_Model_readColumn.2.1 18 = .ok (.invokevirtual 133, 3) := by decide +kernel
theorem zd_Model_readColumn_21 : decode zm_Model_readColumn.2.1 21 = .ok (.bipush 97, 2) := by decide +kernel
theorem zd_Model_readColumn_23 : decode zm_Model_readColumn.2.1 23 = .ok (.bipush 122, 2) := by decide +kernel
theorem zd_Model_readColumn_25 : decode zm_Model_readColumn.2.1 25 = .ok (.invokestatic 100, 3) := by decide +kernel
theorem zd_Model_readColumn_28 : decode zm_Model_readColumn.2.1 28 = .ok (.ifCond .eq 87, 3) := by decide +kernel
theorem zd_Model_readColumn_31 : decode zm_Model_readColumn.2.1 31 = .ok (.aload_n 0, 1) := by decide +kernel
theorem zd_Model_readColumn_32 : decode zm_Model_readColumn.2.1 32 = .ok (.invokevirtual 133, 3) := by decide +kernel
theorem zd_Model_readColumn_35 : decode zm_Model_readColumn.2.1 35 = .ok (.bipush 97, 2) := by decide +kernel
theorem zd_Model_readColumn_37 : decode zm_Model_readColumn.2.1 37 = .ok (.isub, 1) := by decide +kernel
theorem zd_Model_readColumn_38 : decode zm_Model_readColumn.2.1 38 = .ok (.istore 5, 2) := by decide +kernel
theorem zd_Model_readColumn_40 : decode zm_Model_readColumn.2.1 40 = .ok (.iload 4, 2) := by decide +kernel
theorem zd_Model_readColumn_42 : decode zm_Model_readColumn.2.1 42 = .ok (.iconst 4, 1) := by decide +kernel
theorem zd_Model_readColumn_43 : decode zm_Model_readColumn.2.1 43 = .ok (.if_icmp .eq 21, 3) := by decide +kernel
theorem zd_Model_readColumn_46 : decode zm_Model_readColumn.2.1 46 = .ok (.aload_n 0, 1) := by decide +kernel
theorem zd_Model_readColumn_47 : decode zm_Model_readColumn.2.1 47 = .ok (.iload 5, 2) := by decide +kernel
theorem zd_Model_readColumn_49 : decode zm_Model_readColumn.2.1 49 = .ok (.invokevirtual 184, 3) := by decide +kernel
theorem zd_Model_readColumn_52 : decode zm_Model_readColumn.2.1 52 = .ok (.ifCond .eq 12, 3) := by decide +kernel
theorem zd_Model_readColumn_55 : decode zm_Model_readColumn.2.1 55 = .ok (.iload_n 3, 1) := by decide +kernel
theorem zd_Model_readColumn_56 : decode zm_Model_readColumn.2.1 56 = .ok (.iload 5, 2) := by decide +kernel
theorem zd_Model_readColumn_58 : decode zm_Model_readColumn.2.1 58 = .ok (.invokestatic 169, 3) := by decide +kernel
theorem zd_Model_readColumn_61 : decode zm_Model_readColumn.2.1 61 = .ok (.ifCond .eq 14, 3) := by decide +kernel
theorem zd_Model_readColumn_64 : decode zm_Model_readColumn.2.1 64 = .ok (.aload_n 0, 1) := by decide +kernel
theorem zd_Model_readColumn_65 : decode zm_Model_readColumn.2.1 65 = .ok (.aload_n 0, 1) := by decide +kernel
theorem zd_Model_readColumn_66 : decode zm_Model_readColumn.2.1 66 = .ok (.getfield 119, 3) := by decide +kernel
theorem zd_Model_readColumn_69 : decode zm_Model_readColumn.2.1 69 = .ok (.invokevirtual 141, 3) := by decide +kernel
theorem zd_Model_readColumn_72 : decode zm_Model_readColumn.2.1 72 = .ok (.goto 40, 3) := by decide +kernel
theorem zd_Model_readColumn_75 : decode zm_Model_readColumn.2.1 75 = .ok (.aload_n 0, 1) := by decide +kernel
theorem zd_Model_readColumn_76 : decode zm_Model_readColumn.2.1 76 = .ok (.dup, 1) := by decide +kernel
theorem zd_Model_readColumn_77 : decode zm_Model_readColumn.2.1 77 = .ok (.getfield 119, 3) := by decide +kernel
theorem zd_Model_readColumn_80 : decode zm_Model_readColumn.2.1 80 = .ok (.iconst 1, 1) := by decide +kernel
theorem zd_Model_readColumn_81 : decode zm_Model_readColumn.2.1 81 = .ok (.iadd, 1) := by decide +kernel
theorem zd_Model_readColumn_82 : decode zm_Model_readColumn.2.1 82 = .ok (.putfield 119, 3) := by decide +kernel
theorem zd_Model_readColumn_85 : decode zm_Model_readColumn.2.1 85 = .ok (.aload_n 0, 1) := by decide +kernel
theorem zd_Model_readColumn_86 : decode zm_Model_readColumn.2.1 86 = .ok (.getfield 36, 3) := by decide +kernel
theorem zd_Model_readColumn_89 : decode zm_Model_readColumn.2.1 89 = .ok (.iload 5, 2) := by decide +kernel
theorem zd_Model_readColumn_91 : decode zm_Model_readColumn.2.1 91 = .ok (.iload_n 1, 1) := by decide +kernel
theorem zd_Model_readColumn_92 : decode zm_Model_readColumn.2.1 92 = .ok (.iastore, 1) := by decide +kernel
theorem zd_Model_readColumn_93 : decode zm_Model_readColumn.2.1 93 = .ok (.aload_n 0, 1) := by decide +kernel
theorem zd_Model_readColumn_94 : decode zm_Model_readColumn.2.1 94 = .ok (.getfield 39, 3) := by decide +kernel
theorem zd_Model_readColumn_97 : decode zm_Model_readColumn.2.1 97 = .ok (.iload 5, 2) := by decide +kernel
theorem zd_Model_readColumn_99 : decode zm_Model_readColumn.2.1 99 = .ok (.iload 4, 2) := by decide +kernel
theorem zd_Model_readColumn_101 : decode zm_Model_readColumn.2.1 101 = .ok (.iastore, 1) := by decide +kernel
theorem zd_Model_readColumn_102 : decode zm_Model_readColumn.2.1 102 = .ok (.iload_n 3, 1) := by decide +kernel
theorem zd_Model_readColumn_103 : decode zm_Model_readColumn.2.1 103 = .ok (.iconst 1, 1) := by decide +kernel
theorem zd_Model_readColumn_104 : decode zm_Model_readColumn.2.1 104 = .ok (.iload 5, 2) := by decide +kernel
theorem zd_Model_readColumn_106 : decode zm_Model_readColumn.2.1 106 = .ok (.ishl, 1) := by decide +kernel
theorem zd_Model_readColumn_107 : decode zm_Model_readColumn.2.1 107 = .ok (.ior, 1) := by decide +kernel
theorem zd_Model_readColumn_108 : decode zm_Model_readColumn.2.1 108 = .ok (.istore_n 3, 1) := by decide +kernel
theorem zd_Model_readColumn_109 : decode zm_Model_readColumn.2.1 109 = .ok (.iinc 4 1, 3) := by decide +kernel
theorem zd_Model_readColumn_112 : decode zm_Model_readColumn.2.1 112 = .ok (.goto (-107), 3) := by decide +kernel
theorem zd_Model_readColumn_115 : decode zm_Model_readColumn.2.1 115 = .ok (.iload_n 3, 1) := by decide +kernel
theorem zd_Model_readColumn_116 : decode zm_Model_readColumn.2.1 116 = .ok (.ireturn, 1) := by decide +kernel
theorem zb_Model_readColumn_0 {Γ : zG} {σ : zS} {x1 x2 : Int32}  (k : z_J Γ zm_Model_readColumn 5 [some (.inr (63)), some (.inl (x1)), none, some (.inl (x2)), some (.inl (nI 0)), none] [] σ) : z_J Γ zm_Model_readColumn 0 [some (.inr (63)), some (.inl (x1)), some (.inl (x2)), none, none, none] [] σ := by
  refine zj_iload_n zd_Model_readColumn_0 rfl ?_
  refine zj_istore_n (L' := [some (.inr (63)), some (.inl (x1)), some (.inl (x2)), some (.inl (x2)), none, none]) zd_Model_readColumn_1 (by decide) rfl ?_
  refine zj_iconst (v := nI 0) zd_Model_readColumn_2 (by decide) ?_
  refine zj_istore (L' := [some (.inr (63)), some (.inl (x1)), some (.inl (x2)), some (.inl (x2)), some (.inl (nI 0)), none]) zd_Model_readColumn_3 (by decide) rfl ?_
  exact (zj_weak (L' := [some (.inr (63)), some (.inl (x1)), none, some (.inl (x2)), some (.inl (nI 0)), none]) ⟨rfl, ⟨rfl, ⟨rfl, ⟨rfl, trivial⟩⟩⟩⟩ k)
theorem zb_Model_readColumn_5 {Γ : zG} {σ : zS} {x1 x3 x4 : Int32} {dc : Nat} {P : Int32 → zS → Prop}  (hm : z_Ci dc zm_Model_fine [.inr (63)] σ P) (hdp : dc < z_dep Γ) (k : ∀ r σ1, P r σ1 → z_J Γ zm_Model_readColumn 9 [some (.inr (63)), some (.inl (x1)), none, some (.inl (x3)), some (.inl (x4)), none] [.inl (r)] σ1) : z_J Γ zm_Model_readColumn 5 [some (.inr (63)), some (.inl (x1)), none, some (.inl (x3)), some (.inl (x4)), none] [] σ := by
  refine zj_aload_n zd_Model_readColumn_5 rfl ?_
  exact zj_callVi (As := []) hm hdp rfl (by decide) rfl zl_Model_129 zq_Model_fine zd_Model_readColumn_6 rfl (Nat.le_of_ble_eq_true rfl) (fun r σ1 h => (k r σ1 h))
theorem zb_Model_readColumn_9 {Γ : zG} {σ : zS} {x1 x3 x4 y0 : Int32}  (kt : y0 = 0 → z_J Γ zm_Model_readColumn 115 [none, none, none, some (.inl (x3)), none, none] [] σ) (kf : ¬ y0 = 0 → z_J Γ zm_Model_readColumn 12 [some (.inr (63)), some (.inl (x1)), none, some (.inl (x3)), some (.inl (x4)), none] [] σ) : z_J Γ zm_Model_readColumn 9 [some (.inr (63)), some (.inl (x1)), none, some (.inl (x3)), some (.inl (x4)), none] [.inl (y0)] σ := by
  exact zj_if_eq zd_Model_readColumn_9 (by decide) (fun h => (zj_weak (L' := [none, none, none, some (.inl (x3)), none, none]) ⟨rfl, trivial⟩ (kt h))) (fun h => (kf h))
theorem zb_Model_readColumn_12 {Γ : zG} {σ : zS} {x1 x3 x4 : Int32}  (kt : x4 = 0 → z_J Γ zm_Model_readColumn 31 [some (.inr (63)), some (.inl (x1)), none, some (.inl (x3)), some (.inl (x4)), none] [] σ) (kf : ¬ x4 = 0 → z_J Γ zm_Model_readColumn 17 [some (.inr (63)), some (.inl (x1)), none, some (.inl (x3)), some (.inl (x4)), none] [] σ) : z_J Γ zm_Model_readColumn 12 [some (.inr (63)), some (.inl (x1)), none, some (.inl (x3)), some (.inl (x4)), none] [] σ := by
  refine zj_iload zd_Model_readColumn_12 rfl ?_
  exact zj_if_eq zd_Model_readColumn_14 (by decide) (fun h => (kt h)) (fun h => (kf h))
theorem zb_Model_readColumn_17 {Γ : zG} {σ : zS} {x1 x3 x4 : Int32} {dc : Nat} {P : Int32 → zS → Prop}  (hm : z_Ci dc zm_Model_here [.inr (63)] σ P) (hdp : dc < z_dep Γ) (k : ∀ r σ1, P r σ1 → z_J Γ zm_Model_readColumn 21 [some (.inr (63)), some (.inl (x1)), none, some (.inl (x3)), some (.inl (x4)), none] [.inl (r)] σ1) : z_J Γ zm_Model_readColumn 17 [some (.inr (63)), some (.inl (x1)), none, some (.inl (x3)), some (.inl (x4)), none] [] σ := by
  refine zj_aload_n zd_Model_readColumn_17 rfl ?_
  exact zj_callVi (As := []) hm hdp rfl (by decide) rfl zl_Model_133 zq_Model_here zd_Model_readColumn_18 rfl (Nat.le_of_ble_eq_true rfl) (fun r σ1 h => (k r σ1 h))
theorem zb_Model_readColumn_21 {Γ : zG} {σ : zS} {x1 x3 x4 y0 : Int32} {dc : Nat} {P : Int32 → zS → Prop}  (hm : z_Ci dc zm_Model_in [.inl (y0), .inl (nI 97), .inl (nI 122)] σ P) (hdp : dc < z_dep Γ) (k : ∀ r σ1, P r σ1 → z_J Γ zm_Model_readColumn 28 [some (.inr (63)), some (.inl (x1)), none, some (.inl (x3)), some (.inl (x4)), none] [.inl (r)] σ1) : z_J Γ zm_Model_readColumn 21 [some (.inr (63)), some (.inl (x1)), none, some (.inl (x3)), some (.inl (x4)), none] [.inl (y0)] σ := by
  refine zj_bipush (v := nI 97) zd_Model_readColumn_21 (by decide) ?_
  refine zj_bipush (v := nI 122) zd_Model_readColumn_23 (by decide) ?_
  exact zj_callSi (As := [.inl (y0), .inl (nI 97), .inl (nI 122)]) hm hdp zl_Model_100 zq_Model_in zd_Model_readColumn_25 rfl (Nat.le_of_ble_eq_true rfl) (fun r σ1 h => (k r σ1 h))
theorem zb_Model_readColumn_28 {Γ : zG} {σ : zS} {x1 x3 x4 y0 : Int32}  (kt : y0 = 0 → z_J Γ zm_Model_readColumn 115 [none, none, none, some (.inl (x3)), none, none] [] σ) (kf : ¬ y0 = 0 → z_J Γ zm_Model_readColumn 31 [some (.inr (63)), some (.inl (x1)), none, some (.inl (x3)), some (.inl (x4)), none] [] σ) : z_J Γ zm_Model_readColumn 28 [some (.inr (63)), some (.inl (x1)), none, some (.inl (x3)), some (.inl (x4)), none] [.inl (y0)] σ := by
  exact zj_if_eq zd_Model_readColumn_28 (by decide) (fun h => (zj_weak (L' := [none, none, none, some (.inl (x3)), none, none]) ⟨rfl, trivial⟩ (kt h))) (fun h => (kf h))
theorem zb_Model_readColumn_31 {Γ : zG} {σ : zS} {x1 x3 x4 : Int32} {dc : Nat} {P : Int32 → zS → Prop}  (hm : z_Ci dc zm_Model_here [.inr (63)] σ P) (hdp : dc < z_dep Γ) (k : ∀ r σ1, P r σ1 → z_J Γ zm_Model_readColumn 35 [some (.inr (63)), some (.inl (x1)), none, some (.inl (x3)), some (.inl (x4)), none] [.inl (r)] σ1) : z_J Γ zm_Model_readColumn 31 [some (.inr (63)), some (.inl (x1)), none, some (.inl (x3)), some (.inl (x4)), none] [] σ := by
  refine zj_aload_n zd_Model_readColumn_31 rfl ?_
  exact zj_callVi (As := []) hm hdp rfl (by decide) rfl zl_Model_133 zq_Model_here zd_Model_readColumn_32 rfl (Nat.le_of_ble_eq_true rfl) (fun r σ1 h => (k r σ1 h))
theorem zb_Model_readColumn_35 {Γ : zG} {σ : zS} {x1 x3 x4 y0 : Int32}  (kt : x4 = (nI 4) → z_J Γ zm_Model_readColumn 64 [some (.inr (63)), some (.inl (x1)), none, some (.inl (x3)), some (.inl (x4)), none] [] σ) (kf : ¬ x4 = (nI 4) → z_J Γ zm_Model_readColumn 46 [some (.inr (63)), some (.inl (x1)), none, some (.inl (x3)), some (.inl (x4)), some (.inl (y0 - (nI 97)))] [] σ) : z_J Γ zm_Model_readColumn 35 [some (.inr (63)), some (.inl (x1)), none, some (.inl (x3)), some (.inl (x4)), none] [.inl (y0)] σ := by
  refine zj_bipush (v := nI 97) zd_Model_readColumn_35 (by decide) ?_
  refine zj_isub zd_Model_readColumn_37 ?_
  refine zj_istore (L' := [some (.inr (63)), some (.inl (x1)), none, some (.inl (x3)), some (.inl (x4)), some (.inl (y0 - (nI 97)))]) zd_Model_readColumn_38 (by decide) rfl ?_
  refine zj_iload zd_Model_readColumn_40 rfl ?_
  refine zj_iconst (v := nI 4) zd_Model_readColumn_42 (by decide) ?_
  exact zj_icmp_eq zd_Model_readColumn_43 (by decide) (fun h => (zj_weak (L' := [some (.inr (63)), some (.inl (x1)), none, some (.inl (x3)), some (.inl (x4)), none]) ⟨rfl, ⟨rfl, ⟨rfl, ⟨rfl, trivial⟩⟩⟩⟩ (kt h))) (fun h => (kf h))
theorem zb_Model_readColumn_46 {Γ : zG} {σ : zS} {x1 x3 x4 x5 : Int32} {dc : Nat} {P : Int32 → zS → Prop}  (hm : z_Ci dc zm_Model_isBook [.inr (63), .inl (x5)] σ P) (hdp : dc < z_dep Γ) (k : ∀ r σ1, P r σ1 → z_J Γ zm_Model_readColumn 52 [some (.inr (63)), some (.inl (x1)), none, some (.inl (x3)), some (.inl (x4)), some (.inl (x5))] [.inl (r)] σ1) : z_J Γ zm_Model_readColumn 46 [some (.inr (63)), some (.inl (x1)), none, some (.inl (x3)), some (.inl (x4)), some (.inl (x5))] [] σ := by
  refine zj_aload_n zd_Model_readColumn_46 rfl ?_
  refine zj_iload zd_Model_readColumn_47 rfl ?_
  exact zj_callVi (As := [.inl (x5)]) hm hdp rfl (by decide) rfl zl_Model_184 zq_Model_isBook zd_Model_readColumn_49 rfl (Nat.le_of_ble_eq_true rfl) (fun r σ1 h => (k r σ1 h))
theorem zb_Model_readColumn_52 {Γ : zG} {σ : zS} {x1 x3 x4 x5 y0 : Int32}  (kt : y0 = 0 → z_J Γ zm_Model_readColumn 64 [some (.inr (63)), some (.inl (x1)), none, some (.inl (x3)), some (.inl (x4)), none] [] σ) (kf : ¬ y0 = 0 → z_J Γ zm_Model_readColumn 55 [some (.inr (63)), some (.inl (x1)), none, some (.inl (x3)), some (.inl (x4)), some (.inl (x5))] [] σ) : z_J Γ zm_Model_readColumn 52 [some (.inr (63)), some (.inl (x1)), none, some (.inl (x3)), some (.inl (x4)), some (.inl (x5))] [.inl (y0)] σ := by
  exact zj_if_eq zd_Model_readColumn_52 (by decide) (fun h => (zj_weak (L' := [some (.inr (63)), some (.inl (x1)), none, some (.inl (x3)), some (.inl (x4)), none]) ⟨rfl, ⟨rfl, ⟨rfl, ⟨rfl, trivial⟩⟩⟩⟩ (kt h))) (fun h => (kf h))
theorem zb_Model_readColumn_55 {Γ : zG} {σ : zS} {x1 x3 x4 x5 : Int32} {dc : Nat} {P : Int32 → zS → Prop}  (hm : z_Ci dc zm_Model_has [.inl (x3), .inl (x5)] σ P) (hdp : dc < z_dep Γ) (k : ∀ r σ1, P r σ1 → z_J Γ zm_Model_readColumn 61 [some (.inr (63)), some (.inl (x1)), none, some (.inl (x3)), some (.inl (x4)), some (.inl (x5))] [.inl (r)] σ1) : z_J Γ zm_Model_readColumn 55 [some (.inr (63)), some (.inl (x1)), none, some (.inl (x3)), some (.inl (x4)), some (.inl (x5))] [] σ := by
  refine zj_iload_n zd_Model_readColumn_55 rfl ?_
  refine zj_iload zd_Model_readColumn_56 rfl ?_
  exact zj_callSi (As := [.inl (x3), .inl (x5)]) hm hdp zl_Model_169 zq_Model_has zd_Model_readColumn_58 rfl (Nat.le_of_ble_eq_true rfl) (fun r σ1 h => (k r σ1 h))
theorem zb_Model_readColumn_61 {Γ : zG} {σ : zS} {x1 x3 x4 x5 y0 : Int32}  (kt : y0 = 0 → z_J Γ zm_Model_readColumn 75 [some (.inr (63)), some (.inl (x1)), none, some (.inl (x3)), some (.inl (x4)), some (.inl (x5))] [] σ) (kf : ¬ y0 = 0 → z_J Γ zm_Model_readColumn 64 [some (.inr (63)), some (.inl (x1)), none, some (.inl (x3)), some (.inl (x4)), none] [] σ) : z_J Γ zm_Model_readColumn 61 [some (.inr (63)), some (.inl (x1)), none, some (.inl (x3)), some (.inl (x4)), some (.inl (x5))] [.inl (y0)] σ := by
  exact zj_if_eq zd_Model_readColumn_61 (by decide) (fun h => (kt h)) (fun h => (zj_weak (L' := [some (.inr (63)), some (.inl (x1)), none, some (.inl (x3)), some (.inl (x4)), none]) ⟨rfl, ⟨rfl, ⟨rfl, ⟨rfl, trivial⟩⟩⟩⟩ (kf h)))
theorem zb_Model_readColumn_64 {Γ : zG} {σ : zS} {x1 x3 x4 : Int32} {dc : Nat} {P : zS → Prop}  (hm : z_Cv dc zm_Model_fault [.inr (63), .inl (σ.1 63 15)] σ P) (hdp : dc < z_dep Γ) (k : ∀ σ1, P σ1 → z_J Γ zm_Model_readColumn 72 [some (.inr (63)), some (.inl (x1)), none, some (.inl (x3)), some (.inl (x4)), none] [] σ1) : z_J Γ zm_Model_readColumn 64 [some (.inr (63)), some (.inl (x1)), none, some (.inl (x3)), some (.inl (x4)), none] [] σ := by
  refine zj_aload_n zd_Model_readColumn_64 rfl ?_
  refine zj_aload_n zd_Model_readColumn_65 rfl ?_
  refine zj_getI rfl (by decide) rfl zu_Model (k := 15) (by decide) rfl zl_Model_119 zd_Model_readColumn_66 ?_
  exact zj_callVv (As := [.inl (σ.1 63 15)]) hm hdp rfl (by decide) rfl zl_Model_141 zq_Model_fault zd_Model_readColumn_69 rfl (Nat.le_of_ble_eq_true rfl) (fun σ1 h => (k σ1 h))
theorem zb_Model_readColumn_72 {Γ : zG} {σ : zS} {x1 x3 x4 : Int32}  (k : z_J Γ zm_Model_readColumn 112 [some (.inr (63)), some (.inl (x1)), none, some (.inl (x3)), some (.inl (x4)), none] [] σ) : z_J Γ zm_Model_readColumn 72 [some (.inr (63)), some (.inl (x1)), none, some (.inl (x3)), some (.inl (x4)), none] [] σ := by
  exact zj_goto zd_Model_readColumn_72 (by decide) k
theorem zb_Model_readColumn_75 {Γ : zG} {σ : zS} {x1 x3 x4 x5 : Int32} {k1 k2 : Nat}  (b1 : z_ix x5 12 k1) (b2 : z_ix x5 12 k2) (k : z_J Γ zm_Model_readColumn 112 [some (.inr (63)), some (.inl (x1)), none, some (.inl (x3 ||| ((nI 1) <<< (x5 &&& 31)))), some (.inl (x4 + nI 1)), none] [] (z_pI (z_pI (z_pI σ 63 15 ((σ.1 63 15) + (nI 1))) 71 k1 x1) 72 k2 x4)) : z_J Γ zm_Model_readColumn 75 [some (.inr (63)), some (.inl (x1)), none, some (.inl (x3)), some (.inl (x4)), some (.inl (x5))] [] σ := by
  refine zj_aload_n zd_Model_readColumn_75 rfl ?_
  refine zj_dup zd_Model_readColumn_76 ?_
  refine zj_getI rfl (by decide) rfl zu_Model (k := 15) (by decide) rfl zl_Model_119 zd_Model_readColumn_77 ?_
  refine zj_iconst (v := nI 1) zd_Model_readColumn_80 (by decide) ?_
  refine zj_iadd zd_Model_readColumn_81 ?_
  refine zj_putI rfl (by decide) rfl zu_Model zy_Model_ok zn_Model (k := 15) (by decide) rfl rfl zl_Model_119 rfl rfl zd_Model_readColumn_82 ?_
  refine zj_aload_n zd_Model_readColumn_85 rfl ?_
  refine zj_getR rfl (by decide) rfl zu_Model (k := 18) (by decide) rfl zl_Model_36 zd_Model_readColumn_86 (o' := 71) rfl ?_
  refine zj_iload zd_Model_readColumn_89 rfl ?_
  refine zj_iload_n zd_Model_readColumn_91 rfl ?_
  refine zj_iastore rfl (by decide) b1 zd_Model_readColumn_92 ?_
  refine zj_aload_n zd_Model_readColumn_93 rfl ?_
  refine zj_getR rfl (by decide) rfl zu_Model (k := 19) (by decide) rfl zl_Model_39 zd_Model_readColumn_94 (o' := 72) rfl ?_
  refine zj_iload zd_Model_readColumn_97 rfl ?_
  refine zj_iload zd_Model_readColumn_99 rfl ?_
  refine zj_iastore rfl (by decide) b2 zd_Model_readColumn_101 ?_
  refine zj_iload_n zd_Model_readColumn_102 rfl ?_
  refine zj_iconst (v := nI 1) zd_Model_readColumn_103 (by decide) ?_
  refine zj_iload zd_Model_readColumn_104 rfl ?_
  refine zj_ishl zd_Model_readColumn_106 ?_
  refine zj_ior zd_Model_readColumn_107 ?_
  refine zj_istore_n (L' := [some (.inr (63)), some (.inl (x1)), none, some (.inl (x3 ||| ((nI 1) <<< (x5 &&& 31)))), some (.inl (x4)), some (.inl (x5))]) zd_Model_readColumn_108 (by decide) rfl ?_
  refine zj_iinc (v := nI 1) (L' := [some (.inr (63)), some (.inl (x1)), none, some (.inl (x3 ||| ((nI 1) <<< (x5 &&& 31)))), some (.inl (x4 + nI 1)), some (.inl (x5))]) zd_Model_readColumn_109 rfl (by decide) (by decide) rfl ?_
  exact (zj_weak (L' := [some (.inr (63)), some (.inl (x1)), none, some (.inl (x3 ||| ((nI 1) <<< (x5 &&& 31)))), some (.inl (x4 + nI 1)), none]) ⟨rfl, ⟨rfl, ⟨rfl, ⟨rfl, trivial⟩⟩⟩⟩ k)
theorem zb_Model_readColumn_112 {Γ : zG} {σ : zS} {x1 x3 x4 : Int32}  (k : z_J Γ zm_Model_readColumn 5 [some (.inr (63)), some (.inl (x1)), none, some (.inl (x3)), some (.inl (x4)), none] [] σ) : z_J Γ zm_Model_readColumn 112 [some (.inr (63)), some (.inl (x1)), none, some (.inl (x3)), some (.inl (x4)), none] [] σ := by
  exact zj_goto zd_Model_readColumn_112 (by decide) k
theorem zb_Model_readColumn_115 {Γ : zG} {σ : zS} {x3 : Int32}  (e : z_end Γ (some (x3)) σ) : z_J Γ zm_Model_readColumn 115 [none, none, none, some (.inl (x3)), none, none] [] σ := by
  refine zj_iload_n zd_Model_readColumn_115 rfl ?_
  exact zj_ireturn rfl zd_Model_readColumn_116 e
theorem zd_Model_isBook_0 : decode zm_Model_isBook.2.1 0 = .ok (.iload_n 1, 1) := by decide +kernel
theorem zd_Model_isBook_1 : decode zm_Model_isBook.2.1 1 = .ok (.iconst 0, 1) := by decide +kernel
theorem zd_Model_isBook_2 : decode zm_Model_isBook.2.1 2 = .ok (.aload_n 0, 1) := by decide +kernel
theorem zd_Model_isBook_3 : decode zm_Model_isBook.2.1 3 = .ok (.getfield 97, 3) := by decide +kernel
theorem zd_Model_isBook_6 : decode zm_Model_isBook.2.1 6 = .ok (.iconst 1, 1) := by decide +kernel
theorem zd_Model_isBook_7 : decode zm_Model_isBook.2.1 7 = .ok (.isub, 1) := by decide +kernel
theorem zd_Model_isBook_8 : decode zm_Model_isBook.2.1 8 = .ok (.invokestatic 100, 3) := by decide +kernel
theorem zd_Model_isBook_11 : decode zm_Model_isBook.2.1 11 = .ok (.ireturn, 1) := by decide +kernel
theorem zb_Model_isBook_0 {Γ : zG} {σ : zS} {x1 : Int32} {dc : Nat} {P : Int32 → zS → Prop}  (hm : z_Ci dc zm_Model_in [.inl (x1), .inl (nI 0), .inl ((σ.1 63 1) - (nI 1))] σ P) (hdp : dc < z_dep Γ) (k : ∀ r σ1, P r σ1 → z_J Γ zm_Model_isBook 11 [none, none] [.inl (r)] σ1) : z_J Γ zm_Model_isBook 0 [some (.inr (63)), some (.inl (x1))] [] σ := by
  refine zj_iload_n zd_Model_isBook_0 rfl ?_
  refine zj_iconst (v := nI 0) zd_Model_isBook_1 (by decide) ?_
  refine zj_aload_n zd_Model_isBook_2 rfl ?_
  refine zj_getI rfl (by decide) rfl zu_Model (k := 1) (by decide) rfl zl_Model_97 zd_Model_isBook_3 ?_
  refine zj_iconst (v := nI 1) zd_Model_isBook_6 (by decide) ?_
  refine zj_isub zd_Model_isBook_7 ?_
  exact zj_callSi (As := [.inl (x1), .inl (nI 0), .inl ((σ.1 63 1) - (nI 1))]) hm hdp zl_Model_100 zq_Model_in zd_Model_isBook_8 rfl (Nat.le_of_ble_eq_true rfl) (fun r σ1 h => (zj_weak (L' := [none, none]) trivial (k r σ1 h)))
theorem zb_Model_isBook_11 {Γ : zG} {σ : zS} {y0 : Int32}  (e : z_end Γ (some (y0)) σ) (z1 : y0 = 0 ∨ y0 = 1) : z_J Γ zm_Model_isBook 11 [none, none] [.inl (y0)] σ := by
  exact zj_zreturn rfl z1 zd_Model_isBook_11 e
theorem zd_Model_has_0 : decode zm_Model_has.2.1 0 = .ok (.iload_n 0, 1) := by decide +kernel
theorem zd_Model_has_1 : decode zm_Model_has.2.1 1 = .ok (.iload_n 1, 1) := by decide +kernel
theorem zd_Model_has_2 : decode zm_Model_has.2.1 2 = .ok (.ishr, 1) := by decide +kernel
theorem zd_Model_has_3 : decode zm_Model_has.2.1 3 = .ok (.iconst 1, 1) := by decide +kernel
theorem zd_Model_has_4 : decode zm_Model_has.2.1 4 = .ok (.iand, 1) := by decide +kernel
theorem zd_Model_has_5 : decode zm_Model_has.2.1 5 = .ok (.iconst 1, 1) := by decide +kernel
theorem zd_Model_has_6 : decode zm_Model_has.2.1 6 = .ok (.if_icmp .ne 7, 3) := by decide +kernel
theorem zd_Model_has_9 : decode zm_Model_has.2.1 9 = .ok (.iconst 1, 1) := by decide +kernel
theorem zd_Model_has_10 : decode zm_Model_has.2.1 10 = .ok (.goto 4, 3) := by decide +kernel
theorem zd_Model_has_13 : decode zm_Model_has.2.1 13 = .ok (.iconst 0, 1) := by decide +kernel
theorem zd_Model_has_14 : decode zm_Model_has.2.1 14 = .ok (.ireturn, 1) := by decide +kernel
theorem zb_Model_has_0 {Γ : zG} {σ : zS} {x0 x1 : Int32}  (kt : ¬ ((x0 >>> (x1 &&& 31)) &&& (nI 1)) = (nI 1) → z_J Γ zm_Model_has 13 [none, none] [] σ) (kf : ((x0 >>> (x1 &&& 31)) &&& (nI 1)) = (nI 1) → z_J Γ zm_Model_has 9 [none, none] [] σ) : z_J Γ zm_Model_has 0 [some (.inl (x0)), some (.inl (x1))] [] σ := by
  refine zj_iload_n zd_Model_has_0 rfl ?_
  refine zj_iload_n zd_Model_has_1 rfl ?_
  refine zj_ishr zd_Model_has_2 ?_
  refine zj_iconst (v := nI 1) zd_Model_has_3 (by decide) ?_
  refine zj_iand zd_Model_has_4 ?_
  refine zj_iconst (v := nI 1) zd_Model_has_5 (by decide) ?_
  exact zj_icmp_ne zd_Model_has_6 (by decide) (fun h => (zj_weak (L' := [none, none]) trivial (kt h))) (fun h => (zj_weak (L' := [none, none]) trivial (kf h)))
theorem zb_Model_has_9 {Γ : zG} {σ : zS}  (k : z_J Γ zm_Model_has 14 [none, none] [.inl (nI 1)] σ) : z_J Γ zm_Model_has 9 [none, none] [] σ := by
  refine zj_iconst (v := nI 1) zd_Model_has_9 (by decide) ?_
  exact zj_goto zd_Model_has_10 (by decide) k
theorem zb_Model_has_13 {Γ : zG} {σ : zS}  (k : z_J Γ zm_Model_has 14 [none, none] [.inl (nI 0)] σ) : z_J Γ zm_Model_has 13 [none, none] [] σ := by
  refine zj_iconst (v := nI 0) zd_Model_has_13 (by decide) ?_
  exact k
theorem zb_Model_has_14 {Γ : zG} {σ : zS} {y0 : Int32}  (e : z_end Γ (some (y0)) σ) (z1 : y0 = 0 ∨ y0 = 1) : z_J Γ zm_Model_has 14 [none, none] [.inl (y0)] σ := by
  exact zj_zreturn rfl z1 zd_Model_has_14 e
theorem zd_Model_lay_1_0 : decode zm_Model_lay_1.2.1 0 = .ok (.iconst 0, 1) := by decide +kernel
theorem zd_Model_lay_1_1 : decode zm_Model_lay_1.2.1 1 = .ok (.istore_n 3, 1) := by decide +kernel
theorem zd_Model_lay_1_2 : decode zm_Model_lay_1.2.1 2 = .ok (.iload_n 3, 1) := by decide +kernel
theorem zd_Model_lay_1_3 : decode zm_Model_lay_1.2.1 3 = .ok (.bipush 53, 2) := by decide +kernel
theorem zd_Model_lay_1_5 : decode zm_Model_lay_1.2.1 5 = .ok (.if_icmp .ge 17, 3) := by decide +kernel
theorem zd_Model_lay_1_8 : decode zm_Model_lay_1.2.1 8 = .ok (.aload_n 1, 1) := by decide +kernel
theorem zd_Model_lay_1_9 : decode zm_Model_lay_1.2.1 9 = .ok (.iload_n 2, 1) := by decide +kernel
theorem zd_Model_lay_1_10 : decode zm_Model_lay_1.2.1 10 = .ok (.iload_n 3, 1) := by decide +kernel
theorem zd_Model_lay_1_11 : decode zm_Model_lay_1.2.1 11 = .ok (.iadd, 1) := by decide +kernel
theorem zd_Model_lay_1_12 : decode zm_Model_lay_1.2.1 12 = .ok (.aload_n 0, 1) := by decide +kernel
theorem zd_Model_lay_1_13 : decode zm_Model_lay_1.2.1 13 = .ok (.iload_n 3, 1) := by decide +kernel
theorem zd_Model_lay_1_14 : decode zm_Model_lay_1.2.1 14 = .ok (.iaload, 1) := by decide +kernel
theorem zd_Model_lay_1_15 : decode zm_Model_lay_1.2.1 15 = .ok (.iastore, 1) := by decide +kernel
theorem zd_Model_lay_1_16 : decode zm_Model_lay_1.2.1 16 = .ok (.iinc 3 1, 3) := by decide +kernel
theorem zd_Model_lay_1_19 : decode zm_Model_lay_1.2.1 19 = .ok (.goto (-17), 3) := by decide +kernel
theorem zd_Model_lay_1_22 : decode zm_Model_lay_1.2.1 22 = .ok (.return_, 1) := by decide +kernel
theorem zb_Model_lay_1_0 {Γ : zG} {σ : zS} {a0 : Nat} {a1 : Nat} {n1 : Nat} {x2 : Int32} (h_a0 : z_kd a0 = (11, 53)) (h_a1 : z_kd a1 = (11, n1)) (k : z_J Γ zm_Model_lay_1 2 [some (.inr (a0)), some (.inr (a1)), some (.inl (x2)), some (.inl (nI 0))] [] σ) : z_J Γ zm_Model_lay_1 0 [some (.inr (a0)), some (.inr (a1)), some (.inl (x2)), none] [] σ := by
  refine zj_iconst (v := nI 0) zd_Model_lay_1_0 (by decide) ?_
  refine zj_istore_n (L' := [some (.inr (a0)), some (.inr (a1)), some (.inl (x2)), some (.inl (nI 0))]) zd_Model_lay_1_1 (by decide) rfl ?_
  exact k
theorem zb_Model_lay_1_2 {Γ : zG} {σ : zS} {a0 : Nat} {a1 : Nat} {n1 : Nat} {x2 x3 : Int32} (h_a0 : z_kd a0 = (11, 53)) (h_a1 : z_kd a1 = (11, n1)) (kt : (nI 53) ≤ x3 → z_J Γ zm_Model_lay_1 22 [none, none, none, none] [] σ) (kf : ¬ (nI 53) ≤ x3 → z_J Γ zm_Model_lay_1 8 [some (.inr (a0)), some (.inr (a1)), some (.inl (x2)), some (.inl (x3))] [] σ) : z_J Γ zm_Model_lay_1 2 [some (.inr (a0)), some (.inr (a1)), some (.inl (x2)), some (.inl (x3))] [] σ := by
  refine zj_iload_n zd_Model_lay_1_2 rfl ?_
  refine zj_bipush (v := nI 53) zd_Model_lay_1_3 (by decide) ?_
  exact zj_icmp_ge zd_Model_lay_1_5 (by decide) (fun h => (zj_weak (L' := [none, none, none, none]) trivial (kt h))) (fun h => (kf h))
theorem zb_Model_lay_1_8 {Γ : zG} {σ : zS} {a0 : Nat} {a1 : Nat} {n1 : Nat} {x2 x3 : Int32} {k1 k2 : Nat} (h_a0 : z_kd a0 = (11, 53)) (h_a1 : z_kd a1 = (11, n1)) (hs_n1 : n1 < 2 ^ 31) (b1 : z_ix x3 53 k1) (b2 : z_ix (x2 + x3) n1 k2) (k : z_J Γ zm_Model_lay_1 2 [some (.inr (a0)), some (.inr (a1)), some (.inl (x2)), some (.inl (x3 + nI 1))] [] (z_pI σ a1 k2 (σ.1 a0 k1))) : z_J Γ zm_Model_lay_1 8 [some (.inr (a0)), some (.inr (a1)), some (.inl (x2)), some (.inl (x3))] [] σ := by
  refine zj_aload_n zd_Model_lay_1_8 rfl ?_
  refine zj_iload_n zd_Model_lay_1_9 rfl ?_
  refine zj_iload_n zd_Model_lay_1_10 rfl ?_
  refine zj_iadd zd_Model_lay_1_11 ?_
  refine zj_aload_n zd_Model_lay_1_12 rfl ?_
  refine zj_iload_n zd_Model_lay_1_13 rfl ?_
  refine zj_iaload h_a0 (by decide) b1 zd_Model_lay_1_14 ?_
  refine zj_iastore h_a1 hs_n1 b2 zd_Model_lay_1_15 ?_
  refine zj_iinc (v := nI 1) (L' := [some (.inr (a0)), some (.inr (a1)), some (.inl (x2)), some (.inl (x3 + nI 1))]) zd_Model_lay_1_16 rfl (by decide) (by decide) rfl ?_
  exact zj_goto zd_Model_lay_1_19 (by decide) k
theorem zb_Model_lay_1_22 {Γ : zG} {σ : zS}  (e : z_end Γ none σ) : z_J Γ zm_Model_lay_1 22 [none, none, none, none] [] σ := by
  exact zj_return rfl zd_Model_lay_1_22 e
theorem zd_Model_put_0 : decode zm_Model_put.2.1 0 = .ok (.aload_n 0, 1) := by decide +kernel
theorem zd_Model_put_1 : decode zm_Model_put.2.1 1 = .ok (.iload_n 1, 1) := by decide +kernel
theorem zd_Model_put_2 : decode zm_Model_put.2.1 2 = .ok (.iload_n 2, 1) := by decide +kernel
theorem zd_Model_put_3 : decode zm_Model_put.2.1 3 = .ok (.iastore, 1) := by decide +kernel
theorem zd_Model_put_4 : decode zm_Model_put.2.1 4 = .ok (.aload_n 0, 1) := by decide +kernel
theorem zd_Model_put_5 : decode zm_Model_put.2.1 5 = .ok (.bipush 12, 2) := by decide +kernel
theorem zd_Model_put_7 : decode zm_Model_put.2.1 7 = .ok (.iload_n 1, 1) := by decide +kernel
theorem zd_Model_put_8 : decode zm_Model_put.2.1 8 = .ok (.iadd, 1) := by decide +kernel
theorem zd_Model_put_9 : decode zm_Model_put.2.1 9 = .ok (.iload_n 3, 1) := by decide +kernel
theorem zd_Model_put_10 : decode zm_Model_put.2.1 10 = .ok (.iastore, 1) := by decide +kernel
theorem zd_Model_put_11 : decode zm_Model_put.2.1 11 = .ok (.aload_n 0, 1) := by decide +kernel
theorem zd_Model_put_12 : decode zm_Model_put.2.1 12 = .ok (.bipush 24, 2) := by decide +kernel
theorem zd_Model_put_14 : decode zm_Model_put.2.1 14 = .ok (.iload_n 1, 1) := by decide +kernel
theorem zd_Model_put_15 : decode zm_Model_put.2.1 15 = .ok (.iadd, 1) := by decide +kernel
theorem zd_Model_put_16 : decode zm_Model_put.2.1 16 = .ok (.iload 4, 2) := by decide +kernel
theorem zd_Model_put_18 : decode zm_Model_put.2.1 18 = .ok (.iastore, 1) := by decide +kernel
theorem zd_Model_put_19 : decode zm_Model_put.2.1 19 = .ok (.return_, 1) := by decide +kernel
theorem zb_Model_put_0 {Γ : zG} {σ : zS} {a0 : Nat} {x1 x2 x3 x4 : Int32} {k1 k2 k3 : Nat} (h_a0 : z_kd a0 = (11, 53)) (b1 : z_ix x1 53 k1) (b2 : z_ix ((nI 12) + x1) 53 k2) (b3 : z_ix ((nI 24) + x1) 53 k3) (e : z_end Γ none (z_pI (z_pI (z_pI σ a0 k1 x2) a0 k2 x3) a0 k3 x4)) : z_J Γ zm_Model_put 0 [some (.inr (a0)), some (.inl (x1)), some (.inl (x2)), some (.inl (x3)), some (.inl (x4))] [] σ := by
  refine zj_aload_n zd_Model_put_0 rfl ?_
  refine zj_iload_n zd_Model_put_1 rfl ?_
  refine zj_iload_n zd_Model_put_2 rfl ?_
  refine zj_iastore h_a0 (by decide) b1 zd_Model_put_3 ?_
  refine zj_aload_n zd_Model_put_4 rfl ?_
  refine zj_bipush (v := nI 12) zd_Model_put_5 (by decide) ?_
  refine zj_iload_n zd_Model_put_7 rfl ?_
  refine zj_iadd zd_Model_put_8 ?_
  refine zj_iload_n zd_Model_put_9 rfl ?_
  refine zj_iastore h_a0 (by decide) b2 zd_Model_put_10 ?_
  refine zj_aload_n zd_Model_put_11 rfl ?_
  refine zj_bipush (v := nI 24) zd_Model_put_12 (by decide) ?_
  refine zj_iload_n zd_Model_put_14 rfl ?_
  refine zj_iadd zd_Model_put_15 ?_
  refine zj_iload zd_Model_put_16 rfl ?_
  refine zj_iastore h_a0 (by decide) b3 zd_Model_put_18 ?_
  exact zj_return rfl zd_Model_put_19 e
theorem zd_Model_isHeld_0 : decode zm_Model_isHeld.2.1 0 = .ok (.aload_n 0, 1) := by decide +kernel
theorem zd_Model_isHeld_1 : decode zm_Model_isHeld.2.1 1 = .ok (.aload_n 1, 1) := by decide +kernel
theorem zd_Model_isHeld_2 : decode zm_Model_isHeld.2.1 2 = .ok (.iload_n 2, 1) := by decide +kernel
theorem zd_Model_isHeld_3 : decode zm_Model_isHeld.2.1 3 = .ok (.iconst 0, 1) := by decide +kernel
theorem zd_Model_isHeld_4 : decode zm_Model_isHeld.2.1 4 = .ok (.invokevirtual 243, 3) := by decide +kernel
theorem zd_Model_isHeld_7 : decode zm_Model_isHeld.2.1 7 = .ok (.ireturn, 1) := by decide +kernel
theorem zb_Model_isHeld_0 {Γ : zG} {σ : zS} {a1 : Nat} {x2 : Int32} {dc : Nat} {P : Int32 → zS → Prop} (h_a1 : z_kd a1 = (11, 53)) (hm : z_Ci dc zm_Model_isHeldBut [.inr (63), .inr (a1), .inl (x2), .inl (nI 0)] σ P) (hdp : dc < z_dep Γ) (k : ∀ r σ1, P r σ1 → z_J Γ zm_Model_isHeld 7 [none, none, none] [.inl (r)] σ1) : z_J Γ zm_Model_isHeld 0 [some (.inr (63)), some (.inr (a1)), some (.inl (x2))] [] σ := by
  refine zj_aload_n zd_Model_isHeld_0 rfl ?_
  refine zj_aload_n zd_Model_isHeld_1 rfl ?_
  refine zj_iload_n zd_Model_isHeld_2 rfl ?_
  refine zj_iconst (v := nI 0) zd_Model_isHeld_3 (by decide) ?_
  exact zj_callVi (As := [.inr (a1), .inl (x2), .inl (nI 0)]) hm hdp rfl (by decide) rfl zl_Model_243 zq_Model_isHeldBut zd_Model_isHeld_4 rfl (Nat.le_of_ble_eq_true rfl) (fun r σ1 h => (zj_weak (L' := [none, none, none]) trivial (k r σ1 h)))
theorem zb_Model_isHeld_7 {Γ : zG} {σ : zS} {y0 : Int32}  (e : z_end Γ (some (y0)) σ) (z1 : y0 = 0 ∨ y0 = 1) : z_J Γ zm_Model_isHeld 7 [none, none, none] [.inl (y0)] σ := by
  exact zj_zreturn rfl z1 zd_Model_isHeld_7 e
theorem zd_Model_isHeldBut_0 : decode zm_Model_isHeldBut.2.1 0 = .ok (.aload_n 0, 1) := by decide +kernel
theorem zd_Model_isHeldBut_1 : decode zm_Model_isHeldBut.2.1 1 = .ok (.iload_n 2, 1) := by decide +kernel
theorem zd_Model_isHeldBut_2 : decode zm_Model_isHeldBut.2.1 2 = .ok (.aload_n 0, 1) := by decide +kernel
theorem zd_Model_isHeldBut_3 : decode zm_Model_isHeldBut.2.1 3 = .ok (.aload_n 1, 1) := by decide +kernel
theorem zd_Model_isHeldBut_4 : decode zm_Model_isHeldBut.2.1 4 = .ok (.iload_n 2, 1) := by decide +kernel
theorem zd_Model_isHeldBut_5 : decode zm_Model_isHeldBut.2.1 5 = .ok (.iload_n 3, 1) := by decide +kernel
theorem zd_Model_isHeldBut_6 : decode zm_Model_isHeldBut.2.1 6 = .ok (.invokevirtual 236, 3) := by decide +kernel
theorem zd_Model_isHeldBut_9 : decode zm_Model_isHeldBut.2.1 9 = .ok (.aload_n 1, 1) := by decide +kernel
theorem zd_Model_isHeldBut_10 : decode zm_Model_isHeldBut.2.1 10 = .ok (.bipush 48, 2) := by decide +kernel
theorem zd_Model_isHeldBut_12 : decode zm_Model_isHeldBut.2.1 12 = .ok (.iaload, 1) := by decide +kernel
theorem zd_Model_isHeldBut_13 : decode zm_Model_isHeldBut.2.1 13 = .ok (.invokevirtual 240, 3) := by decide +kernel
theorem zd_Model_isHeldBut_16 : decode zm_Model_isHeldBut.2.1 16 = .ok (.ireturn, 1) := by decide +kernel
theorem zb_Model_isHeldBut_0 {Γ : zG} {σ : zS} {a1 : Nat} {x2 x3 : Int32} {dc : Nat} {P : Int32 → zS → Prop} (h_a1 : z_kd a1 = (11, 53)) (hm : z_Ci dc zm_Model_readPile [.inr (63), .inr (a1), .inl (x2), .inl (x3)] σ P) (hdp : dc < z_dep Γ) (k : ∀ r σ1, P r σ1 → z_J Γ zm_Model_isHeldBut 9 [none, some (.inr (a1)), none, none] [.inl (r), .inl (x2), .inr (63)] σ1) : z_J Γ zm_Model_isHeldBut 0 [some (.inr (63)), some (.inr (a1)), some (.inl (x2)), some (.inl (x3))] [] σ := by
  refine zj_aload_n zd_Model_isHeldBut_0 rfl ?_
  refine zj_iload_n zd_Model_isHeldBut_1 rfl ?_
  refine zj_aload_n zd_Model_isHeldBut_2 rfl ?_
  refine zj_aload_n zd_Model_isHeldBut_3 rfl ?_
  refine zj_iload_n zd_Model_isHeldBut_4 rfl ?_
  refine zj_iload_n zd_Model_isHeldBut_5 rfl ?_
  exact zj_callVi (As := [.inr (a1), .inl (x2), .inl (x3)]) hm hdp rfl (by decide) rfl zl_Model_236 zq_Model_readPile zd_Model_isHeldBut_6 rfl (Nat.le_of_ble_eq_true rfl) (fun r σ1 h => (zj_weak (L' := [none, some (.inr (a1)), none, none]) ⟨rfl, trivial⟩ (k r σ1 h)))
theorem zb_Model_isHeldBut_9 {Γ : zG} {σ : zS} {a1 : Nat} {y0 y1 : Int32} {k1 : Nat} {dc : Nat} {P : Int32 → zS → Prop} (h_a1 : z_kd a1 = (11, 53)) (b1 : z_ix (nI 48) 53 k1) (hm : z_Ci dc zm_Model_doesPileHold [.inr (63), .inl (y1), .inl (y0), .inl (σ.1 a1 k1)] σ P) (hdp : dc < z_dep Γ) (k : ∀ r σ1, P r σ1 → z_J Γ zm_Model_isHeldBut 16 [none, none, none, none] [.inl (r)] σ1) : z_J Γ zm_Model_isHeldBut 9 [none, some (.inr (a1)), none, none] [.inl (y0), .inl (y1), .inr (63)] σ := by
  refine zj_aload_n zd_Model_isHeldBut_9 rfl ?_
  refine zj_bipush (v := nI 48) zd_Model_isHeldBut_10 (by decide) ?_
  refine zj_iaload h_a1 (by decide) b1 zd_Model_isHeldBut_12 ?_
  exact zj_callVi (As := [.inl (y1), .inl (y0), .inl (σ.1 a1 k1)]) hm hdp rfl (by decide) rfl zl_Model_240 zq_Model_doesPileHold zd_Model_isHeldBut_13 rfl (Nat.le_of_ble_eq_true rfl) (fun r σ1 h => (zj_weak (L' := [none, none, none, none]) trivial (k r σ1 h)))
theorem zb_Model_isHeldBut_16 {Γ : zG} {σ : zS} {y0 : Int32}  (e : z_end Γ (some (y0)) σ) (z1 : y0 = 0 ∨ y0 = 1) : z_J Γ zm_Model_isHeldBut 16 [none, none, none, none] [.inl (y0)] σ := by
  exact zj_zreturn rfl z1 zd_Model_isHeldBut_16 e
theorem zd_Model_readPile_0 : decode zm_Model_readPile.2.1 0 = .ok (.iconst 0, 1) := by decide +kernel
theorem zd_Model_readPile_1 : decode zm_Model_readPile.2.1 1 = .ok (.istore 4, 2) := by decide +kernel
theorem zd_Model_readPile_3 : decode zm_Model_readPile.2.1 3 = .ok (.iconst 0, 1) := by decide +kernel
theorem zd_Model_readPile_4 : decode zm_Model_readPile.2.1 4 = .ok (.istore 5, 2) := by decide +kernel
theorem zd_Model_readPile_6 : decode zm_Model_readPile.2.1 6 = .ok (.iload 5, 2) := by decide +kernel
theorem zd_Model_readPile_8 : decode zm_Model_readPile.2.1 8 = .ok (.iconst 4, 1) := by decide +kernel
theorem zd_Model_readPile_9 : decode zm_Model_readPile.2.1 9 = .ok (.if_icmp .ge 82, 3) := by decide +kernel
theorem zd_Model_readPile_12 : decode zm_Model_readPile.2.1 12 = .ok (.iconst 0, 1) := by decide +kernel
theorem zd_Model_readPile_13 : decode zm_Model_readPile.2.1 13 = .ok (.istore 6, 2) := by decide +kernel
theorem zd_Model_readPile_15 : decode zm_Model_readPile.2.1 15 = .ok (.iload 6, 2) := by decide +kernel
theorem zd_Model_readPile_17 : decode zm_Model_readPile.2.1 17 = .ok (.aload_n 0, 1) := by decide +kernel
theorem zd_Model_readPile_18 : decode zm_Model_readPile.2.1 18 = .ok (.getfield 97, 3) := by decide +kernel
theorem zd_Model_readPile_21 : decode zm_Model_readPile.2.1 21 = .ok (.if_icmp .ge 64, 3) := by decide +kernel
theorem zd_Model_readPile_24 : decode zm_Model_readPile.2.1 24 = .ok (.aload_n 1, 1) := by decide +kernel
theorem zd_Model_readPile_25 : decode zm_Model_readPile.2.1 25 = .ok (.iload 6, 2) := by decide +kernel
theorem zd_Model_readPile_27 : decode zm_Model_readPile.2.1 27 = .ok (.iaload, 1) := by decide +kernel
theorem zd_Model_readPile_28 : decode zm_Model_readPile.2.1 28 = .ok (.iconst 1, 1) := by decide +kernel
theorem zd_Model_readPile_29 : decode zm_Model_readPile.2.1 29 = .ok (.if_icmp .ne 50, 3) := by decide +kernel
theorem zd_Model_readPile_32 : decode zm_Model_readPile.2.1 32 = .ok (.aload_n 1, 1) := by decide +kernel
theorem zd_Model_readPile_33 : decode zm_Model_readPile.2.1 33 = .ok (.bipush 12, 2) := by decide +kernel
theorem zd_Model_readPile_35 : decode zm_Model_readPile.2.1 35 = .ok (.iload 6, 2) := by decide +kernel
theorem zd_Model_readPile_37 : decode zm_Model_readPile.2.1 37 = .ok (.iadd, 1) := by decide +kernel
theorem zd_Model_readPile_38 : decode zm_Model_readPile.2.1 38 = .ok (.iaload, 1) := by decide +kernel
theorem zd_Model_readPile_39 : decode zm_Model_readPile.2.1 39 = .ok (.iload_n 2, 1) := by decide +kernel
theorem zd_Model_readPile_40 : decode zm_Model_readPile.2.1 40 = .ok (.if_icmp .ne 39, 3) := by decide +kernel
theorem zd_Model_readPile_43 : decode zm_Model_readPile.2.1 43 = .ok (.aload_n 1, 1) := by decide +kernel
theorem zd_Model_readPile_44 : decode zm_Model_readPile.2.1 44 = .ok (.bipush 24, 2) := by decide +kernel
theorem zd_Model_readPile_46 : decode zm_Model_readPile.2.1 46 = .ok (.iload 6, 2) := by decide +kernel
theorem zd_Model_readPile_48 : decode zm_Model_readPile.2.1 48 = .ok (.iadd, 1) := by decide +kernel
theorem zd_Model_readPile_49 : decode zm_Model_readPile.2.1 49 = .ok (.iaload, 1) := by decide +kernel
theorem zd_Model_readPile_50 : decode zm_Model_readPile.2.1 50 = .ok (.iload 5, 2) := by decide +kernel
theorem zd_Model_readPile_52 : decode zm_Model_readPile.2.1 52 = .ok (.if_icmp .ne 27, 3) := by decide +kernel
theorem zd_Model_readPile_55 : decode zm_Model_readPile.2.1 55 = .ok (.iload_n 3, 1) := by decide +kernel
theorem zd_Model_readPile_56 : decode zm_Model_readPile.2.1 56 = .ok (.iload 6, 2) := by decide +kernel
theorem zd_Model_readPile_58 : decode zm_Model_readPile.2.1 58 = .ok (.invokestatic 169, 3) := by decide +kernel
theorem zd_Model_readPile_61 : decode zm_Model_readPile.2.1 61 = .ok (.ifCond .eq 6, 3) := by decide +kernel
theorem zd_Model_readPile_64 : decode zm_Model_readPile.2.1 64 = .ok (.goto 15, 3) := by decide +kernel
theorem zd_Model_readPile_67 : decode zm_Model_readPile.2.1 67 = .ok (.aload_n 0, 1) := by decide +kernel
theorem zd_Model_readPile_68 : decode zm_Model_readPile.2.1 68 = .ok (.getfield 51, 3) := by decide +kernel
theorem zd_Model_readPile_71 : decode zm_Model_readPile.2.1 71 = .ok (.iload 4, 2) := by decide +kernel
theorem zd_Model_readPile_73 : decode zm_Model_readPile.2.1 73 = .ok (.iload 6, 2) := by decide +kernel
theorem zd_Model_readPile_75 : decode zm_Model_readPile.2.1 75 = .ok (.iastore, 1) := by decide +kernel
theorem zd_Model_readPile_76 : decode zm_Model_readPile.2.1 76 = .ok (.iinc 4 1, 3) := by decide +kernel
theorem zd_Model_readPile_79 : decode zm_Model_readPile.2.1 79 = .ok (.iinc 6 1, 3) := by decide +kernel
theorem zd_Model_readPile_82 : decode zm_Model_readPile.2.1 82 = .ok (.goto (-67), 3) := by decide +kernel
theorem zd_Model_readPile_85 : decode zm_Model_readPile.2.1 85 = .ok (.iinc 5 1, 3) := by decide +kernel
theorem zd_Model_readPile_88 : decode zm_Model_readPile.2.1 88 = .ok (.goto (-82), 3) := by decide +kernel
theorem zd_Model_readPile_91 : decode zm_Model_readPile.2.1 91 = .ok (.iload 4, 2) := by decide +kernel
theorem zd_Model_readPile_93 : decode zm_Model_readPile.2.1 93 = .ok (.ireturn, 1) := by decide +kernel
theorem zb_Model_readPile_0 {Γ : zG} {σ : zS} {a1 : Nat} {x2 x3 : Int32} (h_a1 : z_kd a1 = (11, 53)) (k : z_J Γ zm_Model_readPile 6 [some (.inr (63)), some (.inr (a1)), some (.inl (x2)), some (.inl (x3)), some (.inl (nI 0)), some (.inl (nI 0)), none] [] σ) : z_J Γ zm_Model_readPile 0 [some (.inr (63)), some (.inr (a1)), some (.inl (x2)), some (.inl (x3)), none, none, none] [] σ := by
  refine zj_iconst (v := nI 0) zd_Model_readPile_0 (by decide) ?_
  refine zj_istore (L' := [some (.inr (63)), some (.inr (a1)), some (.inl (x2)), some (.inl (x3)), some (.inl (nI 0)), none, none]) zd_Model_readPile_1 (by decide) rfl ?_
  refine zj_iconst (v := nI 0) zd_Model_readPile_3 (by decide) ?_
  refine zj_istore (L' := [some (.inr (63)), some (.inr (a1)), some (.inl (x2)), some (.inl (x3)), some (.inl (nI 0)), some (.inl (nI 0)), none]) zd_Model_readPile_4 (by decide) rfl ?_
  exact k
theorem zb_Model_readPile_6 {Γ : zG} {σ : zS} {a1 : Nat} {x2 x3 x4 x5 : Int32} (h_a1 : z_kd a1 = (11, 53)) (kt : (nI 4) ≤ x5 → z_J Γ zm_Model_readPile 91 [none, none, none, none, some (.inl (x4)), none, none] [] σ) (kf : ¬ (nI 4) ≤ x5 → z_J Γ zm_Model_readPile 12 [some (.inr (63)), some (.inr (a1)), some (.inl (x2)), some (.inl (x3)), some (.inl (x4)), some (.inl (x5)), none] [] σ) : z_J Γ zm_Model_readPile 6 [some (.inr (63)), some (.inr (a1)), some (.inl (x2)), some (.inl (x3)), some (.inl (x4)), some (.inl (x5)), none] [] σ := by
  refine zj_iload zd_Model_readPile_6 rfl ?_
  refine zj_iconst (v := nI 4) zd_Model_readPile_8 (by decide) ?_
  exact zj_icmp_ge zd_Model_readPile_9 (by decide) (fun h => (zj_weak (L' := [none, none, none, none, some (.inl (x4)), none, none]) ⟨rfl, trivial⟩ (kt h))) (fun h => (kf h))
theorem zb_Model_readPile_12 {Γ : zG} {σ : zS} {a1 : Nat} {x2 x3 x4 x5 : Int32} (h_a1 : z_kd a1 = (11, 53)) (k : z_J Γ zm_Model_readPile 15 [some (.inr (63)), some (.inr (a1)), some (.inl (x2)), some (.inl (x3)), some (.inl (x4)), some (.inl (x5)), some (.inl (nI 0))] [] σ) : z_J Γ zm_Model_readPile 12 [some (.inr (63)), some (.inr (a1)), some (.inl (x2)), some (.inl (x3)), some (.inl (x4)), some (.inl (x5)), none] [] σ := by
  refine zj_iconst (v := nI 0) zd_Model_readPile_12 (by decide) ?_
  refine zj_istore (L' := [some (.inr (63)), some (.inr (a1)), some (.inl (x2)), some (.inl (x3)), some (.inl (x4)), some (.inl (x5)), some (.inl (nI 0))]) zd_Model_readPile_13 (by decide) rfl ?_
  exact k
theorem zb_Model_readPile_15 {Γ : zG} {σ : zS} {a1 : Nat} {x2 x3 x4 x5 x6 : Int32} (h_a1 : z_kd a1 = (11, 53)) (kt : (σ.1 63 1) ≤ x6 → z_J Γ zm_Model_readPile 85 [some (.inr (63)), some (.inr (a1)), some (.inl (x2)), some (.inl (x3)), some (.inl (x4)), some (.inl (x5)), none] [] σ) (kf : ¬ (σ.1 63 1) ≤ x6 → z_J Γ zm_Model_readPile 24 [some (.inr (63)), some (.inr (a1)), some (.inl (x2)), some (.inl (x3)), some (.inl (x4)), some (.inl (x5)), some (.inl (x6))] [] σ) : z_J Γ zm_Model_readPile 15 [some (.inr (63)), some (.inr (a1)), some (.inl (x2)), some (.inl (x3)), some (.inl (x4)), some (.inl (x5)), some (.inl (x6))] [] σ := by
  refine zj_iload zd_Model_readPile_15 rfl ?_
  refine zj_aload_n zd_Model_readPile_17 rfl ?_
  refine zj_getI rfl (by decide) rfl zu_Model (k := 1) (by decide) rfl zl_Model_97 zd_Model_readPile_18 ?_
  exact zj_icmp_ge zd_Model_readPile_21 (by decide) (fun h => (zj_weak (L' := [some (.inr (63)), some (.inr (a1)), some (.inl (x2)), some (.inl (x3)), some (.inl (x4)), some (.inl (x5)), none]) ⟨rfl, ⟨rfl, ⟨rfl, ⟨rfl, ⟨rfl, ⟨rfl, trivial⟩⟩⟩⟩⟩⟩ (kt h))) (fun h => (kf h))
theorem zb_Model_readPile_24 {Γ : zG} {σ : zS} {a1 : Nat} {x2 x3 x4 x5 x6 : Int32} {k1 : Nat} (h_a1 : z_kd a1 = (11, 53)) (b1 : z_ix x6 53 k1) (kt : ¬ (σ.1 a1 k1) = (nI 1) → z_J Γ zm_Model_readPile 79 [some (.inr (63)), some (.inr (a1)), some (.inl (x2)), some (.inl (x3)), some (.inl (x4)), some (.inl (x5)), some (.inl (x6))] [] σ) (kf : (σ.1 a1 k1) = (nI 1) → z_J Γ zm_Model_readPile 32 [some (.inr (63)), some (.inr (a1)), some (.inl (x2)), some (.inl (x3)), some (.inl (x4)), some (.inl (x5)), some (.inl (x6))] [] σ) : z_J Γ zm_Model_readPile 24 [some (.inr (63)), some (.inr (a1)), some (.inl (x2)), some (.inl (x3)), some (.inl (x4)), some (.inl (x5)), some (.inl (x6))] [] σ := by
  refine zj_aload_n zd_Model_readPile_24 rfl ?_
  refine zj_iload zd_Model_readPile_25 rfl ?_
  refine zj_iaload h_a1 (by decide) b1 zd_Model_readPile_27 ?_
  refine zj_iconst (v := nI 1) zd_Model_readPile_28 (by decide) ?_
  exact zj_icmp_ne zd_Model_readPile_29 (by decide) (fun h => (kt h)) (fun h => (kf h))
theorem zb_Model_readPile_32 {Γ : zG} {σ : zS} {a1 : Nat} {x2 x3 x4 x5 x6 : Int32} {k1 : Nat} (h_a1 : z_kd a1 = (11, 53)) (b1 : z_ix ((nI 12) + x6) 53 k1) (kt : ¬ (σ.1 a1 k1) = x2 → z_J Γ zm_Model_readPile 79 [some (.inr (63)), some (.inr (a1)), some (.inl (x2)), some (.inl (x3)), some (.inl (x4)), some (.inl (x5)), some (.inl (x6))] [] σ) (kf : (σ.1 a1 k1) = x2 → z_J Γ zm_Model_readPile 43 [some (.inr (63)), some (.inr (a1)), some (.inl (x2)), some (.inl (x3)), some (.inl (x4)), some (.inl (x5)), some (.inl (x6))] [] σ) : z_J Γ zm_Model_readPile 32 [some (.inr (63)), some (.inr (a1)), some (.inl (x2)), some (.inl (x3)), some (.inl (x4)), some (.inl (x5)), some (.inl (x6))] [] σ := by
  refine zj_aload_n zd_Model_readPile_32 rfl ?_
  refine zj_bipush (v := nI 12) zd_Model_readPile_33 (by decide) ?_
  refine zj_iload zd_Model_readPile_35 rfl ?_
  refine zj_iadd zd_Model_readPile_37 ?_
  refine zj_iaload h_a1 (by decide) b1 zd_Model_readPile_38 ?_
  refine zj_iload_n zd_Model_readPile_39 rfl ?_
  exact zj_icmp_ne zd_Model_readPile_40 (by decide) (fun h => (kt h)) (fun h => (kf h))
theorem zb_Model_readPile_43 {Γ : zG} {σ : zS} {a1 : Nat} {x2 x3 x4 x5 x6 : Int32} {k1 : Nat} (h_a1 : z_kd a1 = (11, 53)) (b1 : z_ix ((nI 24) + x6) 53 k1) (kt : ¬ (σ.1 a1 k1) = x5 → z_J Γ zm_Model_readPile 79 [some (.inr (63)), some (.inr (a1)), some (.inl (x2)), some (.inl (x3)), some (.inl (x4)), some (.inl (x5)), some (.inl (x6))] [] σ) (kf : (σ.1 a1 k1) = x5 → z_J Γ zm_Model_readPile 55 [some (.inr (63)), some (.inr (a1)), some (.inl (x2)), some (.inl (x3)), some (.inl (x4)), some (.inl (x5)), some (.inl (x6))] [] σ) : z_J Γ zm_Model_readPile 43 [some (.inr (63)), some (.inr (a1)), some (.inl (x2)), some (.inl (x3)), some (.inl (x4)), some (.inl (x5)), some (.inl (x6))] [] σ := by
  refine zj_aload_n zd_Model_readPile_43 rfl ?_
  refine zj_bipush (v := nI 24) zd_Model_readPile_44 (by decide) ?_
  refine zj_iload zd_Model_readPile_46 rfl ?_
  refine zj_iadd zd_Model_readPile_48 ?_
  refine zj_iaload h_a1 (by decide) b1 zd_Model_readPile_49 ?_
  refine zj_iload zd_Model_readPile_50 rfl ?_
  exact zj_icmp_ne zd_Model_readPile_52 (by decide) (fun h => (kt h)) (fun h => (kf h))
theorem zb_Model_readPile_55 {Γ : zG} {σ : zS} {a1 : Nat} {x2 x3 x4 x5 x6 : Int32} {dc : Nat} {P : Int32 → zS → Prop} (h_a1 : z_kd a1 = (11, 53)) (hm : z_Ci dc zm_Model_has [.inl (x3), .inl (x6)] σ P) (hdp : dc < z_dep Γ) (k : ∀ r σ1, P r σ1 → z_J Γ zm_Model_readPile 61 [some (.inr (63)), some (.inr (a1)), some (.inl (x2)), some (.inl (x3)), some (.inl (x4)), some (.inl (x5)), some (.inl (x6))] [.inl (r)] σ1) : z_J Γ zm_Model_readPile 55 [some (.inr (63)), some (.inr (a1)), some (.inl (x2)), some (.inl (x3)), some (.inl (x4)), some (.inl (x5)), some (.inl (x6))] [] σ := by
  refine zj_iload_n zd_Model_readPile_55 rfl ?_
  refine zj_iload zd_Model_readPile_56 rfl ?_
  exact zj_callSi (As := [.inl (x3), .inl (x6)]) hm hdp zl_Model_169 zq_Model_has zd_Model_readPile_58 rfl (Nat.le_of_ble_eq_true rfl) (fun r σ1 h => (k r σ1 h))
theorem zb_Model_readPile_61 {Γ : zG} {σ : zS} {a1 : Nat} {x2 x3 x4 x5 x6 y0 : Int32} (h_a1 : z_kd a1 = (11, 53)) (kt : y0 = 0 → z_J Γ zm_Model_readPile 67 [some (.inr (63)), some (.inr (a1)), some (.inl (x2)), some (.inl (x3)), some (.inl (x4)), some (.inl (x5)), some (.inl (x6))] [] σ) (kf : ¬ y0 = 0 → z_J Γ zm_Model_readPile 64 [some (.inr (63)), some (.inr (a1)), some (.inl (x2)), some (.inl (x3)), some (.inl (x4)), some (.inl (x5)), some (.inl (x6))] [] σ) : z_J Γ zm_Model_readPile 61 [some (.inr (63)), some (.inr (a1)), some (.inl (x2)), some (.inl (x3)), some (.inl (x4)), some (.inl (x5)), some (.inl (x6))] [.inl (y0)] σ := by
  exact zj_if_eq zd_Model_readPile_61 (by decide) (fun h => (kt h)) (fun h => (kf h))
theorem zb_Model_readPile_64 {Γ : zG} {σ : zS} {a1 : Nat} {x2 x3 x4 x5 x6 : Int32} (h_a1 : z_kd a1 = (11, 53)) (k : z_J Γ zm_Model_readPile 79 [some (.inr (63)), some (.inr (a1)), some (.inl (x2)), some (.inl (x3)), some (.inl (x4)), some (.inl (x5)), some (.inl (x6))] [] σ) : z_J Γ zm_Model_readPile 64 [some (.inr (63)), some (.inr (a1)), some (.inl (x2)), some (.inl (x3)), some (.inl (x4)), some (.inl (x5)), some (.inl (x6))] [] σ := by
  exact zj_goto zd_Model_readPile_64 (by decide) k
theorem zb_Model_readPile_67 {Γ : zG} {σ : zS} {a1 : Nat} {x2 x3 x4 x5 x6 : Int32} {k1 : Nat} (h_a1 : z_kd a1 = (11, 53)) (b1 : z_ix x4 4 k1) (k : z_J Γ zm_Model_readPile 79 [some (.inr (63)), some (.inr (a1)), some (.inl (x2)), some (.inl (x3)), some (.inl (x4 + nI 1)), some (.inl (x5)), some (.inl (x6))] [] (z_pI σ 75 k1 x6)) : z_J Γ zm_Model_readPile 67 [some (.inr (63)), some (.inr (a1)), some (.inl (x2)), some (.inl (x3)), some (.inl (x4)), some (.inl (x5)), some (.inl (x6))] [] σ := by
  refine zj_aload_n zd_Model_readPile_67 rfl ?_
  refine zj_getR rfl (by decide) rfl zu_Model (k := 25) (by decide) rfl zl_Model_51 zd_Model_readPile_68 (o' := 75) rfl ?_
  refine zj_iload zd_Model_readPile_71 rfl ?_
  refine zj_iload zd_Model_readPile_73 rfl ?_
  refine zj_iastore rfl (by decide) b1 zd_Model_readPile_75 ?_
  refine zj_iinc (v := nI 1) (L' := [some (.inr (63)), some (.inr (a1)), some (.inl (x2)), some (.inl (x3)), some (.inl (x4 + nI 1)), some (.inl (x5)), some (.inl (x6))]) zd_Model_readPile_76 rfl (by decide) (by decide) rfl ?_
  exact k
theorem zb_Model_readPile_79 {Γ : zG} {σ : zS} {a1 : Nat} {x2 x3 x4 x5 x6 : Int32} (h_a1 : z_kd a1 = (11, 53)) (k : z_J Γ zm_Model_readPile 15 [some (.inr (63)), some (.inr (a1)), some (.inl (x2)), some (.inl (x3)), some (.inl (x4)), some (.inl (x5)), some (.inl (x6 + nI 1))] [] σ) : z_J Γ zm_Model_readPile 79 [some (.inr (63)), some (.inr (a1)), some (.inl (x2)), some (.inl (x3)), some (.inl (x4)), some (.inl (x5)), some (.inl (x6))] [] σ := by
  refine zj_iinc (v := nI 1) (L' := [some (.inr (63)), some (.inr (a1)), some (.inl (x2)), some (.inl (x3)), some (.inl (x4)), some (.inl (x5)), some (.inl (x6 + nI 1))]) zd_Model_readPile_79 rfl (by decide) (by decide) rfl ?_
  exact zj_goto zd_Model_readPile_82 (by decide) k
theorem zb_Model_readPile_85 {Γ : zG} {σ : zS} {a1 : Nat} {x2 x3 x4 x5 : Int32} (h_a1 : z_kd a1 = (11, 53)) (k : z_J Γ zm_Model_readPile 6 [some (.inr (63)), some (.inr (a1)), some (.inl (x2)), some (.inl (x3)), some (.inl (x4)), some (.inl (x5 + nI 1)), none] [] σ) : z_J Γ zm_Model_readPile 85 [some (.inr (63)), some (.inr (a1)), some (.inl (x2)), some (.inl (x3)), some (.inl (x4)), some (.inl (x5)), none] [] σ := by
  refine zj_iinc (v := nI 1) (L' := [some (.inr (63)), some (.inr (a1)), some (.inl (x2)), some (.inl (x3)), some (.inl (x4)), some (.inl (x5 + nI 1)), none]) zd_Model_readPile_85 rfl (by decide) (by decide) rfl ?_
  exact zj_goto zd_Model_readPile_88 (by decide) k
theorem zb_Model_readPile_91 {Γ : zG} {σ : zS} {x4 : Int32}  (e : z_end Γ (some (x4)) σ) : z_J Γ zm_Model_readPile 91 [none, none, none, none, some (.inl (x4)), none, none] [] σ := by
  refine zj_iload zd_Model_readPile_91 rfl ?_
  exact zj_ireturn rfl zd_Model_readPile_93 e
theorem zd_Model_doesPileHold_0 : decode zm_Model_doesPileHold.2.1 0 = .ok (.iconst 0, 1) := by decide +kernel
theorem zd_Model_doesPileHold_1 : decode zm_Model_doesPileHold.2.1 1 = .ok (.istore 4, 2) := by decide +kernel
theorem zd_Model_doesPileHold_3 : decode zm_Model_doesPileHold.2.1 3 = .ok (.iload 4, 2) := by decide +kernel
theorem zd_Model_doesPileHold_5 : decode zm_Model_doesPileHold.2.1 5 = .ok (.iload_n 2, 1) := by decide +kernel
theorem zd_Model_doesPileHold_6 : decode zm_Model_doesPileHold.2.1 6 = .ok (.if_icmp .ge 37, 3) := by decide +kernel
theorem zd_Model_doesPileHold_9 : decode zm_Model_doesPileHold.2.1 9 = .ok (.aload_n 0, 1) := by decide +kernel
theorem zd_Model_doesPileHold_10 : decode zm_Model_doesPileHold.2.1 10 = .ok (.iload 4, 2) := by decide +kernel
theorem zd_Model_doesPileHold_12 : decode zm_Model_doesPileHold.2.1 12 = .ok (.iload_n 2, 1) := by decide +kernel
theorem zd_Model_doesPileHold_13 : decode zm_Model_doesPileHold.2.1 13 = .ok (.invokevirtual 229, 3) := by decide +kernel
theorem zd_Model_doesPileHold_16 : decode zm_Model_doesPileHold.2.1 16 = .ok (.aload_n 0, 1) := by decide +kernel
theorem zd_Model_doesPileHold_17 : decode zm_Model_doesPileHold.2.1 17 = .ok (.aload_n 0, 1) := by decide +kernel
theorem zd_Model_doesPileHold_18 : decode zm_Model_doesPileHold.2.1 18 = .ok (.getfield 51, 3) := by decide +kernel
theorem zd_Model_doesPileHold_21 : decode zm_Model_doesPileHold.2.1 21 = .ok (.iload 4, 2) := by decide +kernel
theorem zd_Model_doesPileHold_23 : decode zm_Model_doesPileHold.2.1 23 = .ok (.iaload, 1) := by decide +kernel
theorem zd_Model_doesPileHold_24 : decode zm_Model_doesPileHold.2.1 24 = .ok (.iload_n 1, 1) := by decide +kernel
theorem zd_Model_doesPileHold_25 : decode zm_Model_doesPileHold.2.1 25 = .ok (.iload 4, 2) := by decide +kernel
theorem zd_Model_doesPileHold_27 : decode zm_Model_doesPileHold.2.1 27 = .ok (.iload_n 2, 1) := by decide +kernel
theorem zd_Model_doesPileHold_28 : decode zm_Model_doesPileHold.2.1 28 = .ok (.iload_n 3, 1) := by decide +kernel
theorem zd_Model_doesPileHold_29 : decode zm_Model_doesPileHold.2.1 29 = .ok (.invokevirtual 232, 3) := by decide +kernel
theorem zd_Model_doesPileHold_32 : decode zm_Model_doesPileHold.2.1 32 = .ok (.if_icmp .le 5, 3) := by decide +kernel
theorem zd_Model_doesPileHold_35 : decode zm_Model_doesPileHold.2.1 35 = .ok (.iconst 0, 1) := by decide +kernel
theorem zd_Model_doesPileHold_36 : decode zm_Model_doesPileHold.2.1 36 = .ok (.ireturn, 1) := by decide +kernel
theorem zd_Model_doesPileHold_37 : decode zm_Model_doesPileHold.2.1 37 = .ok (.iinc 4 1, 3) := by decide +kernel
theorem zd_Model_doesPileHold_40 : decode zm_Model_doesPileHold.2.1 40 = .ok (.goto (-37), 3) := by decide +kernel
theorem zd_Model_doesPileHold_43 : decode zm_Model_doesPileHold.2.1 43 = .ok (.iconst 1, 1) := by decide +kernel
theorem zd_Model_doesPileHold_44 : decode zm_Model_doesPileHold.2.1 44 = .ok (.ireturn, 1) := by decide +kernel
theorem zb_Model_doesPileHold_0 {Γ : zG} {σ : zS} {x1 x2 x3 : Int32}  (k : z_J Γ zm_Model_doesPileHold 3 [some (.inr (63)), some (.inl (x1)), some (.inl (x2)), some (.inl (x3)), some (.inl (nI 0))] [] σ) : z_J Γ zm_Model_doesPileHold 0 [some (.inr (63)), some (.inl (x1)), some (.inl (x2)), some (.inl (x3)), none] [] σ := by
  refine zj_iconst (v := nI 0) zd_Model_doesPileHold_0 (by decide) ?_
  refine zj_istore (L' := [some (.inr (63)), some (.inl (x1)), some (.inl (x2)), some (.inl (x3)), some (.inl (nI 0))]) zd_Model_doesPileHold_1 (by decide) rfl ?_
  exact k
theorem zb_Model_doesPileHold_3 {Γ : zG} {σ : zS} {x1 x2 x3 x4 : Int32}  (kt : x2 ≤ x4 → z_J Γ zm_Model_doesPileHold 43 [none, none, none, none, none] [] σ) (kf : ¬ x2 ≤ x4 → z_J Γ zm_Model_doesPileHold 9 [some (.inr (63)), some (.inl (x1)), some (.inl (x2)), some (.inl (x3)), some (.inl (x4))] [] σ) : z_J Γ zm_Model_doesPileHold 3 [some (.inr (63)), some (.inl (x1)), some (.inl (x2)), some (.inl (x3)), some (.inl (x4))] [] σ := by
  refine zj_iload zd_Model_doesPileHold_3 rfl ?_
  refine zj_iload_n zd_Model_doesPileHold_5 rfl ?_
  exact zj_icmp_ge zd_Model_doesPileHold_6 (by decide) (fun h => (zj_weak (L' := [none, none, none, none, none]) trivial (kt h))) (fun h => (kf h))
theorem zb_Model_doesPileHold_9 {Γ : zG} {σ : zS} {x1 x2 x3 x4 : Int32} {dc : Nat} {P : Int32 → zS → Prop}  (hm : z_Ci dc zm_Model_above [.inr (63), .inl (x4), .inl (x2)] σ P) (hdp : dc < z_dep Γ) (k : ∀ r σ1, P r σ1 → z_J Γ zm_Model_doesPileHold 16 [some (.inr (63)), some (.inl (x1)), some (.inl (x2)), some (.inl (x3)), some (.inl (x4))] [.inl (r)] σ1) : z_J Γ zm_Model_doesPileHold 9 [some (.inr (63)), some (.inl (x1)), some (.inl (x2)), some (.inl (x3)), some (.inl (x4))] [] σ := by
  refine zj_aload_n zd_Model_doesPileHold_9 rfl ?_
  refine zj_iload zd_Model_doesPileHold_10 rfl ?_
  refine zj_iload_n zd_Model_doesPileHold_12 rfl ?_
  exact zj_callVi (As := [.inl (x4), .inl (x2)]) hm hdp rfl (by decide) rfl zl_Model_229 zq_Model_above zd_Model_doesPileHold_13 rfl (Nat.le_of_ble_eq_true rfl) (fun r σ1 h => (k r σ1 h))
theorem zb_Model_doesPileHold_16 {Γ : zG} {σ : zS} {x1 x2 x3 x4 y0 : Int32} {k1 : Nat} {dc : Nat} {P : Int32 → zS → Prop}  (b1 : z_ix x4 4 k1) (hm : z_Ci dc zm_Model_bears [.inr (63), .inl (σ.1 75 k1), .inl (x1), .inl (x4), .inl (x2), .inl (x3)] σ P) (hdp : dc < z_dep Γ) (k : ∀ r σ1, P r σ1 → z_J Γ zm_Model_doesPileHold 32 [some (.inr (63)), some (.inl (x1)), some (.inl (x2)), some (.inl (x3)), some (.inl (x4))] [.inl (r), .inl (y0)] σ1) : z_J Γ zm_Model_doesPileHold 16 [some (.inr (63)), some (.inl (x1)), some (.inl (x2)), some (.inl (x3)), some (.inl (x4))] [.inl (y0)] σ := by
  refine zj_aload_n zd_Model_doesPileHold_16 rfl ?_
  refine zj_aload_n zd_Model_doesPileHold_17 rfl ?_
  refine zj_getR rfl (by decide) rfl zu_Model (k := 25) (by decide) rfl zl_Model_51 zd_Model_doesPileHold_18 (o' := 75) rfl ?_
  refine zj_iload zd_Model_doesPileHold_21 rfl ?_
  refine zj_iaload rfl (by decide) b1 zd_Model_doesPileHold_23 ?_
  refine zj_iload_n zd_Model_doesPileHold_24 rfl ?_
  refine zj_iload zd_Model_doesPileHold_25 rfl ?_
  refine zj_iload_n zd_Model_doesPileHold_27 rfl ?_
  refine zj_iload_n zd_Model_doesPileHold_28 rfl ?_
  exact zj_callVi (As := [.inl (σ.1 75 k1), .inl (x1), .inl (x4), .inl (x2), .inl (x3)]) hm hdp rfl (by decide) rfl zl_Model_232 zq_Model_bears zd_Model_doesPileHold_29 rfl (Nat.le_of_ble_eq_true rfl) (fun r σ1 h => (k r σ1 h))
theorem zb_Model_doesPileHold_32 {Γ : zG} {σ : zS} {x1 x2 x3 x4 y0 y1 : Int32}  (kt : y1 ≤ y0 → z_J Γ zm_Model_doesPileHold 37 [some (.inr (63)), some (.inl (x1)), some (.inl (x2)), some (.inl (x3)), some (.inl (x4))] [] σ) (kf : ¬ y1 ≤ y0 → z_J Γ zm_Model_doesPileHold 35 [none, none, none, none, none] [] σ) : z_J Γ zm_Model_doesPileHold 32 [some (.inr (63)), some (.inl (x1)), some (.inl (x2)), some (.inl (x3)), some (.inl (x4))] [.inl (y0), .inl (y1)] σ := by
  exact zj_icmp_le zd_Model_doesPileHold_32 (by decide) (fun h => (kt h)) (fun h => (zj_weak (L' := [none, none, none, none, none]) trivial (kf h)))
theorem zb_Model_doesPileHold_35 {Γ : zG} {σ : zS}  (e : z_end Γ (some (nI 0)) σ) : z_J Γ zm_Model_doesPileHold 35 [none, none, none, none, none] [] σ := by
  refine zj_iconst (v := nI 0) zd_Model_doesPileHold_35 (by decide) ?_
  exact zj_zreturn rfl (Or.inl (by decide)) zd_Model_doesPileHold_36 e
theorem zb_Model_doesPileHold_37 {Γ : zG} {σ : zS} {x1 x2 x3 x4 : Int32}  (k : z_J Γ zm_Model_doesPileHold 3 [some (.inr (63)), some (.inl (x1)), some (.inl (x2)), some (.inl (x3)), some (.inl (x4 + nI 1))] [] σ) : z_J Γ zm_Model_doesPileHold 37 [some (.inr (63)), some (.inl (x1)), some (.inl (x2)), some (.inl (x3)), some (.inl (x4))] [] σ := by
  refine zj_iinc (v := nI 1) (L' := [some (.inr (63)), some (.inl (x1)), some (.inl (x2)), some (.inl (x3)), some (.inl (x4 + nI 1))]) zd_Model_doesPileHold_37 rfl (by decide) (by decide) rfl ?_
  exact zj_goto zd_Model_doesPileHold_40 (by decide) k
theorem zb_Model_doesPileHold_43 {Γ : zG} {σ : zS}  (e : z_end Γ (some (nI 1)) σ) : z_J Γ zm_Model_doesPileHold 43 [none, none, none, none, none] [] σ := by
  refine zj_iconst (v := nI 1) zd_Model_doesPileHold_43 (by decide) ?_
  exact zj_zreturn rfl (Or.inr (by decide)) zd_Model_doesPileHold_44 e
theorem zd_Model_above_0 : decode zm_Model_above.2.1 0 = .ok (.iconst 0, 1) := by decide +kernel
theorem zd_Model_above_1 : decode zm_Model_above.2.1 1 = .ok (.istore_n 3, 1) := by decide +kernel
theorem zd_Model_above_2 : decode zm_Model_above.2.1 2 = .ok (.iload_n 1, 1) := by decide +kernel
theorem zd_Model_above_3 : decode zm_Model_above.2.1 3 = .ok (.iconst 1, 1) := by decide +kernel
theorem zd_Model_above_4 : decode zm_Model_above.2.1 4 = .ok (.iadd, 1) := by decide +kernel
theorem zd_Model_above_5 : decode zm_Model_above.2.1 5 = .ok (.istore 4, 2) := by decide +kernel
theorem zd_Model_above_7 : decode zm_Model_above.2.1 7 = .ok (.iload 4, 2) := by decide +kernel
theorem zd_Model_above_9 : decode zm_Model_above.2.1 9 = .ok (.iload_n 2, 1) := by decide +kernel
theorem zd_Model_above_10 : decode zm_Model_above.2.1 10 = .ok (.if_icmp .ge 24, 3) := by decide +kernel
theorem zd_Model_above_13 : decode zm_Model_above.2.1 13 = .ok (.iload_n 3, 1) := by decide +kernel
theorem zd_Model_above_14 : decode zm_Model_above.2.1 14 = .ok (.aload_n 0, 1) := by decide +kernel
theorem zd_Model_above_15 : decode zm_Model_above.2.1 15 = .ok (.getfield 16, 3) := by decide +kernel
theorem zd_Model_above_18 : decode zm_Model_above.2.1 18 = .ok (.aload_n 0, 1) := by decide +kernel
theorem zd_Model_above_19 : decode zm_Model_above.2.1 19 = .ok (.getfield 51, 3) := by decide +kernel
theorem zd_Model_above_22 : decode zm_Model_above.2.1 22 = .ok (.iload 4, 2) := by decide +kernel
theorem zd_Model_above_24 : decode zm_Model_above.2.1 24 = .ok (.iaload, 1) := by decide +kernel
theorem zd_Model_above_25 : decode zm_Model_above.2.1 25 = .ok (.iaload, 1) := by decide +kernel
theorem zd_Model_above_26 : decode zm_Model_above.2.1 26 = .ok (.iadd, 1) := by decide +kernel
theorem zd_Model_above_27 : decode zm_Model_above.2.1 27 = .ok (.istore_n 3, 1) := by decide +kernel
theorem zd_Model_above_28 : decode zm_Model_above.2.1 28 = .ok (.iinc 4 1, 3) := by decide +kernel
theorem zd_Model_above_31 : decode zm_Model_above.2.1 31 = .ok (.goto (-24), 3) := by decide +kernel
theorem zd_Model_above_34 : decode zm_Model_above.2.1 34 = .ok (.iload_n 3, 1) := by decide +kernel
theorem zd_Model_above_35 : decode zm_Model_above.2.1 35 = .ok (.ireturn, 1) := by decide +kernel
theorem zb_Model_above_0 {Γ : zG} {σ : zS} {x1 x2 : Int32}  (k : z_J Γ zm_Model_above 7 [some (.inr (63)), none, some (.inl (x2)), some (.inl (nI 0)), some (.inl (x1 + (nI 1)))] [] σ) : z_J Γ zm_Model_above 0 [some (.inr (63)), some (.inl (x1)), some (.inl (x2)), none, none] [] σ := by
  refine zj_iconst (v := nI 0) zd_Model_above_0 (by decide) ?_
  refine zj_istore_n (L' := [some (.inr (63)), some (.inl (x1)), some (.inl (x2)), some (.inl (nI 0)), none]) zd_Model_above_1 (by decide) rfl ?_
  refine zj_iload_n zd_Model_above_2 rfl ?_
  refine zj_iconst (v := nI 1) zd_Model_above_3 (by decide) ?_
  refine zj_iadd zd_Model_above_4 ?_
  refine zj_istore (L' := [some (.inr (63)), some (.inl (x1)), some (.inl (x2)), some (.inl (nI 0)), some (.inl (x1 + (nI 1)))]) zd_Model_above_5 (by decide) rfl ?_
  exact (zj_weak (L' := [some (.inr (63)), none, some (.inl (x2)), some (.inl (nI 0)), some (.inl (x1 + (nI 1)))]) ⟨rfl, ⟨rfl, ⟨rfl, ⟨rfl, trivial⟩⟩⟩⟩ k)
theorem zb_Model_above_7 {Γ : zG} {σ : zS} {x2 x3 x4 : Int32}  (kt : x2 ≤ x4 → z_J Γ zm_Model_above 34 [none, none, none, some (.inl (x3)), none] [] σ) (kf : ¬ x2 ≤ x4 → z_J Γ zm_Model_above 13 [some (.inr (63)), none, some (.inl (x2)), some (.inl (x3)), some (.inl (x4))] [] σ) : z_J Γ zm_Model_above 7 [some (.inr (63)), none, some (.inl (x2)), some (.inl (x3)), some (.inl (x4))] [] σ := by
  refine zj_iload zd_Model_above_7 rfl ?_
  refine zj_iload_n zd_Model_above_9 rfl ?_
  exact zj_icmp_ge zd_Model_above_10 (by decide) (fun h => (zj_weak (L' := [none, none, none, some (.inl (x3)), none]) ⟨rfl, trivial⟩ (kt h))) (fun h => (kf h))
theorem zb_Model_above_13 {Γ : zG} {σ : zS} {x2 x3 x4 : Int32} {k1 k2 : Nat}  (b1 : z_ix x4 4 k1) (b2 : z_ix (σ.1 75 k1) 12 k2) (k : z_J Γ zm_Model_above 7 [some (.inr (63)), none, some (.inl (x2)), some (.inl (x3 + (σ.1 66 k2))), some (.inl (x4 + nI 1))] [] σ) : z_J Γ zm_Model_above 13 [some (.inr (63)), none, some (.inl (x2)), some (.inl (x3)), some (.inl (x4))] [] σ := by
  refine zj_iload_n zd_Model_above_13 rfl ?_
  refine zj_aload_n zd_Model_above_14 rfl ?_
  refine zj_getR rfl (by decide) rfl zu_Model (k := 3) (by decide) rfl zl_Model_16 zd_Model_above_15 (o' := 66) rfl ?_
  refine zj_aload_n zd_Model_above_18 rfl ?_
  refine zj_getR rfl (by decide) rfl zu_Model (k := 25) (by decide) rfl zl_Model_51 zd_Model_above_19 (o' := 75) rfl ?_
  refine zj_iload zd_Model_above_22 rfl ?_
  refine zj_iaload rfl (by decide) b1 zd_Model_above_24 ?_
  refine zj_iaload rfl (by decide) b2 zd_Model_above_25 ?_
  refine zj_iadd zd_Model_above_26 ?_
  refine zj_istore_n (L' := [some (.inr (63)), none, some (.inl (x2)), some (.inl (x3 + (σ.1 66 k2))), some (.inl (x4))]) zd_Model_above_27 (by decide) rfl ?_
  refine zj_iinc (v := nI 1) (L' := [some (.inr (63)), none, some (.inl (x2)), some (.inl (x3 + (σ.1 66 k2))), some (.inl (x4 + nI 1))]) zd_Model_above_28 rfl (by decide) (by decide) rfl ?_
  exact zj_goto zd_Model_above_31 (by decide) k
theorem zb_Model_above_34 {Γ : zG} {σ : zS} {x3 : Int32}  (e : z_end Γ (some (x3)) σ) : z_J Γ zm_Model_above 34 [none, none, none, some (.inl (x3)), none] [] σ := by
  refine zj_iload_n zd_Model_above_34 rfl ?_
  exact zj_ireturn rfl zd_Model_above_35 e
theorem zd_Model_bears_0 : decode zm_Model_bears.2.1 0 = .ok (.iconst 4, 1) := by decide +kernel
theorem zd_Model_bears_1 : decode zm_Model_bears.2.1 1 = .ok (.aload_n 0, 1) := by decide +kernel
theorem zd_Model_bears_2 : decode zm_Model_bears.2.1 2 = .ok (.getfield 13, 3) := by decide +kernel
theorem zd_Model_bears_5 : decode zm_Model_bears.2.1 5 = .ok (.iload_n 1, 1) := by decide +kernel
theorem zd_Model_bears_6 : decode zm_Model_bears.2.1 6 = .ok (.iaload, 1) := by decide +kernel
theorem zd_Model_bears_7 : decode zm_Model_bears.2.1 7 = .ok (.imul, 1) := by decide +kernel
theorem zd_Model_bears_8 : decode zm_Model_bears.2.1 8 = .ok (.istore 6, 2) := by decide +kernel
theorem zd_Model_bears_10 : decode zm_Model_bears.2.1 10 = .ok (.aload_n 0, 1) := by decide +kernel
theorem zd_Model_bears_11 : decode zm_Model_bears.2.1 11 = .ok (.getfield 218, 3) := by decide +kernel
theorem zd_Model_bears_14 : decode zm_Model_bears.2.1 14 = .ok (.ifCond .le 91, 3) := by decide +kernel
theorem zd_Model_bears_17 : decode zm_Model_bears.2.1 17 = .ok (.aload_n 0, 1) := by decide +kernel
theorem zd_Model_bears_18 : decode zm_Model_bears.2.1 18 = .ok (.getfield 48, 3) := by decide +kernel
theorem zd_Model_bears_21 : decode zm_Model_bears.2.1 21 = .ok (.iconst 0, 1) := by decide +kernel
theorem zd_Model_bears_22 : decode zm_Model_bears.2.1 22 = .ok (.aload_n 0, 1) := by decide +kernel
theorem zd_Model_bears_23 : decode zm_Model_bears.2.1 23 = .ok (.getfield 13, 3) := by decide +kernel
theorem zd_Model_bears_26 : decode zm_Model_bears.2.1 26 = .ok (.iload_n 1, 1) := by decide +kernel
theorem zd_Model_bears_27 : decode zm_Model_bears.2.1 27 = .ok (.iaload, 1) := by decide +kernel
theorem zd_Model_bears_28 : decode zm_Model_bears.2.1 28 = .ok (.iastore, 1) := by decide +kernel
theorem zd_Model_bears_29 : decode zm_Model_bears.2.1 29 = .ok (.aload_n 0, 1) := by decide +kernel
theorem zd_Model_bears_30 : decode zm_Model_bears.2.1 30 = .ok (.getfield 48, 3) := by decide +kernel
theorem zd_Model_bears_33 : decode zm_Model_bears.2.1 33 = .ok (.iconst 1, 1) := by decide +kernel
theorem zd_Model_bears_34 : decode zm_Model_bears.2.1 34 = .ok (.aload_n 0, 1) := by decide +kernel
theorem zd_Model_bears_35 : decode zm_Model_bears.2.1 35 = .ok (.getfield 16, 3) := by decide +kernel
theorem zd_Model_bears_38 : decode zm_Model_bears.2.1 38 = .ok (.iload_n 1, 1) := by decide +kernel
theorem zd_Model_bears_39 : decode zm_Model_bears.2.1 39 = .ok (.iaload, 1) := by decide +kernel
theorem zd_Model_bears_40 : decode zm_Model_bears.2.1 40 = .ok (.iastore, 1) := by decide +kernel
theorem zd_Model_bears_41 : decode zm_Model_bears.2.1 41 = .ok (.aload_n 0, 1) := by decide +kernel
theorem zd_Model_bears_42 : decode zm_Model_bears.2.1 42 = .ok (.getfield 48, 3) := by decide +kernel
theorem zd_Model_bears_45 : decode zm_Model_bears.2.1 45 = .ok (.iconst 2, 1) := by decide +kernel
theorem zd_Model_bears_46 : decode zm_Model_bears.2.1 46 = .ok (.iload_n 2, 1) := by decide +kernel
theorem zd_Model_bears_47 : decode zm_Model_bears.2.1 47 = .ok (.iastore, 1) := by decide +kernel
theorem zd_Model_bears_48 : decode zm_Model_bears.2.1 48 = .ok (.aload_n 0, 1) := by decide +kernel
theorem zd_Model_bears_49 : decode zm_Model_bears.2.1 49 = .ok (.getfield 48, 3) := by decide +kernel
theorem zd_Model_bears_52 : decode zm_Model_bears.2.1 52 = .ok (.iconst 3, 1) := by decide +kernel
theorem zd_Model_bears_53 : decode zm_Model_bears.2.1 53 = .ok (.iload_n 3, 1) := by decide +kernel
theorem zd_Model_bears_54 : decode zm_Model_bears.2.1 54 = .ok (.iastore, 1) := by decide +kernel
theorem zd_Model_bears_55 : decode zm_Model_bears.2.1 55 = .ok (.aload_n 0, 1) := by decide +kernel
theorem zd_Model_bears_56 : decode zm_Model_bears.2.1 56 = .ok (.getfield 48, 3) := by decide +kernel
theorem zd_Model_bears_59 : decode zm_Model_bears.2.1 59 = .ok (.iconst 4, 1) := by decide +kernel
theorem zd_Model_bears_60 : decode zm_Model_bears.2.1 60 = .ok (.iload 4, 2) := by decide +kernel
theorem zd_Model_bears_62 : decode zm_Model_bears.2.1 62 = .ok (.iastore, 1) := by decide +kernel
theorem zd_Model_bears_63 : decode zm_Model_bears.2.1 63 = .ok (.aload_n 0, 1) := by decide +kernel
theorem zd_Model_bears_64 : decode zm_Model_bears.2.1 64 = .ok (.getfield 48, 3) := by decide +kernel
theorem zd_Model_bears_67 : decode zm_Model_bears.2.1 67 = .ok (.iconst 5, 1) := by decide +kernel
theorem zd_Model_bears_68 : decode zm_Model_bears.2.1 68 = .ok (.iload 5, 2) := by decide +kernel
theorem zd_Model_bears_70 : decode zm_Model_bears.2.1 70 = .ok (.bipush 10, 2) := by decide +kernel
theorem zd_Model_bears_72 : decode zm_Model_bears.2.1 72 = .ok (.irem, 1) := by decide +kernel
theorem zd_Model_bears_73 : decode zm_Model_bears.2.1 73 = .ok (.iastore, 1) := by decide +kernel
theorem zd_Model_bears_74 : decode zm_Model_bears.2.1 74 = .ok (.aload_n 0, 1) := by decide +kernel
theorem zd_Model_bears_75 : decode zm_Model_bears.2.1 75 = .ok (.aload_n 0, 1) := by decide +kernel
theorem zd_Model_bears_76 : decode zm_Model_bears.2.1 76 = .ok (.getfield 42, 3) := by decide +kernel
theorem zd_Model_bears_79 : decode zm_Model_bears.2.1 79 = .ok (.aload_n 0, 1) := by decide +kernel
theorem zd_Model_bears_80 : decode zm_Model_bears.2.1 80 = .ok (.getfield 218, 3) := by decide +kernel
theorem zd_Model_bears_83 : decode zm_Model_bears.2.1 83 = .ok (.bipush 40, 2) := by decide +kernel
theorem zd_Model_bears_85 : decode zm_Model_bears.2.1 85 = .ok (.invokevirtual 125, 3) := by decide +kernel
theorem zd_Model_bears_88 : decode zm_Model_bears.2.1 88 = .ok (.aload_n 0, 1) := by decide +kernel
theorem zd_Model_bears_89 : decode zm_Model_bears.2.1 89 = .ok (.iconst 1, 1) := by decide +kernel
theorem zd_Model_bears_90 : decode zm_Model_bears.2.1 90 = .ok (.putfield 211, 3) := by decide +kernel
theorem zd_Model_bears_93 : decode zm_Model_bears.2.1 93 = .ok (.aload_n 0, 1) := by decide +kernel
theorem zd_Model_bears_94 : decode zm_Model_bears.2.1 94 = .ok (.iconst 0, 1) := by decide +kernel
theorem zd_Model_bears_95 : decode zm_Model_bears.2.1 95 = .ok (.invokevirtual 198, 3) := by decide +kernel
theorem zd_Model_bears_98 : decode zm_Model_bears.2.1 98 = .ok (.istore 6, 2) := by decide +kernel
theorem zd_Model_bears_100 : decode zm_Model_bears.2.1 100 = .ok (.aload_n 0, 1) := by decide +kernel
theorem zd_Model_bears_101 : decode zm_Model_bears.2.1 101 = .ok (.iconst 0, 1) := by decide +kernel
theorem zd_Model_bears_102 : decode zm_Model_bears.2.1 102 = .ok (.putfield 211, 3) := by decide +kernel
theorem zd_Model_bears_105 : decode zm_Model_bears.2.1 105 = .ok (.iconst 0, 1) := by decide +kernel
theorem zd_Model_bears_106 : decode zm_Model_bears.2.1 106 = .ok (.sipush 999, 3) := by decide +kernel
theorem zd_Model_bears_109 : decode zm_Model_bears.2.1 109 = .ok (.iload 6, 2) := by decide +kernel
theorem zd_Model_bears_111 : decode zm_Model_bears.2.1 111 = .ok (.invokestatic 221, 3) := by decide +kernel
theorem zd_Model_bears_114 : decode zm_Model_bears.2.1 114 = .ok (.invokestatic 226, 3) := by decide +kernel
theorem zd_Model_bears_117 : decode zm_Model_bears.2.1 117 = .ok (.ireturn, 1) := by decide +kernel
theorem zb_Model_bears_0 {Γ : zG} {σ : zS} {x1 x2 x3 x4 x5 : Int32} {k1 : Nat}  (b1 : z_ix x1 12 k1) (kt : (σ.1 63 22) ≤ 0 → z_J Γ zm_Model_bears 105 [none, none, none, none, none, none, some (.inl ((nI 4) * (σ.1 65 k1)))] [] σ) (kf : ¬ (σ.1 63 22) ≤ 0 → z_J Γ zm_Model_bears 17 [some (.inr (63)), some (.inl (x1)), some (.inl (x2)), some (.inl (x3)), some (.inl (x4)), some (.inl (x5)), none] [] σ) : z_J Γ zm_Model_bears 0 [some (.inr (63)), some (.inl (x1)), some (.inl (x2)), some (.inl (x3)), some (.inl (x4)), some (.inl (x5)), none] [] σ := by
  refine zj_iconst (v := nI 4) zd_Model_bears_0 (by decide) ?_
  refine zj_aload_n zd_Model_bears_1 rfl ?_
  refine zj_getR rfl (by decide) rfl zu_Model (k := 2) (by decide) rfl zl_Model_13 zd_Model_bears_2 (o' := 65) rfl ?_
  refine zj_iload_n zd_Model_bears_5 rfl ?_
  refine zj_iaload rfl (by decide) b1 zd_Model_bears_6 ?_
  refine zj_imul zd_Model_bears_7 ?_
  refine zj_istore (L' := [some (.inr (63)), some (.inl (x1)), some (.inl (x2)), some (.inl (x3)), some (.inl (x4)), some (.inl (x5)), some (.inl ((nI 4) * (σ.1 65 k1)))]) zd_Model_bears_8 (by decide) rfl ?_
  refine zj_aload_n zd_Model_bears_10 rfl ?_
  refine zj_getI rfl (by decide) rfl zu_Model (k := 22) (by decide) rfl zl_Model_218 zd_Model_bears_11 ?_
  exact zj_if_le zd_Model_bears_14 (by decide) (fun h => (zj_weak (L' := [none, none, none, none, none, none, some (.inl ((nI 4) * (σ.1 65 k1)))]) ⟨rfl, trivial⟩ (kt h))) (fun h => (zj_weak (L' := [some (.inr (63)), some (.inl (x1)), some (.inl (x2)), some (.inl (x3)), some (.inl (x4)), some (.inl (x5)), none]) ⟨rfl, ⟨rfl, ⟨rfl, ⟨rfl, ⟨rfl, ⟨rfl, trivial⟩⟩⟩⟩⟩⟩ (kf h)))
theorem zb_Model_bears_17 {Γ : zG} {σ : zS} {x1 x2 x3 x4 x5 : Int32} {k1 k2 k3 k4 k5 k6 k7 k8 nm1 : Nat} {dc : Nat} {P : zS → Prop}  (b1 : z_ix x1 12 k1) (b2 : z_ix (nI 0) 6 k2) (b3 : z_ix x1 12 k3) (b4 : z_ix (nI 1) 6 k4) (b5 : z_ix (nI 2) 6 k5) (b6 : z_ix (nI 3) 6 k6) (b7 : z_ix (nI 4) 6 k7) (b8 : z_ix (nI 5) 6 k8) (m1 : z_kd (σ.2 63 20) = (9, nm1)) (hm : z_Cv dc zm_Model_begin [.inr (63), .inr (σ.2 63 20), .inl ((z_pI (z_pI (z_pI (z_pI (z_pI (z_pI σ 74 k2 (σ.1 65 k1)) 74 k4 ((z_pI σ 74 k2 (σ.1 65 k1)).1 66 k3)) 74 k5 x2) 74 k6 x3) 74 k7 x4) 74 k8 (x5 - x5 / (nI 10) * (nI 10))).1 63 22), .inl (nI 40)] (z_pI (z_pI (z_pI (z_pI (z_pI (z_pI σ 74 k2 (σ.1 65 k1)) 74 k4 ((z_pI σ 74 k2 (σ.1 65 k1)).1 66 k3)) 74 k5 x2) 74 k6 x3) 74 k7 x4) 74 k8 (x5 - x5 / (nI 10) * (nI 10))) P) (hdp : dc < z_dep Γ) (k : ∀ σ1, P σ1 → z_J Γ zm_Model_bears 88 [some (.inr (63)), none, none, none, none, none, none] [] σ1) : z_J Γ zm_Model_bears 17 [some (.inr (63)), some (.inl (x1)), some (.inl (x2)), some (.inl (x3)), some (.inl (x4)), some (.inl (x5)), none] [] σ := by
  refine zj_aload_n zd_Model_bears_17 rfl ?_
  refine zj_getR rfl (by decide) rfl zu_Model (k := 24) (by decide) rfl zl_Model_48 zd_Model_bears_18 (o' := 74) rfl ?_
  refine zj_iconst (v := nI 0) zd_Model_bears_21 (by decide) ?_
  refine zj_aload_n zd_Model_bears_22 rfl ?_
  refine zj_getR rfl (by decide) rfl zu_Model (k := 2) (by decide) rfl zl_Model_13 zd_Model_bears_23 (o' := 65) rfl ?_
  refine zj_iload_n zd_Model_bears_26 rfl ?_
  refine zj_iaload rfl (by decide) b1 zd_Model_bears_27 ?_
  refine zj_iastore rfl (by decide) b2 zd_Model_bears_28 ?_
  refine zj_aload_n zd_Model_bears_29 rfl ?_
  refine zj_getR rfl (by decide) rfl zu_Model (k := 24) (by decide) rfl zl_Model_48 zd_Model_bears_30 (o' := 74) rfl ?_
  refine zj_iconst (v := nI 1) zd_Model_bears_33 (by decide) ?_
  refine zj_aload_n zd_Model_bears_34 rfl ?_
  refine zj_getR rfl (by decide) rfl zu_Model (k := 3) (by decide) rfl zl_Model_16 zd_Model_bears_35 (o' := 66) rfl ?_
  refine zj_iload_n zd_Model_bears_38 rfl ?_
  refine zj_iaload rfl (by decide) b3 zd_Model_bears_39 ?_
  refine zj_iastore rfl (by decide) b4 zd_Model_bears_40 ?_
  refine zj_aload_n zd_Model_bears_41 rfl ?_
  refine zj_getR rfl (by decide) rfl zu_Model (k := 24) (by decide) rfl zl_Model_48 zd_Model_bears_42 (o' := 74) rfl ?_
  refine zj_iconst (v := nI 2) zd_Model_bears_45 (by decide) ?_
  refine zj_iload_n zd_Model_bears_46 rfl ?_
  refine zj_iastore rfl (by decide) b5 zd_Model_bears_47 ?_
  refine zj_aload_n zd_Model_bears_48 rfl ?_
  refine zj_getR rfl (by decide) rfl zu_Model (k := 24) (by decide) rfl zl_Model_48 zd_Model_bears_49 (o' := 74) rfl ?_
  refine zj_iconst (v := nI 3) zd_Model_bears_52 (by decide) ?_
  refine zj_iload_n zd_Model_bears_53 rfl ?_
  refine zj_iastore rfl (by decide) b6 zd_Model_bears_54 ?_
  refine zj_aload_n zd_Model_bears_55 rfl ?_
  refine zj_getR rfl (by decide) rfl zu_Model (k := 24) (by decide) rfl zl_Model_48 zd_Model_bears_56 (o' := 74) rfl ?_
  refine zj_iconst (v := nI 4) zd_Model_bears_59 (by decide) ?_
  refine zj_iload zd_Model_bears_60 rfl ?_
  refine zj_iastore rfl (by decide) b7 zd_Model_bears_62 ?_
  refine zj_aload_n zd_Model_bears_63 rfl ?_
  refine zj_getR rfl (by decide) rfl zu_Model (k := 24) (by decide) rfl zl_Model_48 zd_Model_bears_64 (o' := 74) rfl ?_
  refine zj_iconst (v := nI 5) zd_Model_bears_67 (by decide) ?_
  refine zj_iload zd_Model_bears_68 rfl ?_
  refine zj_bipush (v := nI 10) zd_Model_bears_70 (by decide) ?_
  refine zj_irem zd_Model_bears_72 (by decide) ?_
  refine zj_iastore rfl (by decide) b8 zd_Model_bears_73 ?_
  refine zj_aload_n zd_Model_bears_74 rfl ?_
  refine zj_aload_n zd_Model_bears_75 rfl ?_
  refine zj_getM rfl (by decide) rfl zu_Model (k := 20) (by decide) rfl zl_Model_42 zd_Model_bears_76 (z_lt m1 (by decide)) ?_
  refine zj_aload_n zd_Model_bears_79 rfl ?_
  refine zj_getI rfl (by decide) rfl zu_Model (k := 22) (by decide) rfl zl_Model_218 zd_Model_bears_80 ?_
  refine zj_bipush (v := nI 40) zd_Model_bears_83 (by decide) ?_
  exact zj_callVv (As := [.inr (σ.2 63 20), .inl ((z_pI (z_pI (z_pI (z_pI (z_pI (z_pI σ 74 k2 (σ.1 65 k1)) 74 k4 ((z_pI σ 74 k2 (σ.1 65 k1)).1 66 k3)) 74 k5 x2) 74 k6 x3) 74 k7 x4) 74 k8 (x5 - x5 / (nI 10) * (nI 10))).1 63 22), .inl (nI 40)]) hm hdp rfl (by decide) rfl zl_Model_125 zq_Model_begin zd_Model_bears_85 rfl (Nat.le_of_ble_eq_true rfl) (fun σ1 h => (zj_weak (L' := [some (.inr (63)), none, none, none, none, none, none]) ⟨rfl, trivial⟩ (k σ1 h)))
theorem zb_Model_bears_88 {Γ : zG} {σ : zS} {dc : Nat} {P : Int32 → zS → Prop}  (hm : z_Ci dc zm_Model_held [.inr (63), .inl (nI 0)] (z_pI σ 63 23 (nI 1)) P) (hdp : dc < z_dep Γ) (k : ∀ r σ1, P r σ1 → z_J Γ zm_Model_bears 98 [some (.inr (63)), none, none, none, none, none, none] [.inl (r)] σ1) : z_J Γ zm_Model_bears 88 [some (.inr (63)), none, none, none, none, none, none] [] σ := by
  refine zj_aload_n zd_Model_bears_88 rfl ?_
  refine zj_iconst (v := nI 1) zd_Model_bears_89 (by decide) ?_
  refine zj_putI rfl (by decide) rfl zu_Model zy_Model_ok zn_Model (k := 23) (by decide) rfl rfl zl_Model_211 (z_nb (Or.inr (by decide))) (z_fb (Or.inr (by decide))) zd_Model_bears_90 ?_
  refine zj_aload_n zd_Model_bears_93 rfl ?_
  refine zj_iconst (v := nI 0) zd_Model_bears_94 (by decide) ?_
  exact zj_callVi (As := [.inl (nI 0)]) hm hdp rfl (by decide) rfl zl_Model_198 zq_Model_held zd_Model_bears_95 rfl (Nat.le_of_ble_eq_true rfl) (fun r σ1 h => (k r σ1 h))
theorem zb_Model_bears_98 {Γ : zG} {σ : zS} {y0 : Int32}  (k : z_J Γ zm_Model_bears 105 [none, none, none, none, none, none, some (.inl (y0))] [] (z_pI σ 63 23 (nI 0))) : z_J Γ zm_Model_bears 98 [some (.inr (63)), none, none, none, none, none, none] [.inl (y0)] σ := by
  refine zj_istore (L' := [some (.inr (63)), none, none, none, none, none, some (.inl (y0))]) zd_Model_bears_98 (by decide) rfl ?_
  refine zj_aload_n zd_Model_bears_100 rfl ?_
  refine zj_iconst (v := nI 0) zd_Model_bears_101 (by decide) ?_
  refine zj_putI rfl (by decide) rfl zu_Model zy_Model_ok zn_Model (k := 23) (by decide) rfl rfl zl_Model_211 (z_nb (Or.inl (by decide))) (z_fb (Or.inl (by decide))) zd_Model_bears_102 ?_
  exact (zj_weak (L' := [none, none, none, none, none, none, some (.inl (y0))]) ⟨rfl, trivial⟩ k)
theorem zb_Model_bears_105 {Γ : zG} {σ : zS} {x6 : Int32} (hdp : 0 < z_dep Γ) (e : z_end Γ (some (z_max (nI 0) (z_min (nI 999) x6))) σ) : z_J Γ zm_Model_bears 105 [none, none, none, none, none, none, some (.inl (x6))] [] σ := by
  refine zj_iconst (v := nI 0) zd_Model_bears_105 (by decide) ?_
  refine zj_sipush (v := nI 999) zd_Model_bears_106 (by decide) ?_
  refine zj_iload zd_Model_bears_109 rfl ?_
  refine zj_mmin zl_Model_221 zx_min_s zx_Math zx_min_c hdp (Nat.le_of_ble_eq_true rfl) zd_Model_bears_111 ?_
  refine zj_mmax zl_Model_226 zx_max_s zx_Math zx_max_c hdp (Nat.le_of_ble_eq_true rfl) zd_Model_bears_114 ?_
  exact zj_ireturn rfl zd_Model_bears_117 e
theorem zd_Model_held_0 : decode zm_Model_held.2.1 0 = .ok (.aload_n 0, 1) := by decide +kernel
theorem zd_Model_held_1 : decode zm_Model_held.2.1 1 = .ok (.iload_n 1, 1) := by decide +kernel
theorem zd_Model_held_2 : decode zm_Model_held.2.1 2 = .ok (.invokevirtual 188, 3) := by decide +kernel
theorem zd_Model_held_5 : decode zm_Model_held.2.1 5 = .ok (.istore_n 2, 1) := by decide +kernel
theorem zd_Model_held_6 : decode zm_Model_held.2.1 6 = .ok (.aload_n 0, 1) := by decide +kernel
theorem zd_Model_held_7 : decode zm_Model_held.2.1 7 = .ok (.bipush 60, 2) := by decide +kernel
theorem zd_Model_held_9 : decode zm_Model_held.2.1 9 = .ok (.invokevirtual 137, 3) := by decide +kernel
theorem zd_Model_held_12 : decode zm_Model_held.2.1 12 = .ok (.ifCond .eq 18, 3) := by decide +kernel
theorem zd_Model_held_15 : decode zm_Model_held.2.1 15 = .ok (.iload_n 2, 1) := by decide +kernel
theorem zd_Model_held_16 : decode zm_Model_held.2.1 16 = .ok (.aload_n 0, 1) := by decide +kernel
theorem zd_Model_held_17 : decode zm_Model_held.2.1 17 = .ok (.iload_n 1, 1) := by decide +kernel
theorem zd_Model_held_18 : decode zm_Model_held.2.1 18 = .ok (.invokevirtual 188, 3) := by decide +kernel
theorem zd_Model_held_21 : decode zm_Model_held.2.1 21 = .ok (.if_icmp .ge 7, 3) := by decide +kernel
theorem zd_Model_held_24 : decode zm_Model_held.2.1 24 = .ok (.iconst 1, 1) := by decide +kernel
theorem zd_Model_held_25 : decode zm_Model_held.2.1 25 = .ok (.goto 4, 3) := by decide +kernel
theorem zd_Model_held_28 : decode zm_Model_held.2.1 28 = .ok (.iconst 0, 1) := by decide +kernel
theorem zd_Model_held_29 : decode zm_Model_held.2.1 29 = .ok (.ireturn, 1) := by decide +kernel
theorem zd_Model_held_30 : decode zm_Model_held.2.1 30 = .ok (.aload_n 0, 1) := by decide +kernel
theorem zd_Model_held_31 : decode zm_Model_held.2.1 31 = .ok (.bipush 62, 2) := by decide +kernel
theorem zd_Model_held_33 : decode zm_Model_held.2.1 33 = .ok (.invokevirtual 137, 3) := by decide +kernel
theorem zd_Model_held_36 : decode zm_Model_held.2.1 36 = .ok (.ifCond .eq 18, 3) := by decide +kernel
theorem zd_Model_held_39 : decode zm_Model_held.2.1 39 = .ok (.iload_n 2, 1) := by decide +kernel
theorem zd_Model_held_40 : decode zm_Model_held.2.1 40 = .ok (.aload_n 0, 1) := by decide +kernel
theorem zd_Model_held_41 : decode zm_Model_held.2.1 41 = .ok (.iload_n 1, 1) := by decide +kernel
theorem zd_Model_held_42 : decode zm_Model_held.2.1 42 = .ok (.invokevirtual 188, 3) := by decide +kernel
theorem zd_Model_held_45 : decode zm_Model_held.2.1 45 = .ok (.if_icmp .le 7, 3) := by decide +kernel
theorem zd_Model_held_48 : decode zm_Model_held.2.1 48 = .ok (.iconst 1, 1) := by decide +kernel
theorem zd_Model_held_49 : decode zm_Model_held.2.1 49 = .ok (.goto 4, 3) := by decide +kernel
theorem zd_Model_held_52 : decode zm_Model_held.2.1 52 = .ok (.iconst 0, 1) := by decide +kernel
theorem zd_Model_held_53 : decode zm_Model_held.2.1 53 = .ok (.ireturn, 1) := by decide +kernel
theorem zd_Model_held_54 : decode zm_Model_held.2.1 54 = .ok (.aload_n 0, 1) := by decide +kernel
theorem zd_Model_held_55 : decode zm_Model_held.2.1 55 = .ok (.bipush 61, 2) := by decide +kernel
theorem zd_Model_held_57 : decode zm_Model_held.2.1 57 = .ok (.invokevirtual 137, 3) := by decide +kernel
theorem zd_Model_held_60 : decode zm_Model_held.2.1 60 = .ok (.ifCond .eq 18, 3) := by decide +kernel
theorem zd_Model_held_63 : decode zm_Model_held.2.1 63 = .ok (.iload_n 2, 1) := by decide +kernel
theorem zd_Model_held_64 : decode zm_Model_held.2.1 64 = .ok (.aload_n 0, 1) := by decide +kernel
theorem zd_Model_held_65 : decode zm_Model_held.2.1 65 = .ok (.iload_n 1, 1) := by decide +kernel
theorem zd_Model_held_66 : decode zm_Model_held.2.1 66 = .ok (.invokevirtual 188, 3) := by decide +kernel
theorem zd_Model_held_69 : decode zm_Model_held.2.1 69 = .ok (.if_icmp .ne 7, 3) := by decide +kernel
theorem zd_Model_held_72 : decode zm_Model_held.2.1 72 = .ok (.iconst 1, 1) := by decide +kernel
theorem zd_Model_held_73 : decode zm_Model_held.2.1 73 = .ok (.goto 4, 3) := by decide +kernel
theorem zd_Model_held_76 : decode zm_Model_held.2.1 76 = .ok (.iconst 0, 1) := by decide +kernel
theorem zd_Model_held_77 : decode zm_Model_held.2.1 77 = .ok (.ireturn, 1) := by decide +kernel
theorem zd_Model_held_78 : decode zm_Model_held.2.1 78 = .ok (.iload_n 2, 1) := by decide +kernel
theorem zd_Model_held_79 : decode zm_Model_held.2.1 79 = .ok (.ireturn, 1) := by decide +kernel
theorem zb_Model_held_0 {Γ : zG} {σ : zS} {x1 : Int32} {dc : Nat} {P : Int32 → zS → Prop}  (hm : z_Ci dc zm_Model_sum [.inr (63), .inl (x1)] σ P) (hdp : dc < z_dep Γ) (k : ∀ r σ1, P r σ1 → z_J Γ zm_Model_held 5 [some (.inr (63)), some (.inl (x1)), none] [.inl (r)] σ1) : z_J Γ zm_Model_held 0 [some (.inr (63)), some (.inl (x1)), none] [] σ := by
  refine zj_aload_n zd_Model_held_0 rfl ?_
  refine zj_iload_n zd_Model_held_1 rfl ?_
  exact zj_callVi (As := [.inl (x1)]) hm hdp rfl (by decide) rfl zl_Model_188 zq_Model_sum zd_Model_held_2 rfl (Nat.le_of_ble_eq_true rfl) (fun r σ1 h => (k r σ1 h))
theorem zb_Model_held_5 {Γ : zG} {σ : zS} {x1 y0 : Int32} {dc : Nat} {P : Int32 → zS → Prop}  (hm : z_Ci dc zm_Model_passes [.inr (63), .inl (nI 60)] σ P) (hdp : dc < z_dep Γ) (k : ∀ r σ1, P r σ1 → z_J Γ zm_Model_held 12 [some (.inr (63)), some (.inl (x1)), some (.inl (y0))] [.inl (r)] σ1) : z_J Γ zm_Model_held 5 [some (.inr (63)), some (.inl (x1)), none] [.inl (y0)] σ := by
  refine zj_istore_n (L' := [some (.inr (63)), some (.inl (x1)), some (.inl (y0))]) zd_Model_held_5 (by decide) rfl ?_
  refine zj_aload_n zd_Model_held_6 rfl ?_
  refine zj_bipush (v := nI 60) zd_Model_held_7 (by decide) ?_
  exact zj_callVi (As := [.inl (nI 60)]) hm hdp rfl (by decide) rfl zl_Model_137 zq_Model_passes zd_Model_held_9 rfl (Nat.le_of_ble_eq_true rfl) (fun r σ1 h => (k r σ1 h))
theorem zb_Model_held_12 {Γ : zG} {σ : zS} {x1 x2 y0 : Int32}  (kt : y0 = 0 → z_J Γ zm_Model_held 30 [some (.inr (63)), some (.inl (x1)), some (.inl (x2))] [] σ) (kf : ¬ y0 = 0 → z_J Γ zm_Model_held 15 [some (.inr (63)), some (.inl (x1)), some (.inl (x2))] [] σ) : z_J Γ zm_Model_held 12 [some (.inr (63)), some (.inl (x1)), some (.inl (x2))] [.inl (y0)] σ := by
  exact zj_if_eq zd_Model_held_12 (by decide) (fun h => (kt h)) (fun h => (kf h))
theorem zb_Model_held_15 {Γ : zG} {σ : zS} {x1 x2 : Int32} {dc : Nat} {P : Int32 → zS → Prop}  (hm : z_Ci dc zm_Model_sum [.inr (63), .inl (x1)] σ P) (hdp : dc < z_dep Γ) (k : ∀ r σ1, P r σ1 → z_J Γ zm_Model_held 21 [none, none, none] [.inl (r), .inl (x2)] σ1) : z_J Γ zm_Model_held 15 [some (.inr (63)), some (.inl (x1)), some (.inl (x2))] [] σ := by
  refine zj_iload_n zd_Model_held_15 rfl ?_
  refine zj_aload_n zd_Model_held_16 rfl ?_
  refine zj_iload_n zd_Model_held_17 rfl ?_
  exact zj_callVi (As := [.inl (x1)]) hm hdp rfl (by decide) rfl zl_Model_188 zq_Model_sum zd_Model_held_18 rfl (Nat.le_of_ble_eq_true rfl) (fun r σ1 h => (zj_weak (L' := [none, none, none]) trivial (k r σ1 h)))
theorem zb_Model_held_21 {Γ : zG} {σ : zS} {y0 y1 : Int32}  (kt : y0 ≤ y1 → z_J Γ zm_Model_held 28 [none, none, none] [] σ) (kf : ¬ y0 ≤ y1 → z_J Γ zm_Model_held 24 [none, none, none] [] σ) : z_J Γ zm_Model_held 21 [none, none, none] [.inl (y0), .inl (y1)] σ := by
  exact zj_icmp_ge zd_Model_held_21 (by decide) (fun h => (kt h)) (fun h => (kf h))
theorem zb_Model_held_24 {Γ : zG} {σ : zS}  (k : z_J Γ zm_Model_held 29 [none, none, none] [.inl (nI 1)] σ) : z_J Γ zm_Model_held 24 [none, none, none] [] σ := by
  refine zj_iconst (v := nI 1) zd_Model_held_24 (by decide) ?_
  exact zj_goto zd_Model_held_25 (by decide) k
theorem zb_Model_held_28 {Γ : zG} {σ : zS}  (k : z_J Γ zm_Model_held 29 [none, none, none] [.inl (nI 0)] σ) : z_J Γ zm_Model_held 28 [none, none, none] [] σ := by
  refine zj_iconst (v := nI 0) zd_Model_held_28 (by decide) ?_
  exact k
theorem zb_Model_held_29 {Γ : zG} {σ : zS} {y0 : Int32}  (e : z_end Γ (some (y0)) σ) : z_J Γ zm_Model_held 29 [none, none, none] [.inl (y0)] σ := by
  exact zj_ireturn rfl zd_Model_held_29 e
theorem zb_Model_held_30 {Γ : zG} {σ : zS} {x1 x2 : Int32} {dc : Nat} {P : Int32 → zS → Prop}  (hm : z_Ci dc zm_Model_passes [.inr (63), .inl (nI 62)] σ P) (hdp : dc < z_dep Γ) (k : ∀ r σ1, P r σ1 → z_J Γ zm_Model_held 36 [some (.inr (63)), some (.inl (x1)), some (.inl (x2))] [.inl (r)] σ1) : z_J Γ zm_Model_held 30 [some (.inr (63)), some (.inl (x1)), some (.inl (x2))] [] σ := by
  refine zj_aload_n zd_Model_held_30 rfl ?_
  refine zj_bipush (v := nI 62) zd_Model_held_31 (by decide) ?_
  exact zj_callVi (As := [.inl (nI 62)]) hm hdp rfl (by decide) rfl zl_Model_137 zq_Model_passes zd_Model_held_33 rfl (Nat.le_of_ble_eq_true rfl) (fun r σ1 h => (k r σ1 h))
theorem zb_Model_held_36 {Γ : zG} {σ : zS} {x1 x2 y0 : Int32}  (kt : y0 = 0 → z_J Γ zm_Model_held 54 [some (.inr (63)), some (.inl (x1)), some (.inl (x2))] [] σ) (kf : ¬ y0 = 0 → z_J Γ zm_Model_held 39 [some (.inr (63)), some (.inl (x1)), some (.inl (x2))] [] σ) : z_J Γ zm_Model_held 36 [some (.inr (63)), some (.inl (x1)), some (.inl (x2))] [.inl (y0)] σ := by
  exact zj_if_eq zd_Model_held_36 (by decide) (fun h => (kt h)) (fun h => (kf h))
theorem zb_Model_held_39 {Γ : zG} {σ : zS} {x1 x2 : Int32} {dc : Nat} {P : Int32 → zS → Prop}  (hm : z_Ci dc zm_Model_sum [.inr (63), .inl (x1)] σ P) (hdp : dc < z_dep Γ) (k : ∀ r σ1, P r σ1 → z_J Γ zm_Model_held 45 [none, none, none] [.inl (r), .inl (x2)] σ1) : z_J Γ zm_Model_held 39 [some (.inr (63)), some (.inl (x1)), some (.inl (x2))] [] σ := by
  refine zj_iload_n zd_Model_held_39 rfl ?_
  refine zj_aload_n zd_Model_held_40 rfl ?_
  refine zj_iload_n zd_Model_held_41 rfl ?_
  exact zj_callVi (As := [.inl (x1)]) hm hdp rfl (by decide) rfl zl_Model_188 zq_Model_sum zd_Model_held_42 rfl (Nat.le_of_ble_eq_true rfl) (fun r σ1 h => (zj_weak (L' := [none, none, none]) trivial (k r σ1 h)))
theorem zb_Model_held_45 {Γ : zG} {σ : zS} {y0 y1 : Int32}  (kt : y1 ≤ y0 → z_J Γ zm_Model_held 52 [none, none, none] [] σ) (kf : ¬ y1 ≤ y0 → z_J Γ zm_Model_held 48 [none, none, none] [] σ) : z_J Γ zm_Model_held 45 [none, none, none] [.inl (y0), .inl (y1)] σ := by
  exact zj_icmp_le zd_Model_held_45 (by decide) (fun h => (kt h)) (fun h => (kf h))
theorem zb_Model_held_48 {Γ : zG} {σ : zS}  (k : z_J Γ zm_Model_held 53 [none, none, none] [.inl (nI 1)] σ) : z_J Γ zm_Model_held 48 [none, none, none] [] σ := by
  refine zj_iconst (v := nI 1) zd_Model_held_48 (by decide) ?_
  exact zj_goto zd_Model_held_49 (by decide) k
theorem zb_Model_held_52 {Γ : zG} {σ : zS}  (k : z_J Γ zm_Model_held 53 [none, none, none] [.inl (nI 0)] σ) : z_J Γ zm_Model_held 52 [none, none, none] [] σ := by
  refine zj_iconst (v := nI 0) zd_Model_held_52 (by decide) ?_
  exact k
theorem zb_Model_held_53 {Γ : zG} {σ : zS} {y0 : Int32}  (e : z_end Γ (some (y0)) σ) : z_J Γ zm_Model_held 53 [none, none, none] [.inl (y0)] σ := by
  exact zj_ireturn rfl zd_Model_held_53 e
theorem zb_Model_held_54 {Γ : zG} {σ : zS} {x1 x2 : Int32} {dc : Nat} {P : Int32 → zS → Prop}  (hm : z_Ci dc zm_Model_passes [.inr (63), .inl (nI 61)] σ P) (hdp : dc < z_dep Γ) (k : ∀ r σ1, P r σ1 → z_J Γ zm_Model_held 60 [some (.inr (63)), some (.inl (x1)), some (.inl (x2))] [.inl (r)] σ1) : z_J Γ zm_Model_held 54 [some (.inr (63)), some (.inl (x1)), some (.inl (x2))] [] σ := by
  refine zj_aload_n zd_Model_held_54 rfl ?_
  refine zj_bipush (v := nI 61) zd_Model_held_55 (by decide) ?_
  exact zj_callVi (As := [.inl (nI 61)]) hm hdp rfl (by decide) rfl zl_Model_137 zq_Model_passes zd_Model_held_57 rfl (Nat.le_of_ble_eq_true rfl) (fun r σ1 h => (k r σ1 h))
theorem zb_Model_held_60 {Γ : zG} {σ : zS} {x1 x2 y0 : Int32}  (kt : y0 = 0 → z_J Γ zm_Model_held 78 [none, none, some (.inl (x2))] [] σ) (kf : ¬ y0 = 0 → z_J Γ zm_Model_held 63 [some (.inr (63)), some (.inl (x1)), some (.inl (x2))] [] σ) : z_J Γ zm_Model_held 60 [some (.inr (63)), some (.inl (x1)), some (.inl (x2))] [.inl (y0)] σ := by
  exact zj_if_eq zd_Model_held_60 (by decide) (fun h => (zj_weak (L' := [none, none, some (.inl (x2))]) ⟨rfl, trivial⟩ (kt h))) (fun h => (kf h))
theorem zb_Model_held_63 {Γ : zG} {σ : zS} {x1 x2 : Int32} {dc : Nat} {P : Int32 → zS → Prop}  (hm : z_Ci dc zm_Model_sum [.inr (63), .inl (x1)] σ P) (hdp : dc < z_dep Γ) (k : ∀ r σ1, P r σ1 → z_J Γ zm_Model_held 69 [none, none, none] [.inl (r), .inl (x2)] σ1) : z_J Γ zm_Model_held 63 [some (.inr (63)), some (.inl (x1)), some (.inl (x2))] [] σ := by
  refine zj_iload_n zd_Model_held_63 rfl ?_
  refine zj_aload_n zd_Model_held_64 rfl ?_
  refine zj_iload_n zd_Model_held_65 rfl ?_
  exact zj_callVi (As := [.inl (x1)]) hm hdp rfl (by decide) rfl zl_Model_188 zq_Model_sum zd_Model_held_66 rfl (Nat.le_of_ble_eq_true rfl) (fun r σ1 h => (zj_weak (L' := [none, none, none]) trivial (k r σ1 h)))
theorem zb_Model_held_69 {Γ : zG} {σ : zS} {y0 y1 : Int32}  (kt : ¬ y1 = y0 → z_J Γ zm_Model_held 76 [none, none, none] [] σ) (kf : y1 = y0 → z_J Γ zm_Model_held 72 [none, none, none] [] σ) : z_J Γ zm_Model_held 69 [none, none, none] [.inl (y0), .inl (y1)] σ := by
  exact zj_icmp_ne zd_Model_held_69 (by decide) (fun h => (kt h)) (fun h => (kf h))
theorem zb_Model_held_72 {Γ : zG} {σ : zS}  (k : z_J Γ zm_Model_held 77 [none, none, none] [.inl (nI 1)] σ) : z_J Γ zm_Model_held 72 [none, none, none] [] σ := by
  refine zj_iconst (v := nI 1) zd_Model_held_72 (by decide) ?_
  exact zj_goto zd_Model_held_73 (by decide) k
theorem zb_Model_held_76 {Γ : zG} {σ : zS}  (k : z_J Γ zm_Model_held 77 [none, none, none] [.inl (nI 0)] σ) : z_J Γ zm_Model_held 76 [none, none, none] [] σ := by
  refine zj_iconst (v := nI 0) zd_Model_held_76 (by decide) ?_
  exact k
theorem zb_Model_held_77 {Γ : zG} {σ : zS} {y0 : Int32}  (e : z_end Γ (some (y0)) σ) : z_J Γ zm_Model_held 77 [none, none, none] [.inl (y0)] σ := by
  exact zj_ireturn rfl zd_Model_held_77 e
theorem zb_Model_held_78 {Γ : zG} {σ : zS} {x2 : Int32}  (e : z_end Γ (some (x2)) σ) : z_J Γ zm_Model_held 78 [none, none, some (.inl (x2))] [] σ := by
  refine zj_iload_n zd_Model_held_78 rfl ?_
  exact zj_ireturn rfl zd_Model_held_79 e
