theorem zd_City_addBook_0 : decode zm_City_addBook.2.1 0 = .ok (.aload_n 0, 1) := by decide +kernel
theorem zd_City_addBook_1 : decode zm_City_addBook.2.1 1 = .ok (.getfield 43, 3) := by decide +kernel
theorem zd_City_addBook_4 : decode zm_City_addBook.2.1 4 = .ok (.bipush 12, 2) := by decide +kernel
theorem zd_City_addBook_6 : decode zm_City_addBook.2.1 6 = .ok (.if_icmp .ne 4, 3) := by decide +kernel
theorem zd_City_addBook_9 : decode zm_City_addBook.2.1 9 = .ok (.return_, 1) := by decide +kernel
theorem zd_City_addBook_10 : decode zm_City_addBook.2.1 10 = .ok (.aload_n 0, 1) := by decide +kernel
theorem zd_City_addBook_11 : decode zm_City_addBook.2.1 11 = .ok (.getfield 9, 3) := by decide +kernel
theorem zd_City_addBook_14 : decode zm_City_addBook.2.1 14 = .ok (.aload_n 0, 1) := by decide +kernel
theorem zd_City_addBook_15 : decode zm_City_addBook.2.1 15 = .ok (.getfield 43, 3) := by decide +kernel
theorem zd_City_addBook_18 : decode zm_City_addBook.2.1 18 = .ok (.iload_n 1, 1) := by decide +kernel
theorem zd_City_addBook_19 : decode zm_City_addBook.2.1 19 = .ok (.iastore, 1) := by decide +kernel
theorem zd_City_addBook_20 : decode zm_City_addBook.2.1 20 = .ok (.aload_n 0, 1) := by decide +kernel
theorem zd_City_addBook_21 : decode zm_City_addBook.2.1 21 = .ok (.getfield 15, 3) := by decide +kernel
theorem zd_City_addBook_24 : decode zm_City_addBook.2.1 24 = .ok (.aload_n 0, 1) := by decide +kernel
theorem zd_City_addBook_25 : decode zm_City_addBook.2.1 25 = .ok (.getfield 43, 3) := by decide +kernel
theorem zd_City_addBook_28 : decode zm_City_addBook.2.1 28 = .ok (.iload_n 2, 1) := by decide +kernel
theorem zd_City_addBook_29 : decode zm_City_addBook.2.1 29 = .ok (.iastore, 1) := by decide +kernel
theorem zd_City_addBook_30 : decode zm_City_addBook.2.1 30 = .ok (.aload_n 0, 1) := by decide +kernel
theorem zd_City_addBook_31 : decode zm_City_addBook.2.1 31 = .ok (.dup, 1) := by decide +kernel
theorem zd_City_addBook_32 : decode zm_City_addBook.2.1 32 = .ok (.getfield 43, 3) := by decide +kernel
theorem zd_City_addBook_35 : decode zm_City_addBook.2.1 35 = .ok (.iconst 1, 1) := by decide +kernel
theorem zd_City_addBook_36 : decode zm_City_addBook.2.1 36 = .ok (.iadd, 1) := by decide +kernel
theorem zd_City_addBook_37 : decode zm_City_addBook.2.1 37 = .ok (.putfield 43, 3) := by decide +kernel
theorem zd_City_addBook_40 : decode zm_City_addBook.2.1 40 = .ok (.aload_n 0, 1) := by decide +kernel
theorem zd_City_addBook_41 : decode zm_City_addBook.2.1 41 = .ok (.aload_n 0, 1) := by decide +kernel
theorem zd_City_addBook_42 : decode zm_City_addBook.2.1 42 = .ok (.getfield 43, 3) := by decide +kernel
theorem zd_City_addBook_45 : decode zm_City_addBook.2.1 45 = .ok (.iconst 1, 1) := by decide +kernel
theorem zd_City_addBook_46 : decode zm_City_addBook.2.1 46 = .ok (.isub, 1) := by decide +kernel
theorem zd_City_addBook_47 : decode zm_City_addBook.2.1 47 = .ok (.iconst 0, 1) := by decide +kernel
theorem zd_City_addBook_48 : decode zm_City_addBook.2.1 48 = .ok (.invokevirtual 49, 3) := by decide +kernel
theorem zd_City_addBook_51 : decode zm_City_addBook.2.1 51 = .ok (.return_, 1) := by decide +kernel
theorem zb_City_addBook_0 {Γ : zG} {σ : zS} {o : Nat} {x1 x2 : Int32} (h_o : z_oC o) (kt : ¬ (σ.1 o 0) = (nI 12) → z_J Γ zm_City_addBook 10 [some (.inr (o)), some (.inl (x1)), some (.inl (x2))] [] σ) (kf : (σ.1 o 0) = (nI 12) → z_J Γ zm_City_addBook 9 [none, none, none] [] σ) : z_J Γ zm_City_addBook 0 [some (.inr (o)), some (.inl (x1)), some (.inl (x2))] [] σ := by
  refine zj_aload_n zd_City_addBook_0 rfl ?_
  refine zj_getI (zk_C0 h_o) (by decide) rfl zu_City (k := 0) (by decide) rfl zl_City_43 zd_City_addBook_1 ?_
  refine zj_bipush (v := nI 12) zd_City_addBook_4 (by decide) ?_
  exact zj_icmp_ne zd_City_addBook_6 (by decide) (fun h => (kt h)) (fun h => (zj_weak (L' := [none, none, none]) trivial (kf h)))
theorem zb_City_addBook_9 {Γ : zG} {σ : zS}  (e : z_end Γ none σ) : z_J Γ zm_City_addBook 9 [none, none, none] [] σ := by
  exact zj_return rfl zd_City_addBook_9 e
theorem zb_City_addBook_10 {Γ : zG} {σ : zS} {o : Nat} {x1 x2 : Int32} {k1 k2 : Nat} {dc : Nat} {P : zS → Prop} (h_o : z_oC o) (b1 : z_ix (σ.1 o 0) 12 k1) (b2 : z_ix ((z_pI σ (o + 1) k1 x1).1 o 0) 12 k2) (hm : z_Cv dc zm_City_lift [.inr (o), .inl (((z_pI (z_pI (z_pI σ (o + 1) k1 x1) (o + 2) k2 x2) o 0 (((z_pI (z_pI σ (o + 1) k1 x1) (o + 2) k2 x2).1 o 0) + (nI 1))).1 o 0) - (nI 1)), .inl (nI 0)] (z_pI (z_pI (z_pI σ (o + 1) k1 x1) (o + 2) k2 x2) o 0 (((z_pI (z_pI σ (o + 1) k1 x1) (o + 2) k2 x2).1 o 0) + (nI 1))) P) (hdp : dc < z_dep Γ) (k : ∀ σ1, P σ1 → z_J Γ zm_City_addBook 51 [none, none, none] [] σ1) : z_J Γ zm_City_addBook 10 [some (.inr (o)), some (.inl (x1)), some (.inl (x2))] [] σ := by
  refine zj_aload_n zd_City_addBook_10 rfl ?_
  refine zj_getR (zk_C0 h_o) (by decide) rfl zu_City (k := 1) (by decide) rfl zl_City_9 zd_City_addBook_11 (o' := o + 1) rfl ?_
  refine zj_aload_n zd_City_addBook_14 rfl ?_
  refine zj_getI (zk_C0 h_o) (by decide) rfl zu_City (k := 0) (by decide) rfl zl_City_43 zd_City_addBook_15 ?_
  refine zj_iload_n zd_City_addBook_18 rfl ?_
  refine zj_iastore (zk_C1 h_o) (by decide) b1 zd_City_addBook_19 ?_
  refine zj_aload_n zd_City_addBook_20 rfl ?_
  refine zj_getR (zk_C0 h_o) (by decide) rfl zu_City (k := 2) (by decide) rfl zl_City_15 zd_City_addBook_21 (o' := o + 2) rfl ?_
  refine zj_aload_n zd_City_addBook_24 rfl ?_
  refine zj_getI (zk_C0 h_o) (by decide) rfl zu_City (k := 0) (by decide) rfl zl_City_43 zd_City_addBook_25 ?_
  refine zj_iload_n zd_City_addBook_28 rfl ?_
  refine zj_iastore (zk_C2 h_o) (by decide) b2 zd_City_addBook_29 ?_
  refine zj_aload_n zd_City_addBook_30 rfl ?_
  refine zj_dup zd_City_addBook_31 ?_
  refine zj_getI (zk_C0 h_o) (by decide) rfl zu_City (k := 0) (by decide) rfl zl_City_43 zd_City_addBook_32 ?_
  refine zj_iconst (v := nI 1) zd_City_addBook_35 (by decide) ?_
  refine zj_iadd zd_City_addBook_36 ?_
  refine zj_putI (zk_C0 h_o) (by decide) rfl zu_City zy_City_ok zn_City (k := 0) (by decide) rfl rfl zl_City_43 rfl rfl zd_City_addBook_37 ?_
  refine zj_aload_n zd_City_addBook_40 rfl ?_
  refine zj_aload_n zd_City_addBook_41 rfl ?_
  refine zj_getI (zk_C0 h_o) (by decide) rfl zu_City (k := 0) (by decide) rfl zl_City_43 zd_City_addBook_42 ?_
  refine zj_iconst (v := nI 1) zd_City_addBook_45 (by decide) ?_
  refine zj_isub zd_City_addBook_46 ?_
  refine zj_iconst (v := nI 0) zd_City_addBook_47 (by decide) ?_
  exact zj_callVv (As := [.inl (((z_pI (z_pI (z_pI σ (o + 1) k1 x1) (o + 2) k2 x2) o 0 (((z_pI (z_pI σ (o + 1) k1 x1) (o + 2) k2 x2).1 o 0) + (nI 1))).1 o 0) - (nI 1)), .inl (nI 0)]) hm hdp (zk_C0 h_o) (by decide) rfl zl_City_49 zq_City_lift zd_City_addBook_48 rfl (Nat.le_of_ble_eq_true rfl) (fun σ1 h => (zj_weak (L' := [none, none, none]) trivial (k σ1 h)))
theorem zb_City_addBook_51 {Γ : zG} {σ : zS}  (e : z_end Γ none σ) : z_J Γ zm_City_addBook 51 [none, none, none] [] σ := by
  exact zj_return rfl zd_City_addBook_51 e
theorem zd_City_lift_0 : decode zm_City_lift.2.1 0 = .ok (.aload_n 0, 1) := by decide +kernel
theorem zd_City_lift_1 : decode zm_City_lift.2.1 1 = .ok (.iload_n 1, 1) := by decide +kernel
theorem zd_City_lift_2 : decode zm_City_lift.2.1 2 = .ok (.invokevirtual 89, 3) := by decide +kernel
theorem zd_City_lift_5 : decode zm_City_lift.2.1 5 = .ok (.istore_n 3, 1) := by decide +kernel
theorem zd_City_lift_6 : decode zm_City_lift.2.1 6 = .ok (.iload_n 3, 1) := by decide +kernel
theorem zd_City_lift_7 : decode zm_City_lift.2.1 7 = .ok (.iconst (-1), 1) := by decide +kernel
theorem zd_City_lift_8 : decode zm_City_lift.2.1 8 = .ok (.if_icmp .eq 69, 3) := by decide +kernel
theorem zd_City_lift_11 : decode zm_City_lift.2.1 11 = .ok (.aload_n 0, 1) := by decide +kernel
theorem zd_City_lift_12 : decode zm_City_lift.2.1 12 = .ok (.getfield 21, 3) := by decide +kernel
theorem zd_City_lift_15 : decode zm_City_lift.2.1 15 = .ok (.iload_n 1, 1) := by decide +kernel
theorem zd_City_lift_16 : decode zm_City_lift.2.1 16 = .ok (.iaload, 1) := by decide +kernel
theorem zd_City_lift_17 : decode zm_City_lift.2.1 17 = .ok (.istore 4, 2) := by decide +kernel
theorem zd_City_lift_19 : decode zm_City_lift.2.1 19 = .ok (.aload_n 0, 1) := by decide +kernel
theorem zd_City_lift_20 : decode zm_City_lift.2.1 20 = .ok (.getfield 31, 3) := by decide +kernel
theorem zd_City_lift_23 : decode zm_City_lift.2.1 23 = .ok (.iload 4, 2) := by decide +kernel
theorem zd_City_lift_25 : decode zm_City_lift.2.1 25 = .ok (.dup2, 1) := by decide +kernel
theorem zd_City_lift_26 : decode zm_City_lift.2.1 26 = .ok (.iaload, 1) := by decide +kernel
theorem zd_City_lift_27 : decode zm_City_lift.2.1 27 = .ok (.iconst 1, 1) := by decide +kernel
theorem zd_City_lift_28 : decode zm_City_lift.2.1 28 = .ok (.isub, 1) := by decide +kernel
theorem zd_City_lift_29 : decode zm_City_lift.2.1 29 = .ok (.iastore, 1) := by decide +kernel
theorem zd_City_lift_30 : decode zm_City_lift.2.1 30 = .ok (.iload 4, 2) := by decide +kernel
theorem zd_City_lift_32 : decode zm_City_lift.2.1 32 = .ok (.iconst 4, 1) := by decide +kernel
theorem zd_City_lift_33 : decode zm_City_lift.2.1 33 = .ok (.imul, 1) := by decide +kernel
theorem zd_City_lift_34 : decode zm_City_lift.2.1 34 = .ok (.iload_n 3, 1) := by decide +kernel
theorem zd_City_lift_35 : decode zm_City_lift.2.1 35 = .ok (.iadd, 1) := by decide +kernel
theorem zd_City_lift_36 : decode zm_City_lift.2.1 36 = .ok (.istore 5, 2) := by decide +kernel
theorem zd_City_lift_38 : decode zm_City_lift.2.1 38 = .ok (.iload 5, 2) := by decide +kernel
theorem zd_City_lift_40 : decode zm_City_lift.2.1 40 = .ok (.iload 4, 2) := by decide +kernel
theorem zd_City_lift_42 : decode zm_City_lift.2.1 42 = .ok (.iconst 4, 1) := by decide +kernel
theorem zd_City_lift_43 : decode zm_City_lift.2.1 43 = .ok (.imul, 1) := by decide +kernel
theorem zd_City_lift_44 : decode zm_City_lift.2.1 44 = .ok (.aload_n 0, 1) := by decide +kernel
theorem zd_City_lift_45 : decode zm_City_lift.2.1 45 = .ok (.getfield 31, 3) := by decide +kernel
theorem zd_City_lift_48 : decode zm_City_lift.2.1 48 = .ok (.iload 4, 2) := by decide +kernel
theorem zd_City_lift_50 : decode zm_City_lift.2.1 50 = .ok (.iaload, 1) := by decide +kernel
theorem zd_City_lift_51 : decode zm_City_lift.2.1 51 = .ok (.iadd, 1) := by decide +kernel
theorem zd_City_lift_52 : decode zm_City_lift.2.1 52 = .ok (.if_icmp .ge 25, 3) := by decide +kernel
theorem zd_City_lift_55 : decode zm_City_lift.2.1 55 = .ok (.aload_n 0, 1) := by decide +kernel
theorem zd_City_lift_56 : decode zm_City_lift.2.1 56 = .ok (.getfield 34, 3) := by decide +kernel
theorem zd_City_lift_59 : decode zm_City_lift.2.1 59 = .ok (.iload 5, 2) := by decide +kernel
theorem zd_City_lift_61 : decode zm_City_lift.2.1 61 = .ok (.aload_n 0, 1) := by decide +kernel
theorem zd_City_lift_62 : decode zm_City_lift.2.1 62 = .ok (.getfield 34, 3) := by decide +kernel
theorem zd_City_lift_65 : decode zm_City_lift.2.1 65 = .ok (.iload 5, 2) := by decide +kernel
theorem zd_City_lift_67 : decode zm_City_lift.2.1 67 = .ok (.iconst 1, 1) := by decide +kernel
theorem zd_City_lift_68 : decode zm_City_lift.2.1 68 = .ok (.iadd, 1) := by decide +kernel
theorem zd_City_lift_69 : decode zm_City_lift.2.1 69 = .ok (.iaload, 1) := by decide +kernel
theorem zd_City_lift_70 : decode zm_City_lift.2.1 70 = .ok (.iastore, 1) := by decide +kernel
theorem zd_City_lift_71 : decode zm_City_lift.2.1 71 = .ok (.iinc 5 1, 3) := by decide +kernel
theorem zd_City_lift_74 : decode zm_City_lift.2.1 74 = .ok (.goto (-36), 3) := by decide +kernel
theorem zd_City_lift_77 : decode zm_City_lift.2.1 77 = .ok (.aload_n 0, 1) := by decide +kernel
theorem zd_City_lift_78 : decode zm_City_lift.2.1 78 = .ok (.getfield 18, 3) := by decide +kernel
theorem zd_City_lift_81 : decode zm_City_lift.2.1 81 = .ok (.iload_n 1, 1) := by decide +kernel
theorem zd_City_lift_82 : decode zm_City_lift.2.1 82 = .ok (.iload_n 2, 1) := by decide +kernel
theorem zd_City_lift_83 : decode zm_City_lift.2.1 83 = .ok (.iastore, 1) := by decide +kernel
theorem zd_City_lift_84 : decode zm_City_lift.2.1 84 = .ok (.aload_n 0, 1) := by decide +kernel
theorem zd_City_lift_85 : decode zm_City_lift.2.1 85 = .ok (.getfield 21, 3) := by decide +kernel
theorem zd_City_lift_88 : decode zm_City_lift.2.1 88 = .ok (.iload_n 1, 1) := by decide +kernel
theorem zd_City_lift_89 : decode zm_City_lift.2.1 89 = .ok (.iconst (-1), 1) := by decide +kernel
theorem zd_City_lift_90 : decode zm_City_lift.2.1 90 = .ok (.iastore, 1) := by decide +kernel
theorem zd_City_lift_91 : decode zm_City_lift.2.1 91 = .ok (.aload_n 0, 1) := by decide +kernel
theorem zd_City_lift_92 : decode zm_City_lift.2.1 92 = .ok (.getfield 24, 3) := by decide +kernel
theorem zd_City_lift_95 : decode zm_City_lift.2.1 95 = .ok (.iload_n 1, 1) := by decide +kernel
theorem zd_City_lift_96 : decode zm_City_lift.2.1 96 = .ok (.iconst (-1), 1) := by decide +kernel
theorem zd_City_lift_97 : decode zm_City_lift.2.1 97 = .ok (.iastore, 1) := by decide +kernel
theorem zd_City_lift_98 : decode zm_City_lift.2.1 98 = .ok (.return_, 1) := by decide +kernel
theorem zb_City_lift_0 {Γ : zG} {σ : zS} {o : Nat} {x1 x2 : Int32} {dc : Nat} {P : Int32 → zS → Prop} (h_o : z_oC o) (hm : z_Ci dc zm_City_placeOf [.inr (o), .inl (x1)] σ P) (hdp : dc < z_dep Γ) (k : ∀ r σ1, P r σ1 → z_J Γ zm_City_lift 5 [some (.inr (o)), some (.inl (x1)), some (.inl (x2)), none, none, none] [.inl (r)] σ1) : z_J Γ zm_City_lift 0 [some (.inr (o)), some (.inl (x1)), some (.inl (x2)), none, none, none] [] σ := by
  refine zj_aload_n zd_City_lift_0 rfl ?_
  refine zj_iload_n zd_City_lift_1 rfl ?_
  exact zj_callVi (As := [.inl (x1)]) hm hdp (zk_C0 h_o) (by decide) rfl zl_City_89 zq_City_placeOf zd_City_lift_2 rfl (Nat.le_of_ble_eq_true rfl) (fun r σ1 h => (k r σ1 h))
theorem zb_City_lift_5 {Γ : zG} {σ : zS} {o : Nat} {x1 x2 y0 : Int32} (h_o : z_oC o) (kt : y0 = (-1) → z_J Γ zm_City_lift 77 [some (.inr (o)), some (.inl (x1)), some (.inl (x2)), none, none, none] [] σ) (kf : ¬ y0 = (-1) → z_J Γ zm_City_lift 11 [some (.inr (o)), some (.inl (x1)), some (.inl (x2)), some (.inl (y0)), none, none] [] σ) : z_J Γ zm_City_lift 5 [some (.inr (o)), some (.inl (x1)), some (.inl (x2)), none, none, none] [.inl (y0)] σ := by
  refine zj_istore_n (L' := [some (.inr (o)), some (.inl (x1)), some (.inl (x2)), some (.inl (y0)), none, none]) zd_City_lift_5 (by decide) rfl ?_
  refine zj_iload_n zd_City_lift_6 rfl ?_
  refine zj_iconst (v := (-1)) zd_City_lift_7 (by decide) ?_
  exact zj_icmp_eq zd_City_lift_8 (by decide) (fun h => (zj_weak (L' := [some (.inr (o)), some (.inl (x1)), some (.inl (x2)), none, none, none]) ⟨rfl, ⟨rfl, ⟨rfl, trivial⟩⟩⟩ (kt h))) (fun h => (kf h))
theorem zb_City_lift_11 {Γ : zG} {σ : zS} {o : Nat} {x1 x2 x3 : Int32} {k1 k2 k3 : Nat} (h_o : z_oC o) (b1 : z_ix x1 12 k1) (b2 : z_ix (σ.1 (o + 4) k1) 6 k2) (b3 : z_ix (σ.1 (o + 4) k1) 6 k3) (k : z_J Γ zm_City_lift 38 [some (.inr (o)), some (.inl (x1)), some (.inl (x2)), none, some (.inl (σ.1 (o + 4) k1)), some (.inl (((σ.1 (o + 4) k1) * (nI 4)) + x3))] [] (z_pI σ (o + 6) k3 ((σ.1 (o + 6) k2) - (nI 1)))) : z_J Γ zm_City_lift 11 [some (.inr (o)), some (.inl (x1)), some (.inl (x2)), some (.inl (x3)), none, none] [] σ := by
  refine zj_aload_n zd_City_lift_11 rfl ?_
  refine zj_getR (zk_C0 h_o) (by decide) rfl zu_City (k := 4) (by decide) rfl zl_City_21 zd_City_lift_12 (o' := o + 4) rfl ?_
  refine zj_iload_n zd_City_lift_15 rfl ?_
  refine zj_iaload (zk_C4 h_o) (by decide) b1 zd_City_lift_16 ?_
  refine zj_istore (L' := [some (.inr (o)), some (.inl (x1)), some (.inl (x2)), some (.inl (x3)), some (.inl (σ.1 (o + 4) k1)), none]) zd_City_lift_17 (by decide) rfl ?_
  refine zj_aload_n zd_City_lift_19 rfl ?_
  refine zj_getR (zk_C0 h_o) (by decide) rfl zu_City (k := 7) (by decide) rfl zl_City_31 zd_City_lift_20 (o' := o + 6) rfl ?_
  refine zj_iload zd_City_lift_23 rfl ?_
  refine zj_dup2 zd_City_lift_25 ?_
  refine zj_iaload (zk_C6 h_o) (by decide) b2 zd_City_lift_26 ?_
  refine zj_iconst (v := nI 1) zd_City_lift_27 (by decide) ?_
  refine zj_isub zd_City_lift_28 ?_
  refine zj_iastore (zk_C6 h_o) (by decide) b3 zd_City_lift_29 ?_
  refine zj_iload zd_City_lift_30 rfl ?_
  refine zj_iconst (v := nI 4) zd_City_lift_32 (by decide) ?_
  refine zj_imul zd_City_lift_33 ?_
  refine zj_iload_n zd_City_lift_34 rfl ?_
  refine zj_iadd zd_City_lift_35 ?_
  refine zj_istore (L' := [some (.inr (o)), some (.inl (x1)), some (.inl (x2)), some (.inl (x3)), some (.inl (σ.1 (o + 4) k1)), some (.inl (((σ.1 (o + 4) k1) * (nI 4)) + x3))]) zd_City_lift_36 (by decide) rfl ?_
  exact (zj_weak (L' := [some (.inr (o)), some (.inl (x1)), some (.inl (x2)), none, some (.inl (σ.1 (o + 4) k1)), some (.inl (((σ.1 (o + 4) k1) * (nI 4)) + x3))]) ⟨rfl, ⟨rfl, ⟨rfl, ⟨rfl, ⟨rfl, trivial⟩⟩⟩⟩⟩ k)
theorem zb_City_lift_38 {Γ : zG} {σ : zS} {o : Nat} {x1 x2 x4 x5 : Int32} {k1 : Nat} (h_o : z_oC o) (b1 : z_ix x4 6 k1) (kt : ((x4 * (nI 4)) + (σ.1 (o + 6) k1)) ≤ x5 → z_J Γ zm_City_lift 77 [some (.inr (o)), some (.inl (x1)), some (.inl (x2)), none, none, none] [] σ) (kf : ¬ ((x4 * (nI 4)) + (σ.1 (o + 6) k1)) ≤ x5 → z_J Γ zm_City_lift 55 [some (.inr (o)), some (.inl (x1)), some (.inl (x2)), none, some (.inl (x4)), some (.inl (x5))] [] σ) : z_J Γ zm_City_lift 38 [some (.inr (o)), some (.inl (x1)), some (.inl (x2)), none, some (.inl (x4)), some (.inl (x5))] [] σ := by
  refine zj_iload zd_City_lift_38 rfl ?_
  refine zj_iload zd_City_lift_40 rfl ?_
  refine zj_iconst (v := nI 4) zd_City_lift_42 (by decide) ?_
  refine zj_imul zd_City_lift_43 ?_
  refine zj_aload_n zd_City_lift_44 rfl ?_
  refine zj_getR (zk_C0 h_o) (by decide) rfl zu_City (k := 7) (by decide) rfl zl_City_31 zd_City_lift_45 (o' := o + 6) rfl ?_
  refine zj_iload zd_City_lift_48 rfl ?_
  refine zj_iaload (zk_C6 h_o) (by decide) b1 zd_City_lift_50 ?_
  refine zj_iadd zd_City_lift_51 ?_
  exact zj_icmp_ge zd_City_lift_52 (by decide) (fun h => (zj_weak (L' := [some (.inr (o)), some (.inl (x1)), some (.inl (x2)), none, none, none]) ⟨rfl, ⟨rfl, ⟨rfl, trivial⟩⟩⟩ (kt h))) (fun h => (kf h))
theorem zb_City_lift_55 {Γ : zG} {σ : zS} {o : Nat} {x1 x2 x4 x5 : Int32} {k1 k2 : Nat} (h_o : z_oC o) (b1 : z_ix (x5 + (nI 1)) 24 k1) (b2 : z_ix x5 24 k2) (k : z_J Γ zm_City_lift 38 [some (.inr (o)), some (.inl (x1)), some (.inl (x2)), none, some (.inl (x4)), some (.inl (x5 + nI 1))] [] (z_pI σ (o + 7) k2 (σ.1 (o + 7) k1))) : z_J Γ zm_City_lift 55 [some (.inr (o)), some (.inl (x1)), some (.inl (x2)), none, some (.inl (x4)), some (.inl (x5))] [] σ := by
  refine zj_aload_n zd_City_lift_55 rfl ?_
  refine zj_getR (zk_C0 h_o) (by decide) rfl zu_City (k := 8) (by decide) rfl zl_City_34 zd_City_lift_56 (o' := o + 7) rfl ?_
  refine zj_iload zd_City_lift_59 rfl ?_
  refine zj_aload_n zd_City_lift_61 rfl ?_
  refine zj_getR (zk_C0 h_o) (by decide) rfl zu_City (k := 8) (by decide) rfl zl_City_34 zd_City_lift_62 (o' := o + 7) rfl ?_
  refine zj_iload zd_City_lift_65 rfl ?_
  refine zj_iconst (v := nI 1) zd_City_lift_67 (by decide) ?_
  refine zj_iadd zd_City_lift_68 ?_
  refine zj_iaload (zk_C7 h_o) (by decide) b1 zd_City_lift_69 ?_
  refine zj_iastore (zk_C7 h_o) (by decide) b2 zd_City_lift_70 ?_
  refine zj_iinc (v := nI 1) (L' := [some (.inr (o)), some (.inl (x1)), some (.inl (x2)), none, some (.inl (x4)), some (.inl (x5 + nI 1))]) zd_City_lift_71 rfl (by decide) (by decide) rfl ?_
  exact zj_goto zd_City_lift_74 (by decide) k
theorem zb_City_lift_77 {Γ : zG} {σ : zS} {o : Nat} {x1 x2 : Int32} {k1 k2 k3 : Nat} (h_o : z_oC o) (b1 : z_ix x1 12 k1) (b2 : z_ix x1 12 k2) (b3 : z_ix x1 12 k3) (e : z_end Γ none (z_pI (z_pI (z_pI σ (o + 3) k1 x2) (o + 4) k2 (-1)) (o + 5) k3 (-1))) : z_J Γ zm_City_lift 77 [some (.inr (o)), some (.inl (x1)), some (.inl (x2)), none, none, none] [] σ := by
  refine zj_aload_n zd_City_lift_77 rfl ?_
  refine zj_getR (zk_C0 h_o) (by decide) rfl zu_City (k := 3) (by decide) rfl zl_City_18 zd_City_lift_78 (o' := o + 3) rfl ?_
  refine zj_iload_n zd_City_lift_81 rfl ?_
  refine zj_iload_n zd_City_lift_82 rfl ?_
  refine zj_iastore (zk_C3 h_o) (by decide) b1 zd_City_lift_83 ?_
  refine zj_aload_n zd_City_lift_84 rfl ?_
  refine zj_getR (zk_C0 h_o) (by decide) rfl zu_City (k := 4) (by decide) rfl zl_City_21 zd_City_lift_85 (o' := o + 4) rfl ?_
  refine zj_iload_n zd_City_lift_88 rfl ?_
  refine zj_iconst (v := (-1)) zd_City_lift_89 (by decide) ?_
  refine zj_iastore (zk_C4 h_o) (by decide) b2 zd_City_lift_90 ?_
  refine zj_aload_n zd_City_lift_91 rfl ?_
  refine zj_getR (zk_C0 h_o) (by decide) rfl zu_City (k := 5) (by decide) rfl zl_City_24 zd_City_lift_92 (o' := o + 5) rfl ?_
  refine zj_iload_n zd_City_lift_95 rfl ?_
  refine zj_iconst (v := (-1)) zd_City_lift_96 (by decide) ?_
  refine zj_iastore (zk_C5 h_o) (by decide) b3 zd_City_lift_97 ?_
  exact zj_return rfl zd_City_lift_98 e
theorem zd_City_placeOf_0 : decode zm_City_placeOf.2.1 0 = .ok (.aload_n 0, 1) := by decide +kernel
theorem zd_City_placeOf_1 : decode zm_City_placeOf.2.1 1 = .ok (.getfield 18, 3) := by decide +kernel
theorem zd_City_placeOf_4 : decode zm_City_placeOf.2.1 4 = .ok (.iload_n 1, 1) := by decide +kernel
theorem zd_City_placeOf_5 : decode zm_City_placeOf.2.1 5 = .ok (.iaload, 1) := by decide +kernel
theorem zd_City_placeOf_6 : decode zm_City_placeOf.2.1 6 = .ok (.iconst 1, 1) := by decide +kernel
theorem zd_City_placeOf_7 : decode zm_City_placeOf.2.1 7 = .ok (.if_icmp .eq 5, 3) := by decide +kernel
theorem zd_City_placeOf_10 : decode zm_City_placeOf.2.1 10 = .ok (.iconst (-1), 1) := by decide +kernel
theorem zd_City_placeOf_11 : decode zm_City_placeOf.2.1 11 = .ok (.ireturn, 1) := by decide +kernel
theorem zd_City_placeOf_12 : decode zm_City_placeOf.2.1 12 = .ok (.aload_n 0, 1) := by decide +kernel
theorem zd_City_placeOf_13 : decode zm_City_placeOf.2.1 13 = .ok (.getfield 21, 3) := by decide +kernel
theorem zd_City_placeOf_16 : decode zm_City_placeOf.2.1 16 = .ok (.iload_n 1, 1) := by decide +kernel
theorem zd_City_placeOf_17 : decode zm_City_placeOf.2.1 17 = .ok (.iaload, 1) := by decide +kernel
theorem zd_City_placeOf_18 : decode zm_City_placeOf.2.1 18 = .ok (.istore_n 2, 1) := by decide +kernel
theorem zd_City_placeOf_19 : decode zm_City_placeOf.2.1 19 = .ok (.iconst 0, 1) := by decide +kernel
theorem zd_City_placeOf_20 : decode zm_City_placeOf.2.1 20 = .ok (.istore_n 3, 1) := by decide +kernel
theorem zd_City_placeOf_21 : decode zm_City_placeOf.2.1 21 = .ok (.iload_n 3, 1) := by decide +kernel
theorem zd_City_placeOf_22 : decode zm_City_placeOf.2.1 22 = .ok (.aload_n 0, 1) := by decide +kernel
theorem zd_City_placeOf_23 : decode zm_City_placeOf.2.1 23 = .ok (.getfield 31, 3) := by decide +kernel
theorem zd_City_placeOf_26 : decode zm_City_placeOf.2.1 26 = .ok (.iload_n 2, 1) := by decide +kernel
theorem zd_City_placeOf_27 : decode zm_City_placeOf.2.1 27 = .ok (.iaload, 1) := by decide +kernel
theorem zd_City_placeOf_28 : decode zm_City_placeOf.2.1 28 = .ok (.if_icmp .ge 21, 3) := by decide +kernel
theorem zd_City_placeOf_31 : decode zm_City_placeOf.2.1 31 = .ok (.aload_n 0, 1) := by decide +kernel
theorem zd_City_placeOf_32 : decode zm_City_placeOf.2.1 32 = .ok (.iload_n 2, 1) := by decide +kernel
theorem zd_City_placeOf_33 : decode zm_City_placeOf.2.1 33 = .ok (.iload_n 3, 1) := by decide +kernel
theorem zd_City_placeOf_34 : decode zm_City_placeOf.2.1 34 = .ok (.invokevirtual 53, 3) := by decide +kernel
theorem zd_City_placeOf_37 : decode zm_City_placeOf.2.1 37 = .ok (.iload_n 1, 1) := by decide +kernel
theorem zd_City_placeOf_38 : decode zm_City_placeOf.2.1 38 = .ok (.if_icmp .ne 5, 3) := by decide +kernel
theorem zd_City_placeOf_41 : decode zm_City_placeOf.2.1 41 = .ok (.iload_n 3, 1) := by decide +kernel
theorem zd_City_placeOf_42 : decode zm_City_placeOf.2.1 42 = .ok (.ireturn, 1) := by decide +kernel
theorem zd_City_placeOf_43 : decode zm_City_placeOf.2.1 43 = .ok (.iinc 3 1, 3) := by decide +kernel
theorem zd_City_placeOf_46 : decode zm_City_placeOf.2.1 46 = .ok (.goto (-25), 3) := by decide +kernel
theorem zd_City_placeOf_49 : decode zm_City_placeOf.2.1 49 = .ok (.iconst (-1), 1) := by decide +kernel
theorem zd_City_placeOf_50 : decode zm_City_placeOf.2.1 50 = .ok (.ireturn, 1) := by decide +kernel
theorem zb_City_placeOf_0 {Γ : zG} {σ : zS} {o : Nat} {x1 : Int32} {k1 : Nat} (h_o : z_oC o) (b1 : z_ix x1 12 k1) (kt : (σ.1 (o + 3) k1) = (nI 1) → z_J Γ zm_City_placeOf 12 [some (.inr (o)), some (.inl (x1)), none, none] [] σ) (kf : ¬ (σ.1 (o + 3) k1) = (nI 1) → z_J Γ zm_City_placeOf 10 [none, none, none, none] [] σ) : z_J Γ zm_City_placeOf 0 [some (.inr (o)), some (.inl (x1)), none, none] [] σ := by
  refine zj_aload_n zd_City_placeOf_0 rfl ?_
  refine zj_getR (zk_C0 h_o) (by decide) rfl zu_City (k := 3) (by decide) rfl zl_City_18 zd_City_placeOf_1 (o' := o + 3) rfl ?_
  refine zj_iload_n zd_City_placeOf_4 rfl ?_
  refine zj_iaload (zk_C3 h_o) (by decide) b1 zd_City_placeOf_5 ?_
  refine zj_iconst (v := nI 1) zd_City_placeOf_6 (by decide) ?_
  exact zj_icmp_eq zd_City_placeOf_7 (by decide) (fun h => (kt h)) (fun h => (zj_weak (L' := [none, none, none, none]) trivial (kf h)))
theorem zb_City_placeOf_10 {Γ : zG} {σ : zS}  (e : z_end Γ (some ((-1))) σ) : z_J Γ zm_City_placeOf 10 [none, none, none, none] [] σ := by
  refine zj_iconst (v := (-1)) zd_City_placeOf_10 (by decide) ?_
  exact zj_ireturn rfl zd_City_placeOf_11 e
theorem zb_City_placeOf_12 {Γ : zG} {σ : zS} {o : Nat} {x1 : Int32} {k1 : Nat} (h_o : z_oC o) (b1 : z_ix x1 12 k1) (k : z_J Γ zm_City_placeOf 21 [some (.inr (o)), some (.inl (x1)), some (.inl (σ.1 (o + 4) k1)), some (.inl (nI 0))] [] σ) : z_J Γ zm_City_placeOf 12 [some (.inr (o)), some (.inl (x1)), none, none] [] σ := by
  refine zj_aload_n zd_City_placeOf_12 rfl ?_
  refine zj_getR (zk_C0 h_o) (by decide) rfl zu_City (k := 4) (by decide) rfl zl_City_21 zd_City_placeOf_13 (o' := o + 4) rfl ?_
  refine zj_iload_n zd_City_placeOf_16 rfl ?_
  refine zj_iaload (zk_C4 h_o) (by decide) b1 zd_City_placeOf_17 ?_
  refine zj_istore_n (L' := [some (.inr (o)), some (.inl (x1)), some (.inl (σ.1 (o + 4) k1)), none]) zd_City_placeOf_18 (by decide) rfl ?_
  refine zj_iconst (v := nI 0) zd_City_placeOf_19 (by decide) ?_
  refine zj_istore_n (L' := [some (.inr (o)), some (.inl (x1)), some (.inl (σ.1 (o + 4) k1)), some (.inl (nI 0))]) zd_City_placeOf_20 (by decide) rfl ?_
  exact k
theorem zb_City_placeOf_21 {Γ : zG} {σ : zS} {o : Nat} {x1 x2 x3 : Int32} {k1 : Nat} (h_o : z_oC o) (b1 : z_ix x2 6 k1) (kt : (σ.1 (o + 6) k1) ≤ x3 → z_J Γ zm_City_placeOf 49 [none, none, none, none] [] σ) (kf : ¬ (σ.1 (o + 6) k1) ≤ x3 → z_J Γ zm_City_placeOf 31 [some (.inr (o)), some (.inl (x1)), some (.inl (x2)), some (.inl (x3))] [] σ) : z_J Γ zm_City_placeOf 21 [some (.inr (o)), some (.inl (x1)), some (.inl (x2)), some (.inl (x3))] [] σ := by
  refine zj_iload_n zd_City_placeOf_21 rfl ?_
  refine zj_aload_n zd_City_placeOf_22 rfl ?_
  refine zj_getR (zk_C0 h_o) (by decide) rfl zu_City (k := 7) (by decide) rfl zl_City_31 zd_City_placeOf_23 (o' := o + 6) rfl ?_
  refine zj_iload_n zd_City_placeOf_26 rfl ?_
  refine zj_iaload (zk_C6 h_o) (by decide) b1 zd_City_placeOf_27 ?_
  exact zj_icmp_ge zd_City_placeOf_28 (by decide) (fun h => (zj_weak (L' := [none, none, none, none]) trivial (kt h))) (fun h => (kf h))
theorem zb_City_placeOf_31 {Γ : zG} {σ : zS} {o : Nat} {x1 x2 x3 : Int32} {dc : Nat} {P : Int32 → zS → Prop} (h_o : z_oC o) (hm : z_Ci dc zm_City_bookAt [.inr (o), .inl (x2), .inl (x3)] σ P) (hdp : dc < z_dep Γ) (k : ∀ r σ1, P r σ1 → z_J Γ zm_City_placeOf 37 [some (.inr (o)), some (.inl (x1)), some (.inl (x2)), some (.inl (x3))] [.inl (r)] σ1) : z_J Γ zm_City_placeOf 31 [some (.inr (o)), some (.inl (x1)), some (.inl (x2)), some (.inl (x3))] [] σ := by
  refine zj_aload_n zd_City_placeOf_31 rfl ?_
  refine zj_iload_n zd_City_placeOf_32 rfl ?_
  refine zj_iload_n zd_City_placeOf_33 rfl ?_
  exact zj_callVi (As := [.inl (x2), .inl (x3)]) hm hdp (zk_C0 h_o) (by decide) rfl zl_City_53 zq_City_bookAt zd_City_placeOf_34 rfl (Nat.le_of_ble_eq_true rfl) (fun r σ1 h => (k r σ1 h))
theorem zb_City_placeOf_37 {Γ : zG} {σ : zS} {o : Nat} {x1 x2 x3 y0 : Int32} (h_o : z_oC o) (kt : ¬ y0 = x1 → z_J Γ zm_City_placeOf 43 [some (.inr (o)), some (.inl (x1)), some (.inl (x2)), some (.inl (x3))] [] σ) (kf : y0 = x1 → z_J Γ zm_City_placeOf 41 [none, none, none, some (.inl (x3))] [] σ) : z_J Γ zm_City_placeOf 37 [some (.inr (o)), some (.inl (x1)), some (.inl (x2)), some (.inl (x3))] [.inl (y0)] σ := by
  refine zj_iload_n zd_City_placeOf_37 rfl ?_
  exact zj_icmp_ne zd_City_placeOf_38 (by decide) (fun h => (kt h)) (fun h => (zj_weak (L' := [none, none, none, some (.inl (x3))]) ⟨rfl, trivial⟩ (kf h)))
theorem zb_City_placeOf_41 {Γ : zG} {σ : zS} {x3 : Int32}  (e : z_end Γ (some (x3)) σ) : z_J Γ zm_City_placeOf 41 [none, none, none, some (.inl (x3))] [] σ := by
  refine zj_iload_n zd_City_placeOf_41 rfl ?_
  exact zj_ireturn rfl zd_City_placeOf_42 e
theorem zb_City_placeOf_43 {Γ : zG} {σ : zS} {o : Nat} {x1 x2 x3 : Int32} (h_o : z_oC o) (k : z_J Γ zm_City_placeOf 21 [some (.inr (o)), some (.inl (x1)), some (.inl (x2)), some (.inl (x3 + nI 1))] [] σ) : z_J Γ zm_City_placeOf 43 [some (.inr (o)), some (.inl (x1)), some (.inl (x2)), some (.inl (x3))] [] σ := by
  refine zj_iinc (v := nI 1) (L' := [some (.inr (o)), some (.inl (x1)), some (.inl (x2)), some (.inl (x3 + nI 1))]) zd_City_placeOf_43 rfl (by decide) (by decide) rfl ?_
  exact zj_goto zd_City_placeOf_46 (by decide) k
theorem zb_City_placeOf_49 {Γ : zG} {σ : zS}  (e : z_end Γ (some ((-1))) σ) : z_J Γ zm_City_placeOf 49 [none, none, none, none] [] σ := by
  refine zj_iconst (v := (-1)) zd_City_placeOf_49 (by decide) ?_
  exact zj_ireturn rfl zd_City_placeOf_50 e
theorem zd_City_bookAt_0 : decode zm_City_bookAt.2.1 0 = .ok (.aload_n 0, 1) := by decide +kernel
theorem zd_City_bookAt_1 : decode zm_City_bookAt.2.1 1 = .ok (.getfield 34, 3) := by decide +kernel
theorem zd_City_bookAt_4 : decode zm_City_bookAt.2.1 4 = .ok (.iload_n 1, 1) := by decide +kernel
theorem zd_City_bookAt_5 : decode zm_City_bookAt.2.1 5 = .ok (.iconst 4, 1) := by decide +kernel
theorem zd_City_bookAt_6 : decode zm_City_bookAt.2.1 6 = .ok (.imul, 1) := by decide +kernel
theorem zd_City_bookAt_7 : decode zm_City_bookAt.2.1 7 = .ok (.iload_n 2, 1) := by decide +kernel
theorem zd_City_bookAt_8 : decode zm_City_bookAt.2.1 8 = .ok (.iadd, 1) := by decide +kernel
theorem zd_City_bookAt_9 : decode zm_City_bookAt.2.1 9 = .ok (.iaload, 1) := by decide +kernel
theorem zd_City_bookAt_10 : decode zm_City_bookAt.2.1 10 = .ok (.ireturn, 1) := by decide +kernel
theorem zb_City_bookAt_0 {Γ : zG} {σ : zS} {o : Nat} {x1 x2 : Int32} {k1 : Nat} (h_o : z_oC o) (b1 : z_ix ((x1 * (nI 4)) + x2) 24 k1) (e : z_end Γ (some (σ.1 (o + 7) k1)) σ) : z_J Γ zm_City_bookAt 0 [some (.inr (o)), some (.inl (x1)), some (.inl (x2))] [] σ := by
  refine zj_aload_n zd_City_bookAt_0 rfl ?_
  refine zj_getR (zk_C0 h_o) (by decide) rfl zu_City (k := 8) (by decide) rfl zl_City_34 zd_City_bookAt_1 (o' := o + 7) rfl ?_
  refine zj_iload_n zd_City_bookAt_4 rfl ?_
  refine zj_iconst (v := nI 4) zd_City_bookAt_5 (by decide) ?_
  refine zj_imul zd_City_bookAt_6 ?_
  refine zj_iload_n zd_City_bookAt_7 rfl ?_
  refine zj_iadd zd_City_bookAt_8 ?_
  refine zj_iaload (zk_C7 h_o) (by decide) b1 zd_City_bookAt_9 ?_
  exact zj_ireturn rfl zd_City_bookAt_10 e
theorem zd_City_copyFrom_0 : decode zm_City_copyFrom.2.1 0 = .ok (.aload_n 0, 1) := by decide +kernel
theorem zd_City_copyFrom_1 : decode zm_City_copyFrom.2.1 1 = .ok (.aload_n 1, 1) := by decide +kernel
theorem zd_City_copyFrom_2 : decode zm_City_copyFrom.2.1 2 = .ok (.getfield 43, 3) := by decide +kernel
theorem zd_City_copyFrom_5 : decode zm_City_copyFrom.2.1 5 = .ok (.putfield 43, 3) := by decide +kernel
theorem zd_City_copyFrom_8 : decode zm_City_copyFrom.2.1 8 = .ok (.aload_n 0, 1) := by decide +kernel
theorem zd_City_copyFrom_9 : decode zm_City_copyFrom.2.1 9 = .ok (.aload_n 1, 1) := by decide +kernel
theorem zd_City_copyFrom_10 : decode zm_City_copyFrom.2.1 10 = .ok (.getfield 27, 3) := by decide +kernel
theorem zd_City_copyFrom_13 : decode zm_City_copyFrom.2.1 13 = .ok (.putfield 27, 3) := by decide +kernel
theorem zd_City_copyFrom_16 : decode zm_City_copyFrom.2.1 16 = .ok (.aload_n 0, 1) := by decide +kernel
theorem zd_City_copyFrom_17 : decode zm_City_copyFrom.2.1 17 = .ok (.aload_n 1, 1) := by decide +kernel
theorem zd_City_copyFrom_18 : decode zm_City_copyFrom.2.1 18 = .ok (.getfield 46, 3) := by decide +kernel
theorem zd_City_copyFrom_21 : decode zm_City_copyFrom.2.1 21 = .ok (.putfield 46, 3) := by decide +kernel
theorem zd_City_copyFrom_24 : decode zm_City_copyFrom.2.1 24 = .ok (.aload_n 0, 1) := by decide +kernel
theorem zd_City_copyFrom_25 : decode zm_City_copyFrom.2.1 25 = .ok (.aload_n 1, 1) := by decide +kernel
theorem zd_City_copyFrom_26 : decode zm_City_copyFrom.2.1 26 = .ok (.getfield 72, 3) := by decide +kernel
theorem zd_City_copyFrom_29 : decode zm_City_copyFrom.2.1 29 = .ok (.putfield 72, 3) := by decide +kernel
theorem zd_City_copyFrom_32 : decode zm_City_copyFrom.2.1 32 = .ok (.aload_n 1, 1) := by decide +kernel
theorem zd_City_copyFrom_33 : decode zm_City_copyFrom.2.1 33 = .ok (.getfield 9, 3) := by decide +kernel
theorem zd_City_copyFrom_36 : decode zm_City_copyFrom.2.1 36 = .ok (.iconst 0, 1) := by decide +kernel
theorem zd_City_copyFrom_37 : decode zm_City_copyFrom.2.1 37 = .ok (.aload_n 0, 1) := by decide +kernel
theorem zd_City_copyFrom_38 : decode zm_City_copyFrom.2.1 38 = .ok (.getfield 9, 3) := by decide +kernel
theorem zd_City_copyFrom_41 : decode zm_City_copyFrom.2.1 41 = .ok (.iconst 0, 1) := by decide +kernel
theorem zd_City_copyFrom_42 : decode zm_City_copyFrom.2.1 42 = .ok (.bipush 12, 2) := by decide +kernel
theorem zd_City_copyFrom_44 : decode zm_City_copyFrom.2.1 44 = .ok (.invokestatic 135, 3) := by decide +kernel
theorem zd_City_copyFrom_47 : decode zm_City_copyFrom.2.1 47 = .ok (.aload_n 1, 1) := by decide +kernel
theorem zd_City_copyFrom_48 : decode zm_City_copyFrom.2.1 48 = .ok (.getfield 15, 3) := by decide +kernel
theorem zd_City_copyFrom_51 : decode zm_City_copyFrom.2.1 51 = .ok (.iconst 0, 1) := by decide +kernel
theorem zd_City_copyFrom_52 : decode zm_City_copyFrom.2.1 52 = .ok (.aload_n 0, 1) := by decide +kernel
theorem zd_City_copyFrom_53 : decode zm_City_copyFrom.2.1 53 = .ok (.getfield 15, 3) := by decide +kernel
theorem zd_City_copyFrom_56 : decode zm_City_copyFrom.2.1 56 = .ok (.iconst 0, 1) := by decide +kernel
theorem zd_City_copyFrom_57 : decode zm_City_copyFrom.2.1 57 = .ok (.bipush 12, 2) := by decide +kernel
theorem zd_City_copyFrom_59 : decode zm_City_copyFrom.2.1 59 = .ok (.invokestatic 135, 3) := by decide +kernel
theorem zd_City_copyFrom_62 : decode zm_City_copyFrom.2.1 62 = .ok (.aload_n 1, 1) := by decide +kernel
theorem zd_City_copyFrom_63 : decode zm_City_copyFrom.2.1 63 = .ok (.getfield 18, 3) := by decide +kernel
theorem zd_City_copyFrom_66 : decode zm_City_copyFrom.2.1 66 = .ok (.iconst 0, 1) := by decide +kernel
theorem zd_City_copyFrom_67 : decode zm_City_copyFrom.2.1 67 = .ok (.aload_n 0, 1) := by decide +kernel
theorem zd_City_copyFrom_68 : decode zm_City_copyFrom.2.1 68 = .ok (.getfield 18, 3) := by decide +kernel
theorem zd_City_copyFrom_71 : decode zm_City_copyFrom.2.1 71 = .ok (.iconst 0, 1) := by decide +kernel
theorem zd_City_copyFrom_72 : decode zm_City_copyFrom.2.1 72 = .ok (.bipush 12, 2) := by decide +kernel
theorem zd_City_copyFrom_74 : decode zm_City_copyFrom.2.1 74 = .ok (.invokestatic 135, 3) := by decide +kernel
theorem zd_City_copyFrom_77 : decode zm_City_copyFrom.2.1 77 = .ok (.aload_n 1, 1) := by decide +kernel
theorem zd_City_copyFrom_78 : decode zm_City_copyFrom.2.1 78 = .ok (.getfield 21, 3) := by decide +kernel
theorem zd_City_copyFrom_81 : decode zm_City_copyFrom.2.1 81 = .ok (.iconst 0, 1) := by decide +kernel
theorem zd_City_copyFrom_82 : decode zm_City_copyFrom.2.1 82 = .ok (.aload_n 0, 1) := by decide +kernel
theorem zd_City_copyFrom_83 : decode zm_City_copyFrom.2.1 83 = .ok (.getfield 21, 3) := by decide +kernel
theorem zd_City_copyFrom_86 : decode zm_City_copyFrom.2.1 86 = .ok (.iconst 0, 1) := by decide +kernel
theorem zd_City_copyFrom_87 : decode zm_City_copyFrom.2.1 87 = .ok (.bipush 12, 2) := by decide +kernel
theorem zd_City_copyFrom_89 : decode zm_City_copyFrom.2.1 89 = .ok (.invokestatic 135, 3) := by decide +kernel
theorem zd_City_copyFrom_92 : decode zm_City_copyFrom.2.1 92 = .ok (.aload_n 1, 1) := by decide +kernel
theorem zd_City_copyFrom_93 : decode zm_City_copyFrom.2.1 93 = .ok (.getfield 24, 3) := by decide +kernel
theorem zd_City_copyFrom_96 : decode zm_City_copyFrom.2.1 96 = .ok (.iconst 0, 1) := by decide +kernel
theorem zd_City_copyFrom_97 : decode zm_City_copyFrom.2.1 97 = .ok (.aload_n 0, 1) := by decide +kernel
theorem zd_City_copyFrom_98 : decode zm_City_copyFrom.2.1 98 = .ok (.getfield 24, 3) := by decide +kernel
theorem zd_City_copyFrom_101 : decode zm_City_copyFrom.2.1 101 = .ok (.iconst 0, 1) := by decide +kernel
theorem zd_City_copyFrom_102 : decode zm_City_copyFrom.2.1 102 = .ok (.bipush 12, 2) := by decide +kernel
theorem zd_City_copyFrom_104 : decode zm_City_copyFrom.2.1 104 = .ok (.invokestatic 135, 3) := by decide +kernel
theorem zd_City_copyFrom_107 : decode zm_City_copyFrom.2.1 107 = .ok (.aload_n 1, 1) := by decide +kernel
theorem zd_City_copyFrom_108 : decode zm_City_copyFrom.2.1 108 = .ok (.getfield 31, 3) := by decide +kernel
theorem zd_City_copyFrom_111 : decode zm_City_copyFrom.2.1 111 = .ok (.iconst 0, 1) := by decide +kernel
theorem zd_City_copyFrom_112 : decode zm_City_copyFrom.2.1 112 = .ok (.aload_n 0, 1) := by decide +kernel
theorem zd_City_copyFrom_113 : decode zm_City_copyFrom.2.1 113 = .ok (.getfield 31, 3) := by decide +kernel
theorem zd_City_copyFrom_116 : decode zm_City_copyFrom.2.1 116 = .ok (.iconst 0, 1) := by decide +kernel
theorem zd_City_copyFrom_117 : decode zm_City_copyFrom.2.1 117 = .ok (.bipush 6, 2) := by decide +kernel
theorem zd_City_copyFrom_119 : decode zm_City_copyFrom.2.1 119 = .ok (.invokestatic 135, 3) := by decide +kernel
theorem zd_City_copyFrom_122 : decode zm_City_copyFrom.2.1 122 = .ok (.aload_n 1, 1) := by decide +kernel
theorem zd_City_copyFrom_123 : decode zm_City_copyFrom.2.1 123 = .ok (.getfield 34, 3) := by decide +kernel
theorem zd_City_copyFrom_126 : decode zm_City_copyFrom.2.1 126 = .ok (.iconst 0, 1) := by decide +kernel
theorem zd_City_copyFrom_127 : decode zm_City_copyFrom.2.1 127 = .ok (.aload_n 0, 1) := by decide +kernel
theorem zd_City_copyFrom_128 : decode zm_City_copyFrom.2.1 128 = .ok (.getfield 34, 3) := by decide +kernel
theorem zd_City_copyFrom_131 : decode zm_City_copyFrom.2.1 131 = .ok (.iconst 0, 1) := by decide +kernel
theorem zd_City_copyFrom_132 : decode zm_City_copyFrom.2.1 132 = .ok (.bipush 24, 2) := by decide +kernel
theorem zd_City_copyFrom_134 : decode zm_City_copyFrom.2.1 134 = .ok (.invokestatic 135, 3) := by decide +kernel
theorem zd_City_copyFrom_137 : decode zm_City_copyFrom.2.1 137 = .ok (.aload_n 1, 1) := by decide +kernel
theorem zd_City_copyFrom_138 : decode zm_City_copyFrom.2.1 138 = .ok (.getfield 37, 3) := by decide +kernel
theorem zd_City_copyFrom_141 : decode zm_City_copyFrom.2.1 141 = .ok (.iconst 0, 1) := by decide +kernel
theorem zd_City_copyFrom_142 : decode zm_City_copyFrom.2.1 142 = .ok (.aload_n 0, 1) := by decide +kernel
theorem zd_City_copyFrom_143 : decode zm_City_copyFrom.2.1 143 = .ok (.getfield 37, 3) := by decide +kernel
theorem zd_City_copyFrom_146 : decode zm_City_copyFrom.2.1 146 = .ok (.iconst 0, 1) := by decide +kernel
theorem zd_City_copyFrom_147 : decode zm_City_copyFrom.2.1 147 = .ok (.iconst 4, 1) := by decide +kernel
theorem zd_City_copyFrom_148 : decode zm_City_copyFrom.2.1 148 = .ok (.invokestatic 135, 3) := by decide +kernel
theorem zd_City_copyFrom_151 : decode zm_City_copyFrom.2.1 151 = .ok (.aload_n 1, 1) := by decide +kernel
theorem zd_City_copyFrom_152 : decode zm_City_copyFrom.2.1 152 = .ok (.getfield 40, 3) := by decide +kernel
theorem zd_City_copyFrom_155 : decode zm_City_copyFrom.2.1 155 = .ok (.iconst 0, 1) := by decide +kernel
theorem zd_City_copyFrom_156 : decode zm_City_copyFrom.2.1 156 = .ok (.aload_n 0, 1) := by decide +kernel
theorem zd_City_copyFrom_157 : decode zm_City_copyFrom.2.1 157 = .ok (.getfield 40, 3) := by decide +kernel
theorem zd_City_copyFrom_160 : decode zm_City_copyFrom.2.1 160 = .ok (.iconst 0, 1) := by decide +kernel
theorem zd_City_copyFrom_161 : decode zm_City_copyFrom.2.1 161 = .ok (.iconst 4, 1) := by decide +kernel
theorem zd_City_copyFrom_162 : decode zm_City_copyFrom.2.1 162 = .ok (.invokestatic 135, 3) := by decide +kernel
theorem zd_City_copyFrom_165 : decode zm_City_copyFrom.2.1 165 = .ok (.return_, 1) := by decide +kernel
theorem zb_City_copyFrom_0 {Γ : zG} {σ : zS} {o : Nat} {c1 : Nat} {i1 j1 l1 : Nat} (h_o : z_oC o) (h_c1 : z_oC c1) (hdp : 0 < z_dep Γ) (p1 : nI 0 = nI i1) (q1 : nI 0 = nI j1) (r1 : nI 12 = nI l1) (s1 : i1 + l1 ≤ 12) (t1 : j1 + l1 ≤ 12) (k : z_J Γ zm_City_copyFrom 47 [some (.inr (o)), some (.inr (c1))] [] (z_pA (z_pI (z_pI (z_pI (z_pI σ o 0 (σ.1 c1 0)) o 6 ((z_pI σ o 0 (σ.1 c1 0)).1 c1 6)) o 9 ((z_pI (z_pI σ o 0 (σ.1 c1 0)) o 6 ((z_pI σ o 0 (σ.1 c1 0)).1 c1 6)).1 c1 9)) o 12 ((z_pI (z_pI (z_pI σ o 0 (σ.1 c1 0)) o 6 ((z_pI σ o 0 (σ.1 c1 0)).1 c1 6)) o 9 ((z_pI (z_pI σ o 0 (σ.1 c1 0)) o 6 ((z_pI σ o 0 (σ.1 c1 0)).1 c1 6)).1 c1 9)).1 c1 12)) (o + 1) (va_cpy ((z_pI (z_pI (z_pI (z_pI σ o 0 (σ.1 c1 0)) o 6 ((z_pI σ o 0 (σ.1 c1 0)).1 c1 6)) o 9 ((z_pI (z_pI σ o 0 (σ.1 c1 0)) o 6 ((z_pI σ o 0 (σ.1 c1 0)).1 c1 6)).1 c1 9)) o 12 ((z_pI (z_pI (z_pI σ o 0 (σ.1 c1 0)) o 6 ((z_pI σ o 0 (σ.1 c1 0)).1 c1 6)) o 9 ((z_pI (z_pI σ o 0 (σ.1 c1 0)) o 6 ((z_pI σ o 0 (σ.1 c1 0)).1 c1 6)).1 c1 9)).1 c1 12)).1 (c1 + 1)) ((z_pI (z_pI (z_pI (z_pI σ o 0 (σ.1 c1 0)) o 6 ((z_pI σ o 0 (σ.1 c1 0)).1 c1 6)) o 9 ((z_pI (z_pI σ o 0 (σ.1 c1 0)) o 6 ((z_pI σ o 0 (σ.1 c1 0)).1 c1 6)).1 c1 9)) o 12 ((z_pI (z_pI (z_pI σ o 0 (σ.1 c1 0)) o 6 ((z_pI σ o 0 (σ.1 c1 0)).1 c1 6)) o 9 ((z_pI (z_pI σ o 0 (σ.1 c1 0)) o 6 ((z_pI σ o 0 (σ.1 c1 0)).1 c1 6)).1 c1 9)).1 c1 12)).1 (o + 1)) i1 j1 l1))) : z_J Γ zm_City_copyFrom 0 [some (.inr (o)), some (.inr (c1))] [] σ := by
  refine zj_aload_n zd_City_copyFrom_0 rfl ?_
  refine zj_aload_n zd_City_copyFrom_1 rfl ?_
  refine zj_getI (zk_C0 h_c1) (by decide) rfl zu_City (k := 0) (by decide) rfl zl_City_43 zd_City_copyFrom_2 ?_
  refine zj_putI (zk_C0 h_o) (by decide) rfl zu_City zy_City_ok zn_City (k := 0) (by decide) rfl rfl zl_City_43 rfl rfl zd_City_copyFrom_5 ?_
  refine zj_aload_n zd_City_copyFrom_8 rfl ?_
  refine zj_aload_n zd_City_copyFrom_9 rfl ?_
  refine zj_getI (zk_C0 h_c1) (by decide) rfl zu_City (k := 6) (by decide) rfl zl_City_27 zd_City_copyFrom_10 ?_
  refine zj_putI (zk_C0 h_o) (by decide) rfl zu_City zy_City_ok zn_City (k := 6) (by decide) rfl rfl zl_City_27 rfl rfl zd_City_copyFrom_13 ?_
  refine zj_aload_n zd_City_copyFrom_16 rfl ?_
  refine zj_aload_n zd_City_copyFrom_17 rfl ?_
  refine zj_getI (zk_C0 h_c1) (by decide) rfl zu_City (k := 9) (by decide) rfl zl_City_46 zd_City_copyFrom_18 ?_
  refine zj_putI (zk_C0 h_o) (by decide) rfl zu_City zy_City_ok zn_City (k := 9) (by decide) rfl rfl zl_City_46 rfl rfl zd_City_copyFrom_21 ?_
  refine zj_aload_n zd_City_copyFrom_24 rfl ?_
  refine zj_aload_n zd_City_copyFrom_25 rfl ?_
  refine zj_getI (zk_C0 h_c1) (by decide) rfl zu_City (k := 12) (by decide) rfl zl_City_72 zd_City_copyFrom_26 ?_
  refine zj_putI (zk_C0 h_o) (by decide) rfl zu_City zy_City_ok zn_City (k := 12) (by decide) rfl rfl zl_City_72 rfl rfl zd_City_copyFrom_29 ?_
  refine zj_aload_n zd_City_copyFrom_32 rfl ?_
  refine zj_getR (zk_C0 h_c1) (by decide) rfl zu_City (k := 1) (by decide) rfl zl_City_9 zd_City_copyFrom_33 (o' := c1 + 1) rfl ?_
  refine zj_iconst (v := nI 0) zd_City_copyFrom_36 (by decide) ?_
  refine zj_aload_n zd_City_copyFrom_37 rfl ?_
  refine zj_getR (zk_C0 h_o) (by decide) rfl zu_City (k := 1) (by decide) rfl zl_City_9 zd_City_copyFrom_38 (o' := o + 1) rfl ?_
  refine zj_iconst (v := nI 0) zd_City_copyFrom_41 (by decide) ?_
  refine zj_bipush (v := nI 12) zd_City_copyFrom_42 (by decide) ?_
  refine zj_acopy zl_City_135 zx_acopy_n zx_acopy_s zx_System (zk_C1 h_c1) (zk_C1 h_o) (by decide) (by decide) p1 q1 r1 s1 t1 hdp (Nat.le_of_ble_eq_true rfl) zd_City_copyFrom_44 ?_
  exact k
theorem zb_City_copyFrom_47 {Γ : zG} {σ : zS} {o : Nat} {c1 : Nat} {i1 j1 l1 : Nat} (h_o : z_oC o) (h_c1 : z_oC c1) (hdp : 0 < z_dep Γ) (p1 : nI 0 = nI i1) (q1 : nI 0 = nI j1) (r1 : nI 12 = nI l1) (s1 : i1 + l1 ≤ 12) (t1 : j1 + l1 ≤ 12) (k : z_J Γ zm_City_copyFrom 62 [some (.inr (o)), some (.inr (c1))] [] (z_pA σ (o + 2) (va_cpy (σ.1 (c1 + 2)) (σ.1 (o + 2)) i1 j1 l1))) : z_J Γ zm_City_copyFrom 47 [some (.inr (o)), some (.inr (c1))] [] σ := by
  refine zj_aload_n zd_City_copyFrom_47 rfl ?_
  refine zj_getR (zk_C0 h_c1) (by decide) rfl zu_City (k := 2) (by decide) rfl zl_City_15 zd_City_copyFrom_48 (o' := c1 + 2) rfl ?_
  refine zj_iconst (v := nI 0) zd_City_copyFrom_51 (by decide) ?_
  refine zj_aload_n zd_City_copyFrom_52 rfl ?_
  refine zj_getR (zk_C0 h_o) (by decide) rfl zu_City (k := 2) (by decide) rfl zl_City_15 zd_City_copyFrom_53 (o' := o + 2) rfl ?_
  refine zj_iconst (v := nI 0) zd_City_copyFrom_56 (by decide) ?_
  refine zj_bipush (v := nI 12) zd_City_copyFrom_57 (by decide) ?_
  refine zj_acopy zl_City_135 zx_acopy_n zx_acopy_s zx_System (zk_C2 h_c1) (zk_C2 h_o) (by decide) (by decide) p1 q1 r1 s1 t1 hdp (Nat.le_of_ble_eq_true rfl) zd_City_copyFrom_59 ?_
  exact k
theorem zb_City_copyFrom_62 {Γ : zG} {σ : zS} {o : Nat} {c1 : Nat} {i1 j1 l1 : Nat} (h_o : z_oC o) (h_c1 : z_oC c1) (hdp : 0 < z_dep Γ) (p1 : nI 0 = nI i1) (q1 : nI 0 = nI j1) (r1 : nI 12 = nI l1) (s1 : i1 + l1 ≤ 12) (t1 : j1 + l1 ≤ 12) (k : z_J Γ zm_City_copyFrom 77 [some (.inr (o)), some (.inr (c1))] [] (z_pA σ (o + 3) (va_cpy (σ.1 (c1 + 3)) (σ.1 (o + 3)) i1 j1 l1))) : z_J Γ zm_City_copyFrom 62 [some (.inr (o)), some (.inr (c1))] [] σ := by
  refine zj_aload_n zd_City_copyFrom_62 rfl ?_
  refine zj_getR (zk_C0 h_c1) (by decide) rfl zu_City (k := 3) (by decide) rfl zl_City_18 zd_City_copyFrom_63 (o' := c1 + 3) rfl ?_
  refine zj_iconst (v := nI 0) zd_City_copyFrom_66 (by decide) ?_
  refine zj_aload_n zd_City_copyFrom_67 rfl ?_
  refine zj_getR (zk_C0 h_o) (by decide) rfl zu_City (k := 3) (by decide) rfl zl_City_18 zd_City_copyFrom_68 (o' := o + 3) rfl ?_
  refine zj_iconst (v := nI 0) zd_City_copyFrom_71 (by decide) ?_
  refine zj_bipush (v := nI 12) zd_City_copyFrom_72 (by decide) ?_
  refine zj_acopy zl_City_135 zx_acopy_n zx_acopy_s zx_System (zk_C3 h_c1) (zk_C3 h_o) (by decide) (by decide) p1 q1 r1 s1 t1 hdp (Nat.le_of_ble_eq_true rfl) zd_City_copyFrom_74 ?_
  exact k
theorem zb_City_copyFrom_77 {Γ : zG} {σ : zS} {o : Nat} {c1 : Nat} {i1 j1 l1 : Nat} (h_o : z_oC o) (h_c1 : z_oC c1) (hdp : 0 < z_dep Γ) (p1 : nI 0 = nI i1) (q1 : nI 0 = nI j1) (r1 : nI 12 = nI l1) (s1 : i1 + l1 ≤ 12) (t1 : j1 + l1 ≤ 12) (k : z_J Γ zm_City_copyFrom 92 [some (.inr (o)), some (.inr (c1))] [] (z_pA σ (o + 4) (va_cpy (σ.1 (c1 + 4)) (σ.1 (o + 4)) i1 j1 l1))) : z_J Γ zm_City_copyFrom 77 [some (.inr (o)), some (.inr (c1))] [] σ := by
  refine zj_aload_n zd_City_copyFrom_77 rfl ?_
  refine zj_getR (zk_C0 h_c1) (by decide) rfl zu_City (k := 4) (by decide) rfl zl_City_21 zd_City_copyFrom_78 (o' := c1 + 4) rfl ?_
  refine zj_iconst (v := nI 0) zd_City_copyFrom_81 (by decide) ?_
  refine zj_aload_n zd_City_copyFrom_82 rfl ?_
  refine zj_getR (zk_C0 h_o) (by decide) rfl zu_City (k := 4) (by decide) rfl zl_City_21 zd_City_copyFrom_83 (o' := o + 4) rfl ?_
  refine zj_iconst (v := nI 0) zd_City_copyFrom_86 (by decide) ?_
  refine zj_bipush (v := nI 12) zd_City_copyFrom_87 (by decide) ?_
  refine zj_acopy zl_City_135 zx_acopy_n zx_acopy_s zx_System (zk_C4 h_c1) (zk_C4 h_o) (by decide) (by decide) p1 q1 r1 s1 t1 hdp (Nat.le_of_ble_eq_true rfl) zd_City_copyFrom_89 ?_
  exact k
theorem zb_City_copyFrom_92 {Γ : zG} {σ : zS} {o : Nat} {c1 : Nat} {i1 j1 l1 : Nat} (h_o : z_oC o) (h_c1 : z_oC c1) (hdp : 0 < z_dep Γ) (p1 : nI 0 = nI i1) (q1 : nI 0 = nI j1) (r1 : nI 12 = nI l1) (s1 : i1 + l1 ≤ 12) (t1 : j1 + l1 ≤ 12) (k : z_J Γ zm_City_copyFrom 107 [some (.inr (o)), some (.inr (c1))] [] (z_pA σ (o + 5) (va_cpy (σ.1 (c1 + 5)) (σ.1 (o + 5)) i1 j1 l1))) : z_J Γ zm_City_copyFrom 92 [some (.inr (o)), some (.inr (c1))] [] σ := by
  refine zj_aload_n zd_City_copyFrom_92 rfl ?_
  refine zj_getR (zk_C0 h_c1) (by decide) rfl zu_City (k := 5) (by decide) rfl zl_City_24 zd_City_copyFrom_93 (o' := c1 + 5) rfl ?_
  refine zj_iconst (v := nI 0) zd_City_copyFrom_96 (by decide) ?_
  refine zj_aload_n zd_City_copyFrom_97 rfl ?_
  refine zj_getR (zk_C0 h_o) (by decide) rfl zu_City (k := 5) (by decide) rfl zl_City_24 zd_City_copyFrom_98 (o' := o + 5) rfl ?_
  refine zj_iconst (v := nI 0) zd_City_copyFrom_101 (by decide) ?_
  refine zj_bipush (v := nI 12) zd_City_copyFrom_102 (by decide) ?_
  refine zj_acopy zl_City_135 zx_acopy_n zx_acopy_s zx_System (zk_C5 h_c1) (zk_C5 h_o) (by decide) (by decide) p1 q1 r1 s1 t1 hdp (Nat.le_of_ble_eq_true rfl) zd_City_copyFrom_104 ?_
  exact k
theorem zb_City_copyFrom_107 {Γ : zG} {σ : zS} {o : Nat} {c1 : Nat} {i1 j1 l1 : Nat} (h_o : z_oC o) (h_c1 : z_oC c1) (hdp : 0 < z_dep Γ) (p1 : nI 0 = nI i1) (q1 : nI 0 = nI j1) (r1 : nI 6 = nI l1) (s1 : i1 + l1 ≤ 6) (t1 : j1 + l1 ≤ 6) (k : z_J Γ zm_City_copyFrom 122 [some (.inr (o)), some (.inr (c1))] [] (z_pA σ (o + 6) (va_cpy (σ.1 (c1 + 6)) (σ.1 (o + 6)) i1 j1 l1))) : z_J Γ zm_City_copyFrom 107 [some (.inr (o)), some (.inr (c1))] [] σ := by
  refine zj_aload_n zd_City_copyFrom_107 rfl ?_
  refine zj_getR (zk_C0 h_c1) (by decide) rfl zu_City (k := 7) (by decide) rfl zl_City_31 zd_City_copyFrom_108 (o' := c1 + 6) rfl ?_
  refine zj_iconst (v := nI 0) zd_City_copyFrom_111 (by decide) ?_
  refine zj_aload_n zd_City_copyFrom_112 rfl ?_
  refine zj_getR (zk_C0 h_o) (by decide) rfl zu_City (k := 7) (by decide) rfl zl_City_31 zd_City_copyFrom_113 (o' := o + 6) rfl ?_
  refine zj_iconst (v := nI 0) zd_City_copyFrom_116 (by decide) ?_
  refine zj_bipush (v := nI 6) zd_City_copyFrom_117 (by decide) ?_
  refine zj_acopy zl_City_135 zx_acopy_n zx_acopy_s zx_System (zk_C6 h_c1) (zk_C6 h_o) (by decide) (by decide) p1 q1 r1 s1 t1 hdp (Nat.le_of_ble_eq_true rfl) zd_City_copyFrom_119 ?_
  exact k
theorem zb_City_copyFrom_122 {Γ : zG} {σ : zS} {o : Nat} {c1 : Nat} {i1 j1 l1 : Nat} (h_o : z_oC o) (h_c1 : z_oC c1) (hdp : 0 < z_dep Γ) (p1 : nI 0 = nI i1) (q1 : nI 0 = nI j1) (r1 : nI 24 = nI l1) (s1 : i1 + l1 ≤ 24) (t1 : j1 + l1 ≤ 24) (k : z_J Γ zm_City_copyFrom 137 [some (.inr (o)), some (.inr (c1))] [] (z_pA σ (o + 7) (va_cpy (σ.1 (c1 + 7)) (σ.1 (o + 7)) i1 j1 l1))) : z_J Γ zm_City_copyFrom 122 [some (.inr (o)), some (.inr (c1))] [] σ := by
  refine zj_aload_n zd_City_copyFrom_122 rfl ?_
  refine zj_getR (zk_C0 h_c1) (by decide) rfl zu_City (k := 8) (by decide) rfl zl_City_34 zd_City_copyFrom_123 (o' := c1 + 7) rfl ?_
  refine zj_iconst (v := nI 0) zd_City_copyFrom_126 (by decide) ?_
  refine zj_aload_n zd_City_copyFrom_127 rfl ?_
  refine zj_getR (zk_C0 h_o) (by decide) rfl zu_City (k := 8) (by decide) rfl zl_City_34 zd_City_copyFrom_128 (o' := o + 7) rfl ?_
  refine zj_iconst (v := nI 0) zd_City_copyFrom_131 (by decide) ?_
  refine zj_bipush (v := nI 24) zd_City_copyFrom_132 (by decide) ?_
  refine zj_acopy zl_City_135 zx_acopy_n zx_acopy_s zx_System (zk_C7 h_c1) (zk_C7 h_o) (by decide) (by decide) p1 q1 r1 s1 t1 hdp (Nat.le_of_ble_eq_true rfl) zd_City_copyFrom_134 ?_
  exact k
theorem zb_City_copyFrom_137 {Γ : zG} {σ : zS} {o : Nat} {c1 : Nat} {i1 j1 l1 : Nat} (h_o : z_oC o) (h_c1 : z_oC c1) (hdp : 0 < z_dep Γ) (p1 : nI 0 = nI i1) (q1 : nI 0 = nI j1) (r1 : nI 4 = nI l1) (s1 : i1 + l1 ≤ 4) (t1 : j1 + l1 ≤ 4) (k : z_J Γ zm_City_copyFrom 151 [some (.inr (o)), some (.inr (c1))] [] (z_pA σ (o + 8) (va_cpy (σ.1 (c1 + 8)) (σ.1 (o + 8)) i1 j1 l1))) : z_J Γ zm_City_copyFrom 137 [some (.inr (o)), some (.inr (c1))] [] σ := by
  refine zj_aload_n zd_City_copyFrom_137 rfl ?_
  refine zj_getR (zk_C0 h_c1) (by decide) rfl zu_City (k := 10) (by decide) rfl zl_City_37 zd_City_copyFrom_138 (o' := c1 + 8) rfl ?_
  refine zj_iconst (v := nI 0) zd_City_copyFrom_141 (by decide) ?_
  refine zj_aload_n zd_City_copyFrom_142 rfl ?_
  refine zj_getR (zk_C0 h_o) (by decide) rfl zu_City (k := 10) (by decide) rfl zl_City_37 zd_City_copyFrom_143 (o' := o + 8) rfl ?_
  refine zj_iconst (v := nI 0) zd_City_copyFrom_146 (by decide) ?_
  refine zj_iconst (v := nI 4) zd_City_copyFrom_147 (by decide) ?_
  refine zj_acopy zl_City_135 zx_acopy_n zx_acopy_s zx_System (zk_C8 h_c1) (zk_C8 h_o) (by decide) (by decide) p1 q1 r1 s1 t1 hdp (Nat.le_of_ble_eq_true rfl) zd_City_copyFrom_148 ?_
  exact k
theorem zb_City_copyFrom_151 {Γ : zG} {σ : zS} {o : Nat} {c1 : Nat} {i1 j1 l1 : Nat} (h_o : z_oC o) (h_c1 : z_oC c1) (hdp : 0 < z_dep Γ) (p1 : nI 0 = nI i1) (q1 : nI 0 = nI j1) (r1 : nI 4 = nI l1) (s1 : i1 + l1 ≤ 4) (t1 : j1 + l1 ≤ 4) (k : z_J Γ zm_City_copyFrom 165 [none, none] [] (z_pA σ (o + 9) (va_cpy (σ.1 (c1 + 9)) (σ.1 (o + 9)) i1 j1 l1))) : z_J Γ zm_City_copyFrom 151 [some (.inr (o)), some (.inr (c1))] [] σ := by
  refine zj_aload_n zd_City_copyFrom_151 rfl ?_
  refine zj_getR (zk_C0 h_c1) (by decide) rfl zu_City (k := 11) (by decide) rfl zl_City_40 zd_City_copyFrom_152 (o' := c1 + 9) rfl ?_
  refine zj_iconst (v := nI 0) zd_City_copyFrom_155 (by decide) ?_
  refine zj_aload_n zd_City_copyFrom_156 rfl ?_
  refine zj_getR (zk_C0 h_o) (by decide) rfl zu_City (k := 11) (by decide) rfl zl_City_40 zd_City_copyFrom_157 (o' := o + 9) rfl ?_
  refine zj_iconst (v := nI 0) zd_City_copyFrom_160 (by decide) ?_
  refine zj_iconst (v := nI 4) zd_City_copyFrom_161 (by decide) ?_
  refine zj_acopy zl_City_135 zx_acopy_n zx_acopy_s zx_System (zk_C9 h_c1) (zk_C9 h_o) (by decide) (by decide) p1 q1 r1 s1 t1 hdp (Nat.le_of_ble_eq_true rfl) zd_City_copyFrom_162 ?_
  exact (zj_weak (L' := [none, none]) trivial k)
theorem zb_City_copyFrom_165 {Γ : zG} {σ : zS}  (e : z_end Γ none σ) : z_J Γ zm_City_copyFrom 165 [none, none] [] σ := by
  exact zj_return rfl zd_City_copyFrom_165 e
theorem zd_City_pullDown_0 : decode zm_City_pullDown.2.1 0 = .ok (.iconst 0, 1) := by decide +kernel
theorem zd_City_pullDown_1 : decode zm_City_pullDown.2.1 1 = .ok (.istore_n 1, 1) := by decide +kernel
theorem zd_City_pullDown_2 : decode zm_City_pullDown.2.1 2 = .ok (.iload_n 1, 1) := by decide +kernel
theorem zd_City_pullDown_3 : decode zm_City_pullDown.2.1 3 = .ok (.aload_n 0, 1) := by decide +kernel
theorem zd_City_pullDown_4 : decode zm_City_pullDown.2.1 4 = .ok (.getfield 43, 3) := by decide +kernel
theorem zd_City_pullDown_7 : decode zm_City_pullDown.2.1 7 = .ok (.if_icmp .ge 15, 3) := by decide +kernel
theorem zd_City_pullDown_10 : decode zm_City_pullDown.2.1 10 = .ok (.aload_n 0, 1) := by decide +kernel
theorem zd_City_pullDown_11 : decode zm_City_pullDown.2.1 11 = .ok (.iload_n 1, 1) := by decide +kernel
theorem zd_City_pullDown_12 : decode zm_City_pullDown.2.1 12 = .ok (.iconst 0, 1) := by decide +kernel
theorem zd_City_pullDown_13 : decode zm_City_pullDown.2.1 13 = .ok (.invokevirtual 49, 3) := by decide +kernel
theorem zd_City_pullDown_16 : decode zm_City_pullDown.2.1 16 = .ok (.iinc 1 1, 3) := by decide +kernel
theorem zd_City_pullDown_19 : decode zm_City_pullDown.2.1 19 = .ok (.goto (-17), 3) := by decide +kernel
theorem zd_City_pullDown_22 : decode zm_City_pullDown.2.1 22 = .ok (.aload_n 0, 1) := by decide +kernel
theorem zd_City_pullDown_23 : decode zm_City_pullDown.2.1 23 = .ok (.iconst 1, 1) := by decide +kernel
theorem zd_City_pullDown_24 : decode zm_City_pullDown.2.1 24 = .ok (.putfield 27, 3) := by decide +kernel
theorem zd_City_pullDown_27 : decode zm_City_pullDown.2.1 27 = .ok (.return_, 1) := by decide +kernel
theorem zb_City_pullDown_0 {Γ : zG} {σ : zS} {o : Nat} (h_o : z_oC o) (k : z_J Γ zm_City_pullDown 2 [some (.inr (o)), some (.inl (nI 0))] [] σ) : z_J Γ zm_City_pullDown 0 [some (.inr (o)), none] [] σ := by
  refine zj_iconst (v := nI 0) zd_City_pullDown_0 (by decide) ?_
  refine zj_istore_n (L' := [some (.inr (o)), some (.inl (nI 0))]) zd_City_pullDown_1 (by decide) rfl ?_
  exact k
theorem zb_City_pullDown_2 {Γ : zG} {σ : zS} {o : Nat} {x1 : Int32} (h_o : z_oC o) (kt : (σ.1 o 0) ≤ x1 → z_J Γ zm_City_pullDown 22 [some (.inr (o)), none] [] σ) (kf : ¬ (σ.1 o 0) ≤ x1 → z_J Γ zm_City_pullDown 10 [some (.inr (o)), some (.inl (x1))] [] σ) : z_J Γ zm_City_pullDown 2 [some (.inr (o)), some (.inl (x1))] [] σ := by
  refine zj_iload_n zd_City_pullDown_2 rfl ?_
  refine zj_aload_n zd_City_pullDown_3 rfl ?_
  refine zj_getI (zk_C0 h_o) (by decide) rfl zu_City (k := 0) (by decide) rfl zl_City_43 zd_City_pullDown_4 ?_
  exact zj_icmp_ge zd_City_pullDown_7 (by decide) (fun h => (zj_weak (L' := [some (.inr (o)), none]) ⟨rfl, trivial⟩ (kt h))) (fun h => (kf h))
theorem zb_City_pullDown_10 {Γ : zG} {σ : zS} {o : Nat} {x1 : Int32} {dc : Nat} {P : zS → Prop} (h_o : z_oC o) (hm : z_Cv dc zm_City_lift [.inr (o), .inl (x1), .inl (nI 0)] σ P) (hdp : dc < z_dep Γ) (k : ∀ σ1, P σ1 → z_J Γ zm_City_pullDown 16 [some (.inr (o)), some (.inl (x1))] [] σ1) : z_J Γ zm_City_pullDown 10 [some (.inr (o)), some (.inl (x1))] [] σ := by
  refine zj_aload_n zd_City_pullDown_10 rfl ?_
  refine zj_iload_n zd_City_pullDown_11 rfl ?_
  refine zj_iconst (v := nI 0) zd_City_pullDown_12 (by decide) ?_
  exact zj_callVv (As := [.inl (x1), .inl (nI 0)]) hm hdp (zk_C0 h_o) (by decide) rfl zl_City_49 zq_City_lift zd_City_pullDown_13 rfl (Nat.le_of_ble_eq_true rfl) (fun σ1 h => (k σ1 h))
theorem zb_City_pullDown_16 {Γ : zG} {σ : zS} {o : Nat} {x1 : Int32} (h_o : z_oC o) (k : z_J Γ zm_City_pullDown 2 [some (.inr (o)), some (.inl (x1 + nI 1))] [] σ) : z_J Γ zm_City_pullDown 16 [some (.inr (o)), some (.inl (x1))] [] σ := by
  refine zj_iinc (v := nI 1) (L' := [some (.inr (o)), some (.inl (x1 + nI 1))]) zd_City_pullDown_16 rfl (by decide) (by decide) rfl ?_
  exact zj_goto zd_City_pullDown_19 (by decide) k
theorem zb_City_pullDown_22 {Γ : zG} {σ : zS} {o : Nat} (h_o : z_oC o) (e : z_end Γ none (z_pI σ o 6 (nI 1))) : z_J Γ zm_City_pullDown 22 [some (.inr (o)), none] [] σ := by
  refine zj_aload_n zd_City_pullDown_22 rfl ?_
  refine zj_iconst (v := nI 1) zd_City_pullDown_23 (by decide) ?_
  refine zj_putI (zk_C0 h_o) (by decide) rfl zu_City zy_City_ok zn_City (k := 6) (by decide) rfl rfl zl_City_27 rfl rfl zd_City_pullDown_24 ?_
  exact zj_return rfl zd_City_pullDown_27 e
theorem zd_City_addColumn_0 : decode zm_City_addColumn.2.1 0 = .ok (.aload_n 0, 1) := by decide +kernel
theorem zd_City_addColumn_1 : decode zm_City_addColumn.2.1 1 = .ok (.getfield 27, 3) := by decide +kernel
theorem zd_City_addColumn_4 : decode zm_City_addColumn.2.1 4 = .ok (.bipush 6, 2) := by decide +kernel
theorem zd_City_addColumn_6 : decode zm_City_addColumn.2.1 6 = .ok (.if_icmp .ne 5, 3) := by decide +kernel
theorem zd_City_addColumn_9 : decode zm_City_addColumn.2.1 9 = .ok (.iconst 0, 1) := by decide +kernel
theorem zd_City_addColumn_10 : decode zm_City_addColumn.2.1 10 = .ok (.ireturn, 1) := by decide +kernel
theorem zd_City_addColumn_11 : decode zm_City_addColumn.2.1 11 = .ok (.aload_n 0, 1) := by decide +kernel
theorem zd_City_addColumn_12 : decode zm_City_addColumn.2.1 12 = .ok (.getfield 31, 3) := by decide +kernel
theorem zd_City_addColumn_15 : decode zm_City_addColumn.2.1 15 = .ok (.aload_n 0, 1) := by decide +kernel
theorem zd_City_addColumn_16 : decode zm_City_addColumn.2.1 16 = .ok (.getfield 27, 3) := by decide +kernel
theorem zd_City_addColumn_19 : decode zm_City_addColumn.2.1 19 = .ok (.iconst 0, 1) := by decide +kernel
theorem zd_City_addColumn_20 : decode zm_City_addColumn.2.1 20 = .ok (.iastore, 1) := by decide +kernel
theorem zd_City_addColumn_21 : decode zm_City_addColumn.2.1 21 = .ok (.aload_n 0, 1) := by decide +kernel
theorem zd_City_addColumn_22 : decode zm_City_addColumn.2.1 22 = .ok (.dup, 1) := by decide +kernel
theorem zd_City_addColumn_23 : decode zm_City_addColumn.2.1 23 = .ok (.getfield 27, 3) := by decide +kernel
theorem zd_City_addColumn_26 : decode zm_City_addColumn.2.1 26 = .ok (.iconst 1, 1) := by decide +kernel
theorem zd_City_addColumn_27 : decode zm_City_addColumn.2.1 27 = .ok (.iadd, 1) := by decide +kernel
theorem zd_City_addColumn_28 : decode zm_City_addColumn.2.1 28 = .ok (.putfield 27, 3) := by decide +kernel
theorem zd_City_addColumn_31 : decode zm_City_addColumn.2.1 31 = .ok (.iconst 1, 1) := by decide +kernel
theorem zd_City_addColumn_32 : decode zm_City_addColumn.2.1 32 = .ok (.ireturn, 1) := by decide +kernel
theorem zb_City_addColumn_0 {Γ : zG} {σ : zS} {o : Nat} (h_o : z_oC o) (kt : ¬ (σ.1 o 6) = (nI 6) → z_J Γ zm_City_addColumn 11 [some (.inr (o))] [] σ) (kf : (σ.1 o 6) = (nI 6) → z_J Γ zm_City_addColumn 9 [none] [] σ) : z_J Γ zm_City_addColumn 0 [some (.inr (o))] [] σ := by
  refine zj_aload_n zd_City_addColumn_0 rfl ?_
  refine zj_getI (zk_C0 h_o) (by decide) rfl zu_City (k := 6) (by decide) rfl zl_City_27 zd_City_addColumn_1 ?_
  refine zj_bipush (v := nI 6) zd_City_addColumn_4 (by decide) ?_
  exact zj_icmp_ne zd_City_addColumn_6 (by decide) (fun h => (kt h)) (fun h => (zj_weak (L' := [none]) trivial (kf h)))
theorem zb_City_addColumn_9 {Γ : zG} {σ : zS}  (e : z_end Γ (some (nI 0)) σ) : z_J Γ zm_City_addColumn 9 [none] [] σ := by
  refine zj_iconst (v := nI 0) zd_City_addColumn_9 (by decide) ?_
  exact zj_zreturn rfl (Or.inl (by decide)) zd_City_addColumn_10 e
theorem zb_City_addColumn_11 {Γ : zG} {σ : zS} {o : Nat} {k1 : Nat} (h_o : z_oC o) (b1 : z_ix (σ.1 o 6) 6 k1) (e : z_end Γ (some (nI 1)) (z_pI (z_pI σ (o + 6) k1 (nI 0)) o 6 (((z_pI σ (o + 6) k1 (nI 0)).1 o 6) + (nI 1)))) : z_J Γ zm_City_addColumn 11 [some (.inr (o))] [] σ := by
  refine zj_aload_n zd_City_addColumn_11 rfl ?_
  refine zj_getR (zk_C0 h_o) (by decide) rfl zu_City (k := 7) (by decide) rfl zl_City_31 zd_City_addColumn_12 (o' := o + 6) rfl ?_
  refine zj_aload_n zd_City_addColumn_15 rfl ?_
  refine zj_getI (zk_C0 h_o) (by decide) rfl zu_City (k := 6) (by decide) rfl zl_City_27 zd_City_addColumn_16 ?_
  refine zj_iconst (v := nI 0) zd_City_addColumn_19 (by decide) ?_
  refine zj_iastore (zk_C6 h_o) (by decide) b1 zd_City_addColumn_20 ?_
  refine zj_aload_n zd_City_addColumn_21 rfl ?_
  refine zj_dup zd_City_addColumn_22 ?_
  refine zj_getI (zk_C0 h_o) (by decide) rfl zu_City (k := 6) (by decide) rfl zl_City_27 zd_City_addColumn_23 ?_
  refine zj_iconst (v := nI 1) zd_City_addColumn_26 (by decide) ?_
  refine zj_iadd zd_City_addColumn_27 ?_
  refine zj_putI (zk_C0 h_o) (by decide) rfl zu_City zy_City_ok zn_City (k := 6) (by decide) rfl rfl zl_City_27 rfl rfl zd_City_addColumn_28 ?_
  refine zj_iconst (v := nI 1) zd_City_addColumn_31 (by decide) ?_
  exact zj_zreturn rfl (Or.inr (by decide)) zd_City_addColumn_32 e
theorem zd_City_isBook_0 : decode zm_City_isBook.2.1 0 = .ok (.iload_n 1, 1) := by decide +kernel
theorem zd_City_isBook_1 : decode zm_City_isBook.2.1 1 = .ok (.ifCond .lt 15, 3) := by decide +kernel
theorem zd_City_isBook_4 : decode zm_City_isBook.2.1 4 = .ok (.iload_n 1, 1) := by decide +kernel
theorem zd_City_isBook_5 : decode zm_City_isBook.2.1 5 = .ok (.aload_n 0, 1) := by decide +kernel
theorem zd_City_isBook_6 : decode zm_City_isBook.2.1 6 = .ok (.getfield 43, 3) := by decide +kernel
theorem zd_City_isBook_9 : decode zm_City_isBook.2.1 9 = .ok (.if_icmp .ge 7, 3) := by decide +kernel
theorem zd_City_isBook_12 : decode zm_City_isBook.2.1 12 = .ok (.iconst 1, 1) := by decide +kernel
theorem zd_City_isBook_13 : decode zm_City_isBook.2.1 13 = .ok (.goto 4, 3) := by decide +kernel
theorem zd_City_isBook_16 : decode zm_City_isBook.2.1 16 = .ok (.iconst 0, 1) := by decide +kernel
theorem zd_City_isBook_17 : decode zm_City_isBook.2.1 17 = .ok (.ireturn, 1) := by decide +kernel
theorem zb_City_isBook_0 {Γ : zG} {σ : zS} {o : Nat} {x1 : Int32} (h_o : z_oC o) (kt : x1 < 0 → z_J Γ zm_City_isBook 16 [none, none] [] σ) (kf : ¬ x1 < 0 → z_J Γ zm_City_isBook 4 [some (.inr (o)), some (.inl (x1))] [] σ) : z_J Γ zm_City_isBook 0 [some (.inr (o)), some (.inl (x1))] [] σ := by
  refine zj_iload_n zd_City_isBook_0 rfl ?_
  exact zj_if_lt zd_City_isBook_1 (by decide) (fun h => (zj_weak (L' := [none, none]) trivial (kt h))) (fun h => (kf h))
theorem zb_City_isBook_4 {Γ : zG} {σ : zS} {o : Nat} {x1 : Int32} (h_o : z_oC o) (kt : (σ.1 o 0) ≤ x1 → z_J Γ zm_City_isBook 16 [none, none] [] σ) (kf : ¬ (σ.1 o 0) ≤ x1 → z_J Γ zm_City_isBook 12 [none, none] [] σ) : z_J Γ zm_City_isBook 4 [some (.inr (o)), some (.inl (x1))] [] σ := by
  refine zj_iload_n zd_City_isBook_4 rfl ?_
  refine zj_aload_n zd_City_isBook_5 rfl ?_
  refine zj_getI (zk_C0 h_o) (by decide) rfl zu_City (k := 0) (by decide) rfl zl_City_43 zd_City_isBook_6 ?_
  exact zj_icmp_ge zd_City_isBook_9 (by decide) (fun h => (zj_weak (L' := [none, none]) trivial (kt h))) (fun h => (zj_weak (L' := [none, none]) trivial (kf h)))
theorem zb_City_isBook_12 {Γ : zG} {σ : zS}  (k : z_J Γ zm_City_isBook 17 [none, none] [.inl (nI 1)] σ) : z_J Γ zm_City_isBook 12 [none, none] [] σ := by
  refine zj_iconst (v := nI 1) zd_City_isBook_12 (by decide) ?_
  exact zj_goto zd_City_isBook_13 (by decide) k
theorem zb_City_isBook_16 {Γ : zG} {σ : zS}  (k : z_J Γ zm_City_isBook 17 [none, none] [.inl (nI 0)] σ) : z_J Γ zm_City_isBook 16 [none, none] [] σ := by
  refine zj_iconst (v := nI 0) zd_City_isBook_16 (by decide) ?_
  exact k
theorem zb_City_isBook_17 {Γ : zG} {σ : zS} {y0 : Int32}  (e : z_end Γ (some (y0)) σ) (z1 : y0 = 0 ∨ y0 = 1) : z_J Γ zm_City_isBook 17 [none, none] [.inl (y0)] σ := by
  exact zj_zreturn rfl z1 zd_City_isBook_17 e
theorem zd_City_put_0 : decode zm_City_put.2.1 0 = .ok (.aload_n 0, 1) := by decide +kernel
theorem zd_City_put_1 : decode zm_City_put.2.1 1 = .ok (.getfield 31, 3) := by decide +kernel
theorem zd_City_put_4 : decode zm_City_put.2.1 4 = .ok (.iload_n 2, 1) := by decide +kernel
theorem zd_City_put_5 : decode zm_City_put.2.1 5 = .ok (.iaload, 1) := by decide +kernel
theorem zd_City_put_6 : decode zm_City_put.2.1 6 = .ok (.iconst 4, 1) := by decide +kernel
theorem zd_City_put_7 : decode zm_City_put.2.1 7 = .ok (.if_icmp .ne 4, 3) := by decide +kernel
theorem zd_City_put_10 : decode zm_City_put.2.1 10 = .ok (.return_, 1) := by decide +kernel
theorem zd_City_put_11 : decode zm_City_put.2.1 11 = .ok (.aload_n 0, 1) := by decide +kernel
theorem zd_City_put_12 : decode zm_City_put.2.1 12 = .ok (.getfield 34, 3) := by decide +kernel
theorem zd_City_put_15 : decode zm_City_put.2.1 15 = .ok (.iload_n 2, 1) := by decide +kernel
theorem zd_City_put_16 : decode zm_City_put.2.1 16 = .ok (.iconst 4, 1) := by decide +kernel
theorem zd_City_put_17 : decode zm_City_put.2.1 17 = .ok (.imul, 1) := by decide +kernel
theorem zd_City_put_18 : decode zm_City_put.2.1 18 = .ok (.aload_n 0, 1) := by decide +kernel
theorem zd_City_put_19 : decode zm_City_put.2.1 19 = .ok (.getfield 31, 3) := by decide +kernel
theorem zd_City_put_22 : decode zm_City_put.2.1 22 = .ok (.iload_n 2, 1) := by decide +kernel
theorem zd_City_put_23 : decode zm_City_put.2.1 23 = .ok (.iaload, 1) := by decide +kernel
theorem zd_City_put_24 : decode zm_City_put.2.1 24 = .ok (.iadd, 1) := by decide +kernel
theorem zd_City_put_25 : decode zm_City_put.2.1 25 = .ok (.iload_n 1, 1) := by decide +kernel
theorem zd_City_put_26 : decode zm_City_put.2.1 26 = .ok (.iastore, 1) := by decide +kernel
theorem zd_City_put_27 : decode zm_City_put.2.1 27 = .ok (.aload_n 0, 1) := by decide +kernel
theorem zd_City_put_28 : decode zm_City_put.2.1 28 = .ok (.getfield 31, 3) := by decide +kernel
theorem zd_City_put_31 : decode zm_City_put.2.1 31 = .ok (.iload_n 2, 1) := by decide +kernel
theorem zd_City_put_32 : decode zm_City_put.2.1 32 = .ok (.dup2, 1) := by decide +kernel
theorem zd_City_put_33 : decode zm_City_put.2.1 33 = .ok (.iaload, 1) := by decide +kernel
theorem zd_City_put_34 : decode zm_City_put.2.1 34 = .ok (.iconst 1, 1) := by decide +kernel
theorem zd_City_put_35 : decode zm_City_put.2.1 35 = .ok (.iadd, 1) := by decide +kernel
theorem zd_City_put_36 : decode zm_City_put.2.1 36 = .ok (.iastore, 1) := by decide +kernel
theorem zd_City_put_37 : decode zm_City_put.2.1 37 = .ok (.aload_n 0, 1) := by decide +kernel
theorem zd_City_put_38 : decode zm_City_put.2.1 38 = .ok (.getfield 18, 3) := by decide +kernel
theorem zd_City_put_41 : decode zm_City_put.2.1 41 = .ok (.iload_n 1, 1) := by decide +kernel
theorem zd_City_put_42 : decode zm_City_put.2.1 42 = .ok (.iconst 1, 1) := by decide +kernel
theorem zd_City_put_43 : decode zm_City_put.2.1 43 = .ok (.iastore, 1) := by decide +kernel
theorem zd_City_put_44 : decode zm_City_put.2.1 44 = .ok (.aload_n 0, 1) := by decide +kernel
theorem zd_City_put_45 : decode zm_City_put.2.1 45 = .ok (.getfield 21, 3) := by decide +kernel
theorem zd_City_put_48 : decode zm_City_put.2.1 48 = .ok (.iload_n 1, 1) := by decide +kernel
theorem zd_City_put_49 : decode zm_City_put.2.1 49 = .ok (.iload_n 2, 1) := by decide +kernel
theorem zd_City_put_50 : decode zm_City_put.2.1 50 = .ok (.iastore, 1) := by decide +kernel
theorem zd_City_put_51 : decode zm_City_put.2.1 51 = .ok (.return_, 1) := by decide +kernel
theorem zb_City_put_0 {Γ : zG} {σ : zS} {o : Nat} {x1 x2 : Int32} {k1 : Nat} (h_o : z_oC o) (b1 : z_ix x2 6 k1) (kt : ¬ (σ.1 (o + 6) k1) = (nI 4) → z_J Γ zm_City_put 11 [some (.inr (o)), some (.inl (x1)), some (.inl (x2))] [] σ) (kf : (σ.1 (o + 6) k1) = (nI 4) → z_J Γ zm_City_put 10 [none, none, none] [] σ) : z_J Γ zm_City_put 0 [some (.inr (o)), some (.inl (x1)), some (.inl (x2))] [] σ := by
  refine zj_aload_n zd_City_put_0 rfl ?_
  refine zj_getR (zk_C0 h_o) (by decide) rfl zu_City (k := 7) (by decide) rfl zl_City_31 zd_City_put_1 (o' := o + 6) rfl ?_
  refine zj_iload_n zd_City_put_4 rfl ?_
  refine zj_iaload (zk_C6 h_o) (by decide) b1 zd_City_put_5 ?_
  refine zj_iconst (v := nI 4) zd_City_put_6 (by decide) ?_
  exact zj_icmp_ne zd_City_put_7 (by decide) (fun h => (kt h)) (fun h => (zj_weak (L' := [none, none, none]) trivial (kf h)))
theorem zb_City_put_10 {Γ : zG} {σ : zS}  (e : z_end Γ none σ) : z_J Γ zm_City_put 10 [none, none, none] [] σ := by
  exact zj_return rfl zd_City_put_10 e
theorem zb_City_put_11 {Γ : zG} {σ : zS} {o : Nat} {x1 x2 : Int32} {k1 k2 k3 k4 k5 k6 : Nat} (h_o : z_oC o) (b1 : z_ix x2 6 k1) (b2 : z_ix ((x2 * (nI 4)) + (σ.1 (o + 6) k1)) 24 k2) (b3 : z_ix x2 6 k3) (b4 : z_ix x2 6 k4) (b5 : z_ix x1 12 k5) (b6 : z_ix x1 12 k6) (e : z_end Γ none (z_pI (z_pI (z_pI (z_pI σ (o + 7) k2 x1) (o + 6) k4 (((z_pI σ (o + 7) k2 x1).1 (o + 6) k3) + (nI 1))) (o + 3) k5 (nI 1)) (o + 4) k6 x2)) : z_J Γ zm_City_put 11 [some (.inr (o)), some (.inl (x1)), some (.inl (x2))] [] σ := by
  refine zj_aload_n zd_City_put_11 rfl ?_
  refine zj_getR (zk_C0 h_o) (by decide) rfl zu_City (k := 8) (by decide) rfl zl_City_34 zd_City_put_12 (o' := o + 7) rfl ?_
  refine zj_iload_n zd_City_put_15 rfl ?_
  refine zj_iconst (v := nI 4) zd_City_put_16 (by decide) ?_
  refine zj_imul zd_City_put_17 ?_
  refine zj_aload_n zd_City_put_18 rfl ?_
  refine zj_getR (zk_C0 h_o) (by decide) rfl zu_City (k := 7) (by decide) rfl zl_City_31 zd_City_put_19 (o' := o + 6) rfl ?_
  refine zj_iload_n zd_City_put_22 rfl ?_
  refine zj_iaload (zk_C6 h_o) (by decide) b1 zd_City_put_23 ?_
  refine zj_iadd zd_City_put_24 ?_
  refine zj_iload_n zd_City_put_25 rfl ?_
  refine zj_iastore (zk_C7 h_o) (by decide) b2 zd_City_put_26 ?_
  refine zj_aload_n zd_City_put_27 rfl ?_
  refine zj_getR (zk_C0 h_o) (by decide) rfl zu_City (k := 7) (by decide) rfl zl_City_31 zd_City_put_28 (o' := o + 6) rfl ?_
  refine zj_iload_n zd_City_put_31 rfl ?_
  refine zj_dup2 zd_City_put_32 ?_
  refine zj_iaload (zk_C6 h_o) (by decide) b3 zd_City_put_33 ?_
  refine zj_iconst (v := nI 1) zd_City_put_34 (by decide) ?_
  refine zj_iadd zd_City_put_35 ?_
  refine zj_iastore (zk_C6 h_o) (by decide) b4 zd_City_put_36 ?_
  refine zj_aload_n zd_City_put_37 rfl ?_
  refine zj_getR (zk_C0 h_o) (by decide) rfl zu_City (k := 3) (by decide) rfl zl_City_18 zd_City_put_38 (o' := o + 3) rfl ?_
  refine zj_iload_n zd_City_put_41 rfl ?_
  refine zj_iconst (v := nI 1) zd_City_put_42 (by decide) ?_
  refine zj_iastore (zk_C3 h_o) (by decide) b5 zd_City_put_43 ?_
  refine zj_aload_n zd_City_put_44 rfl ?_
  refine zj_getR (zk_C0 h_o) (by decide) rfl zu_City (k := 4) (by decide) rfl zl_City_21 zd_City_put_45 (o' := o + 4) rfl ?_
  refine zj_iload_n zd_City_put_48 rfl ?_
  refine zj_iload_n zd_City_put_49 rfl ?_
  refine zj_iastore (zk_C4 h_o) (by decide) b6 zd_City_put_50 ?_
  exact zj_return rfl zd_City_put_51 e
theorem zd_City_holdsUp_0 : decode zm_City_holdsUp.2.1 0 = .ok (.iconst 0, 1) := by decide +kernel
theorem zd_City_holdsUp_1 : decode zm_City_holdsUp.2.1 1 = .ok (.istore_n 3, 1) := by decide +kernel
theorem zd_City_holdsUp_2 : decode zm_City_holdsUp.2.1 2 = .ok (.aload_n 0, 1) := by decide +kernel
theorem zd_City_holdsUp_3 : decode zm_City_holdsUp.2.1 3 = .ok (.getfield 31, 3) := by decide +kernel
theorem zd_City_holdsUp_6 : decode zm_City_holdsUp.2.1 6 = .ok (.iload_n 1, 1) := by decide +kernel
theorem zd_City_holdsUp_7 : decode zm_City_holdsUp.2.1 7 = .ok (.iaload, 1) := by decide +kernel
theorem zd_City_holdsUp_8 : decode zm_City_holdsUp.2.1 8 = .ok (.iconst 1, 1) := by decide +kernel
theorem zd_City_holdsUp_9 : decode zm_City_holdsUp.2.1 9 = .ok (.isub, 1) := by decide +kernel
theorem zd_City_holdsUp_10 : decode zm_City_holdsUp.2.1 10 = .ok (.istore 4, 2) := by decide +kernel
theorem zd_City_holdsUp_12 : decode zm_City_holdsUp.2.1 12 = .ok (.iload 4, 2) := by decide +kernel
theorem zd_City_holdsUp_14 : decode zm_City_holdsUp.2.1 14 = .ok (.ifCond .lt 42, 3) := by decide +kernel
theorem zd_City_holdsUp_17 : decode zm_City_holdsUp.2.1 17 = .ok (.iload_n 3, 1) := by decide +kernel
theorem zd_City_holdsUp_18 : decode zm_City_holdsUp.2.1 18 = .ok (.ifCond .le 17, 3) := by decide +kernel
theorem zd_City_holdsUp_21 : decode zm_City_holdsUp.2.1 21 = .ok (.iload_n 3, 1) := by decide +kernel
theorem zd_City_holdsUp_22 : decode zm_City_holdsUp.2.1 22 = .ok (.aload_n 0, 1) := by decide +kernel
theorem zd_City_holdsUp_23 : decode zm_City_holdsUp.2.1 23 = .ok (.iload_n 1, 1) := by decide +kernel
theorem zd_City_holdsUp_24 : decode zm_City_holdsUp.2.1 24 = .ok (.iload 4, 2) := by decide +kernel
theorem zd_City_holdsUp_26 : decode zm_City_holdsUp.2.1 26 = .ok (.aload_n 2, 1) := by decide +kernel
theorem zd_City_holdsUp_27 : decode zm_City_holdsUp.2.1 27 = .ok (.invokevirtual 85, 3) := by decide +kernel
theorem zd_City_holdsUp_30 : decode zm_City_holdsUp.2.1 30 = .ok (.if_icmp .le 5, 3) := by decide +kernel
theorem zd_City_holdsUp_33 : decode zm_City_holdsUp.2.1 33 = .ok (.iconst 0, 1) := by decide +kernel
theorem zd_City_holdsUp_34 : decode zm_City_holdsUp.2.1 34 = .ok (.ireturn, 1) := by decide +kernel
theorem zd_City_holdsUp_35 : decode zm_City_holdsUp.2.1 35 = .ok (.iload_n 3, 1) := by decide +kernel
theorem zd_City_holdsUp_36 : decode zm_City_holdsUp.2.1 36 = .ok (.aload_n 0, 1) := by decide +kernel
theorem zd_City_holdsUp_37 : decode zm_City_holdsUp.2.1 37 = .ok (.getfield 15, 3) := by decide +kernel
theorem zd_City_holdsUp_40 : decode zm_City_holdsUp.2.1 40 = .ok (.aload_n 0, 1) := by decide +kernel
theorem zd_City_holdsUp_41 : decode zm_City_holdsUp.2.1 41 = .ok (.iload_n 1, 1) := by decide +kernel
theorem zd_City_holdsUp_42 : decode zm_City_holdsUp.2.1 42 = .ok (.iload 4, 2) := by decide +kernel
theorem zd_City_holdsUp_44 : decode zm_City_holdsUp.2.1 44 = .ok (.invokevirtual 53, 3) := by decide +kernel
theorem zd_City_holdsUp_47 : decode zm_City_holdsUp.2.1 47 = .ok (.iaload, 1) := by decide +kernel
theorem zd_City_holdsUp_48 : decode zm_City_holdsUp.2.1 48 = .ok (.iadd, 1) := by decide +kernel
theorem zd_City_holdsUp_49 : decode zm_City_holdsUp.2.1 49 = .ok (.istore_n 3, 1) := by decide +kernel
theorem zd_City_holdsUp_50 : decode zm_City_holdsUp.2.1 50 = .ok (.iinc 4 (-1), 3) := by decide +kernel
theorem zd_City_holdsUp_53 : decode zm_City_holdsUp.2.1 53 = .ok (.goto (-41), 3) := by decide +kernel
theorem zd_City_holdsUp_56 : decode zm_City_holdsUp.2.1 56 = .ok (.iconst 1, 1) := by decide +kernel
theorem zd_City_holdsUp_57 : decode zm_City_holdsUp.2.1 57 = .ok (.ireturn, 1) := by decide +kernel
theorem zb_City_holdsUp_0 {Γ : zG} {σ : zS} {o : Nat} {r2 : Nat} {x1 : Int32} {k1 : Nat} (h_o : z_oC o) (h_r2 : z_oR r2) (b1 : z_ix x1 6 k1) (k : z_J Γ zm_City_holdsUp 12 [some (.inr (o)), some (.inl (x1)), some (.inr (r2)), some (.inl (nI 0)), some (.inl ((σ.1 (o + 6) k1) - (nI 1)))] [] σ) : z_J Γ zm_City_holdsUp 0 [some (.inr (o)), some (.inl (x1)), some (.inr (r2)), none, none] [] σ := by
  refine zj_iconst (v := nI 0) zd_City_holdsUp_0 (by decide) ?_
  refine zj_istore_n (L' := [some (.inr (o)), some (.inl (x1)), some (.inr (r2)), some (.inl (nI 0)), none]) zd_City_holdsUp_1 (by decide) rfl ?_
  refine zj_aload_n zd_City_holdsUp_2 rfl ?_
  refine zj_getR (zk_C0 h_o) (by decide) rfl zu_City (k := 7) (by decide) rfl zl_City_31 zd_City_holdsUp_3 (o' := o + 6) rfl ?_
  refine zj_iload_n zd_City_holdsUp_6 rfl ?_
  refine zj_iaload (zk_C6 h_o) (by decide) b1 zd_City_holdsUp_7 ?_
  refine zj_iconst (v := nI 1) zd_City_holdsUp_8 (by decide) ?_
  refine zj_isub zd_City_holdsUp_9 ?_
  refine zj_istore (L' := [some (.inr (o)), some (.inl (x1)), some (.inr (r2)), some (.inl (nI 0)), some (.inl ((σ.1 (o + 6) k1) - (nI 1)))]) zd_City_holdsUp_10 (by decide) rfl ?_
  exact k
theorem zb_City_holdsUp_12 {Γ : zG} {σ : zS} {o : Nat} {r2 : Nat} {x1 x3 x4 : Int32} (h_o : z_oC o) (h_r2 : z_oR r2) (kt : x4 < 0 → z_J Γ zm_City_holdsUp 56 [none, none, none, none, none] [] σ) (kf : ¬ x4 < 0 → z_J Γ zm_City_holdsUp 17 [some (.inr (o)), some (.inl (x1)), some (.inr (r2)), some (.inl (x3)), some (.inl (x4))] [] σ) : z_J Γ zm_City_holdsUp 12 [some (.inr (o)), some (.inl (x1)), some (.inr (r2)), some (.inl (x3)), some (.inl (x4))] [] σ := by
  refine zj_iload zd_City_holdsUp_12 rfl ?_
  exact zj_if_lt zd_City_holdsUp_14 (by decide) (fun h => (zj_weak (L' := [none, none, none, none, none]) trivial (kt h))) (fun h => (kf h))
theorem zb_City_holdsUp_17 {Γ : zG} {σ : zS} {o : Nat} {r2 : Nat} {x1 x3 x4 : Int32} (h_o : z_oC o) (h_r2 : z_oR r2) (kt : x3 ≤ 0 → z_J Γ zm_City_holdsUp 35 [some (.inr (o)), some (.inl (x1)), some (.inr (r2)), some (.inl (x3)), some (.inl (x4))] [] σ) (kf : ¬ x3 ≤ 0 → z_J Γ zm_City_holdsUp 21 [some (.inr (o)), some (.inl (x1)), some (.inr (r2)), some (.inl (x3)), some (.inl (x4))] [] σ) : z_J Γ zm_City_holdsUp 17 [some (.inr (o)), some (.inl (x1)), some (.inr (r2)), some (.inl (x3)), some (.inl (x4))] [] σ := by
  refine zj_iload_n zd_City_holdsUp_17 rfl ?_
  exact zj_if_le zd_City_holdsUp_18 (by decide) (fun h => (kt h)) (fun h => (kf h))
theorem zb_City_holdsUp_21 {Γ : zG} {σ : zS} {o : Nat} {r2 : Nat} {x1 x3 x4 : Int32} {dc : Nat} {P : Int32 → zS → Prop} (h_o : z_oC o) (h_r2 : z_oR r2) (hm : z_Ci dc zm_City_bearsAt [.inr (o), .inl (x1), .inl (x4), .inr (r2)] σ P) (hdp : dc < z_dep Γ) (k : ∀ r σ1, P r σ1 → z_J Γ zm_City_holdsUp 30 [some (.inr (o)), some (.inl (x1)), some (.inr (r2)), some (.inl (x3)), some (.inl (x4))] [.inl (r), .inl (x3)] σ1) : z_J Γ zm_City_holdsUp 21 [some (.inr (o)), some (.inl (x1)), some (.inr (r2)), some (.inl (x3)), some (.inl (x4))] [] σ := by
  refine zj_iload_n zd_City_holdsUp_21 rfl ?_
  refine zj_aload_n zd_City_holdsUp_22 rfl ?_
  refine zj_iload_n zd_City_holdsUp_23 rfl ?_
  refine zj_iload zd_City_holdsUp_24 rfl ?_
  refine zj_aload_n zd_City_holdsUp_26 rfl ?_
  exact zj_callVi (As := [.inl (x1), .inl (x4), .inr (r2)]) hm hdp (zk_C0 h_o) (by decide) rfl zl_City_85 zq_City_bearsAt zd_City_holdsUp_27 rfl (Nat.le_of_ble_eq_true rfl) (fun r σ1 h => (k r σ1 h))
theorem zb_City_holdsUp_30 {Γ : zG} {σ : zS} {o : Nat} {r2 : Nat} {x1 x3 x4 y0 y1 : Int32} (h_o : z_oC o) (h_r2 : z_oR r2) (kt : y1 ≤ y0 → z_J Γ zm_City_holdsUp 35 [some (.inr (o)), some (.inl (x1)), some (.inr (r2)), some (.inl (x3)), some (.inl (x4))] [] σ) (kf : ¬ y1 ≤ y0 → z_J Γ zm_City_holdsUp 33 [none, none, none, none, none] [] σ) : z_J Γ zm_City_holdsUp 30 [some (.inr (o)), some (.inl (x1)), some (.inr (r2)), some (.inl (x3)), some (.inl (x4))] [.inl (y0), .inl (y1)] σ := by
  exact zj_icmp_le zd_City_holdsUp_30 (by decide) (fun h => (kt h)) (fun h => (zj_weak (L' := [none, none, none, none, none]) trivial (kf h)))
theorem zb_City_holdsUp_33 {Γ : zG} {σ : zS}  (e : z_end Γ (some (nI 0)) σ) : z_J Γ zm_City_holdsUp 33 [none, none, none, none, none] [] σ := by
  refine zj_iconst (v := nI 0) zd_City_holdsUp_33 (by decide) ?_
  exact zj_zreturn rfl (Or.inl (by decide)) zd_City_holdsUp_34 e
theorem zb_City_holdsUp_35 {Γ : zG} {σ : zS} {o : Nat} {r2 : Nat} {x1 x3 x4 : Int32} {dc : Nat} {P : Int32 → zS → Prop} (h_o : z_oC o) (h_r2 : z_oR r2) (hm : z_Ci dc zm_City_bookAt [.inr (o), .inl (x1), .inl (x4)] σ P) (hdp : dc < z_dep Γ) (k : ∀ r σ1, P r σ1 → z_J Γ zm_City_holdsUp 47 [some (.inr (o)), some (.inl (x1)), some (.inr (r2)), none, some (.inl (x4))] [.inl (r), .inr (o + 2), .inl (x3)] σ1) : z_J Γ zm_City_holdsUp 35 [some (.inr (o)), some (.inl (x1)), some (.inr (r2)), some (.inl (x3)), some (.inl (x4))] [] σ := by
  refine zj_iload_n zd_City_holdsUp_35 rfl ?_
  refine zj_aload_n zd_City_holdsUp_36 rfl ?_
  refine zj_getR (zk_C0 h_o) (by decide) rfl zu_City (k := 2) (by decide) rfl zl_City_15 zd_City_holdsUp_37 (o' := o + 2) rfl ?_
  refine zj_aload_n zd_City_holdsUp_40 rfl ?_
  refine zj_iload_n zd_City_holdsUp_41 rfl ?_
  refine zj_iload zd_City_holdsUp_42 rfl ?_
  exact zj_callVi (As := [.inl (x1), .inl (x4)]) hm hdp (zk_C0 h_o) (by decide) rfl zl_City_53 zq_City_bookAt zd_City_holdsUp_44 rfl (Nat.le_of_ble_eq_true rfl) (fun r σ1 h => (zj_weak (L' := [some (.inr (o)), some (.inl (x1)), some (.inr (r2)), none, some (.inl (x4))]) ⟨rfl, ⟨rfl, ⟨rfl, ⟨rfl, trivial⟩⟩⟩⟩ (k r σ1 h)))
theorem zb_City_holdsUp_47 {Γ : zG} {σ : zS} {o : Nat} {r2 : Nat} {x1 x4 y0 y2 : Int32} {k1 : Nat} (h_o : z_oC o) (h_r2 : z_oR r2) (b1 : z_ix y0 12 k1) (k : z_J Γ zm_City_holdsUp 12 [some (.inr (o)), some (.inl (x1)), some (.inr (r2)), some (.inl (y2 + (σ.1 (o + 2) k1))), some (.inl (x4 + (-1)))] [] σ) : z_J Γ zm_City_holdsUp 47 [some (.inr (o)), some (.inl (x1)), some (.inr (r2)), none, some (.inl (x4))] [.inl (y0), .inr (o + 2), .inl (y2)] σ := by
  refine zj_iaload (zk_C2 h_o) (by decide) b1 zd_City_holdsUp_47 ?_
  refine zj_iadd zd_City_holdsUp_48 ?_
  refine zj_istore_n (L' := [some (.inr (o)), some (.inl (x1)), some (.inr (r2)), some (.inl (y2 + (σ.1 (o + 2) k1))), some (.inl (x4))]) zd_City_holdsUp_49 (by decide) rfl ?_
  refine zj_iinc (v := (-1)) (L' := [some (.inr (o)), some (.inl (x1)), some (.inr (r2)), some (.inl (y2 + (σ.1 (o + 2) k1))), some (.inl (x4 + (-1)))]) zd_City_holdsUp_50 rfl (by decide) (by decide) rfl ?_
  exact zj_goto zd_City_holdsUp_53 (by decide) k
theorem zb_City_holdsUp_56 {Γ : zG} {σ : zS}  (e : z_end Γ (some (nI 1)) σ) : z_J Γ zm_City_holdsUp 56 [none, none, none, none, none] [] σ := by
  refine zj_iconst (v := nI 1) zd_City_holdsUp_56 (by decide) ?_
  exact zj_zreturn rfl (Or.inr (by decide)) zd_City_holdsUp_57 e
theorem zd_City_bearsAt_0 : decode zm_City_bearsAt.2.1 0 = .ok (.aload_n 0, 1) := by decide +kernel
theorem zd_City_bearsAt_1 : decode zm_City_bearsAt.2.1 1 = .ok (.iload_n 1, 1) := by decide +kernel
theorem zd_City_bearsAt_2 : decode zm_City_bearsAt.2.1 2 = .ok (.iload_n 2, 1) := by decide +kernel
theorem zd_City_bearsAt_3 : decode zm_City_bearsAt.2.1 3 = .ok (.invokevirtual 53, 3) := by decide +kernel
theorem zd_City_bearsAt_6 : decode zm_City_bearsAt.2.1 6 = .ok (.istore 4, 2) := by decide +kernel
theorem zd_City_bearsAt_8 : decode zm_City_bearsAt.2.1 8 = .ok (.aload_n 3, 1) := by decide +kernel
theorem zd_City_bearsAt_9 : decode zm_City_bearsAt.2.1 9 = .ok (.aload_n 0, 1) := by decide +kernel
theorem zd_City_bearsAt_10 : decode zm_City_bearsAt.2.1 10 = .ok (.getfield 9, 3) := by decide +kernel
theorem zd_City_bearsAt_13 : decode zm_City_bearsAt.2.1 13 = .ok (.iload 4, 2) := by decide +kernel
theorem zd_City_bearsAt_15 : decode zm_City_bearsAt.2.1 15 = .ok (.iaload, 1) := by decide +kernel
theorem zd_City_bearsAt_16 : decode zm_City_bearsAt.2.1 16 = .ok (.aload_n 0, 1) := by decide +kernel
theorem zd_City_bearsAt_17 : decode zm_City_bearsAt.2.1 17 = .ok (.getfield 15, 3) := by decide +kernel
theorem zd_City_bearsAt_20 : decode zm_City_bearsAt.2.1 20 = .ok (.iload 4, 2) := by decide +kernel
theorem zd_City_bearsAt_22 : decode zm_City_bearsAt.2.1 22 = .ok (.iaload, 1) := by decide +kernel
theorem zd_City_bearsAt_23 : decode zm_City_bearsAt.2.1 23 = .ok (.iload_n 1, 1) := by decide +kernel
theorem zd_City_bearsAt_24 : decode zm_City_bearsAt.2.1 24 = .ok (.iload_n 2, 1) := by decide +kernel
theorem zd_City_bearsAt_25 : decode zm_City_bearsAt.2.1 25 = .ok (.aload_n 0, 1) := by decide +kernel
theorem zd_City_bearsAt_26 : decode zm_City_bearsAt.2.1 26 = .ok (.getfield 31, 3) := by decide +kernel
theorem zd_City_bearsAt_29 : decode zm_City_bearsAt.2.1 29 = .ok (.iload_n 1, 1) := by decide +kernel
theorem zd_City_bearsAt_30 : decode zm_City_bearsAt.2.1 30 = .ok (.iaload, 1) := by decide +kernel
theorem zd_City_bearsAt_31 : decode zm_City_bearsAt.2.1 31 = .ok (.aload_n 0, 1) := by decide +kernel
theorem zd_City_bearsAt_32 : decode zm_City_bearsAt.2.1 32 = .ok (.getfield 72, 3) := by decide +kernel
theorem zd_City_bearsAt_35 : decode zm_City_bearsAt.2.1 35 = .ok (.bipush 10, 2) := by decide +kernel
theorem zd_City_bearsAt_37 : decode zm_City_bearsAt.2.1 37 = .ok (.irem, 1) := by decide +kernel
theorem zd_City_bearsAt_38 : decode zm_City_bearsAt.2.1 38 = .ok (.invokevirtual 75, 3) := by decide +kernel
theorem zd_City_bearsAt_41 : decode zm_City_bearsAt.2.1 41 = .ok (.istore 5, 2) := by decide +kernel
theorem zd_City_bearsAt_43 : decode zm_City_bearsAt.2.1 43 = .ok (.iconst 0, 1) := by decide +kernel
theorem zd_City_bearsAt_44 : decode zm_City_bearsAt.2.1 44 = .ok (.iload 5, 2) := by decide +kernel
theorem zd_City_bearsAt_46 : decode zm_City_bearsAt.2.1 46 = .ok (.sipush 999, 3) := by decide +kernel
theorem zd_City_bearsAt_49 : decode zm_City_bearsAt.2.1 49 = .ok (.invokestatic 81, 3) := by decide +kernel
theorem zd_City_bearsAt_52 : decode zm_City_bearsAt.2.1 52 = .ok (.ireturn, 1) := by decide +kernel
theorem zb_City_bearsAt_0 {Γ : zG} {σ : zS} {o : Nat} {r3 : Nat} {x1 x2 : Int32} {dc : Nat} {P : Int32 → zS → Prop} (h_o : z_oC o) (h_r3 : z_oR r3) (hm : z_Ci dc zm_City_bookAt [.inr (o), .inl (x1), .inl (x2)] σ P) (hdp : dc < z_dep Γ) (k : ∀ r σ1, P r σ1 → z_J Γ zm_City_bearsAt 6 [some (.inr (o)), some (.inl (x1)), some (.inl (x2)), some (.inr (r3)), none, none] [.inl (r)] σ1) : z_J Γ zm_City_bearsAt 0 [some (.inr (o)), some (.inl (x1)), some (.inl (x2)), some (.inr (r3)), none, none] [] σ := by
  refine zj_aload_n zd_City_bearsAt_0 rfl ?_
  refine zj_iload_n zd_City_bearsAt_1 rfl ?_
  refine zj_iload_n zd_City_bearsAt_2 rfl ?_
  exact zj_callVi (As := [.inl (x1), .inl (x2)]) hm hdp (zk_C0 h_o) (by decide) rfl zl_City_53 zq_City_bookAt zd_City_bearsAt_3 rfl (Nat.le_of_ble_eq_true rfl) (fun r σ1 h => (k r σ1 h))
theorem zb_City_bearsAt_6 {Γ : zG} {σ : zS} {o : Nat} {r3 : Nat} {x1 x2 y0 : Int32} {k1 k2 k3 : Nat} {dc : Nat} {P : Int32 → zS → Prop} (h_o : z_oC o) (h_r3 : z_oR r3) (b1 : z_ix y0 12 k1) (b2 : z_ix y0 12 k2) (b3 : z_ix x1 6 k3) (hm : z_Ci dc zm_Rule_worth [.inr (r3), .inl (σ.1 (o + 1) k1), .inl (σ.1 (o + 2) k2), .inl (x1), .inl (x2), .inl (σ.1 (o + 6) k3), .inl ((σ.1 o 12) - (σ.1 o 12) / (nI 10) * (nI 10))] σ P) (hdp : dc < z_dep Γ) (k : ∀ r σ1, P r σ1 → z_J Γ zm_City_bearsAt 41 [none, none, none, none, none, none] [.inl (r)] σ1) : z_J Γ zm_City_bearsAt 6 [some (.inr (o)), some (.inl (x1)), some (.inl (x2)), some (.inr (r3)), none, none] [.inl (y0)] σ := by
  refine zj_istore (L' := [some (.inr (o)), some (.inl (x1)), some (.inl (x2)), some (.inr (r3)), some (.inl (y0)), none]) zd_City_bearsAt_6 (by decide) rfl ?_
  refine zj_aload_n zd_City_bearsAt_8 rfl ?_
  refine zj_aload_n zd_City_bearsAt_9 rfl ?_
  refine zj_getR (zk_C0 h_o) (by decide) rfl zu_City (k := 1) (by decide) rfl zl_City_9 zd_City_bearsAt_10 (o' := o + 1) rfl ?_
  refine zj_iload zd_City_bearsAt_13 rfl ?_
  refine zj_iaload (zk_C1 h_o) (by decide) b1 zd_City_bearsAt_15 ?_
  refine zj_aload_n zd_City_bearsAt_16 rfl ?_
  refine zj_getR (zk_C0 h_o) (by decide) rfl zu_City (k := 2) (by decide) rfl zl_City_15 zd_City_bearsAt_17 (o' := o + 2) rfl ?_
  refine zj_iload zd_City_bearsAt_20 rfl ?_
  refine zj_iaload (zk_C2 h_o) (by decide) b2 zd_City_bearsAt_22 ?_
  refine zj_iload_n zd_City_bearsAt_23 rfl ?_
  refine zj_iload_n zd_City_bearsAt_24 rfl ?_
  refine zj_aload_n zd_City_bearsAt_25 rfl ?_
  refine zj_getR (zk_C0 h_o) (by decide) rfl zu_City (k := 7) (by decide) rfl zl_City_31 zd_City_bearsAt_26 (o' := o + 6) rfl ?_
  refine zj_iload_n zd_City_bearsAt_29 rfl ?_
  refine zj_iaload (zk_C6 h_o) (by decide) b3 zd_City_bearsAt_30 ?_
  refine zj_aload_n zd_City_bearsAt_31 rfl ?_
  refine zj_getI (zk_C0 h_o) (by decide) rfl zu_City (k := 12) (by decide) rfl zl_City_72 zd_City_bearsAt_32 ?_
  refine zj_bipush (v := nI 10) zd_City_bearsAt_35 (by decide) ?_
  refine zj_irem zd_City_bearsAt_37 (by decide) ?_
  exact zj_callVi (As := [.inl (σ.1 (o + 1) k1), .inl (σ.1 (o + 2) k2), .inl (x1), .inl (x2), .inl (σ.1 (o + 6) k3), .inl ((σ.1 o 12) - (σ.1 o 12) / (nI 10) * (nI 10))]) hm hdp (zk_R0 h_r3) (by decide) rfl zl_City_75 zq_Rule_worth zd_City_bearsAt_38 rfl (Nat.le_of_ble_eq_true rfl) (fun r σ1 h => (zj_weak (L' := [none, none, none, none, none, none]) trivial (k r σ1 h)))
theorem zb_City_bearsAt_41 {Γ : zG} {σ : zS} {y0 : Int32} {dc : Nat} {P : Int32 → zS → Prop}  (hm : z_Ci dc zm_Walls_between [.inl (nI 0), .inl (y0), .inl (nI 999)] σ P) (hdp : dc < z_dep Γ) (k : ∀ r σ1, P r σ1 → z_J Γ zm_City_bearsAt 52 [none, none, none, none, none, none] [.inl (r)] σ1) : z_J Γ zm_City_bearsAt 41 [none, none, none, none, none, none] [.inl (y0)] σ := by
  refine zj_istore (L' := [none, none, none, none, none, some (.inl (y0))]) zd_City_bearsAt_41 (by decide) rfl ?_
  refine zj_iconst (v := nI 0) zd_City_bearsAt_43 (by decide) ?_
  refine zj_iload zd_City_bearsAt_44 rfl ?_
  refine zj_sipush (v := nI 999) zd_City_bearsAt_46 (by decide) ?_
  exact zj_callNi (As := [.inl (nI 0), .inl (y0), .inl (nI 999)]) hm hdp (fun _ h => h.1) zq_Walls_between zd_City_bearsAt_49 rfl (Nat.le_of_ble_eq_true rfl) (fun r σ1 h => (zj_weak (L' := [none, none, none, none, none, none]) trivial (k r σ1 h)))
theorem zb_City_bearsAt_52 {Γ : zG} {σ : zS} {y0 : Int32}  (e : z_end Γ (some (y0)) σ) : z_J Γ zm_City_bearsAt 52 [none, none, none, none, none, none] [.inl (y0)] σ := by
  exact zj_ireturn rfl zd_City_bearsAt_52 e
theorem zd_City_addReader_0 : decode zm_City_addReader.2.1 0 = .ok (.aload_n 0, 1) := by decide +kernel
theorem zd_City_addReader_1 : decode zm_City_addReader.2.1 1 = .ok (.getfield 46, 3) := by decide +kernel
theorem zd_City_addReader_4 : decode zm_City_addReader.2.1 4 = .ok (.iconst 4, 1) := by decide +kernel
theorem zd_City_addReader_5 : decode zm_City_addReader.2.1 5 = .ok (.if_icmp .ne 4, 3) := by decide +kernel
theorem zd_City_addReader_8 : decode zm_City_addReader.2.1 8 = .ok (.return_, 1) := by decide +kernel
theorem zd_City_addReader_9 : decode zm_City_addReader.2.1 9 = .ok (.aload_n 0, 1) := by decide +kernel
theorem zd_City_addReader_10 : decode zm_City_addReader.2.1 10 = .ok (.getfield 37, 3) := by decide +kernel
theorem zd_City_addReader_13 : decode zm_City_addReader.2.1 13 = .ok (.aload_n 0, 1) := by decide +kernel
theorem zd_City_addReader_14 : decode zm_City_addReader.2.1 14 = .ok (.getfield 46, 3) := by decide +kernel
theorem zd_City_addReader_17 : decode zm_City_addReader.2.1 17 = .ok (.iload_n 1, 1) := by decide +kernel
theorem zd_City_addReader_18 : decode zm_City_addReader.2.1 18 = .ok (.iastore, 1) := by decide +kernel
theorem zd_City_addReader_19 : decode zm_City_addReader.2.1 19 = .ok (.aload_n 0, 1) := by decide +kernel
theorem zd_City_addReader_20 : decode zm_City_addReader.2.1 20 = .ok (.dup, 1) := by decide +kernel
theorem zd_City_addReader_21 : decode zm_City_addReader.2.1 21 = .ok (.getfield 46, 3) := by decide +kernel
theorem zd_City_addReader_24 : decode zm_City_addReader.2.1 24 = .ok (.iconst 1, 1) := by decide +kernel
theorem zd_City_addReader_25 : decode zm_City_addReader.2.1 25 = .ok (.iadd, 1) := by decide +kernel
theorem zd_City_addReader_26 : decode zm_City_addReader.2.1 26 = .ok (.putfield 46, 3) := by decide +kernel
theorem zd_City_addReader_29 : decode zm_City_addReader.2.1 29 = .ok (.return_, 1) := by decide +kernel
theorem zb_City_addReader_0 {Γ : zG} {σ : zS} {o : Nat} {x1 : Int32} (h_o : z_oC o) (kt : ¬ (σ.1 o 9) = (nI 4) → z_J Γ zm_City_addReader 9 [some (.inr (o)), some (.inl (x1))] [] σ) (kf : (σ.1 o 9) = (nI 4) → z_J Γ zm_City_addReader 8 [none, none] [] σ) : z_J Γ zm_City_addReader 0 [some (.inr (o)), some (.inl (x1))] [] σ := by
  refine zj_aload_n zd_City_addReader_0 rfl ?_
  refine zj_getI (zk_C0 h_o) (by decide) rfl zu_City (k := 9) (by decide) rfl zl_City_46 zd_City_addReader_1 ?_
  refine zj_iconst (v := nI 4) zd_City_addReader_4 (by decide) ?_
  exact zj_icmp_ne zd_City_addReader_5 (by decide) (fun h => (kt h)) (fun h => (zj_weak (L' := [none, none]) trivial (kf h)))
theorem zb_City_addReader_8 {Γ : zG} {σ : zS}  (e : z_end Γ none σ) : z_J Γ zm_City_addReader 8 [none, none] [] σ := by
  exact zj_return rfl zd_City_addReader_8 e
theorem zb_City_addReader_9 {Γ : zG} {σ : zS} {o : Nat} {x1 : Int32} {k1 : Nat} (h_o : z_oC o) (b1 : z_ix (σ.1 o 9) 4 k1) (e : z_end Γ none (z_pI (z_pI σ (o + 8) k1 x1) o 9 (((z_pI σ (o + 8) k1 x1).1 o 9) + (nI 1)))) : z_J Γ zm_City_addReader 9 [some (.inr (o)), some (.inl (x1))] [] σ := by
  refine zj_aload_n zd_City_addReader_9 rfl ?_
  refine zj_getR (zk_C0 h_o) (by decide) rfl zu_City (k := 10) (by decide) rfl zl_City_37 zd_City_addReader_10 (o' := o + 8) rfl ?_
  refine zj_aload_n zd_City_addReader_13 rfl ?_
  refine zj_getI (zk_C0 h_o) (by decide) rfl zu_City (k := 9) (by decide) rfl zl_City_46 zd_City_addReader_14 ?_
  refine zj_iload_n zd_City_addReader_17 rfl ?_
  refine zj_iastore (zk_C8 h_o) (by decide) b1 zd_City_addReader_18 ?_
  refine zj_aload_n zd_City_addReader_19 rfl ?_
  refine zj_dup zd_City_addReader_20 ?_
  refine zj_getI (zk_C0 h_o) (by decide) rfl zu_City (k := 9) (by decide) rfl zl_City_46 zd_City_addReader_21 ?_
  refine zj_iconst (v := nI 1) zd_City_addReader_24 (by decide) ?_
  refine zj_iadd zd_City_addReader_25 ?_
  refine zj_putI (zk_C0 h_o) (by decide) rfl zu_City zy_City_ok zn_City (k := 9) (by decide) rfl rfl zl_City_46 rfl rfl zd_City_addReader_26 ?_
  exact zj_return rfl zd_City_addReader_29 e
theorem zd_City_writePage_0 : decode zm_City_writePage.2.1 0 = .ok (.aload_n 1, 1) := by decide +kernel
theorem zd_City_writePage_1 : decode zm_City_writePage.2.1 1 = .ok (.iconst 0, 1) := by decide +kernel
theorem zd_City_writePage_2 : decode zm_City_writePage.2.1 2 = .ok (.aload_n 0, 1) := by decide +kernel
theorem zd_City_writePage_3 : decode zm_City_writePage.2.1 3 = .ok (.getfield 72, 3) := by decide +kernel
theorem zd_City_writePage_6 : decode zm_City_writePage.2.1 6 = .ok (.iastore, 1) := by decide +kernel
theorem zd_City_writePage_7 : decode zm_City_writePage.2.1 7 = .ok (.iconst 1, 1) := by decide +kernel
theorem zd_City_writePage_8 : decode zm_City_writePage.2.1 8 = .ok (.istore_n 2, 1) := by decide +kernel
theorem zd_City_writePage_9 : decode zm_City_writePage.2.1 9 = .ok (.aload_n 0, 1) := by decide +kernel
theorem zd_City_writePage_10 : decode zm_City_writePage.2.1 10 = .ok (.getfield 40, 3) := by decide +kernel
theorem zd_City_writePage_13 : decode zm_City_writePage.2.1 13 = .ok (.iconst 0, 1) := by decide +kernel
theorem zd_City_writePage_14 : decode zm_City_writePage.2.1 14 = .ok (.aload_n 1, 1) := by decide +kernel
theorem zd_City_writePage_15 : decode zm_City_writePage.2.1 15 = .ok (.iload_n 2, 1) := by decide +kernel
theorem zd_City_writePage_16 : decode zm_City_writePage.2.1 16 = .ok (.iconst 4, 1) := by decide +kernel
theorem zd_City_writePage_17 : decode zm_City_writePage.2.1 17 = .ok (.invokestatic 135, 3) := by decide +kernel
theorem zd_City_writePage_20 : decode zm_City_writePage.2.1 20 = .ok (.iinc 2 4, 3) := by decide +kernel
theorem zd_City_writePage_23 : decode zm_City_writePage.2.1 23 = .ok (.aload_n 0, 1) := by decide +kernel
theorem zd_City_writePage_24 : decode zm_City_writePage.2.1 24 = .ok (.getfield 18, 3) := by decide +kernel
theorem zd_City_writePage_27 : decode zm_City_writePage.2.1 27 = .ok (.iconst 0, 1) := by decide +kernel
theorem zd_City_writePage_28 : decode zm_City_writePage.2.1 28 = .ok (.aload_n 1, 1) := by decide +kernel
theorem zd_City_writePage_29 : decode zm_City_writePage.2.1 29 = .ok (.iload_n 2, 1) := by decide +kernel
theorem zd_City_writePage_30 : decode zm_City_writePage.2.1 30 = .ok (.bipush 12, 2) := by decide +kernel
theorem zd_City_writePage_32 : decode zm_City_writePage.2.1 32 = .ok (.invokestatic 135, 3) := by decide +kernel
theorem zd_City_writePage_35 : decode zm_City_writePage.2.1 35 = .ok (.iinc 2 12, 3) := by decide +kernel
theorem zd_City_writePage_38 : decode zm_City_writePage.2.1 38 = .ok (.aload_n 0, 1) := by decide +kernel
theorem zd_City_writePage_39 : decode zm_City_writePage.2.1 39 = .ok (.getfield 21, 3) := by decide +kernel
theorem zd_City_writePage_42 : decode zm_City_writePage.2.1 42 = .ok (.iconst 0, 1) := by decide +kernel
theorem zd_City_writePage_43 : decode zm_City_writePage.2.1 43 = .ok (.aload_n 1, 1) := by decide +kernel
theorem zd_City_writePage_44 : decode zm_City_writePage.2.1 44 = .ok (.iload_n 2, 1) := by decide +kernel
theorem zd_City_writePage_45 : decode zm_City_writePage.2.1 45 = .ok (.bipush 12, 2) := by decide +kernel
theorem zd_City_writePage_47 : decode zm_City_writePage.2.1 47 = .ok (.invokestatic 135, 3) := by decide +kernel
theorem zd_City_writePage_50 : decode zm_City_writePage.2.1 50 = .ok (.iinc 2 12, 3) := by decide +kernel
theorem zd_City_writePage_53 : decode zm_City_writePage.2.1 53 = .ok (.aload_n 0, 1) := by decide +kernel
theorem zd_City_writePage_54 : decode zm_City_writePage.2.1 54 = .ok (.getfield 24, 3) := by decide +kernel
theorem zd_City_writePage_57 : decode zm_City_writePage.2.1 57 = .ok (.iconst 0, 1) := by decide +kernel
theorem zd_City_writePage_58 : decode zm_City_writePage.2.1 58 = .ok (.aload_n 1, 1) := by decide +kernel
theorem zd_City_writePage_59 : decode zm_City_writePage.2.1 59 = .ok (.iload_n 2, 1) := by decide +kernel
theorem zd_City_writePage_60 : decode zm_City_writePage.2.1 60 = .ok (.bipush 12, 2) := by decide +kernel
theorem zd_City_writePage_62 : decode zm_City_writePage.2.1 62 = .ok (.invokestatic 135, 3) := by decide +kernel
theorem zd_City_writePage_65 : decode zm_City_writePage.2.1 65 = .ok (.iinc 2 12, 3) := by decide +kernel
theorem zd_City_writePage_68 : decode zm_City_writePage.2.1 68 = .ok (.aload_n 0, 1) := by decide +kernel
theorem zd_City_writePage_69 : decode zm_City_writePage.2.1 69 = .ok (.getfield 31, 3) := by decide +kernel
theorem zd_City_writePage_72 : decode zm_City_writePage.2.1 72 = .ok (.iconst 0, 1) := by decide +kernel
theorem zd_City_writePage_73 : decode zm_City_writePage.2.1 73 = .ok (.aload_n 1, 1) := by decide +kernel
theorem zd_City_writePage_74 : decode zm_City_writePage.2.1 74 = .ok (.iload_n 2, 1) := by decide +kernel
theorem zd_City_writePage_75 : decode zm_City_writePage.2.1 75 = .ok (.bipush 6, 2) := by decide +kernel
theorem zd_City_writePage_77 : decode zm_City_writePage.2.1 77 = .ok (.invokestatic 135, 3) := by decide +kernel
theorem zd_City_writePage_80 : decode zm_City_writePage.2.1 80 = .ok (.iinc 2 6, 3) := by decide +kernel
theorem zd_City_writePage_83 : decode zm_City_writePage.2.1 83 = .ok (.aload_n 0, 1) := by decide +kernel
theorem zd_City_writePage_84 : decode zm_City_writePage.2.1 84 = .ok (.getfield 34, 3) := by decide +kernel
theorem zd_City_writePage_87 : decode zm_City_writePage.2.1 87 = .ok (.iconst 0, 1) := by decide +kernel
theorem zd_City_writePage_88 : decode zm_City_writePage.2.1 88 = .ok (.aload_n 1, 1) := by decide +kernel
theorem zd_City_writePage_89 : decode zm_City_writePage.2.1 89 = .ok (.iload_n 2, 1) := by decide +kernel
theorem zd_City_writePage_90 : decode zm_City_writePage.2.1 90 = .ok (.bipush 24, 2) := by decide +kernel
theorem zd_City_writePage_92 : decode zm_City_writePage.2.1 92 = .ok (.invokestatic 135, 3) := by decide +kernel
theorem zd_City_writePage_95 : decode zm_City_writePage.2.1 95 = .ok (.return_, 1) := by decide +kernel
theorem zb_City_writePage_0 {Γ : zG} {σ : zS} {o : Nat} {a1 : Nat} {k1 i1 j1 l1 : Nat} (h_o : z_oC o) (h_a1 : z_kd a1 = (11, 71)) (hdp : 0 < z_dep Γ) (b1 : z_ix (nI 0) 71 k1) (p1 : nI 0 = nI i1) (q1 : nI 1 = nI j1) (r1 : nI 4 = nI l1) (s1 : i1 + l1 ≤ 4) (t1 : j1 + l1 ≤ 71) (k : z_J Γ zm_City_writePage 20 [some (.inr (o)), some (.inr (a1)), some (.inl (nI 1))] [] (z_pA (z_pI σ a1 k1 (σ.1 o 12)) a1 (va_cpy ((z_pI σ a1 k1 (σ.1 o 12)).1 (o + 9)) ((z_pI σ a1 k1 (σ.1 o 12)).1 a1) i1 j1 l1))) : z_J Γ zm_City_writePage 0 [some (.inr (o)), some (.inr (a1)), none] [] σ := by
  refine zj_aload_n zd_City_writePage_0 rfl ?_
  refine zj_iconst (v := nI 0) zd_City_writePage_1 (by decide) ?_
  refine zj_aload_n zd_City_writePage_2 rfl ?_
  refine zj_getI (zk_C0 h_o) (by decide) rfl zu_City (k := 12) (by decide) rfl zl_City_72 zd_City_writePage_3 ?_
  refine zj_iastore h_a1 (by decide) b1 zd_City_writePage_6 ?_
  refine zj_iconst (v := nI 1) zd_City_writePage_7 (by decide) ?_
  refine zj_istore_n (L' := [some (.inr (o)), some (.inr (a1)), some (.inl (nI 1))]) zd_City_writePage_8 (by decide) rfl ?_
  refine zj_aload_n zd_City_writePage_9 rfl ?_
  refine zj_getR (zk_C0 h_o) (by decide) rfl zu_City (k := 11) (by decide) rfl zl_City_40 zd_City_writePage_10 (o' := o + 9) rfl ?_
  refine zj_iconst (v := nI 0) zd_City_writePage_13 (by decide) ?_
  refine zj_aload_n zd_City_writePage_14 rfl ?_
  refine zj_iload_n zd_City_writePage_15 rfl ?_
  refine zj_iconst (v := nI 4) zd_City_writePage_16 (by decide) ?_
  refine zj_acopy zl_City_135 zx_acopy_n zx_acopy_s zx_System (zk_C9 h_o) h_a1 (by decide) (by decide) p1 q1 r1 s1 t1 hdp (Nat.le_of_ble_eq_true rfl) zd_City_writePage_17 ?_
  exact k
theorem zb_City_writePage_20 {Γ : zG} {σ : zS} {o : Nat} {a1 : Nat} {x2 : Int32} {i1 j1 l1 : Nat} (h_o : z_oC o) (h_a1 : z_kd a1 = (11, 71)) (hdp : 0 < z_dep Γ) (p1 : nI 0 = nI i1) (q1 : x2 + nI 4 = nI j1) (r1 : nI 12 = nI l1) (s1 : i1 + l1 ≤ 12) (t1 : j1 + l1 ≤ 71) (k : z_J Γ zm_City_writePage 35 [some (.inr (o)), some (.inr (a1)), some (.inl (x2 + nI 4))] [] (z_pA σ a1 (va_cpy (σ.1 (o + 3)) (σ.1 a1) i1 j1 l1))) : z_J Γ zm_City_writePage 20 [some (.inr (o)), some (.inr (a1)), some (.inl (x2))] [] σ := by
  refine zj_iinc (v := nI 4) (L' := [some (.inr (o)), some (.inr (a1)), some (.inl (x2 + nI 4))]) zd_City_writePage_20 rfl (by decide) (by decide) rfl ?_
  refine zj_aload_n zd_City_writePage_23 rfl ?_
  refine zj_getR (zk_C0 h_o) (by decide) rfl zu_City (k := 3) (by decide) rfl zl_City_18 zd_City_writePage_24 (o' := o + 3) rfl ?_
  refine zj_iconst (v := nI 0) zd_City_writePage_27 (by decide) ?_
  refine zj_aload_n zd_City_writePage_28 rfl ?_
  refine zj_iload_n zd_City_writePage_29 rfl ?_
  refine zj_bipush (v := nI 12) zd_City_writePage_30 (by decide) ?_
  refine zj_acopy zl_City_135 zx_acopy_n zx_acopy_s zx_System (zk_C3 h_o) h_a1 (by decide) (by decide) p1 q1 r1 s1 t1 hdp (Nat.le_of_ble_eq_true rfl) zd_City_writePage_32 ?_
  exact k
theorem zb_City_writePage_35 {Γ : zG} {σ : zS} {o : Nat} {a1 : Nat} {x2 : Int32} {i1 j1 l1 : Nat} (h_o : z_oC o) (h_a1 : z_kd a1 = (11, 71)) (hdp : 0 < z_dep Γ) (p1 : nI 0 = nI i1) (q1 : x2 + nI 12 = nI j1) (r1 : nI 12 = nI l1) (s1 : i1 + l1 ≤ 12) (t1 : j1 + l1 ≤ 71) (k : z_J Γ zm_City_writePage 50 [some (.inr (o)), some (.inr (a1)), some (.inl (x2 + nI 12))] [] (z_pA σ a1 (va_cpy (σ.1 (o + 4)) (σ.1 a1) i1 j1 l1))) : z_J Γ zm_City_writePage 35 [some (.inr (o)), some (.inr (a1)), some (.inl (x2))] [] σ := by
  refine zj_iinc (v := nI 12) (L' := [some (.inr (o)), some (.inr (a1)), some (.inl (x2 + nI 12))]) zd_City_writePage_35 rfl (by decide) (by decide) rfl ?_
  refine zj_aload_n zd_City_writePage_38 rfl ?_
  refine zj_getR (zk_C0 h_o) (by decide) rfl zu_City (k := 4) (by decide) rfl zl_City_21 zd_City_writePage_39 (o' := o + 4) rfl ?_
  refine zj_iconst (v := nI 0) zd_City_writePage_42 (by decide) ?_
  refine zj_aload_n zd_City_writePage_43 rfl ?_
  refine zj_iload_n zd_City_writePage_44 rfl ?_
  refine zj_bipush (v := nI 12) zd_City_writePage_45 (by decide) ?_
  refine zj_acopy zl_City_135 zx_acopy_n zx_acopy_s zx_System (zk_C4 h_o) h_a1 (by decide) (by decide) p1 q1 r1 s1 t1 hdp (Nat.le_of_ble_eq_true rfl) zd_City_writePage_47 ?_
  exact k
theorem zb_City_writePage_50 {Γ : zG} {σ : zS} {o : Nat} {a1 : Nat} {x2 : Int32} {i1 j1 l1 : Nat} (h_o : z_oC o) (h_a1 : z_kd a1 = (11, 71)) (hdp : 0 < z_dep Γ) (p1 : nI 0 = nI i1) (q1 : x2 + nI 12 = nI j1) (r1 : nI 12 = nI l1) (s1 : i1 + l1 ≤ 12) (t1 : j1 + l1 ≤ 71) (k : z_J Γ zm_City_writePage 65 [some (.inr (o)), some (.inr (a1)), some (.inl (x2 + nI 12))] [] (z_pA σ a1 (va_cpy (σ.1 (o + 5)) (σ.1 a1) i1 j1 l1))) : z_J Γ zm_City_writePage 50 [some (.inr (o)), some (.inr (a1)), some (.inl (x2))] [] σ := by
  refine zj_iinc (v := nI 12) (L' := [some (.inr (o)), some (.inr (a1)), some (.inl (x2 + nI 12))]) zd_City_writePage_50 rfl (by decide) (by decide) rfl ?_
  refine zj_aload_n zd_City_writePage_53 rfl ?_
  refine zj_getR (zk_C0 h_o) (by decide) rfl zu_City (k := 5) (by decide) rfl zl_City_24 zd_City_writePage_54 (o' := o + 5) rfl ?_
  refine zj_iconst (v := nI 0) zd_City_writePage_57 (by decide) ?_
  refine zj_aload_n zd_City_writePage_58 rfl ?_
  refine zj_iload_n zd_City_writePage_59 rfl ?_
  refine zj_bipush (v := nI 12) zd_City_writePage_60 (by decide) ?_
  refine zj_acopy zl_City_135 zx_acopy_n zx_acopy_s zx_System (zk_C5 h_o) h_a1 (by decide) (by decide) p1 q1 r1 s1 t1 hdp (Nat.le_of_ble_eq_true rfl) zd_City_writePage_62 ?_
  exact k
theorem zb_City_writePage_65 {Γ : zG} {σ : zS} {o : Nat} {a1 : Nat} {x2 : Int32} {i1 j1 l1 : Nat} (h_o : z_oC o) (h_a1 : z_kd a1 = (11, 71)) (hdp : 0 < z_dep Γ) (p1 : nI 0 = nI i1) (q1 : x2 + nI 12 = nI j1) (r1 : nI 6 = nI l1) (s1 : i1 + l1 ≤ 6) (t1 : j1 + l1 ≤ 71) (k : z_J Γ zm_City_writePage 80 [some (.inr (o)), some (.inr (a1)), some (.inl (x2 + nI 12))] [] (z_pA σ a1 (va_cpy (σ.1 (o + 6)) (σ.1 a1) i1 j1 l1))) : z_J Γ zm_City_writePage 65 [some (.inr (o)), some (.inr (a1)), some (.inl (x2))] [] σ := by
  refine zj_iinc (v := nI 12) (L' := [some (.inr (o)), some (.inr (a1)), some (.inl (x2 + nI 12))]) zd_City_writePage_65 rfl (by decide) (by decide) rfl ?_
  refine zj_aload_n zd_City_writePage_68 rfl ?_
  refine zj_getR (zk_C0 h_o) (by decide) rfl zu_City (k := 7) (by decide) rfl zl_City_31 zd_City_writePage_69 (o' := o + 6) rfl ?_
  refine zj_iconst (v := nI 0) zd_City_writePage_72 (by decide) ?_
  refine zj_aload_n zd_City_writePage_73 rfl ?_
  refine zj_iload_n zd_City_writePage_74 rfl ?_
  refine zj_bipush (v := nI 6) zd_City_writePage_75 (by decide) ?_
  refine zj_acopy zl_City_135 zx_acopy_n zx_acopy_s zx_System (zk_C6 h_o) h_a1 (by decide) (by decide) p1 q1 r1 s1 t1 hdp (Nat.le_of_ble_eq_true rfl) zd_City_writePage_77 ?_
  exact k
theorem zb_City_writePage_80 {Γ : zG} {σ : zS} {o : Nat} {a1 : Nat} {x2 : Int32} {i1 j1 l1 : Nat} (h_o : z_oC o) (h_a1 : z_kd a1 = (11, 71)) (hdp : 0 < z_dep Γ) (p1 : nI 0 = nI i1) (q1 : x2 + nI 6 = nI j1) (r1 : nI 24 = nI l1) (s1 : i1 + l1 ≤ 24) (t1 : j1 + l1 ≤ 71) (k : z_J Γ zm_City_writePage 95 [none, none, none] [] (z_pA σ a1 (va_cpy (σ.1 (o + 7)) (σ.1 a1) i1 j1 l1))) : z_J Γ zm_City_writePage 80 [some (.inr (o)), some (.inr (a1)), some (.inl (x2))] [] σ := by
  refine zj_iinc (v := nI 6) (L' := [some (.inr (o)), some (.inr (a1)), some (.inl (x2 + nI 6))]) zd_City_writePage_80 rfl (by decide) (by decide) rfl ?_
  refine zj_aload_n zd_City_writePage_83 rfl ?_
  refine zj_getR (zk_C0 h_o) (by decide) rfl zu_City (k := 8) (by decide) rfl zl_City_34 zd_City_writePage_84 (o' := o + 7) rfl ?_
  refine zj_iconst (v := nI 0) zd_City_writePage_87 (by decide) ?_
  refine zj_aload_n zd_City_writePage_88 rfl ?_
  refine zj_iload_n zd_City_writePage_89 rfl ?_
  refine zj_bipush (v := nI 24) zd_City_writePage_90 (by decide) ?_
  refine zj_acopy zl_City_135 zx_acopy_n zx_acopy_s zx_System (zk_C7 h_o) h_a1 (by decide) (by decide) p1 q1 r1 s1 t1 hdp (Nat.le_of_ble_eq_true rfl) zd_City_writePage_92 ?_
  exact (zj_weak (L' := [none, none, none]) trivial k)
theorem zb_City_writePage_95 {Γ : zG} {σ : zS}  (e : z_end Γ none σ) : z_J Γ zm_City_writePage 95 [none, none, none] [] σ := by
  exact zj_return rfl zd_City_writePage_95 e
theorem zd_City_layOn_0 : decode zm_City_layOn.2.1 0 = .ok (.aload_n 0, 1) := by decide +kernel
theorem zd_City_layOn_1 : decode zm_City_layOn.2.1 1 = .ok (.iload_n 1, 1) := by decide +kernel
theorem zd_City_layOn_2 : decode zm_City_layOn.2.1 2 = .ok (.invokevirtual 92, 3) := by decide +kernel
theorem zd_City_layOn_5 : decode zm_City_layOn.2.1 5 = .ok (.ifCond .eq 11, 3) := by decide +kernel
theorem zd_City_layOn_8 : decode zm_City_layOn.2.1 8 = .ok (.aload_n 0, 1) := by decide +kernel
theorem zd_City_layOn_9 : decode zm_City_layOn.2.1 9 = .ok (.iload_n 2, 1) := by decide +kernel
theorem zd_City_layOn_10 : decode zm_City_layOn.2.1 10 = .ok (.invokevirtual 96, 3) := by decide +kernel
theorem zd_City_layOn_13 : decode zm_City_layOn.2.1 13 = .ok (.ifCond .ne 5, 3) := by decide +kernel
theorem zd_City_layOn_16 : decode zm_City_layOn.2.1 16 = .ok (.iconst (-1), 1) := by decide +kernel
theorem zd_City_layOn_17 : decode zm_City_layOn.2.1 17 = .ok (.ireturn, 1) := by decide +kernel
theorem zd_City_layOn_18 : decode zm_City_layOn.2.1 18 = .ok (.aload_n 0, 1) := by decide +kernel
theorem zd_City_layOn_19 : decode zm_City_layOn.2.1 19 = .ok (.getfield 18, 3) := by decide +kernel
theorem zd_City_layOn_22 : decode zm_City_layOn.2.1 22 = .ok (.iload_n 1, 1) := by decide +kernel
theorem zd_City_layOn_23 : decode zm_City_layOn.2.1 23 = .ok (.iaload, 1) := by decide +kernel
theorem zd_City_layOn_24 : decode zm_City_layOn.2.1 24 = .ok (.ifCond .eq 6, 3) := by decide +kernel
theorem zd_City_layOn_27 : decode zm_City_layOn.2.1 27 = .ok (.bipush (-2), 2) := by decide +kernel
theorem zd_City_layOn_29 : decode zm_City_layOn.2.1 29 = .ok (.ireturn, 1) := by decide +kernel
theorem zd_City_layOn_30 : decode zm_City_layOn.2.1 30 = .ok (.aload_n 0, 1) := by decide +kernel
theorem zd_City_layOn_31 : decode zm_City_layOn.2.1 31 = .ok (.getfield 31, 3) := by decide +kernel
theorem zd_City_layOn_34 : decode zm_City_layOn.2.1 34 = .ok (.iload_n 2, 1) := by decide +kernel
theorem zd_City_layOn_35 : decode zm_City_layOn.2.1 35 = .ok (.iaload, 1) := by decide +kernel
theorem zd_City_layOn_36 : decode zm_City_layOn.2.1 36 = .ok (.iconst 4, 1) := by decide +kernel
theorem zd_City_layOn_37 : decode zm_City_layOn.2.1 37 = .ok (.if_icmp .ne 6, 3) := by decide +kernel
theorem zd_City_layOn_40 : decode zm_City_layOn.2.1 40 = .ok (.bipush (-3), 2) := by decide +kernel
theorem zd_City_layOn_42 : decode zm_City_layOn.2.1 42 = .ok (.ireturn, 1) := by decide +kernel
theorem zd_City_layOn_43 : decode zm_City_layOn.2.1 43 = .ok (.aload_n 0, 1) := by decide +kernel
theorem zd_City_layOn_44 : decode zm_City_layOn.2.1 44 = .ok (.iload_n 1, 1) := by decide +kernel
theorem zd_City_layOn_45 : decode zm_City_layOn.2.1 45 = .ok (.iload_n 2, 1) := by decide +kernel
theorem zd_City_layOn_46 : decode zm_City_layOn.2.1 46 = .ok (.invokevirtual 99, 3) := by decide +kernel
theorem zd_City_layOn_49 : decode zm_City_layOn.2.1 49 = .ok (.aload_n 0, 1) := by decide +kernel
theorem zd_City_layOn_50 : decode zm_City_layOn.2.1 50 = .ok (.iload_n 2, 1) := by decide +kernel
theorem zd_City_layOn_51 : decode zm_City_layOn.2.1 51 = .ok (.aload_n 3, 1) := by decide +kernel
theorem zd_City_layOn_52 : decode zm_City_layOn.2.1 52 = .ok (.invokevirtual 102, 3) := by decide +kernel
theorem zd_City_layOn_55 : decode zm_City_layOn.2.1 55 = .ok (.ifCond .eq 9, 3) := by decide +kernel
theorem zd_City_layOn_58 : decode zm_City_layOn.2.1 58 = .ok (.aload_n 0, 1) := by decide +kernel
theorem zd_City_layOn_59 : decode zm_City_layOn.2.1 59 = .ok (.iload_n 2, 1) := by decide +kernel
theorem zd_City_layOn_60 : decode zm_City_layOn.2.1 60 = .ok (.invokevirtual 64, 3) := by decide +kernel
theorem zd_City_layOn_63 : decode zm_City_layOn.2.1 63 = .ok (.ireturn, 1) := by decide +kernel
theorem zd_City_layOn_64 : decode zm_City_layOn.2.1 64 = .ok (.aload_n 0, 1) := by decide +kernel
theorem zd_City_layOn_65 : decode zm_City_layOn.2.1 65 = .ok (.iload_n 1, 1) := by decide +kernel
theorem zd_City_layOn_66 : decode zm_City_layOn.2.1 66 = .ok (.iconst 0, 1) := by decide +kernel
theorem zd_City_layOn_67 : decode zm_City_layOn.2.1 67 = .ok (.invokevirtual 49, 3) := by decide +kernel
theorem zd_City_layOn_70 : decode zm_City_layOn.2.1 70 = .ok (.bipush (-4), 2) := by decide +kernel
theorem zd_City_layOn_72 : decode zm_City_layOn.2.1 72 = .ok (.ireturn, 1) := by decide +kernel
theorem zb_City_layOn_0 {Γ : zG} {σ : zS} {o : Nat} {r3 : Nat} {x1 x2 : Int32} {dc : Nat} {P : Int32 → zS → Prop} (h_o : z_oC o) (h_r3 : z_oR r3) (hm : z_Ci dc zm_City_isBook [.inr (o), .inl (x1)] σ P) (hdp : dc < z_dep Γ) (k : ∀ r σ1, P r σ1 → z_J Γ zm_City_layOn 5 [some (.inr (o)), some (.inl (x1)), some (.inl (x2)), some (.inr (r3))] [.inl (r)] σ1) : z_J Γ zm_City_layOn 0 [some (.inr (o)), some (.inl (x1)), some (.inl (x2)), some (.inr (r3))] [] σ := by
  refine zj_aload_n zd_City_layOn_0 rfl ?_
  refine zj_iload_n zd_City_layOn_1 rfl ?_
  exact zj_callVi (As := [.inl (x1)]) hm hdp (zk_C0 h_o) (by decide) rfl zl_City_92 zq_City_isBook zd_City_layOn_2 rfl (Nat.le_of_ble_eq_true rfl) (fun r σ1 h => (k r σ1 h))
theorem zb_City_layOn_5 {Γ : zG} {σ : zS} {o : Nat} {r3 : Nat} {x1 x2 y0 : Int32} (h_o : z_oC o) (h_r3 : z_oR r3) (kt : y0 = 0 → z_J Γ zm_City_layOn 16 [none, none, none, none] [] σ) (kf : ¬ y0 = 0 → z_J Γ zm_City_layOn 8 [some (.inr (o)), some (.inl (x1)), some (.inl (x2)), some (.inr (r3))] [] σ) : z_J Γ zm_City_layOn 5 [some (.inr (o)), some (.inl (x1)), some (.inl (x2)), some (.inr (r3))] [.inl (y0)] σ := by
  exact zj_if_eq zd_City_layOn_5 (by decide) (fun h => (zj_weak (L' := [none, none, none, none]) trivial (kt h))) (fun h => (kf h))
theorem zb_City_layOn_8 {Γ : zG} {σ : zS} {o : Nat} {r3 : Nat} {x1 x2 : Int32} {dc : Nat} {P : Int32 → zS → Prop} (h_o : z_oC o) (h_r3 : z_oR r3) (hm : z_Ci dc zm_City_isColumn [.inr (o), .inl (x2)] σ P) (hdp : dc < z_dep Γ) (k : ∀ r σ1, P r σ1 → z_J Γ zm_City_layOn 13 [some (.inr (o)), some (.inl (x1)), some (.inl (x2)), some (.inr (r3))] [.inl (r)] σ1) : z_J Γ zm_City_layOn 8 [some (.inr (o)), some (.inl (x1)), some (.inl (x2)), some (.inr (r3))] [] σ := by
  refine zj_aload_n zd_City_layOn_8 rfl ?_
  refine zj_iload_n zd_City_layOn_9 rfl ?_
  exact zj_callVi (As := [.inl (x2)]) hm hdp (zk_C0 h_o) (by decide) rfl zl_City_96 zq_City_isColumn zd_City_layOn_10 rfl (Nat.le_of_ble_eq_true rfl) (fun r σ1 h => (k r σ1 h))
theorem zb_City_layOn_13 {Γ : zG} {σ : zS} {o : Nat} {r3 : Nat} {x1 x2 y0 : Int32} (h_o : z_oC o) (h_r3 : z_oR r3) (kt : ¬ y0 = 0 → z_J Γ zm_City_layOn 18 [some (.inr (o)), some (.inl (x1)), some (.inl (x2)), some (.inr (r3))] [] σ) (kf : y0 = 0 → z_J Γ zm_City_layOn 16 [none, none, none, none] [] σ) : z_J Γ zm_City_layOn 13 [some (.inr (o)), some (.inl (x1)), some (.inl (x2)), some (.inr (r3))] [.inl (y0)] σ := by
  exact zj_if_ne zd_City_layOn_13 (by decide) (fun h => (kt h)) (fun h => (zj_weak (L' := [none, none, none, none]) trivial (kf h)))
theorem zb_City_layOn_16 {Γ : zG} {σ : zS}  (e : z_end Γ (some ((-1))) σ) : z_J Γ zm_City_layOn 16 [none, none, none, none] [] σ := by
  refine zj_iconst (v := (-1)) zd_City_layOn_16 (by decide) ?_
  exact zj_ireturn rfl zd_City_layOn_17 e
theorem zb_City_layOn_18 {Γ : zG} {σ : zS} {o : Nat} {r3 : Nat} {x1 x2 : Int32} {k1 : Nat} (h_o : z_oC o) (h_r3 : z_oR r3) (b1 : z_ix x1 12 k1) (kt : (σ.1 (o + 3) k1) = 0 → z_J Γ zm_City_layOn 30 [some (.inr (o)), some (.inl (x1)), some (.inl (x2)), some (.inr (r3))] [] σ) (kf : ¬ (σ.1 (o + 3) k1) = 0 → z_J Γ zm_City_layOn 27 [none, none, none, none] [] σ) : z_J Γ zm_City_layOn 18 [some (.inr (o)), some (.inl (x1)), some (.inl (x2)), some (.inr (r3))] [] σ := by
  refine zj_aload_n zd_City_layOn_18 rfl ?_
  refine zj_getR (zk_C0 h_o) (by decide) rfl zu_City (k := 3) (by decide) rfl zl_City_18 zd_City_layOn_19 (o' := o + 3) rfl ?_
  refine zj_iload_n zd_City_layOn_22 rfl ?_
  refine zj_iaload (zk_C3 h_o) (by decide) b1 zd_City_layOn_23 ?_
  exact zj_if_eq zd_City_layOn_24 (by decide) (fun h => (kt h)) (fun h => (zj_weak (L' := [none, none, none, none]) trivial (kf h)))
theorem zb_City_layOn_27 {Γ : zG} {σ : zS}  (e : z_end Γ (some ((-2))) σ) : z_J Γ zm_City_layOn 27 [none, none, none, none] [] σ := by
  refine zj_bipush (v := (-2)) zd_City_layOn_27 (by decide) ?_
  exact zj_ireturn rfl zd_City_layOn_29 e
theorem zb_City_layOn_30 {Γ : zG} {σ : zS} {o : Nat} {r3 : Nat} {x1 x2 : Int32} {k1 : Nat} (h_o : z_oC o) (h_r3 : z_oR r3) (b1 : z_ix x2 6 k1) (kt : ¬ (σ.1 (o + 6) k1) = (nI 4) → z_J Γ zm_City_layOn 43 [some (.inr (o)), some (.inl (x1)), some (.inl (x2)), some (.inr (r3))] [] σ) (kf : (σ.1 (o + 6) k1) = (nI 4) → z_J Γ zm_City_layOn 40 [none, none, none, none] [] σ) : z_J Γ zm_City_layOn 30 [some (.inr (o)), some (.inl (x1)), some (.inl (x2)), some (.inr (r3))] [] σ := by
  refine zj_aload_n zd_City_layOn_30 rfl ?_
  refine zj_getR (zk_C0 h_o) (by decide) rfl zu_City (k := 7) (by decide) rfl zl_City_31 zd_City_layOn_31 (o' := o + 6) rfl ?_
  refine zj_iload_n zd_City_layOn_34 rfl ?_
  refine zj_iaload (zk_C6 h_o) (by decide) b1 zd_City_layOn_35 ?_
  refine zj_iconst (v := nI 4) zd_City_layOn_36 (by decide) ?_
  exact zj_icmp_ne zd_City_layOn_37 (by decide) (fun h => (kt h)) (fun h => (zj_weak (L' := [none, none, none, none]) trivial (kf h)))
theorem zb_City_layOn_40 {Γ : zG} {σ : zS}  (e : z_end Γ (some ((-3))) σ) : z_J Γ zm_City_layOn 40 [none, none, none, none] [] σ := by
  refine zj_bipush (v := (-3)) zd_City_layOn_40 (by decide) ?_
  exact zj_ireturn rfl zd_City_layOn_42 e
theorem zb_City_layOn_43 {Γ : zG} {σ : zS} {o : Nat} {r3 : Nat} {x1 x2 : Int32} {dc : Nat} {P : zS → Prop} (h_o : z_oC o) (h_r3 : z_oR r3) (hm : z_Cv dc zm_City_put [.inr (o), .inl (x1), .inl (x2)] σ P) (hdp : dc < z_dep Γ) (k : ∀ σ1, P σ1 → z_J Γ zm_City_layOn 49 [some (.inr (o)), some (.inl (x1)), some (.inl (x2)), some (.inr (r3))] [] σ1) : z_J Γ zm_City_layOn 43 [some (.inr (o)), some (.inl (x1)), some (.inl (x2)), some (.inr (r3))] [] σ := by
  refine zj_aload_n zd_City_layOn_43 rfl ?_
  refine zj_iload_n zd_City_layOn_44 rfl ?_
  refine zj_iload_n zd_City_layOn_45 rfl ?_
  exact zj_callVv (As := [.inl (x1), .inl (x2)]) hm hdp (zk_C0 h_o) (by decide) rfl zl_City_99 zq_City_put zd_City_layOn_46 rfl (Nat.le_of_ble_eq_true rfl) (fun σ1 h => (k σ1 h))
theorem zb_City_layOn_49 {Γ : zG} {σ : zS} {o : Nat} {r3 : Nat} {x1 x2 : Int32} {dc : Nat} {P : Int32 → zS → Prop} (h_o : z_oC o) (h_r3 : z_oR r3) (hm : z_Ci dc zm_City_holdsUp [.inr (o), .inl (x2), .inr (r3)] σ P) (hdp : dc < z_dep Γ) (k : ∀ r σ1, P r σ1 → z_J Γ zm_City_layOn 55 [some (.inr (o)), some (.inl (x1)), some (.inl (x2)), none] [.inl (r)] σ1) : z_J Γ zm_City_layOn 49 [some (.inr (o)), some (.inl (x1)), some (.inl (x2)), some (.inr (r3))] [] σ := by
  refine zj_aload_n zd_City_layOn_49 rfl ?_
  refine zj_iload_n zd_City_layOn_50 rfl ?_
  refine zj_aload_n zd_City_layOn_51 rfl ?_
  exact zj_callVi (As := [.inl (x2), .inr (r3)]) hm hdp (zk_C0 h_o) (by decide) rfl zl_City_102 zq_City_holdsUp zd_City_layOn_52 rfl (Nat.le_of_ble_eq_true rfl) (fun r σ1 h => (zj_weak (L' := [some (.inr (o)), some (.inl (x1)), some (.inl (x2)), none]) ⟨rfl, ⟨rfl, ⟨rfl, trivial⟩⟩⟩ (k r σ1 h)))
theorem zb_City_layOn_55 {Γ : zG} {σ : zS} {o : Nat} {x1 x2 y0 : Int32} (h_o : z_oC o) (kt : y0 = 0 → z_J Γ zm_City_layOn 64 [some (.inr (o)), some (.inl (x1)), none, none] [] σ) (kf : ¬ y0 = 0 → z_J Γ zm_City_layOn 58 [some (.inr (o)), none, some (.inl (x2)), none] [] σ) : z_J Γ zm_City_layOn 55 [some (.inr (o)), some (.inl (x1)), some (.inl (x2)), none] [.inl (y0)] σ := by
  exact zj_if_eq zd_City_layOn_55 (by decide) (fun h => (zj_weak (L' := [some (.inr (o)), some (.inl (x1)), none, none]) ⟨rfl, ⟨rfl, trivial⟩⟩ (kt h))) (fun h => (zj_weak (L' := [some (.inr (o)), none, some (.inl (x2)), none]) ⟨rfl, ⟨rfl, trivial⟩⟩ (kf h)))
theorem zb_City_layOn_58 {Γ : zG} {σ : zS} {o : Nat} {x2 : Int32} {dc : Nat} {P : Int32 → zS → Prop} (h_o : z_oC o) (hm : z_Ci dc zm_City_heightOf [.inr (o), .inl (x2)] σ P) (hdp : dc < z_dep Γ) (k : ∀ r σ1, P r σ1 → z_J Γ zm_City_layOn 63 [none, none, none, none] [.inl (r)] σ1) : z_J Γ zm_City_layOn 58 [some (.inr (o)), none, some (.inl (x2)), none] [] σ := by
  refine zj_aload_n zd_City_layOn_58 rfl ?_
  refine zj_iload_n zd_City_layOn_59 rfl ?_
  exact zj_callVi (As := [.inl (x2)]) hm hdp (zk_C0 h_o) (by decide) rfl zl_City_64 zq_City_heightOf zd_City_layOn_60 rfl (Nat.le_of_ble_eq_true rfl) (fun r σ1 h => (zj_weak (L' := [none, none, none, none]) trivial (k r σ1 h)))
theorem zb_City_layOn_63 {Γ : zG} {σ : zS} {y0 : Int32}  (e : z_end Γ (some (y0)) σ) : z_J Γ zm_City_layOn 63 [none, none, none, none] [.inl (y0)] σ := by
  exact zj_ireturn rfl zd_City_layOn_63 e
theorem zb_City_layOn_64 {Γ : zG} {σ : zS} {o : Nat} {x1 : Int32} {dc : Nat} {P : zS → Prop} (h_o : z_oC o) (hm : z_Cv dc zm_City_lift [.inr (o), .inl (x1), .inl (nI 0)] σ P) (hdp : dc < z_dep Γ) (k : ∀ σ1, P σ1 → z_J Γ zm_City_layOn 70 [none, none, none, none] [] σ1) : z_J Γ zm_City_layOn 64 [some (.inr (o)), some (.inl (x1)), none, none] [] σ := by
  refine zj_aload_n zd_City_layOn_64 rfl ?_
  refine zj_iload_n zd_City_layOn_65 rfl ?_
  refine zj_iconst (v := nI 0) zd_City_layOn_66 (by decide) ?_
  exact zj_callVv (As := [.inl (x1), .inl (nI 0)]) hm hdp (zk_C0 h_o) (by decide) rfl zl_City_49 zq_City_lift zd_City_layOn_67 rfl (Nat.le_of_ble_eq_true rfl) (fun σ1 h => (zj_weak (L' := [none, none, none, none]) trivial (k σ1 h)))
theorem zb_City_layOn_70 {Γ : zG} {σ : zS}  (e : z_end Γ (some ((-4))) σ) : z_J Γ zm_City_layOn 70 [none, none, none, none] [] σ := by
  refine zj_bipush (v := (-4)) zd_City_layOn_70 (by decide) ?_
  exact zj_ireturn rfl zd_City_layOn_72 e
theorem zd_City_isColumn_0 : decode zm_City_isColumn.2.1 0 = .ok (.iload_n 1, 1) := by decide +kernel
theorem zd_City_isColumn_1 : decode zm_City_isColumn.2.1 1 = .ok (.ifCond .lt 15, 3) := by decide +kernel
theorem zd_City_isColumn_4 : decode zm_City_isColumn.2.1 4 = .ok (.iload_n 1, 1) := by decide +kernel
theorem zd_City_isColumn_5 : decode zm_City_isColumn.2.1 5 = .ok (.aload_n 0, 1) := by decide +kernel
theorem zd_City_isColumn_6 : decode zm_City_isColumn.2.1 6 = .ok (.getfield 27, 3) := by decide +kernel
theorem zd_City_isColumn_9 : decode zm_City_isColumn.2.1 9 = .ok (.if_icmp .ge 7, 3) := by decide +kernel
theorem zd_City_isColumn_12 : decode zm_City_isColumn.2.1 12 = .ok (.iconst 1, 1) := by decide +kernel
theorem zd_City_isColumn_13 : decode zm_City_isColumn.2.1 13 = .ok (.goto 4, 3) := by decide +kernel
theorem zd_City_isColumn_16 : decode zm_City_isColumn.2.1 16 = .ok (.iconst 0, 1) := by decide +kernel
theorem zd_City_isColumn_17 : decode zm_City_isColumn.2.1 17 = .ok (.ireturn, 1) := by decide +kernel
theorem zb_City_isColumn_0 {Γ : zG} {σ : zS} {o : Nat} {x1 : Int32} (h_o : z_oC o) (kt : x1 < 0 → z_J Γ zm_City_isColumn 16 [none, none] [] σ) (kf : ¬ x1 < 0 → z_J Γ zm_City_isColumn 4 [some (.inr (o)), some (.inl (x1))] [] σ) : z_J Γ zm_City_isColumn 0 [some (.inr (o)), some (.inl (x1))] [] σ := by
  refine zj_iload_n zd_City_isColumn_0 rfl ?_
  exact zj_if_lt zd_City_isColumn_1 (by decide) (fun h => (zj_weak (L' := [none, none]) trivial (kt h))) (fun h => (kf h))
theorem zb_City_isColumn_4 {Γ : zG} {σ : zS} {o : Nat} {x1 : Int32} (h_o : z_oC o) (kt : (σ.1 o 6) ≤ x1 → z_J Γ zm_City_isColumn 16 [none, none] [] σ) (kf : ¬ (σ.1 o 6) ≤ x1 → z_J Γ zm_City_isColumn 12 [none, none] [] σ) : z_J Γ zm_City_isColumn 4 [some (.inr (o)), some (.inl (x1))] [] σ := by
  refine zj_iload_n zd_City_isColumn_4 rfl ?_
  refine zj_aload_n zd_City_isColumn_5 rfl ?_
  refine zj_getI (zk_C0 h_o) (by decide) rfl zu_City (k := 6) (by decide) rfl zl_City_27 zd_City_isColumn_6 ?_
  exact zj_icmp_ge zd_City_isColumn_9 (by decide) (fun h => (zj_weak (L' := [none, none]) trivial (kt h))) (fun h => (zj_weak (L' := [none, none]) trivial (kf h)))
theorem zb_City_isColumn_12 {Γ : zG} {σ : zS}  (k : z_J Γ zm_City_isColumn 17 [none, none] [.inl (nI 1)] σ) : z_J Γ zm_City_isColumn 12 [none, none] [] σ := by
  refine zj_iconst (v := nI 1) zd_City_isColumn_12 (by decide) ?_
  exact zj_goto zd_City_isColumn_13 (by decide) k
theorem zb_City_isColumn_16 {Γ : zG} {σ : zS}  (k : z_J Γ zm_City_isColumn 17 [none, none] [.inl (nI 0)] σ) : z_J Γ zm_City_isColumn 16 [none, none] [] σ := by
  refine zj_iconst (v := nI 0) zd_City_isColumn_16 (by decide) ?_
  exact k
theorem zb_City_isColumn_17 {Γ : zG} {σ : zS} {y0 : Int32}  (e : z_end Γ (some (y0)) σ) (z1 : y0 = 0 ∨ y0 = 1) : z_J Γ zm_City_isColumn 17 [none, none] [.inl (y0)] σ := by
  exact zj_zreturn rfl z1 zd_City_isColumn_17 e
theorem zd_City_heightOf_0 : decode zm_City_heightOf.2.1 0 = .ok (.aload_n 0, 1) := by decide +kernel
theorem zd_City_heightOf_1 : decode zm_City_heightOf.2.1 1 = .ok (.iload_n 1, 1) := by decide +kernel
theorem zd_City_heightOf_2 : decode zm_City_heightOf.2.1 2 = .ok (.iconst 0, 1) := by decide +kernel
theorem zd_City_heightOf_3 : decode zm_City_heightOf.2.1 3 = .ok (.invokevirtual 57, 3) := by decide +kernel
theorem zd_City_heightOf_6 : decode zm_City_heightOf.2.1 6 = .ok (.ireturn, 1) := by decide +kernel
theorem zb_City_heightOf_0 {Γ : zG} {σ : zS} {o : Nat} {x1 : Int32} {dc : Nat} {P : Int32 → zS → Prop} (h_o : z_oC o) (hm : z_Ci dc zm_City_heightWithout [.inr (o), .inl (x1), .inl (nI 0)] σ P) (hdp : dc < z_dep Γ) (k : ∀ r σ1, P r σ1 → z_J Γ zm_City_heightOf 6 [none, none] [.inl (r)] σ1) : z_J Γ zm_City_heightOf 0 [some (.inr (o)), some (.inl (x1))] [] σ := by
  refine zj_aload_n zd_City_heightOf_0 rfl ?_
  refine zj_iload_n zd_City_heightOf_1 rfl ?_
  refine zj_iconst (v := nI 0) zd_City_heightOf_2 (by decide) ?_
  exact zj_callVi (As := [.inl (x1), .inl (nI 0)]) hm hdp (zk_C0 h_o) (by decide) rfl zl_City_57 zq_City_heightWithout zd_City_heightOf_3 rfl (Nat.le_of_ble_eq_true rfl) (fun r σ1 h => (zj_weak (L' := [none, none]) trivial (k r σ1 h)))
theorem zb_City_heightOf_6 {Γ : zG} {σ : zS} {y0 : Int32}  (e : z_end Γ (some (y0)) σ) : z_J Γ zm_City_heightOf 6 [none, none] [.inl (y0)] σ := by
  exact zj_ireturn rfl zd_City_heightOf_6 e
theorem zd_City_heightWithout_0 : decode zm_City_heightWithout.2.1 0 = .ok (.iconst 0, 1) := by decide +kernel
theorem zd_City_heightWithout_1 : decode zm_City_heightWithout.2.1 1 = .ok (.istore_n 3, 1) := by decide +kernel
theorem zd_City_heightWithout_2 : decode zm_City_heightWithout.2.1 2 = .ok (.iconst 0, 1) := by decide +kernel
theorem zd_City_heightWithout_3 : decode zm_City_heightWithout.2.1 3 = .ok (.istore 4, 2) := by decide +kernel
theorem zd_City_heightWithout_5 : decode zm_City_heightWithout.2.1 5 = .ok (.iload 4, 2) := by decide +kernel
theorem zd_City_heightWithout_7 : decode zm_City_heightWithout.2.1 7 = .ok (.aload_n 0, 1) := by decide +kernel
theorem zd_City_heightWithout_8 : decode zm_City_heightWithout.2.1 8 = .ok (.getfield 31, 3) := by decide +kernel
theorem zd_City_heightWithout_11 : decode zm_City_heightWithout.2.1 11 = .ok (.iload_n 1, 1) := by decide +kernel
theorem zd_City_heightWithout_12 : decode zm_City_heightWithout.2.1 12 = .ok (.iaload, 1) := by decide +kernel
theorem zd_City_heightWithout_13 : decode zm_City_heightWithout.2.1 13 = .ok (.if_icmp .ge 33, 3) := by decide +kernel
theorem zd_City_heightWithout_16 : decode zm_City_heightWithout.2.1 16 = .ok (.iload_n 2, 1) := by decide +kernel
theorem zd_City_heightWithout_17 : decode zm_City_heightWithout.2.1 17 = .ok (.iload 4, 2) := by decide +kernel
theorem zd_City_heightWithout_19 : decode zm_City_heightWithout.2.1 19 = .ok (.ishr, 1) := by decide +kernel
theorem zd_City_heightWithout_20 : decode zm_City_heightWithout.2.1 20 = .ok (.iconst 1, 1) := by decide +kernel
theorem zd_City_heightWithout_21 : decode zm_City_heightWithout.2.1 21 = .ok (.iand, 1) := by decide +kernel
theorem zd_City_heightWithout_22 : decode zm_City_heightWithout.2.1 22 = .ok (.ifCond .ne 18, 3) := by decide +kernel
theorem zd_City_heightWithout_25 : decode zm_City_heightWithout.2.1 25 = .ok (.iload_n 3, 1) := by decide +kernel
theorem zd_City_heightWithout_26 : decode zm_City_heightWithout.2.1 26 = .ok (.aload_n 0, 1) := by decide +kernel
theorem zd_City_heightWithout_27 : decode zm_City_heightWithout.2.1 27 = .ok (.getfield 9, 3) := by decide +kernel
theorem zd_City_heightWithout_30 : decode zm_City_heightWithout.2.1 30 = .ok (.aload_n 0, 1) := by decide +kernel
theorem zd_City_heightWithout_31 : decode zm_City_heightWithout.2.1 31 = .ok (.iload_n 1, 1) := by decide +kernel
theorem zd_City_heightWithout_32 : decode zm_City_heightWithout.2.1 32 = .ok (.iload 4, 2) := by decide +kernel
theorem zd_City_heightWithout_34 : decode zm_City_heightWithout.2.1 34 = .ok (.invokevirtual 53, 3) := by decide +kernel
theorem zd_City_heightWithout_37 : decode zm_City_heightWithout.2.1 37 = .ok (.iaload, 1) := by decide +kernel
theorem zd_City_heightWithout_38 : decode zm_City_heightWithout.2.1 38 = .ok (.iadd, 1) := by decide +kernel
theorem zd_City_heightWithout_39 : decode zm_City_heightWithout.2.1 39 = .ok (.istore_n 3, 1) := by decide +kernel
theorem zd_City_heightWithout_40 : decode zm_City_heightWithout.2.1 40 = .ok (.iinc 4 1, 3) := by decide +kernel
theorem zd_City_heightWithout_43 : decode zm_City_heightWithout.2.1 43 = .ok (.goto (-38), 3) := by decide +kernel
theorem zd_City_heightWithout_46 : decode zm_City_heightWithout.2.1 46 = .ok (.iload_n 3, 1) := by decide +kernel
theorem zd_City_heightWithout_47 : decode zm_City_heightWithout.2.1 47 = .ok (.ireturn, 1) := by decide +kernel
theorem zb_City_heightWithout_0 {Γ : zG} {σ : zS} {o : Nat} {x1 x2 : Int32} (h_o : z_oC o) (k : z_J Γ zm_City_heightWithout 5 [some (.inr (o)), some (.inl (x1)), some (.inl (x2)), some (.inl (nI 0)), some (.inl (nI 0))] [] σ) : z_J Γ zm_City_heightWithout 0 [some (.inr (o)), some (.inl (x1)), some (.inl (x2)), none, none] [] σ := by
  refine zj_iconst (v := nI 0) zd_City_heightWithout_0 (by decide) ?_
  refine zj_istore_n (L' := [some (.inr (o)), some (.inl (x1)), some (.inl (x2)), some (.inl (nI 0)), none]) zd_City_heightWithout_1 (by decide) rfl ?_
  refine zj_iconst (v := nI 0) zd_City_heightWithout_2 (by decide) ?_
  refine zj_istore (L' := [some (.inr (o)), some (.inl (x1)), some (.inl (x2)), some (.inl (nI 0)), some (.inl (nI 0))]) zd_City_heightWithout_3 (by decide) rfl ?_
  exact k
theorem zb_City_heightWithout_5 {Γ : zG} {σ : zS} {o : Nat} {x1 x2 x3 x4 : Int32} {k1 : Nat} (h_o : z_oC o) (b1 : z_ix x1 6 k1) (kt : (σ.1 (o + 6) k1) ≤ x4 → z_J Γ zm_City_heightWithout 46 [none, none, none, some (.inl (x3)), none] [] σ) (kf : ¬ (σ.1 (o + 6) k1) ≤ x4 → z_J Γ zm_City_heightWithout 16 [some (.inr (o)), some (.inl (x1)), some (.inl (x2)), some (.inl (x3)), some (.inl (x4))] [] σ) : z_J Γ zm_City_heightWithout 5 [some (.inr (o)), some (.inl (x1)), some (.inl (x2)), some (.inl (x3)), some (.inl (x4))] [] σ := by
  refine zj_iload zd_City_heightWithout_5 rfl ?_
  refine zj_aload_n zd_City_heightWithout_7 rfl ?_
  refine zj_getR (zk_C0 h_o) (by decide) rfl zu_City (k := 7) (by decide) rfl zl_City_31 zd_City_heightWithout_8 (o' := o + 6) rfl ?_
  refine zj_iload_n zd_City_heightWithout_11 rfl ?_
  refine zj_iaload (zk_C6 h_o) (by decide) b1 zd_City_heightWithout_12 ?_
  exact zj_icmp_ge zd_City_heightWithout_13 (by decide) (fun h => (zj_weak (L' := [none, none, none, some (.inl (x3)), none]) ⟨rfl, trivial⟩ (kt h))) (fun h => (kf h))
theorem zb_City_heightWithout_16 {Γ : zG} {σ : zS} {o : Nat} {x1 x2 x3 x4 : Int32} (h_o : z_oC o) (kt : ¬ ((x2 >>> (x4 &&& 31)) &&& (nI 1)) = 0 → z_J Γ zm_City_heightWithout 40 [some (.inr (o)), some (.inl (x1)), some (.inl (x2)), some (.inl (x3)), some (.inl (x4))] [] σ) (kf : ((x2 >>> (x4 &&& 31)) &&& (nI 1)) = 0 → z_J Γ zm_City_heightWithout 25 [some (.inr (o)), some (.inl (x1)), some (.inl (x2)), some (.inl (x3)), some (.inl (x4))] [] σ) : z_J Γ zm_City_heightWithout 16 [some (.inr (o)), some (.inl (x1)), some (.inl (x2)), some (.inl (x3)), some (.inl (x4))] [] σ := by
  refine zj_iload_n zd_City_heightWithout_16 rfl ?_
  refine zj_iload zd_City_heightWithout_17 rfl ?_
  refine zj_ishr zd_City_heightWithout_19 ?_
  refine zj_iconst (v := nI 1) zd_City_heightWithout_20 (by decide) ?_
  refine zj_iand zd_City_heightWithout_21 ?_
  exact zj_if_ne zd_City_heightWithout_22 (by decide) (fun h => (kt h)) (fun h => (kf h))
theorem zb_City_heightWithout_25 {Γ : zG} {σ : zS} {o : Nat} {x1 x2 x3 x4 : Int32} {dc : Nat} {P : Int32 → zS → Prop} (h_o : z_oC o) (hm : z_Ci dc zm_City_bookAt [.inr (o), .inl (x1), .inl (x4)] σ P) (hdp : dc < z_dep Γ) (k : ∀ r σ1, P r σ1 → z_J Γ zm_City_heightWithout 37 [some (.inr (o)), some (.inl (x1)), some (.inl (x2)), none, some (.inl (x4))] [.inl (r), .inr (o + 1), .inl (x3)] σ1) : z_J Γ zm_City_heightWithout 25 [some (.inr (o)), some (.inl (x1)), some (.inl (x2)), some (.inl (x3)), some (.inl (x4))] [] σ := by
  refine zj_iload_n zd_City_heightWithout_25 rfl ?_
  refine zj_aload_n zd_City_heightWithout_26 rfl ?_
  refine zj_getR (zk_C0 h_o) (by decide) rfl zu_City (k := 1) (by decide) rfl zl_City_9 zd_City_heightWithout_27 (o' := o + 1) rfl ?_
  refine zj_aload_n zd_City_heightWithout_30 rfl ?_
  refine zj_iload_n zd_City_heightWithout_31 rfl ?_
  refine zj_iload zd_City_heightWithout_32 rfl ?_
  exact zj_callVi (As := [.inl (x1), .inl (x4)]) hm hdp (zk_C0 h_o) (by decide) rfl zl_City_53 zq_City_bookAt zd_City_heightWithout_34 rfl (Nat.le_of_ble_eq_true rfl) (fun r σ1 h => (zj_weak (L' := [some (.inr (o)), some (.inl (x1)), some (.inl (x2)), none, some (.inl (x4))]) ⟨rfl, ⟨rfl, ⟨rfl, ⟨rfl, trivial⟩⟩⟩⟩ (k r σ1 h)))
theorem zb_City_heightWithout_37 {Γ : zG} {σ : zS} {o : Nat} {x1 x2 x4 y0 y2 : Int32} {k1 : Nat} (h_o : z_oC o) (b1 : z_ix y0 12 k1) (k : z_J Γ zm_City_heightWithout 40 [some (.inr (o)), some (.inl (x1)), some (.inl (x2)), some (.inl (y2 + (σ.1 (o + 1) k1))), some (.inl (x4))] [] σ) : z_J Γ zm_City_heightWithout 37 [some (.inr (o)), some (.inl (x1)), some (.inl (x2)), none, some (.inl (x4))] [.inl (y0), .inr (o + 1), .inl (y2)] σ := by
  refine zj_iaload (zk_C1 h_o) (by decide) b1 zd_City_heightWithout_37 ?_
  refine zj_iadd zd_City_heightWithout_38 ?_
  refine zj_istore_n (L' := [some (.inr (o)), some (.inl (x1)), some (.inl (x2)), some (.inl (y2 + (σ.1 (o + 1) k1))), some (.inl (x4))]) zd_City_heightWithout_39 (by decide) rfl ?_
  exact k
theorem zb_City_heightWithout_40 {Γ : zG} {σ : zS} {o : Nat} {x1 x2 x3 x4 : Int32} (h_o : z_oC o) (k : z_J Γ zm_City_heightWithout 5 [some (.inr (o)), some (.inl (x1)), some (.inl (x2)), some (.inl (x3)), some (.inl (x4 + nI 1))] [] σ) : z_J Γ zm_City_heightWithout 40 [some (.inr (o)), some (.inl (x1)), some (.inl (x2)), some (.inl (x3)), some (.inl (x4))] [] σ := by
  refine zj_iinc (v := nI 1) (L' := [some (.inr (o)), some (.inl (x1)), some (.inl (x2)), some (.inl (x3)), some (.inl (x4 + nI 1))]) zd_City_heightWithout_40 rfl (by decide) (by decide) rfl ?_
  exact zj_goto zd_City_heightWithout_43 (by decide) k
theorem zb_City_heightWithout_46 {Γ : zG} {σ : zS} {x3 : Int32}  (e : z_end Γ (some (x3)) σ) : z_J Γ zm_City_heightWithout 46 [none, none, none, some (.inl (x3)), none] [] σ := by
  refine zj_iload_n zd_City_heightWithout_46 rfl ?_
  exact zj_ireturn rfl zd_City_heightWithout_47 e
theorem zd_City_lendTo_0 : decode zm_City_lendTo.2.1 0 = .ok (.aload_n 0, 1) := by decide +kernel
theorem zd_City_lendTo_1 : decode zm_City_lendTo.2.1 1 = .ok (.iload_n 1, 1) := by decide +kernel
theorem zd_City_lendTo_2 : decode zm_City_lendTo.2.1 2 = .ok (.invokevirtual 92, 3) := by decide +kernel
theorem zd_City_lendTo_5 : decode zm_City_lendTo.2.1 5 = .ok (.ifCond .eq 22, 3) := by decide +kernel
theorem zd_City_lendTo_8 : decode zm_City_lendTo.2.1 8 = .ok (.aload_n 0, 1) := by decide +kernel
theorem zd_City_lendTo_9 : decode zm_City_lendTo.2.1 9 = .ok (.iload_n 2, 1) := by decide +kernel
theorem zd_City_lendTo_10 : decode zm_City_lendTo.2.1 10 = .ok (.invokevirtual 106, 3) := by decide +kernel
theorem zd_City_lendTo_13 : decode zm_City_lendTo.2.1 13 = .ok (.ifCond .eq 14, 3) := by decide +kernel
theorem zd_City_lendTo_16 : decode zm_City_lendTo.2.1 16 = .ok (.iload_n 3, 1) := by decide +kernel
theorem zd_City_lendTo_17 : decode zm_City_lendTo.2.1 17 = .ok (.iconst 1, 1) := by decide +kernel
theorem zd_City_lendTo_18 : decode zm_City_lendTo.2.1 18 = .ok (.if_icmp .lt 9, 3) := by decide +kernel
theorem zd_City_lendTo_21 : decode zm_City_lendTo.2.1 21 = .ok (.iload_n 3, 1) := by decide +kernel
theorem zd_City_lendTo_22 : decode zm_City_lendTo.2.1 22 = .ok (.bipush 30, 2) := by decide +kernel
theorem zd_City_lendTo_24 : decode zm_City_lendTo.2.1 24 = .ok (.if_icmp .le 5, 3) := by decide +kernel
theorem zd_City_lendTo_27 : decode zm_City_lendTo.2.1 27 = .ok (.iconst (-1), 1) := by decide +kernel
theorem zd_City_lendTo_28 : decode zm_City_lendTo.2.1 28 = .ok (.ireturn, 1) := by decide +kernel
theorem zd_City_lendTo_29 : decode zm_City_lendTo.2.1 29 = .ok (.aload_n 0, 1) := by decide +kernel
theorem zd_City_lendTo_30 : decode zm_City_lendTo.2.1 30 = .ok (.getfield 18, 3) := by decide +kernel
theorem zd_City_lendTo_33 : decode zm_City_lendTo.2.1 33 = .ok (.iload_n 1, 1) := by decide +kernel
theorem zd_City_lendTo_34 : decode zm_City_lendTo.2.1 34 = .ok (.iaload, 1) := by decide +kernel
theorem zd_City_lendTo_35 : decode zm_City_lendTo.2.1 35 = .ok (.iconst 2, 1) := by decide +kernel
theorem zd_City_lendTo_36 : decode zm_City_lendTo.2.1 36 = .ok (.if_icmp .eq 13, 3) := by decide +kernel
theorem zd_City_lendTo_39 : decode zm_City_lendTo.2.1 39 = .ok (.aload_n 0, 1) := by decide +kernel
theorem zd_City_lendTo_40 : decode zm_City_lendTo.2.1 40 = .ok (.getfield 18, 3) := by decide +kernel
theorem zd_City_lendTo_43 : decode zm_City_lendTo.2.1 43 = .ok (.iload_n 1, 1) := by decide +kernel
theorem zd_City_lendTo_44 : decode zm_City_lendTo.2.1 44 = .ok (.iaload, 1) := by decide +kernel
theorem zd_City_lendTo_45 : decode zm_City_lendTo.2.1 45 = .ok (.iconst 3, 1) := by decide +kernel
theorem zd_City_lendTo_46 : decode zm_City_lendTo.2.1 46 = .ok (.if_icmp .ne 6, 3) := by decide +kernel
theorem zd_City_lendTo_49 : decode zm_City_lendTo.2.1 49 = .ok (.bipush (-2), 2) := by decide +kernel
theorem zd_City_lendTo_51 : decode zm_City_lendTo.2.1 51 = .ok (.ireturn, 1) := by decide +kernel
theorem zd_City_lendTo_52 : decode zm_City_lendTo.2.1 52 = .ok (.aload_n 0, 1) := by decide +kernel
theorem zd_City_lendTo_53 : decode zm_City_lendTo.2.1 53 = .ok (.iload_n 2, 1) := by decide +kernel
theorem zd_City_lendTo_54 : decode zm_City_lendTo.2.1 54 = .ok (.invokevirtual 109, 3) := by decide +kernel
theorem zd_City_lendTo_57 : decode zm_City_lendTo.2.1 57 = .ok (.invokestatic 112, 3) := by decide +kernel
theorem zd_City_lendTo_60 : decode zm_City_lendTo.2.1 60 = .ok (.iconst 3, 1) := by decide +kernel
theorem zd_City_lendTo_61 : decode zm_City_lendTo.2.1 61 = .ok (.if_icmp .lt 6, 3) := by decide +kernel
theorem zd_City_lendTo_64 : decode zm_City_lendTo.2.1 64 = .ok (.bipush (-3), 2) := by decide +kernel
theorem zd_City_lendTo_66 : decode zm_City_lendTo.2.1 66 = .ok (.ireturn, 1) := by decide +kernel
theorem zd_City_lendTo_67 : decode zm_City_lendTo.2.1 67 = .ok (.aload_n 0, 1) := by decide +kernel
theorem zd_City_lendTo_68 : decode zm_City_lendTo.2.1 68 = .ok (.iload_n 1, 1) := by decide +kernel
theorem zd_City_lendTo_69 : decode zm_City_lendTo.2.1 69 = .ok (.iconst 2, 1) := by decide +kernel
theorem zd_City_lendTo_70 : decode zm_City_lendTo.2.1 70 = .ok (.invokevirtual 49, 3) := by decide +kernel
theorem zd_City_lendTo_73 : decode zm_City_lendTo.2.1 73 = .ok (.aload_n 0, 1) := by decide +kernel
theorem zd_City_lendTo_74 : decode zm_City_lendTo.2.1 74 = .ok (.getfield 21, 3) := by decide +kernel
theorem zd_City_lendTo_77 : decode zm_City_lendTo.2.1 77 = .ok (.iload_n 1, 1) := by decide +kernel
theorem zd_City_lendTo_78 : decode zm_City_lendTo.2.1 78 = .ok (.iload_n 2, 1) := by decide +kernel
theorem zd_City_lendTo_79 : decode zm_City_lendTo.2.1 79 = .ok (.iastore, 1) := by decide +kernel
theorem zd_City_lendTo_80 : decode zm_City_lendTo.2.1 80 = .ok (.aload_n 0, 1) := by decide +kernel
theorem zd_City_lendTo_81 : decode zm_City_lendTo.2.1 81 = .ok (.getfield 24, 3) := by decide +kernel
theorem zd_City_lendTo_84 : decode zm_City_lendTo.2.1 84 = .ok (.iload_n 1, 1) := by decide +kernel
theorem zd_City_lendTo_85 : decode zm_City_lendTo.2.1 85 = .ok (.aload_n 0, 1) := by decide +kernel
theorem zd_City_lendTo_86 : decode zm_City_lendTo.2.1 86 = .ok (.getfield 72, 3) := by decide +kernel
theorem zd_City_lendTo_89 : decode zm_City_lendTo.2.1 89 = .ok (.iload_n 3, 1) := by decide +kernel
theorem zd_City_lendTo_90 : decode zm_City_lendTo.2.1 90 = .ok (.iadd, 1) := by decide +kernel
theorem zd_City_lendTo_91 : decode zm_City_lendTo.2.1 91 = .ok (.iastore, 1) := by decide +kernel
theorem zd_City_lendTo_92 : decode zm_City_lendTo.2.1 92 = .ok (.aload_n 0, 1) := by decide +kernel
theorem zd_City_lendTo_93 : decode zm_City_lendTo.2.1 93 = .ok (.getfield 24, 3) := by decide +kernel
theorem zd_City_lendTo_96 : decode zm_City_lendTo.2.1 96 = .ok (.iload_n 1, 1) := by decide +kernel
theorem zd_City_lendTo_97 : decode zm_City_lendTo.2.1 97 = .ok (.iaload, 1) := by decide +kernel
theorem zd_City_lendTo_98 : decode zm_City_lendTo.2.1 98 = .ok (.ireturn, 1) := by decide +kernel
theorem zb_City_lendTo_0 {Γ : zG} {σ : zS} {o : Nat} {x1 x2 x3 : Int32} {dc : Nat} {P : Int32 → zS → Prop} (h_o : z_oC o) (hm : z_Ci dc zm_City_isBook [.inr (o), .inl (x1)] σ P) (hdp : dc < z_dep Γ) (k : ∀ r σ1, P r σ1 → z_J Γ zm_City_lendTo 5 [some (.inr (o)), some (.inl (x1)), some (.inl (x2)), some (.inl (x3))] [.inl (r)] σ1) : z_J Γ zm_City_lendTo 0 [some (.inr (o)), some (.inl (x1)), some (.inl (x2)), some (.inl (x3))] [] σ := by
  refine zj_aload_n zd_City_lendTo_0 rfl ?_
  refine zj_iload_n zd_City_lendTo_1 rfl ?_
  exact zj_callVi (As := [.inl (x1)]) hm hdp (zk_C0 h_o) (by decide) rfl zl_City_92 zq_City_isBook zd_City_lendTo_2 rfl (Nat.le_of_ble_eq_true rfl) (fun r σ1 h => (k r σ1 h))
theorem zb_City_lendTo_5 {Γ : zG} {σ : zS} {o : Nat} {x1 x2 x3 y0 : Int32} (h_o : z_oC o) (kt : y0 = 0 → z_J Γ zm_City_lendTo 27 [none, none, none, none] [] σ) (kf : ¬ y0 = 0 → z_J Γ zm_City_lendTo 8 [some (.inr (o)), some (.inl (x1)), some (.inl (x2)), some (.inl (x3))] [] σ) : z_J Γ zm_City_lendTo 5 [some (.inr (o)), some (.inl (x1)), some (.inl (x2)), some (.inl (x3))] [.inl (y0)] σ := by
  exact zj_if_eq zd_City_lendTo_5 (by decide) (fun h => (zj_weak (L' := [none, none, none, none]) trivial (kt h))) (fun h => (kf h))
theorem zb_City_lendTo_8 {Γ : zG} {σ : zS} {o : Nat} {x1 x2 x3 : Int32} {dc : Nat} {P : Int32 → zS → Prop} (h_o : z_oC o) (hm : z_Ci dc zm_City_isReader [.inr (o), .inl (x2)] σ P) (hdp : dc < z_dep Γ) (k : ∀ r σ1, P r σ1 → z_J Γ zm_City_lendTo 13 [some (.inr (o)), some (.inl (x1)), some (.inl (x2)), some (.inl (x3))] [.inl (r)] σ1) : z_J Γ zm_City_lendTo 8 [some (.inr (o)), some (.inl (x1)), some (.inl (x2)), some (.inl (x3))] [] σ := by
  refine zj_aload_n zd_City_lendTo_8 rfl ?_
  refine zj_iload_n zd_City_lendTo_9 rfl ?_
  exact zj_callVi (As := [.inl (x2)]) hm hdp (zk_C0 h_o) (by decide) rfl zl_City_106 zq_City_isReader zd_City_lendTo_10 rfl (Nat.le_of_ble_eq_true rfl) (fun r σ1 h => (k r σ1 h))
theorem zb_City_lendTo_13 {Γ : zG} {σ : zS} {o : Nat} {x1 x2 x3 y0 : Int32} (h_o : z_oC o) (kt : y0 = 0 → z_J Γ zm_City_lendTo 27 [none, none, none, none] [] σ) (kf : ¬ y0 = 0 → z_J Γ zm_City_lendTo 16 [some (.inr (o)), some (.inl (x1)), some (.inl (x2)), some (.inl (x3))] [] σ) : z_J Γ zm_City_lendTo 13 [some (.inr (o)), some (.inl (x1)), some (.inl (x2)), some (.inl (x3))] [.inl (y0)] σ := by
  exact zj_if_eq zd_City_lendTo_13 (by decide) (fun h => (zj_weak (L' := [none, none, none, none]) trivial (kt h))) (fun h => (kf h))
theorem zb_City_lendTo_16 {Γ : zG} {σ : zS} {o : Nat} {x1 x2 x3 : Int32} (h_o : z_oC o) (kt : x3 < (nI 1) → z_J Γ zm_City_lendTo 27 [none, none, none, none] [] σ) (kf : ¬ x3 < (nI 1) → z_J Γ zm_City_lendTo 21 [some (.inr (o)), some (.inl (x1)), some (.inl (x2)), some (.inl (x3))] [] σ) : z_J Γ zm_City_lendTo 16 [some (.inr (o)), some (.inl (x1)), some (.inl (x2)), some (.inl (x3))] [] σ := by
  refine zj_iload_n zd_City_lendTo_16 rfl ?_
  refine zj_iconst (v := nI 1) zd_City_lendTo_17 (by decide) ?_
  exact zj_icmp_lt zd_City_lendTo_18 (by decide) (fun h => (zj_weak (L' := [none, none, none, none]) trivial (kt h))) (fun h => (kf h))
theorem zb_City_lendTo_21 {Γ : zG} {σ : zS} {o : Nat} {x1 x2 x3 : Int32} (h_o : z_oC o) (kt : x3 ≤ (nI 30) → z_J Γ zm_City_lendTo 29 [some (.inr (o)), some (.inl (x1)), some (.inl (x2)), some (.inl (x3))] [] σ) (kf : ¬ x3 ≤ (nI 30) → z_J Γ zm_City_lendTo 27 [none, none, none, none] [] σ) : z_J Γ zm_City_lendTo 21 [some (.inr (o)), some (.inl (x1)), some (.inl (x2)), some (.inl (x3))] [] σ := by
  refine zj_iload_n zd_City_lendTo_21 rfl ?_
  refine zj_bipush (v := nI 30) zd_City_lendTo_22 (by decide) ?_
  exact zj_icmp_le zd_City_lendTo_24 (by decide) (fun h => (kt h)) (fun h => (zj_weak (L' := [none, none, none, none]) trivial (kf h)))
theorem zb_City_lendTo_27 {Γ : zG} {σ : zS}  (e : z_end Γ (some ((-1))) σ) : z_J Γ zm_City_lendTo 27 [none, none, none, none] [] σ := by
  refine zj_iconst (v := (-1)) zd_City_lendTo_27 (by decide) ?_
  exact zj_ireturn rfl zd_City_lendTo_28 e
theorem zb_City_lendTo_29 {Γ : zG} {σ : zS} {o : Nat} {x1 x2 x3 : Int32} {k1 : Nat} (h_o : z_oC o) (b1 : z_ix x1 12 k1) (kt : (σ.1 (o + 3) k1) = (nI 2) → z_J Γ zm_City_lendTo 49 [none, none, none, none] [] σ) (kf : ¬ (σ.1 (o + 3) k1) = (nI 2) → z_J Γ zm_City_lendTo 39 [some (.inr (o)), some (.inl (x1)), some (.inl (x2)), some (.inl (x3))] [] σ) : z_J Γ zm_City_lendTo 29 [some (.inr (o)), some (.inl (x1)), some (.inl (x2)), some (.inl (x3))] [] σ := by
  refine zj_aload_n zd_City_lendTo_29 rfl ?_
  refine zj_getR (zk_C0 h_o) (by decide) rfl zu_City (k := 3) (by decide) rfl zl_City_18 zd_City_lendTo_30 (o' := o + 3) rfl ?_
  refine zj_iload_n zd_City_lendTo_33 rfl ?_
  refine zj_iaload (zk_C3 h_o) (by decide) b1 zd_City_lendTo_34 ?_
  refine zj_iconst (v := nI 2) zd_City_lendTo_35 (by decide) ?_
  exact zj_icmp_eq zd_City_lendTo_36 (by decide) (fun h => (zj_weak (L' := [none, none, none, none]) trivial (kt h))) (fun h => (kf h))
theorem zb_City_lendTo_39 {Γ : zG} {σ : zS} {o : Nat} {x1 x2 x3 : Int32} {k1 : Nat} (h_o : z_oC o) (b1 : z_ix x1 12 k1) (kt : ¬ (σ.1 (o + 3) k1) = (nI 3) → z_J Γ zm_City_lendTo 52 [some (.inr (o)), some (.inl (x1)), some (.inl (x2)), some (.inl (x3))] [] σ) (kf : (σ.1 (o + 3) k1) = (nI 3) → z_J Γ zm_City_lendTo 49 [none, none, none, none] [] σ) : z_J Γ zm_City_lendTo 39 [some (.inr (o)), some (.inl (x1)), some (.inl (x2)), some (.inl (x3))] [] σ := by
  refine zj_aload_n zd_City_lendTo_39 rfl ?_
  refine zj_getR (zk_C0 h_o) (by decide) rfl zu_City (k := 3) (by decide) rfl zl_City_18 zd_City_lendTo_40 (o' := o + 3) rfl ?_
  refine zj_iload_n zd_City_lendTo_43 rfl ?_
  refine zj_iaload (zk_C3 h_o) (by decide) b1 zd_City_lendTo_44 ?_
  refine zj_iconst (v := nI 3) zd_City_lendTo_45 (by decide) ?_
  exact zj_icmp_ne zd_City_lendTo_46 (by decide) (fun h => (kt h)) (fun h => (zj_weak (L' := [none, none, none, none]) trivial (kf h)))
theorem zb_City_lendTo_49 {Γ : zG} {σ : zS}  (e : z_end Γ (some ((-2))) σ) : z_J Γ zm_City_lendTo 49 [none, none, none, none] [] σ := by
  refine zj_bipush (v := (-2)) zd_City_lendTo_49 (by decide) ?_
  exact zj_ireturn rfl zd_City_lendTo_51 e
theorem zb_City_lendTo_52 {Γ : zG} {σ : zS} {o : Nat} {x1 x2 x3 : Int32} {dc : Nat} {P : Int32 → zS → Prop} (h_o : z_oC o) (hm : z_Ci dc zm_City_loansOf [.inr (o), .inl (x2)] σ P) (hdp : dc < z_dep Γ) (k : ∀ r σ1, P r σ1 → z_J Γ zm_City_lendTo 57 [some (.inr (o)), some (.inl (x1)), some (.inl (x2)), some (.inl (x3))] [.inl (r)] σ1) : z_J Γ zm_City_lendTo 52 [some (.inr (o)), some (.inl (x1)), some (.inl (x2)), some (.inl (x3))] [] σ := by
  refine zj_aload_n zd_City_lendTo_52 rfl ?_
  refine zj_iload_n zd_City_lendTo_53 rfl ?_
  exact zj_callVi (As := [.inl (x2)]) hm hdp (zk_C0 h_o) (by decide) rfl zl_City_109 zq_City_loansOf zd_City_lendTo_54 rfl (Nat.le_of_ble_eq_true rfl) (fun r σ1 h => (k r σ1 h))
theorem zb_City_lendTo_57 {Γ : zG} {σ : zS} {o : Nat} {x1 x2 x3 y0 : Int32} (h_o : z_oC o) (hdp : 0 < z_dep Γ) (kt : (z_bc y0) < (nI 3) → z_J Γ zm_City_lendTo 67 [some (.inr (o)), some (.inl (x1)), some (.inl (x2)), some (.inl (x3))] [] σ) (kf : ¬ (z_bc y0) < (nI 3) → z_J Γ zm_City_lendTo 64 [none, none, none, none] [] σ) : z_J Γ zm_City_lendTo 57 [some (.inr (o)), some (.inl (x1)), some (.inl (x2)), some (.inl (x3))] [.inl (y0)] σ := by
  refine zj_bitc zl_City_112 hdp (Nat.le_of_ble_eq_true rfl) zd_City_lendTo_57 ?_
  refine zj_iconst (v := nI 3) zd_City_lendTo_60 (by decide) ?_
  exact zj_icmp_lt zd_City_lendTo_61 (by decide) (fun h => (kt h)) (fun h => (zj_weak (L' := [none, none, none, none]) trivial (kf h)))
theorem zb_City_lendTo_64 {Γ : zG} {σ : zS}  (e : z_end Γ (some ((-3))) σ) : z_J Γ zm_City_lendTo 64 [none, none, none, none] [] σ := by
  refine zj_bipush (v := (-3)) zd_City_lendTo_64 (by decide) ?_
  exact zj_ireturn rfl zd_City_lendTo_66 e
theorem zb_City_lendTo_67 {Γ : zG} {σ : zS} {o : Nat} {x1 x2 x3 : Int32} {dc : Nat} {P : zS → Prop} (h_o : z_oC o) (hm : z_Cv dc zm_City_lift [.inr (o), .inl (x1), .inl (nI 2)] σ P) (hdp : dc < z_dep Γ) (k : ∀ σ1, P σ1 → z_J Γ zm_City_lendTo 73 [some (.inr (o)), some (.inl (x1)), some (.inl (x2)), some (.inl (x3))] [] σ1) : z_J Γ zm_City_lendTo 67 [some (.inr (o)), some (.inl (x1)), some (.inl (x2)), some (.inl (x3))] [] σ := by
  refine zj_aload_n zd_City_lendTo_67 rfl ?_
  refine zj_iload_n zd_City_lendTo_68 rfl ?_
  refine zj_iconst (v := nI 2) zd_City_lendTo_69 (by decide) ?_
  exact zj_callVv (As := [.inl (x1), .inl (nI 2)]) hm hdp (zk_C0 h_o) (by decide) rfl zl_City_49 zq_City_lift zd_City_lendTo_70 rfl (Nat.le_of_ble_eq_true rfl) (fun σ1 h => (k σ1 h))
theorem zb_City_lendTo_73 {Γ : zG} {σ : zS} {o : Nat} {x1 x2 x3 : Int32} {k1 k2 k3 : Nat} (h_o : z_oC o) (b1 : z_ix x1 12 k1) (b2 : z_ix x1 12 k2) (b3 : z_ix x1 12 k3) (e : z_end Γ (some ((z_pI (z_pI σ (o + 4) k1 x2) (o + 5) k2 (((z_pI σ (o + 4) k1 x2).1 o 12) + x3)).1 (o + 5) k3)) (z_pI (z_pI σ (o + 4) k1 x2) (o + 5) k2 (((z_pI σ (o + 4) k1 x2).1 o 12) + x3))) : z_J Γ zm_City_lendTo 73 [some (.inr (o)), some (.inl (x1)), some (.inl (x2)), some (.inl (x3))] [] σ := by
  refine zj_aload_n zd_City_lendTo_73 rfl ?_
  refine zj_getR (zk_C0 h_o) (by decide) rfl zu_City (k := 4) (by decide) rfl zl_City_21 zd_City_lendTo_74 (o' := o + 4) rfl ?_
  refine zj_iload_n zd_City_lendTo_77 rfl ?_
  refine zj_iload_n zd_City_lendTo_78 rfl ?_
  refine zj_iastore (zk_C4 h_o) (by decide) b1 zd_City_lendTo_79 ?_
  refine zj_aload_n zd_City_lendTo_80 rfl ?_
  refine zj_getR (zk_C0 h_o) (by decide) rfl zu_City (k := 5) (by decide) rfl zl_City_24 zd_City_lendTo_81 (o' := o + 5) rfl ?_
  refine zj_iload_n zd_City_lendTo_84 rfl ?_
  refine zj_aload_n zd_City_lendTo_85 rfl ?_
  refine zj_getI (zk_C0 h_o) (by decide) rfl zu_City (k := 12) (by decide) rfl zl_City_72 zd_City_lendTo_86 ?_
  refine zj_iload_n zd_City_lendTo_89 rfl ?_
  refine zj_iadd zd_City_lendTo_90 ?_
  refine zj_iastore (zk_C5 h_o) (by decide) b2 zd_City_lendTo_91 ?_
  refine zj_aload_n zd_City_lendTo_92 rfl ?_
  refine zj_getR (zk_C0 h_o) (by decide) rfl zu_City (k := 5) (by decide) rfl zl_City_24 zd_City_lendTo_93 (o' := o + 5) rfl ?_
  refine zj_iload_n zd_City_lendTo_96 rfl ?_
  refine zj_iaload (zk_C5 h_o) (by decide) b3 zd_City_lendTo_97 ?_
  exact zj_ireturn rfl zd_City_lendTo_98 e
theorem zd_City_isReader_0 : decode zm_City_isReader.2.1 0 = .ok (.iload_n 1, 1) := by decide +kernel
theorem zd_City_isReader_1 : decode zm_City_isReader.2.1 1 = .ok (.ifCond .lt 15, 3) := by decide +kernel
theorem zd_City_isReader_4 : decode zm_City_isReader.2.1 4 = .ok (.iload_n 1, 1) := by decide +kernel
theorem zd_City_isReader_5 : decode zm_City_isReader.2.1 5 = .ok (.aload_n 0, 1) := by decide +kernel
theorem zd_City_isReader_6 : decode zm_City_isReader.2.1 6 = .ok (.getfield 46, 3) := by decide +kernel
theorem zd_City_isReader_9 : decode zm_City_isReader.2.1 9 = .ok (.if_icmp .ge 7, 3) := by decide +kernel
theorem zd_City_isReader_12 : decode zm_City_isReader.2.1 12 = .ok (.iconst 1, 1) := by decide +kernel
theorem zd_City_isReader_13 : decode zm_City_isReader.2.1 13 = .ok (.goto 4, 3) := by decide +kernel
theorem zd_City_isReader_16 : decode zm_City_isReader.2.1 16 = .ok (.iconst 0, 1) := by decide +kernel
theorem zd_City_isReader_17 : decode zm_City_isReader.2.1 17 = .ok (.ireturn, 1) := by decide +kernel
theorem zb_City_isReader_0 {Γ : zG} {σ : zS} {o : Nat} {x1 : Int32} (h_o : z_oC o) (kt : x1 < 0 → z_J Γ zm_City_isReader 16 [none, none] [] σ) (kf : ¬ x1 < 0 → z_J Γ zm_City_isReader 4 [some (.inr (o)), some (.inl (x1))] [] σ) : z_J Γ zm_City_isReader 0 [some (.inr (o)), some (.inl (x1))] [] σ := by
  refine zj_iload_n zd_City_isReader_0 rfl ?_
  exact zj_if_lt zd_City_isReader_1 (by decide) (fun h => (zj_weak (L' := [none, none]) trivial (kt h))) (fun h => (kf h))
theorem zb_City_isReader_4 {Γ : zG} {σ : zS} {o : Nat} {x1 : Int32} (h_o : z_oC o) (kt : (σ.1 o 9) ≤ x1 → z_J Γ zm_City_isReader 16 [none, none] [] σ) (kf : ¬ (σ.1 o 9) ≤ x1 → z_J Γ zm_City_isReader 12 [none, none] [] σ) : z_J Γ zm_City_isReader 4 [some (.inr (o)), some (.inl (x1))] [] σ := by
  refine zj_iload_n zd_City_isReader_4 rfl ?_
  refine zj_aload_n zd_City_isReader_5 rfl ?_
  refine zj_getI (zk_C0 h_o) (by decide) rfl zu_City (k := 9) (by decide) rfl zl_City_46 zd_City_isReader_6 ?_
  exact zj_icmp_ge zd_City_isReader_9 (by decide) (fun h => (zj_weak (L' := [none, none]) trivial (kt h))) (fun h => (zj_weak (L' := [none, none]) trivial (kf h)))
theorem zb_City_isReader_12 {Γ : zG} {σ : zS}  (k : z_J Γ zm_City_isReader 17 [none, none] [.inl (nI 1)] σ) : z_J Γ zm_City_isReader 12 [none, none] [] σ := by
  refine zj_iconst (v := nI 1) zd_City_isReader_12 (by decide) ?_
  exact zj_goto zd_City_isReader_13 (by decide) k
theorem zb_City_isReader_16 {Γ : zG} {σ : zS}  (k : z_J Γ zm_City_isReader 17 [none, none] [.inl (nI 0)] σ) : z_J Γ zm_City_isReader 16 [none, none] [] σ := by
  refine zj_iconst (v := nI 0) zd_City_isReader_16 (by decide) ?_
  exact k
theorem zb_City_isReader_17 {Γ : zG} {σ : zS} {y0 : Int32}  (e : z_end Γ (some (y0)) σ) (z1 : y0 = 0 ∨ y0 = 1) : z_J Γ zm_City_isReader 17 [none, none] [.inl (y0)] σ := by
  exact zj_zreturn rfl z1 zd_City_isReader_17 e
theorem zd_City_loansOf_0 : decode zm_City_loansOf.2.1 0 = .ok (.iconst 0, 1) := by decide +kernel
theorem zd_City_loansOf_1 : decode zm_City_loansOf.2.1 1 = .ok (.istore_n 2, 1) := by decide +kernel
theorem zd_City_loansOf_2 : decode zm_City_loansOf.2.1 2 = .ok (.iconst 0, 1) := by decide +kernel
theorem zd_City_loansOf_3 : decode zm_City_loansOf.2.1 3 = .ok (.istore_n 3, 1) := by decide +kernel
theorem zd_City_loansOf_4 : decode zm_City_loansOf.2.1 4 = .ok (.iload_n 3, 1) := by decide +kernel
theorem zd_City_loansOf_5 : decode zm_City_loansOf.2.1 5 = .ok (.aload_n 0, 1) := by decide +kernel
theorem zd_City_loansOf_6 : decode zm_City_loansOf.2.1 6 = .ok (.getfield 43, 3) := by decide +kernel
theorem zd_City_loansOf_9 : decode zm_City_loansOf.2.1 9 = .ok (.if_icmp .ge 35, 3) := by decide +kernel
theorem zd_City_loansOf_12 : decode zm_City_loansOf.2.1 12 = .ok (.aload_n 0, 1) := by decide +kernel
theorem zd_City_loansOf_13 : decode zm_City_loansOf.2.1 13 = .ok (.getfield 18, 3) := by decide +kernel
theorem zd_City_loansOf_16 : decode zm_City_loansOf.2.1 16 = .ok (.iload_n 3, 1) := by decide +kernel
theorem zd_City_loansOf_17 : decode zm_City_loansOf.2.1 17 = .ok (.iaload, 1) := by decide +kernel
theorem zd_City_loansOf_18 : decode zm_City_loansOf.2.1 18 = .ok (.iconst 2, 1) := by decide +kernel
theorem zd_City_loansOf_19 : decode zm_City_loansOf.2.1 19 = .ok (.if_icmp .ne 19, 3) := by decide +kernel
theorem zd_City_loansOf_22 : decode zm_City_loansOf.2.1 22 = .ok (.aload_n 0, 1) := by decide +kernel
theorem zd_City_loansOf_23 : decode zm_City_loansOf.2.1 23 = .ok (.getfield 21, 3) := by decide +kernel
theorem zd_City_loansOf_26 : decode zm_City_loansOf.2.1 26 = .ok (.iload_n 3, 1) := by decide +kernel
theorem zd_City_loansOf_27 : decode zm_City_loansOf.2.1 27 = .ok (.iaload, 1) := by decide +kernel
theorem zd_City_loansOf_28 : decode zm_City_loansOf.2.1 28 = .ok (.iload_n 1, 1) := by decide +kernel
theorem zd_City_loansOf_29 : decode zm_City_loansOf.2.1 29 = .ok (.if_icmp .ne 9, 3) := by decide +kernel
theorem zd_City_loansOf_32 : decode zm_City_loansOf.2.1 32 = .ok (.iload_n 2, 1) := by decide +kernel
theorem zd_City_loansOf_33 : decode zm_City_loansOf.2.1 33 = .ok (.iconst 1, 1) := by decide +kernel
theorem zd_City_loansOf_34 : decode zm_City_loansOf.2.1 34 = .ok (.iload_n 3, 1) := by decide +kernel
theorem zd_City_loansOf_35 : decode zm_City_loansOf.2.1 35 = .ok (.ishl, 1) := by decide +kernel
theorem zd_City_loansOf_36 : decode zm_City_loansOf.2.1 36 = .ok (.ior, 1) := by decide +kernel
theorem zd_City_loansOf_37 : decode zm_City_loansOf.2.1 37 = .ok (.istore_n 2, 1) := by decide +kernel
theorem zd_City_loansOf_38 : decode zm_City_loansOf.2.1 38 = .ok (.iinc 3 1, 3) := by decide +kernel
theorem zd_City_loansOf_41 : decode zm_City_loansOf.2.1 41 = .ok (.goto (-37), 3) := by decide +kernel
theorem zd_City_loansOf_44 : decode zm_City_loansOf.2.1 44 = .ok (.iload_n 2, 1) := by decide +kernel
theorem zd_City_loansOf_45 : decode zm_City_loansOf.2.1 45 = .ok (.ireturn, 1) := by decide +kernel
theorem zb_City_loansOf_0 {Γ : zG} {σ : zS} {o : Nat} {x1 : Int32} (h_o : z_oC o) (k : z_J Γ zm_City_loansOf 4 [some (.inr (o)), some (.inl (x1)), some (.inl (nI 0)), some (.inl (nI 0))] [] σ) : z_J Γ zm_City_loansOf 0 [some (.inr (o)), some (.inl (x1)), none, none] [] σ := by
  refine zj_iconst (v := nI 0) zd_City_loansOf_0 (by decide) ?_
  refine zj_istore_n (L' := [some (.inr (o)), some (.inl (x1)), some (.inl (nI 0)), none]) zd_City_loansOf_1 (by decide) rfl ?_
  refine zj_iconst (v := nI 0) zd_City_loansOf_2 (by decide) ?_
  refine zj_istore_n (L' := [some (.inr (o)), some (.inl (x1)), some (.inl (nI 0)), some (.inl (nI 0))]) zd_City_loansOf_3 (by decide) rfl ?_
  exact k
theorem zb_City_loansOf_4 {Γ : zG} {σ : zS} {o : Nat} {x1 x2 x3 : Int32} (h_o : z_oC o) (kt : (σ.1 o 0) ≤ x3 → z_J Γ zm_City_loansOf 44 [none, none, some (.inl (x2)), none] [] σ) (kf : ¬ (σ.1 o 0) ≤ x3 → z_J Γ zm_City_loansOf 12 [some (.inr (o)), some (.inl (x1)), some (.inl (x2)), some (.inl (x3))] [] σ) : z_J Γ zm_City_loansOf 4 [some (.inr (o)), some (.inl (x1)), some (.inl (x2)), some (.inl (x3))] [] σ := by
  refine zj_iload_n zd_City_loansOf_4 rfl ?_
  refine zj_aload_n zd_City_loansOf_5 rfl ?_
  refine zj_getI (zk_C0 h_o) (by decide) rfl zu_City (k := 0) (by decide) rfl zl_City_43 zd_City_loansOf_6 ?_
  exact zj_icmp_ge zd_City_loansOf_9 (by decide) (fun h => (zj_weak (L' := [none, none, some (.inl (x2)), none]) ⟨rfl, trivial⟩ (kt h))) (fun h => (kf h))
theorem zb_City_loansOf_12 {Γ : zG} {σ : zS} {o : Nat} {x1 x2 x3 : Int32} {k1 : Nat} (h_o : z_oC o) (b1 : z_ix x3 12 k1) (kt : ¬ (σ.1 (o + 3) k1) = (nI 2) → z_J Γ zm_City_loansOf 38 [some (.inr (o)), some (.inl (x1)), some (.inl (x2)), some (.inl (x3))] [] σ) (kf : (σ.1 (o + 3) k1) = (nI 2) → z_J Γ zm_City_loansOf 22 [some (.inr (o)), some (.inl (x1)), some (.inl (x2)), some (.inl (x3))] [] σ) : z_J Γ zm_City_loansOf 12 [some (.inr (o)), some (.inl (x1)), some (.inl (x2)), some (.inl (x3))] [] σ := by
  refine zj_aload_n zd_City_loansOf_12 rfl ?_
  refine zj_getR (zk_C0 h_o) (by decide) rfl zu_City (k := 3) (by decide) rfl zl_City_18 zd_City_loansOf_13 (o' := o + 3) rfl ?_
  refine zj_iload_n zd_City_loansOf_16 rfl ?_
  refine zj_iaload (zk_C3 h_o) (by decide) b1 zd_City_loansOf_17 ?_
  refine zj_iconst (v := nI 2) zd_City_loansOf_18 (by decide) ?_
  exact zj_icmp_ne zd_City_loansOf_19 (by decide) (fun h => (kt h)) (fun h => (kf h))
theorem zb_City_loansOf_22 {Γ : zG} {σ : zS} {o : Nat} {x1 x2 x3 : Int32} {k1 : Nat} (h_o : z_oC o) (b1 : z_ix x3 12 k1) (kt : ¬ (σ.1 (o + 4) k1) = x1 → z_J Γ zm_City_loansOf 38 [some (.inr (o)), some (.inl (x1)), some (.inl (x2)), some (.inl (x3))] [] σ) (kf : (σ.1 (o + 4) k1) = x1 → z_J Γ zm_City_loansOf 32 [some (.inr (o)), some (.inl (x1)), some (.inl (x2)), some (.inl (x3))] [] σ) : z_J Γ zm_City_loansOf 22 [some (.inr (o)), some (.inl (x1)), some (.inl (x2)), some (.inl (x3))] [] σ := by
  refine zj_aload_n zd_City_loansOf_22 rfl ?_
  refine zj_getR (zk_C0 h_o) (by decide) rfl zu_City (k := 4) (by decide) rfl zl_City_21 zd_City_loansOf_23 (o' := o + 4) rfl ?_
  refine zj_iload_n zd_City_loansOf_26 rfl ?_
  refine zj_iaload (zk_C4 h_o) (by decide) b1 zd_City_loansOf_27 ?_
  refine zj_iload_n zd_City_loansOf_28 rfl ?_
  exact zj_icmp_ne zd_City_loansOf_29 (by decide) (fun h => (kt h)) (fun h => (kf h))
theorem zb_City_loansOf_32 {Γ : zG} {σ : zS} {o : Nat} {x1 x2 x3 : Int32} (h_o : z_oC o) (k : z_J Γ zm_City_loansOf 38 [some (.inr (o)), some (.inl (x1)), some (.inl (x2 ||| ((nI 1) <<< (x3 &&& 31)))), some (.inl (x3))] [] σ) : z_J Γ zm_City_loansOf 32 [some (.inr (o)), some (.inl (x1)), some (.inl (x2)), some (.inl (x3))] [] σ := by
  refine zj_iload_n zd_City_loansOf_32 rfl ?_
  refine zj_iconst (v := nI 1) zd_City_loansOf_33 (by decide) ?_
  refine zj_iload_n zd_City_loansOf_34 rfl ?_
  refine zj_ishl zd_City_loansOf_35 ?_
  refine zj_ior zd_City_loansOf_36 ?_
  refine zj_istore_n (L' := [some (.inr (o)), some (.inl (x1)), some (.inl (x2 ||| ((nI 1) <<< (x3 &&& 31)))), some (.inl (x3))]) zd_City_loansOf_37 (by decide) rfl ?_
  exact k
theorem zb_City_loansOf_38 {Γ : zG} {σ : zS} {o : Nat} {x1 x2 x3 : Int32} (h_o : z_oC o) (k : z_J Γ zm_City_loansOf 4 [some (.inr (o)), some (.inl (x1)), some (.inl (x2)), some (.inl (x3 + nI 1))] [] σ) : z_J Γ zm_City_loansOf 38 [some (.inr (o)), some (.inl (x1)), some (.inl (x2)), some (.inl (x3))] [] σ := by
  refine zj_iinc (v := nI 1) (L' := [some (.inr (o)), some (.inl (x1)), some (.inl (x2)), some (.inl (x3 + nI 1))]) zd_City_loansOf_38 rfl (by decide) (by decide) rfl ?_
  exact zj_goto zd_City_loansOf_41 (by decide) k
theorem zb_City_loansOf_44 {Γ : zG} {σ : zS} {x2 : Int32}  (e : z_end Γ (some (x2)) σ) : z_J Γ zm_City_loansOf 44 [none, none, some (.inl (x2)), none] [] σ := by
  refine zj_iload_n zd_City_loansOf_44 rfl ?_
  exact zj_ireturn rfl zd_City_loansOf_45 e
theorem zd_City_callBack_0 : decode zm_City_callBack.2.1 0 = .ok (.aload_n 0, 1) := by decide +kernel
theorem zd_City_callBack_1 : decode zm_City_callBack.2.1 1 = .ok (.iload_n 1, 1) := by decide +kernel
theorem zd_City_callBack_2 : decode zm_City_callBack.2.1 2 = .ok (.invokevirtual 92, 3) := by decide +kernel
theorem zd_City_callBack_5 : decode zm_City_callBack.2.1 5 = .ok (.ifCond .ne 5, 3) := by decide +kernel
theorem zd_City_callBack_8 : decode zm_City_callBack.2.1 8 = .ok (.iconst (-1), 1) := by decide +kernel
theorem zd_City_callBack_9 : decode zm_City_callBack.2.1 9 = .ok (.ireturn, 1) := by decide +kernel
theorem zd_City_callBack_10 : decode zm_City_callBack.2.1 10 = .ok (.aload_n 0, 1) := by decide +kernel
theorem zd_City_callBack_11 : decode zm_City_callBack.2.1 11 = .ok (.getfield 18, 3) := by decide +kernel
theorem zd_City_callBack_14 : decode zm_City_callBack.2.1 14 = .ok (.iload_n 1, 1) := by decide +kernel
theorem zd_City_callBack_15 : decode zm_City_callBack.2.1 15 = .ok (.iaload, 1) := by decide +kernel
theorem zd_City_callBack_16 : decode zm_City_callBack.2.1 16 = .ok (.iconst 2, 1) := by decide +kernel
theorem zd_City_callBack_17 : decode zm_City_callBack.2.1 17 = .ok (.if_icmp .eq 6, 3) := by decide +kernel
theorem zd_City_callBack_20 : decode zm_City_callBack.2.1 20 = .ok (.bipush (-2), 2) := by decide +kernel
theorem zd_City_callBack_22 : decode zm_City_callBack.2.1 22 = .ok (.ireturn, 1) := by decide +kernel
theorem zd_City_callBack_23 : decode zm_City_callBack.2.1 23 = .ok (.aload_n 0, 1) := by decide +kernel
theorem zd_City_callBack_24 : decode zm_City_callBack.2.1 24 = .ok (.getfield 21, 3) := by decide +kernel
theorem zd_City_callBack_27 : decode zm_City_callBack.2.1 27 = .ok (.iload_n 1, 1) := by decide +kernel
theorem zd_City_callBack_28 : decode zm_City_callBack.2.1 28 = .ok (.iaload, 1) := by decide +kernel
theorem zd_City_callBack_29 : decode zm_City_callBack.2.1 29 = .ok (.istore_n 2, 1) := by decide +kernel
theorem zd_City_callBack_30 : decode zm_City_callBack.2.1 30 = .ok (.aload_n 0, 1) := by decide +kernel
theorem zd_City_callBack_31 : decode zm_City_callBack.2.1 31 = .ok (.iload_n 1, 1) := by decide +kernel
theorem zd_City_callBack_32 : decode zm_City_callBack.2.1 32 = .ok (.iconst 0, 1) := by decide +kernel
theorem zd_City_callBack_33 : decode zm_City_callBack.2.1 33 = .ok (.invokevirtual 49, 3) := by decide +kernel
theorem zd_City_callBack_36 : decode zm_City_callBack.2.1 36 = .ok (.iload_n 2, 1) := by decide +kernel
theorem zd_City_callBack_37 : decode zm_City_callBack.2.1 37 = .ok (.ireturn, 1) := by decide +kernel
theorem zb_City_callBack_0 {Γ : zG} {σ : zS} {o : Nat} {x1 : Int32} {dc : Nat} {P : Int32 → zS → Prop} (h_o : z_oC o) (hm : z_Ci dc zm_City_isBook [.inr (o), .inl (x1)] σ P) (hdp : dc < z_dep Γ) (k : ∀ r σ1, P r σ1 → z_J Γ zm_City_callBack 5 [some (.inr (o)), some (.inl (x1)), none] [.inl (r)] σ1) : z_J Γ zm_City_callBack 0 [some (.inr (o)), some (.inl (x1)), none] [] σ := by
  refine zj_aload_n zd_City_callBack_0 rfl ?_
  refine zj_iload_n zd_City_callBack_1 rfl ?_
  exact zj_callVi (As := [.inl (x1)]) hm hdp (zk_C0 h_o) (by decide) rfl zl_City_92 zq_City_isBook zd_City_callBack_2 rfl (Nat.le_of_ble_eq_true rfl) (fun r σ1 h => (k r σ1 h))
theorem zb_City_callBack_5 {Γ : zG} {σ : zS} {o : Nat} {x1 y0 : Int32} (h_o : z_oC o) (kt : ¬ y0 = 0 → z_J Γ zm_City_callBack 10 [some (.inr (o)), some (.inl (x1)), none] [] σ) (kf : y0 = 0 → z_J Γ zm_City_callBack 8 [none, none, none] [] σ) : z_J Γ zm_City_callBack 5 [some (.inr (o)), some (.inl (x1)), none] [.inl (y0)] σ := by
  exact zj_if_ne zd_City_callBack_5 (by decide) (fun h => (kt h)) (fun h => (zj_weak (L' := [none, none, none]) trivial (kf h)))
theorem zb_City_callBack_8 {Γ : zG} {σ : zS}  (e : z_end Γ (some ((-1))) σ) : z_J Γ zm_City_callBack 8 [none, none, none] [] σ := by
  refine zj_iconst (v := (-1)) zd_City_callBack_8 (by decide) ?_
  exact zj_ireturn rfl zd_City_callBack_9 e
theorem zb_City_callBack_10 {Γ : zG} {σ : zS} {o : Nat} {x1 : Int32} {k1 : Nat} (h_o : z_oC o) (b1 : z_ix x1 12 k1) (kt : (σ.1 (o + 3) k1) = (nI 2) → z_J Γ zm_City_callBack 23 [some (.inr (o)), some (.inl (x1)), none] [] σ) (kf : ¬ (σ.1 (o + 3) k1) = (nI 2) → z_J Γ zm_City_callBack 20 [none, none, none] [] σ) : z_J Γ zm_City_callBack 10 [some (.inr (o)), some (.inl (x1)), none] [] σ := by
  refine zj_aload_n zd_City_callBack_10 rfl ?_
  refine zj_getR (zk_C0 h_o) (by decide) rfl zu_City (k := 3) (by decide) rfl zl_City_18 zd_City_callBack_11 (o' := o + 3) rfl ?_
  refine zj_iload_n zd_City_callBack_14 rfl ?_
  refine zj_iaload (zk_C3 h_o) (by decide) b1 zd_City_callBack_15 ?_
  refine zj_iconst (v := nI 2) zd_City_callBack_16 (by decide) ?_
  exact zj_icmp_eq zd_City_callBack_17 (by decide) (fun h => (kt h)) (fun h => (zj_weak (L' := [none, none, none]) trivial (kf h)))
theorem zb_City_callBack_20 {Γ : zG} {σ : zS}  (e : z_end Γ (some ((-2))) σ) : z_J Γ zm_City_callBack 20 [none, none, none] [] σ := by
  refine zj_bipush (v := (-2)) zd_City_callBack_20 (by decide) ?_
  exact zj_ireturn rfl zd_City_callBack_22 e
theorem zb_City_callBack_23 {Γ : zG} {σ : zS} {o : Nat} {x1 : Int32} {k1 : Nat} {dc : Nat} {P : zS → Prop} (h_o : z_oC o) (b1 : z_ix x1 12 k1) (hm : z_Cv dc zm_City_lift [.inr (o), .inl (x1), .inl (nI 0)] σ P) (hdp : dc < z_dep Γ) (k : ∀ σ1, P σ1 → z_J Γ zm_City_callBack 36 [none, none, some (.inl (σ.1 (o + 4) k1))] [] σ1) : z_J Γ zm_City_callBack 23 [some (.inr (o)), some (.inl (x1)), none] [] σ := by
  refine zj_aload_n zd_City_callBack_23 rfl ?_
  refine zj_getR (zk_C0 h_o) (by decide) rfl zu_City (k := 4) (by decide) rfl zl_City_21 zd_City_callBack_24 (o' := o + 4) rfl ?_
  refine zj_iload_n zd_City_callBack_27 rfl ?_
  refine zj_iaload (zk_C4 h_o) (by decide) b1 zd_City_callBack_28 ?_
  refine zj_istore_n (L' := [some (.inr (o)), some (.inl (x1)), some (.inl (σ.1 (o + 4) k1))]) zd_City_callBack_29 (by decide) rfl ?_
  refine zj_aload_n zd_City_callBack_30 rfl ?_
  refine zj_iload_n zd_City_callBack_31 rfl ?_
  refine zj_iconst (v := nI 0) zd_City_callBack_32 (by decide) ?_
  exact zj_callVv (As := [.inl (x1), .inl (nI 0)]) hm hdp (zk_C0 h_o) (by decide) rfl zl_City_49 zq_City_lift zd_City_callBack_33 rfl (Nat.le_of_ble_eq_true rfl) (fun σ1 h => (zj_weak (L' := [none, none, some (.inl (σ.1 (o + 4) k1))]) ⟨rfl, trivial⟩ (k σ1 h)))
theorem zb_City_callBack_36 {Γ : zG} {σ : zS} {x2 : Int32}  (e : z_end Γ (some (x2)) σ) : z_J Γ zm_City_callBack 36 [none, none, some (.inl (x2))] [] σ := by
  refine zj_iload_n zd_City_callBack_36 rfl ?_
  exact zj_ireturn rfl zd_City_callBack_37 e
theorem zd_City_shoot_0 : decode zm_City_shoot.2.1 0 = .ok (.aload_n 0, 1) := by decide +kernel
theorem zd_City_shoot_1 : decode zm_City_shoot.2.1 1 = .ok (.iload_n 1, 1) := by decide +kernel
theorem zd_City_shoot_2 : decode zm_City_shoot.2.1 2 = .ok (.invokevirtual 96, 3) := by decide +kernel
theorem zd_City_shoot_5 : decode zm_City_shoot.2.1 5 = .ok (.ifCond .eq 13, 3) := by decide +kernel
theorem zd_City_shoot_8 : decode zm_City_shoot.2.1 8 = .ok (.iload_n 2, 1) := by decide +kernel
theorem zd_City_shoot_9 : decode zm_City_shoot.2.1 9 = .ok (.iconst 1, 1) := by decide +kernel
theorem zd_City_shoot_10 : decode zm_City_shoot.2.1 10 = .ok (.if_icmp .lt 8, 3) := by decide +kernel
theorem zd_City_shoot_13 : decode zm_City_shoot.2.1 13 = .ok (.iload_n 2, 1) := by decide +kernel
theorem zd_City_shoot_14 : decode zm_City_shoot.2.1 14 = .ok (.iconst 4, 1) := by decide +kernel
theorem zd_City_shoot_15 : decode zm_City_shoot.2.1 15 = .ok (.if_icmp .le 5, 3) := by decide +kernel
theorem zd_City_shoot_18 : decode zm_City_shoot.2.1 18 = .ok (.iconst (-1), 1) := by decide +kernel
theorem zd_City_shoot_19 : decode zm_City_shoot.2.1 19 = .ok (.ireturn, 1) := by decide +kernel
theorem zd_City_shoot_20 : decode zm_City_shoot.2.1 20 = .ok (.aload_n 0, 1) := by decide +kernel
theorem zd_City_shoot_21 : decode zm_City_shoot.2.1 21 = .ok (.getfield 31, 3) := by decide +kernel
theorem zd_City_shoot_24 : decode zm_City_shoot.2.1 24 = .ok (.iload_n 1, 1) := by decide +kernel
theorem zd_City_shoot_25 : decode zm_City_shoot.2.1 25 = .ok (.iaload, 1) := by decide +kernel
theorem zd_City_shoot_26 : decode zm_City_shoot.2.1 26 = .ok (.ifCond .ne 6, 3) := by decide +kernel
theorem zd_City_shoot_29 : decode zm_City_shoot.2.1 29 = .ok (.bipush (-2), 2) := by decide +kernel
theorem zd_City_shoot_31 : decode zm_City_shoot.2.1 31 = .ok (.ireturn, 1) := by decide +kernel
theorem zd_City_shoot_32 : decode zm_City_shoot.2.1 32 = .ok (.aload_n 0, 1) := by decide +kernel
theorem zd_City_shoot_33 : decode zm_City_shoot.2.1 33 = .ok (.iconst 0, 1) := by decide +kernel
theorem zd_City_shoot_34 : decode zm_City_shoot.2.1 34 = .ok (.putfield 117, 3) := by decide +kernel
theorem zd_City_shoot_37 : decode zm_City_shoot.2.1 37 = .ok (.iconst 0, 1) := by decide +kernel
theorem zd_City_shoot_38 : decode zm_City_shoot.2.1 38 = .ok (.istore_n 3, 1) := by decide +kernel
theorem zd_City_shoot_39 : decode zm_City_shoot.2.1 39 = .ok (.iload_n 3, 1) := by decide +kernel
theorem zd_City_shoot_40 : decode zm_City_shoot.2.1 40 = .ok (.iload_n 2, 1) := by decide +kernel
theorem zd_City_shoot_41 : decode zm_City_shoot.2.1 41 = .ok (.if_icmp .ge 45, 3) := by decide +kernel
theorem zd_City_shoot_44 : decode zm_City_shoot.2.1 44 = .ok (.aload_n 0, 1) := by decide +kernel
theorem zd_City_shoot_45 : decode zm_City_shoot.2.1 45 = .ok (.getfield 31, 3) := by decide +kernel
theorem zd_City_shoot_48 : decode zm_City_shoot.2.1 48 = .ok (.iload_n 1, 1) := by decide +kernel
theorem zd_City_shoot_49 : decode zm_City_shoot.2.1 49 = .ok (.iaload, 1) := by decide +kernel
theorem zd_City_shoot_50 : decode zm_City_shoot.2.1 50 = .ok (.ifCond .le 36, 3) := by decide +kernel
theorem zd_City_shoot_53 : decode zm_City_shoot.2.1 53 = .ok (.aload_n 0, 1) := by decide +kernel
theorem zd_City_shoot_54 : decode zm_City_shoot.2.1 54 = .ok (.iload_n 1, 1) := by decide +kernel
theorem zd_City_shoot_55 : decode zm_City_shoot.2.1 55 = .ok (.invokevirtual 120, 3) := by decide +kernel
theorem zd_City_shoot_58 : decode zm_City_shoot.2.1 58 = .ok (.istore 4, 2) := by decide +kernel
theorem zd_City_shoot_60 : decode zm_City_shoot.2.1 60 = .ok (.aload_n 0, 1) := by decide +kernel
theorem zd_City_shoot_61 : decode zm_City_shoot.2.1 61 = .ok (.dup, 1) := by decide +kernel
theorem zd_City_shoot_62 : decode zm_City_shoot.2.1 62 = .ok (.getfield 117, 3) := by decide +kernel
theorem zd_City_shoot_65 : decode zm_City_shoot.2.1 65 = .ok (.iconst 1, 1) := by decide +kernel
theorem zd_City_shoot_66 : decode zm_City_shoot.2.1 66 = .ok (.iload 4, 2) := by decide +kernel
theorem zd_City_shoot_68 : decode zm_City_shoot.2.1 68 = .ok (.ishl, 1) := by decide +kernel
theorem zd_City_shoot_69 : decode zm_City_shoot.2.1 69 = .ok (.ior, 1) := by decide +kernel
theorem zd_City_shoot_70 : decode zm_City_shoot.2.1 70 = .ok (.putfield 117, 3) := by decide +kernel
theorem zd_City_shoot_73 : decode zm_City_shoot.2.1 73 = .ok (.aload_n 0, 1) := by decide +kernel
theorem zd_City_shoot_74 : decode zm_City_shoot.2.1 74 = .ok (.iload 4, 2) := by decide +kernel
theorem zd_City_shoot_76 : decode zm_City_shoot.2.1 76 = .ok (.iconst 3, 1) := by decide +kernel
theorem zd_City_shoot_77 : decode zm_City_shoot.2.1 77 = .ok (.invokevirtual 49, 3) := by decide +kernel
theorem zd_City_shoot_80 : decode zm_City_shoot.2.1 80 = .ok (.iinc 3 1, 3) := by decide +kernel
theorem zd_City_shoot_83 : decode zm_City_shoot.2.1 83 = .ok (.goto (-44), 3) := by decide +kernel
theorem zd_City_shoot_86 : decode zm_City_shoot.2.1 86 = .ok (.aload_n 0, 1) := by decide +kernel
theorem zd_City_shoot_87 : decode zm_City_shoot.2.1 87 = .ok (.iload_n 1, 1) := by decide +kernel
theorem zd_City_shoot_88 : decode zm_City_shoot.2.1 88 = .ok (.invokevirtual 64, 3) := by decide +kernel
theorem zd_City_shoot_91 : decode zm_City_shoot.2.1 91 = .ok (.ireturn, 1) := by decide +kernel
theorem zb_City_shoot_0 {Γ : zG} {σ : zS} {o : Nat} {x1 x2 : Int32} {dc : Nat} {P : Int32 → zS → Prop} (h_o : z_oC o) (hm : z_Ci dc zm_City_isColumn [.inr (o), .inl (x1)] σ P) (hdp : dc < z_dep Γ) (k : ∀ r σ1, P r σ1 → z_J Γ zm_City_shoot 5 [some (.inr (o)), some (.inl (x1)), some (.inl (x2)), none, none] [.inl (r)] σ1) : z_J Γ zm_City_shoot 0 [some (.inr (o)), some (.inl (x1)), some (.inl (x2)), none, none] [] σ := by
  refine zj_aload_n zd_City_shoot_0 rfl ?_
  refine zj_iload_n zd_City_shoot_1 rfl ?_
  exact zj_callVi (As := [.inl (x1)]) hm hdp (zk_C0 h_o) (by decide) rfl zl_City_96 zq_City_isColumn zd_City_shoot_2 rfl (Nat.le_of_ble_eq_true rfl) (fun r σ1 h => (k r σ1 h))
theorem zb_City_shoot_5 {Γ : zG} {σ : zS} {o : Nat} {x1 x2 y0 : Int32} (h_o : z_oC o) (kt : y0 = 0 → z_J Γ zm_City_shoot 18 [none, none, none, none, none] [] σ) (kf : ¬ y0 = 0 → z_J Γ zm_City_shoot 8 [some (.inr (o)), some (.inl (x1)), some (.inl (x2)), none, none] [] σ) : z_J Γ zm_City_shoot 5 [some (.inr (o)), some (.inl (x1)), some (.inl (x2)), none, none] [.inl (y0)] σ := by
  exact zj_if_eq zd_City_shoot_5 (by decide) (fun h => (zj_weak (L' := [none, none, none, none, none]) trivial (kt h))) (fun h => (kf h))
theorem zb_City_shoot_8 {Γ : zG} {σ : zS} {o : Nat} {x1 x2 : Int32} (h_o : z_oC o) (kt : x2 < (nI 1) → z_J Γ zm_City_shoot 18 [none, none, none, none, none] [] σ) (kf : ¬ x2 < (nI 1) → z_J Γ zm_City_shoot 13 [some (.inr (o)), some (.inl (x1)), some (.inl (x2)), none, none] [] σ) : z_J Γ zm_City_shoot 8 [some (.inr (o)), some (.inl (x1)), some (.inl (x2)), none, none] [] σ := by
  refine zj_iload_n zd_City_shoot_8 rfl ?_
  refine zj_iconst (v := nI 1) zd_City_shoot_9 (by decide) ?_
  exact zj_icmp_lt zd_City_shoot_10 (by decide) (fun h => (zj_weak (L' := [none, none, none, none, none]) trivial (kt h))) (fun h => (kf h))
theorem zb_City_shoot_13 {Γ : zG} {σ : zS} {o : Nat} {x1 x2 : Int32} (h_o : z_oC o) (kt : x2 ≤ (nI 4) → z_J Γ zm_City_shoot 20 [some (.inr (o)), some (.inl (x1)), some (.inl (x2)), none, none] [] σ) (kf : ¬ x2 ≤ (nI 4) → z_J Γ zm_City_shoot 18 [none, none, none, none, none] [] σ) : z_J Γ zm_City_shoot 13 [some (.inr (o)), some (.inl (x1)), some (.inl (x2)), none, none] [] σ := by
  refine zj_iload_n zd_City_shoot_13 rfl ?_
  refine zj_iconst (v := nI 4) zd_City_shoot_14 (by decide) ?_
  exact zj_icmp_le zd_City_shoot_15 (by decide) (fun h => (kt h)) (fun h => (zj_weak (L' := [none, none, none, none, none]) trivial (kf h)))
theorem zb_City_shoot_18 {Γ : zG} {σ : zS}  (e : z_end Γ (some ((-1))) σ) : z_J Γ zm_City_shoot 18 [none, none, none, none, none] [] σ := by
  refine zj_iconst (v := (-1)) zd_City_shoot_18 (by decide) ?_
  exact zj_ireturn rfl zd_City_shoot_19 e
theorem zb_City_shoot_20 {Γ : zG} {σ : zS} {o : Nat} {x1 x2 : Int32} {k1 : Nat} (h_o : z_oC o) (b1 : z_ix x1 6 k1) (kt : ¬ (σ.1 (o + 6) k1) = 0 → z_J Γ zm_City_shoot 32 [some (.inr (o)), some (.inl (x1)), some (.inl (x2)), none, none] [] σ) (kf : (σ.1 (o + 6) k1) = 0 → z_J Γ zm_City_shoot 29 [none, none, none, none, none] [] σ) : z_J Γ zm_City_shoot 20 [some (.inr (o)), some (.inl (x1)), some (.inl (x2)), none, none] [] σ := by
  refine zj_aload_n zd_City_shoot_20 rfl ?_
  refine zj_getR (zk_C0 h_o) (by decide) rfl zu_City (k := 7) (by decide) rfl zl_City_31 zd_City_shoot_21 (o' := o + 6) rfl ?_
  refine zj_iload_n zd_City_shoot_24 rfl ?_
  refine zj_iaload (zk_C6 h_o) (by decide) b1 zd_City_shoot_25 ?_
  exact zj_if_ne zd_City_shoot_26 (by decide) (fun h => (kt h)) (fun h => (zj_weak (L' := [none, none, none, none, none]) trivial (kf h)))
theorem zb_City_shoot_29 {Γ : zG} {σ : zS}  (e : z_end Γ (some ((-2))) σ) : z_J Γ zm_City_shoot 29 [none, none, none, none, none] [] σ := by
  refine zj_bipush (v := (-2)) zd_City_shoot_29 (by decide) ?_
  exact zj_ireturn rfl zd_City_shoot_31 e
theorem zb_City_shoot_32 {Γ : zG} {σ : zS} {o : Nat} {x1 x2 : Int32} (h_o : z_oC o) (k : z_J Γ zm_City_shoot 39 [some (.inr (o)), some (.inl (x1)), some (.inl (x2)), some (.inl (nI 0)), none] [] (z_pI σ o 13 (nI 0))) : z_J Γ zm_City_shoot 32 [some (.inr (o)), some (.inl (x1)), some (.inl (x2)), none, none] [] σ := by
  refine zj_aload_n zd_City_shoot_32 rfl ?_
  refine zj_iconst (v := nI 0) zd_City_shoot_33 (by decide) ?_
  refine zj_putI (zk_C0 h_o) (by decide) rfl zu_City zy_City_ok zn_City (k := 13) (by decide) rfl rfl zl_City_117 rfl rfl zd_City_shoot_34 ?_
  refine zj_iconst (v := nI 0) zd_City_shoot_37 (by decide) ?_
  refine zj_istore_n (L' := [some (.inr (o)), some (.inl (x1)), some (.inl (x2)), some (.inl (nI 0)), none]) zd_City_shoot_38 (by decide) rfl ?_
  exact k
theorem zb_City_shoot_39 {Γ : zG} {σ : zS} {o : Nat} {x1 x2 x3 : Int32} (h_o : z_oC o) (kt : x2 ≤ x3 → z_J Γ zm_City_shoot 86 [some (.inr (o)), some (.inl (x1)), none, none, none] [] σ) (kf : ¬ x2 ≤ x3 → z_J Γ zm_City_shoot 44 [some (.inr (o)), some (.inl (x1)), some (.inl (x2)), some (.inl (x3)), none] [] σ) : z_J Γ zm_City_shoot 39 [some (.inr (o)), some (.inl (x1)), some (.inl (x2)), some (.inl (x3)), none] [] σ := by
  refine zj_iload_n zd_City_shoot_39 rfl ?_
  refine zj_iload_n zd_City_shoot_40 rfl ?_
  exact zj_icmp_ge zd_City_shoot_41 (by decide) (fun h => (zj_weak (L' := [some (.inr (o)), some (.inl (x1)), none, none, none]) ⟨rfl, ⟨rfl, trivial⟩⟩ (kt h))) (fun h => (kf h))
theorem zb_City_shoot_44 {Γ : zG} {σ : zS} {o : Nat} {x1 x2 x3 : Int32} {k1 : Nat} (h_o : z_oC o) (b1 : z_ix x1 6 k1) (kt : (σ.1 (o + 6) k1) ≤ 0 → z_J Γ zm_City_shoot 86 [some (.inr (o)), some (.inl (x1)), none, none, none] [] σ) (kf : ¬ (σ.1 (o + 6) k1) ≤ 0 → z_J Γ zm_City_shoot 53 [some (.inr (o)), some (.inl (x1)), some (.inl (x2)), some (.inl (x3)), none] [] σ) : z_J Γ zm_City_shoot 44 [some (.inr (o)), some (.inl (x1)), some (.inl (x2)), some (.inl (x3)), none] [] σ := by
  refine zj_aload_n zd_City_shoot_44 rfl ?_
  refine zj_getR (zk_C0 h_o) (by decide) rfl zu_City (k := 7) (by decide) rfl zl_City_31 zd_City_shoot_45 (o' := o + 6) rfl ?_
  refine zj_iload_n zd_City_shoot_48 rfl ?_
  refine zj_iaload (zk_C6 h_o) (by decide) b1 zd_City_shoot_49 ?_
  exact zj_if_le zd_City_shoot_50 (by decide) (fun h => (zj_weak (L' := [some (.inr (o)), some (.inl (x1)), none, none, none]) ⟨rfl, ⟨rfl, trivial⟩⟩ (kt h))) (fun h => (kf h))
theorem zb_City_shoot_53 {Γ : zG} {σ : zS} {o : Nat} {x1 x2 x3 : Int32} {dc : Nat} {P : Int32 → zS → Prop} (h_o : z_oC o) (hm : z_Ci dc zm_City_topOf [.inr (o), .inl (x1)] σ P) (hdp : dc < z_dep Γ) (k : ∀ r σ1, P r σ1 → z_J Γ zm_City_shoot 58 [some (.inr (o)), some (.inl (x1)), some (.inl (x2)), some (.inl (x3)), none] [.inl (r)] σ1) : z_J Γ zm_City_shoot 53 [some (.inr (o)), some (.inl (x1)), some (.inl (x2)), some (.inl (x3)), none] [] σ := by
  refine zj_aload_n zd_City_shoot_53 rfl ?_
  refine zj_iload_n zd_City_shoot_54 rfl ?_
  exact zj_callVi (As := [.inl (x1)]) hm hdp (zk_C0 h_o) (by decide) rfl zl_City_120 zq_City_topOf zd_City_shoot_55 rfl (Nat.le_of_ble_eq_true rfl) (fun r σ1 h => (k r σ1 h))
theorem zb_City_shoot_58 {Γ : zG} {σ : zS} {o : Nat} {x1 x2 x3 y0 : Int32} {dc : Nat} {P : zS → Prop} (h_o : z_oC o) (hm : z_Cv dc zm_City_lift [.inr (o), .inl (y0), .inl (nI 3)] (z_pI σ o 13 ((σ.1 o 13) ||| ((nI 1) <<< (y0 &&& 31)))) P) (hdp : dc < z_dep Γ) (k : ∀ σ1, P σ1 → z_J Γ zm_City_shoot 80 [some (.inr (o)), some (.inl (x1)), some (.inl (x2)), some (.inl (x3)), none] [] σ1) : z_J Γ zm_City_shoot 58 [some (.inr (o)), some (.inl (x1)), some (.inl (x2)), some (.inl (x3)), none] [.inl (y0)] σ := by
  refine zj_istore (L' := [some (.inr (o)), some (.inl (x1)), some (.inl (x2)), some (.inl (x3)), some (.inl (y0))]) zd_City_shoot_58 (by decide) rfl ?_
  refine zj_aload_n zd_City_shoot_60 rfl ?_
  refine zj_dup zd_City_shoot_61 ?_
  refine zj_getI (zk_C0 h_o) (by decide) rfl zu_City (k := 13) (by decide) rfl zl_City_117 zd_City_shoot_62 ?_
  refine zj_iconst (v := nI 1) zd_City_shoot_65 (by decide) ?_
  refine zj_iload zd_City_shoot_66 rfl ?_
  refine zj_ishl zd_City_shoot_68 ?_
  refine zj_ior zd_City_shoot_69 ?_
  refine zj_putI (zk_C0 h_o) (by decide) rfl zu_City zy_City_ok zn_City (k := 13) (by decide) rfl rfl zl_City_117 rfl rfl zd_City_shoot_70 ?_
  refine zj_aload_n zd_City_shoot_73 rfl ?_
  refine zj_iload zd_City_shoot_74 rfl ?_
  refine zj_iconst (v := nI 3) zd_City_shoot_76 (by decide) ?_
  exact zj_callVv (As := [.inl (y0), .inl (nI 3)]) hm hdp (zk_C0 h_o) (by decide) rfl zl_City_49 zq_City_lift zd_City_shoot_77 rfl (Nat.le_of_ble_eq_true rfl) (fun σ1 h => (zj_weak (L' := [some (.inr (o)), some (.inl (x1)), some (.inl (x2)), some (.inl (x3)), none]) ⟨rfl, ⟨rfl, ⟨rfl, ⟨rfl, trivial⟩⟩⟩⟩ (k σ1 h)))
theorem zb_City_shoot_80 {Γ : zG} {σ : zS} {o : Nat} {x1 x2 x3 : Int32} (h_o : z_oC o) (k : z_J Γ zm_City_shoot 39 [some (.inr (o)), some (.inl (x1)), some (.inl (x2)), some (.inl (x3 + nI 1)), none] [] σ) : z_J Γ zm_City_shoot 80 [some (.inr (o)), some (.inl (x1)), some (.inl (x2)), some (.inl (x3)), none] [] σ := by
  refine zj_iinc (v := nI 1) (L' := [some (.inr (o)), some (.inl (x1)), some (.inl (x2)), some (.inl (x3 + nI 1)), none]) zd_City_shoot_80 rfl (by decide) (by decide) rfl ?_
  exact zj_goto zd_City_shoot_83 (by decide) k
theorem zb_City_shoot_86 {Γ : zG} {σ : zS} {o : Nat} {x1 : Int32} {dc : Nat} {P : Int32 → zS → Prop} (h_o : z_oC o) (hm : z_Ci dc zm_City_heightOf [.inr (o), .inl (x1)] σ P) (hdp : dc < z_dep Γ) (k : ∀ r σ1, P r σ1 → z_J Γ zm_City_shoot 91 [none, none, none, none, none] [.inl (r)] σ1) : z_J Γ zm_City_shoot 86 [some (.inr (o)), some (.inl (x1)), none, none, none] [] σ := by
  refine zj_aload_n zd_City_shoot_86 rfl ?_
  refine zj_iload_n zd_City_shoot_87 rfl ?_
  exact zj_callVi (As := [.inl (x1)]) hm hdp (zk_C0 h_o) (by decide) rfl zl_City_64 zq_City_heightOf zd_City_shoot_88 rfl (Nat.le_of_ble_eq_true rfl) (fun r σ1 h => (zj_weak (L' := [none, none, none, none, none]) trivial (k r σ1 h)))
theorem zb_City_shoot_91 {Γ : zG} {σ : zS} {y0 : Int32}  (e : z_end Γ (some (y0)) σ) : z_J Γ zm_City_shoot 91 [none, none, none, none, none] [.inl (y0)] σ := by
  exact zj_ireturn rfl zd_City_shoot_91 e
theorem zd_City_topOf_0 : decode zm_City_topOf.2.1 0 = .ok (.aload_n 0, 1) := by decide +kernel
theorem zd_City_topOf_1 : decode zm_City_topOf.2.1 1 = .ok (.getfield 31, 3) := by decide +kernel
theorem zd_City_topOf_4 : decode zm_City_topOf.2.1 4 = .ok (.iload_n 1, 1) := by decide +kernel
theorem zd_City_topOf_5 : decode zm_City_topOf.2.1 5 = .ok (.iaload, 1) := by decide +kernel
theorem zd_City_topOf_6 : decode zm_City_topOf.2.1 6 = .ok (.ifCond .ne 7, 3) := by decide +kernel
theorem zd_City_topOf_9 : decode zm_City_topOf.2.1 9 = .ok (.iconst (-1), 1) := by decide +kernel
theorem zd_City_topOf_10 : decode zm_City_topOf.2.1 10 = .ok (.goto 16, 3) := by decide +kernel
theorem zd_City_topOf_13 : decode zm_City_topOf.2.1 13 = .ok (.aload_n 0, 1) := by decide +kernel
theorem zd_City_topOf_14 : decode zm_City_topOf.2.1 14 = .ok (.iload_n 1, 1) := by decide +kernel
theorem zd_City_topOf_15 : decode zm_City_topOf.2.1 15 = .ok (.aload_n 0, 1) := by decide +kernel
theorem zd_City_topOf_16 : decode zm_City_topOf.2.1 16 = .ok (.getfield 31, 3) := by decide +kernel
theorem zd_City_topOf_19 : decode zm_City_topOf.2.1 19 = .ok (.iload_n 1, 1) := by decide +kernel
theorem zd_City_topOf_20 : decode zm_City_topOf.2.1 20 = .ok (.iaload, 1) := by decide +kernel
theorem zd_City_topOf_21 : decode zm_City_topOf.2.1 21 = .ok (.iconst 1, 1) := by decide +kernel
theorem zd_City_topOf_22 : decode zm_City_topOf.2.1 22 = .ok (.isub, 1) := by decide +kernel
theorem zd_City_topOf_23 : decode zm_City_topOf.2.1 23 = .ok (.invokevirtual 53, 3) := by decide +kernel
theorem zd_City_topOf_26 : decode zm_City_topOf.2.1 26 = .ok (.ireturn, 1) := by decide +kernel
theorem zb_City_topOf_0 {Γ : zG} {σ : zS} {o : Nat} {x1 : Int32} {k1 : Nat} (h_o : z_oC o) (b1 : z_ix x1 6 k1) (kt : ¬ (σ.1 (o + 6) k1) = 0 → z_J Γ zm_City_topOf 13 [some (.inr (o)), some (.inl (x1))] [] σ) (kf : (σ.1 (o + 6) k1) = 0 → z_J Γ zm_City_topOf 9 [none, none] [] σ) : z_J Γ zm_City_topOf 0 [some (.inr (o)), some (.inl (x1))] [] σ := by
  refine zj_aload_n zd_City_topOf_0 rfl ?_
  refine zj_getR (zk_C0 h_o) (by decide) rfl zu_City (k := 7) (by decide) rfl zl_City_31 zd_City_topOf_1 (o' := o + 6) rfl ?_
  refine zj_iload_n zd_City_topOf_4 rfl ?_
  refine zj_iaload (zk_C6 h_o) (by decide) b1 zd_City_topOf_5 ?_
  exact zj_if_ne zd_City_topOf_6 (by decide) (fun h => (kt h)) (fun h => (zj_weak (L' := [none, none]) trivial (kf h)))
theorem zb_City_topOf_9 {Γ : zG} {σ : zS}  (k : z_J Γ zm_City_topOf 26 [none, none] [.inl ((-1))] σ) : z_J Γ zm_City_topOf 9 [none, none] [] σ := by
  refine zj_iconst (v := (-1)) zd_City_topOf_9 (by decide) ?_
  exact zj_goto zd_City_topOf_10 (by decide) k
theorem zb_City_topOf_13 {Γ : zG} {σ : zS} {o : Nat} {x1 : Int32} {k1 : Nat} {dc : Nat} {P : Int32 → zS → Prop} (h_o : z_oC o) (b1 : z_ix x1 6 k1) (hm : z_Ci dc zm_City_bookAt [.inr (o), .inl (x1), .inl ((σ.1 (o + 6) k1) - (nI 1))] σ P) (hdp : dc < z_dep Γ) (k : ∀ r σ1, P r σ1 → z_J Γ zm_City_topOf 26 [none, none] [.inl (r)] σ1) : z_J Γ zm_City_topOf 13 [some (.inr (o)), some (.inl (x1))] [] σ := by
  refine zj_aload_n zd_City_topOf_13 rfl ?_
  refine zj_iload_n zd_City_topOf_14 rfl ?_
  refine zj_aload_n zd_City_topOf_15 rfl ?_
  refine zj_getR (zk_C0 h_o) (by decide) rfl zu_City (k := 7) (by decide) rfl zl_City_31 zd_City_topOf_16 (o' := o + 6) rfl ?_
  refine zj_iload_n zd_City_topOf_19 rfl ?_
  refine zj_iaload (zk_C6 h_o) (by decide) b1 zd_City_topOf_20 ?_
  refine zj_iconst (v := nI 1) zd_City_topOf_21 (by decide) ?_
  refine zj_isub zd_City_topOf_22 ?_
  exact zj_callVi (As := [.inl (x1), .inl ((σ.1 (o + 6) k1) - (nI 1))]) hm hdp (zk_C0 h_o) (by decide) rfl zl_City_53 zq_City_bookAt zd_City_topOf_23 rfl (Nat.le_of_ble_eq_true rfl) (fun r σ1 h => (zj_weak (L' := [none, none]) trivial (k r σ1 h)))
theorem zb_City_topOf_26 {Γ : zG} {σ : zS} {y0 : Int32}  (e : z_end Γ (some (y0)) σ) : z_J Γ zm_City_topOf 26 [none, none] [.inl (y0)] σ := by
  exact zj_ireturn rfl zd_City_topOf_26 e
theorem zd_City_passDays_0 : decode zm_City_passDays.2.1 0 = .ok (.iload_n 1, 1) := by decide +kernel
theorem zd_City_passDays_1 : decode zm_City_passDays.2.1 1 = .ok (.ifCond .lt 9, 3) := by decide +kernel
theorem zd_City_passDays_4 : decode zm_City_passDays.2.1 4 = .ok (.iload_n 1, 1) := by decide +kernel
theorem zd_City_passDays_5 : decode zm_City_passDays.2.1 5 = .ok (.bipush 99, 2) := by decide +kernel
theorem zd_City_passDays_7 : decode zm_City_passDays.2.1 7 = .ok (.if_icmp .le 5, 3) := by decide +kernel
theorem zd_City_passDays_10 : decode zm_City_passDays.2.1 10 = .ok (.iconst (-1), 1) := by decide +kernel
theorem zd_City_passDays_11 : decode zm_City_passDays.2.1 11 = .ok (.ireturn, 1) := by decide +kernel
theorem zd_City_passDays_12 : decode zm_City_passDays.2.1 12 = .ok (.aload_n 0, 1) := by decide +kernel
theorem zd_City_passDays_13 : decode zm_City_passDays.2.1 13 = .ok (.iconst 0, 1) := by decide +kernel
theorem zd_City_passDays_14 : decode zm_City_passDays.2.1 14 = .ok (.putfield 123, 3) := by decide +kernel
theorem zd_City_passDays_17 : decode zm_City_passDays.2.1 17 = .ok (.aload_n 0, 1) := by decide +kernel
theorem zd_City_passDays_18 : decode zm_City_passDays.2.1 18 = .ok (.iconst 0, 1) := by decide +kernel
theorem zd_City_passDays_19 : decode zm_City_passDays.2.1 19 = .ok (.putfield 126, 3) := by decide +kernel
theorem zd_City_passDays_22 : decode zm_City_passDays.2.1 22 = .ok (.iconst 0, 1) := by decide +kernel
theorem zd_City_passDays_23 : decode zm_City_passDays.2.1 23 = .ok (.istore_n 2, 1) := by decide +kernel
theorem zd_City_passDays_24 : decode zm_City_passDays.2.1 24 = .ok (.iload_n 2, 1) := by decide +kernel
theorem zd_City_passDays_25 : decode zm_City_passDays.2.1 25 = .ok (.iload_n 1, 1) := by decide +kernel
theorem zd_City_passDays_26 : decode zm_City_passDays.2.1 26 = .ok (.if_icmp .ge 13, 3) := by decide +kernel
theorem zd_City_passDays_29 : decode zm_City_passDays.2.1 29 = .ok (.aload_n 0, 1) := by decide +kernel
theorem zd_City_passDays_30 : decode zm_City_passDays.2.1 30 = .ok (.invokevirtual 129, 3) := by decide +kernel
theorem zd_City_passDays_33 : decode zm_City_passDays.2.1 33 = .ok (.iinc 2 1, 3) := by decide +kernel
theorem zd_City_passDays_36 : decode zm_City_passDays.2.1 36 = .ok (.goto (-12), 3) := by decide +kernel
theorem zd_City_passDays_39 : decode zm_City_passDays.2.1 39 = .ok (.aload_n 0, 1) := by decide +kernel
theorem zd_City_passDays_40 : decode zm_City_passDays.2.1 40 = .ok (.getfield 72, 3) := by decide +kernel
theorem zd_City_passDays_43 : decode zm_City_passDays.2.1 43 = .ok (.ireturn, 1) := by decide +kernel
theorem zb_City_passDays_0 {Γ : zG} {σ : zS} {o : Nat} {x1 : Int32} (h_o : z_oC o) (kt : x1 < 0 → z_J Γ zm_City_passDays 10 [none, none, none] [] σ) (kf : ¬ x1 < 0 → z_J Γ zm_City_passDays 4 [some (.inr (o)), some (.inl (x1)), none] [] σ) : z_J Γ zm_City_passDays 0 [some (.inr (o)), some (.inl (x1)), none] [] σ := by
  refine zj_iload_n zd_City_passDays_0 rfl ?_
  exact zj_if_lt zd_City_passDays_1 (by decide) (fun h => (zj_weak (L' := [none, none, none]) trivial (kt h))) (fun h => (kf h))
theorem zb_City_passDays_4 {Γ : zG} {σ : zS} {o : Nat} {x1 : Int32} (h_o : z_oC o) (kt : x1 ≤ (nI 99) → z_J Γ zm_City_passDays 12 [some (.inr (o)), some (.inl (x1)), none] [] σ) (kf : ¬ x1 ≤ (nI 99) → z_J Γ zm_City_passDays 10 [none, none, none] [] σ) : z_J Γ zm_City_passDays 4 [some (.inr (o)), some (.inl (x1)), none] [] σ := by
  refine zj_iload_n zd_City_passDays_4 rfl ?_
  refine zj_bipush (v := nI 99) zd_City_passDays_5 (by decide) ?_
  exact zj_icmp_le zd_City_passDays_7 (by decide) (fun h => (kt h)) (fun h => (zj_weak (L' := [none, none, none]) trivial (kf h)))
theorem zb_City_passDays_10 {Γ : zG} {σ : zS}  (e : z_end Γ (some ((-1))) σ) : z_J Γ zm_City_passDays 10 [none, none, none] [] σ := by
  refine zj_iconst (v := (-1)) zd_City_passDays_10 (by decide) ?_
  exact zj_ireturn rfl zd_City_passDays_11 e
theorem zb_City_passDays_12 {Γ : zG} {σ : zS} {o : Nat} {x1 : Int32} (h_o : z_oC o) (k : z_J Γ zm_City_passDays 24 [some (.inr (o)), some (.inl (x1)), some (.inl (nI 0))] [] (z_pI (z_pI σ o 14 (nI 0)) o 15 (nI 0))) : z_J Γ zm_City_passDays 12 [some (.inr (o)), some (.inl (x1)), none] [] σ := by
  refine zj_aload_n zd_City_passDays_12 rfl ?_
  refine zj_iconst (v := nI 0) zd_City_passDays_13 (by decide) ?_
  refine zj_putI (zk_C0 h_o) (by decide) rfl zu_City zy_City_ok zn_City (k := 14) (by decide) rfl rfl zl_City_123 rfl rfl zd_City_passDays_14 ?_
  refine zj_aload_n zd_City_passDays_17 rfl ?_
  refine zj_iconst (v := nI 0) zd_City_passDays_18 (by decide) ?_
  refine zj_putI (zk_C0 h_o) (by decide) rfl zu_City zy_City_ok zn_City (k := 15) (by decide) rfl rfl zl_City_126 rfl rfl zd_City_passDays_19 ?_
  refine zj_iconst (v := nI 0) zd_City_passDays_22 (by decide) ?_
  refine zj_istore_n (L' := [some (.inr (o)), some (.inl (x1)), some (.inl (nI 0))]) zd_City_passDays_23 (by decide) rfl ?_
  exact k
theorem zb_City_passDays_24 {Γ : zG} {σ : zS} {o : Nat} {x1 x2 : Int32} (h_o : z_oC o) (kt : x1 ≤ x2 → z_J Γ zm_City_passDays 39 [some (.inr (o)), none, none] [] σ) (kf : ¬ x1 ≤ x2 → z_J Γ zm_City_passDays 29 [some (.inr (o)), some (.inl (x1)), some (.inl (x2))] [] σ) : z_J Γ zm_City_passDays 24 [some (.inr (o)), some (.inl (x1)), some (.inl (x2))] [] σ := by
  refine zj_iload_n zd_City_passDays_24 rfl ?_
  refine zj_iload_n zd_City_passDays_25 rfl ?_
  exact zj_icmp_ge zd_City_passDays_26 (by decide) (fun h => (zj_weak (L' := [some (.inr (o)), none, none]) ⟨rfl, trivial⟩ (kt h))) (fun h => (kf h))
theorem zb_City_passDays_29 {Γ : zG} {σ : zS} {o : Nat} {x1 x2 : Int32} {dc : Nat} {P : zS → Prop} (h_o : z_oC o) (hm : z_Cv dc zm_City_passDay [.inr (o)] σ P) (hdp : dc < z_dep Γ) (k : ∀ σ1, P σ1 → z_J Γ zm_City_passDays 33 [some (.inr (o)), some (.inl (x1)), some (.inl (x2))] [] σ1) : z_J Γ zm_City_passDays 29 [some (.inr (o)), some (.inl (x1)), some (.inl (x2))] [] σ := by
  refine zj_aload_n zd_City_passDays_29 rfl ?_
  exact zj_callVv (As := []) hm hdp (zk_C0 h_o) (by decide) rfl zl_City_129 zq_City_passDay zd_City_passDays_30 rfl (Nat.le_of_ble_eq_true rfl) (fun σ1 h => (k σ1 h))
theorem zb_City_passDays_33 {Γ : zG} {σ : zS} {o : Nat} {x1 x2 : Int32} (h_o : z_oC o) (k : z_J Γ zm_City_passDays 24 [some (.inr (o)), some (.inl (x1)), some (.inl (x2 + nI 1))] [] σ) : z_J Γ zm_City_passDays 33 [some (.inr (o)), some (.inl (x1)), some (.inl (x2))] [] σ := by
  refine zj_iinc (v := nI 1) (L' := [some (.inr (o)), some (.inl (x1)), some (.inl (x2 + nI 1))]) zd_City_passDays_33 rfl (by decide) (by decide) rfl ?_
  exact zj_goto zd_City_passDays_36 (by decide) k
theorem zb_City_passDays_39 {Γ : zG} {σ : zS} {o : Nat} (h_o : z_oC o) (e : z_end Γ (some (σ.1 o 12)) σ) : z_J Γ zm_City_passDays 39 [some (.inr (o)), none, none] [] σ := by
  refine zj_aload_n zd_City_passDays_39 rfl ?_
  refine zj_getI (zk_C0 h_o) (by decide) rfl zu_City (k := 12) (by decide) rfl zl_City_72 zd_City_passDays_40 ?_
  exact zj_ireturn rfl zd_City_passDays_43 e
theorem zd_City_passDay_0 : decode zm_City_passDay.2.1 0 = .ok (.aload_n 0, 1) := by decide +kernel
theorem zd_City_passDay_1 : decode zm_City_passDay.2.1 1 = .ok (.dup, 1) := by decide +kernel
theorem zd_City_passDay_2 : decode zm_City_passDay.2.1 2 = .ok (.getfield 72, 3) := by decide +kernel
theorem zd_City_passDay_5 : decode zm_City_passDay.2.1 5 = .ok (.iconst 1, 1) := by decide +kernel
theorem zd_City_passDay_6 : decode zm_City_passDay.2.1 6 = .ok (.iadd, 1) := by decide +kernel
theorem zd_City_passDay_7 : decode zm_City_passDay.2.1 7 = .ok (.putfield 72, 3) := by decide +kernel
theorem zd_City_passDay_10 : decode zm_City_passDay.2.1 10 = .ok (.iconst 0, 1) := by decide +kernel
theorem zd_City_passDay_11 : decode zm_City_passDay.2.1 11 = .ok (.istore_n 1, 1) := by decide +kernel
theorem zd_City_passDay_12 : decode zm_City_passDay.2.1 12 = .ok (.iload_n 1, 1) := by decide +kernel
theorem zd_City_passDay_13 : decode zm_City_passDay.2.1 13 = .ok (.aload_n 0, 1) := by decide +kernel
theorem zd_City_passDay_14 : decode zm_City_passDay.2.1 14 = .ok (.getfield 43, 3) := by decide +kernel
theorem zd_City_passDay_17 : decode zm_City_passDay.2.1 17 = .ok (.if_icmp .ge 86, 3) := by decide +kernel
theorem zd_City_passDay_20 : decode zm_City_passDay.2.1 20 = .ok (.aload_n 0, 1) := by decide +kernel
theorem zd_City_passDay_21 : decode zm_City_passDay.2.1 21 = .ok (.getfield 18, 3) := by decide +kernel
theorem zd_City_passDay_24 : decode zm_City_passDay.2.1 24 = .ok (.iload_n 1, 1) := by decide +kernel
theorem zd_City_passDay_25 : decode zm_City_passDay.2.1 25 = .ok (.iaload, 1) := by decide +kernel
theorem zd_City_passDay_26 : decode zm_City_passDay.2.1 26 = .ok (.iconst 2, 1) := by decide +kernel
theorem zd_City_passDay_27 : decode zm_City_passDay.2.1 27 = .ok (.if_icmp .ne 70, 3) := by decide +kernel
theorem zd_City_passDay_30 : decode zm_City_passDay.2.1 30 = .ok (.aload_n 0, 1) := by decide +kernel
theorem zd_City_passDay_31 : decode zm_City_passDay.2.1 31 = .ok (.iload_n 1, 1) := by decide +kernel
theorem zd_City_passDay_32 : decode zm_City_passDay.2.1 32 = .ok (.invokevirtual 132, 3) := by decide +kernel
theorem zd_City_passDay_35 : decode zm_City_passDay.2.1 35 = .ok (.aload_n 0, 1) := by decide +kernel
theorem zd_City_passDay_36 : decode zm_City_passDay.2.1 36 = .ok (.getfield 72, 3) := by decide +kernel
theorem zd_City_passDay_39 : decode zm_City_passDay.2.1 39 = .ok (.if_icmp .ne 58, 3) := by decide +kernel
theorem zd_City_passDay_42 : decode zm_City_passDay.2.1 42 = .ok (.aload_n 0, 1) := by decide +kernel
theorem zd_City_passDay_43 : decode zm_City_passDay.2.1 43 = .ok (.getfield 21, 3) := by decide +kernel
theorem zd_City_passDay_46 : decode zm_City_passDay.2.1 46 = .ok (.iload_n 1, 1) := by decide +kernel
theorem zd_City_passDay_47 : decode zm_City_passDay.2.1 47 = .ok (.iaload, 1) := by decide +kernel
theorem zd_City_passDay_48 : decode zm_City_passDay.2.1 48 = .ok (.istore_n 2, 1) := by decide +kernel
theorem zd_City_passDay_49 : decode zm_City_passDay.2.1 49 = .ok (.aload_n 0, 1) := by decide +kernel
theorem zd_City_passDay_50 : decode zm_City_passDay.2.1 50 = .ok (.getfield 40, 3) := by decide +kernel
theorem zd_City_passDay_53 : decode zm_City_passDay.2.1 53 = .ok (.iload_n 2, 1) := by decide +kernel
theorem zd_City_passDay_54 : decode zm_City_passDay.2.1 54 = .ok (.dup2, 1) := by decide +kernel
theorem zd_City_passDay_55 : decode zm_City_passDay.2.1 55 = .ok (.iaload, 1) := by decide +kernel
theorem zd_City_passDay_56 : decode zm_City_passDay.2.1 56 = .ok (.aload_n 0, 1) := by decide +kernel
theorem zd_City_passDay_57 : decode zm_City_passDay.2.1 57 = .ok (.getfield 37, 3) := by decide +kernel
theorem zd_City_passDay_60 : decode zm_City_passDay.2.1 60 = .ok (.iload_n 2, 1) := by decide +kernel
theorem zd_City_passDay_61 : decode zm_City_passDay.2.1 61 = .ok (.iaload, 1) := by decide +kernel
theorem zd_City_passDay_62 : decode zm_City_passDay.2.1 62 = .ok (.iadd, 1) := by decide +kernel
theorem zd_City_passDay_63 : decode zm_City_passDay.2.1 63 = .ok (.iastore, 1) := by decide +kernel
theorem zd_City_passDay_64 : decode zm_City_passDay.2.1 64 = .ok (.aload_n 0, 1) := by decide +kernel
theorem zd_City_passDay_65 : decode zm_City_passDay.2.1 65 = .ok (.dup, 1) := by decide +kernel
theorem zd_City_passDay_66 : decode zm_City_passDay.2.1 66 = .ok (.getfield 126, 3) := by decide +kernel
theorem zd_City_passDay_69 : decode zm_City_passDay.2.1 69 = .ok (.aload_n 0, 1) := by decide +kernel
theorem zd_City_passDay_70 : decode zm_City_passDay.2.1 70 = .ok (.getfield 37, 3) := by decide +kernel
theorem zd_City_passDay_73 : decode zm_City_passDay.2.1 73 = .ok (.iload_n 2, 1) := by decide +kernel
theorem zd_City_passDay_74 : decode zm_City_passDay.2.1 74 = .ok (.iaload, 1) := by decide +kernel
theorem zd_City_passDay_75 : decode zm_City_passDay.2.1 75 = .ok (.iadd, 1) := by decide +kernel
theorem zd_City_passDay_76 : decode zm_City_passDay.2.1 76 = .ok (.putfield 126, 3) := by decide +kernel
theorem zd_City_passDay_79 : decode zm_City_passDay.2.1 79 = .ok (.aload_n 0, 1) := by decide +kernel
theorem zd_City_passDay_80 : decode zm_City_passDay.2.1 80 = .ok (.dup, 1) := by decide +kernel
theorem zd_City_passDay_81 : decode zm_City_passDay.2.1 81 = .ok (.getfield 123, 3) := by decide +kernel
theorem zd_City_passDay_84 : decode zm_City_passDay.2.1 84 = .ok (.iconst 1, 1) := by decide +kernel
theorem zd_City_passDay_85 : decode zm_City_passDay.2.1 85 = .ok (.iload_n 1, 1) := by decide +kernel
theorem zd_City_passDay_86 : decode zm_City_passDay.2.1 86 = .ok (.ishl, 1) := by decide +kernel
theorem zd_City_passDay_87 : decode zm_City_passDay.2.1 87 = .ok (.ior, 1) := by decide +kernel
theorem zd_City_passDay_88 : decode zm_City_passDay.2.1 88 = .ok (.putfield 123, 3) := by decide +kernel
theorem zd_City_passDay_91 : decode zm_City_passDay.2.1 91 = .ok (.aload_n 0, 1) := by decide +kernel
theorem zd_City_passDay_92 : decode zm_City_passDay.2.1 92 = .ok (.iload_n 1, 1) := by decide +kernel
theorem zd_City_passDay_93 : decode zm_City_passDay.2.1 93 = .ok (.iconst 0, 1) := by decide +kernel
theorem zd_City_passDay_94 : decode zm_City_passDay.2.1 94 = .ok (.invokevirtual 49, 3) := by decide +kernel
theorem zd_City_passDay_97 : decode zm_City_passDay.2.1 97 = .ok (.iinc 1 1, 3) := by decide +kernel
theorem zd_City_passDay_100 : decode zm_City_passDay.2.1 100 = .ok (.goto (-88), 3) := by decide +kernel
theorem zd_City_passDay_103 : decode zm_City_passDay.2.1 103 = .ok (.return_, 1) := by decide +kernel
theorem zb_City_passDay_0 {Γ : zG} {σ : zS} {o : Nat} (h_o : z_oC o) (k : z_J Γ zm_City_passDay 12 [some (.inr (o)), some (.inl (nI 0)), none] [] (z_pI σ o 12 ((σ.1 o 12) + (nI 1)))) : z_J Γ zm_City_passDay 0 [some (.inr (o)), none, none] [] σ := by
  refine zj_aload_n zd_City_passDay_0 rfl ?_
  refine zj_dup zd_City_passDay_1 ?_
  refine zj_getI (zk_C0 h_o) (by decide) rfl zu_City (k := 12) (by decide) rfl zl_City_72 zd_City_passDay_2 ?_
  refine zj_iconst (v := nI 1) zd_City_passDay_5 (by decide) ?_
  refine zj_iadd zd_City_passDay_6 ?_
  refine zj_putI (zk_C0 h_o) (by decide) rfl zu_City zy_City_ok zn_City (k := 12) (by decide) rfl rfl zl_City_72 rfl rfl zd_City_passDay_7 ?_
  refine zj_iconst (v := nI 0) zd_City_passDay_10 (by decide) ?_
  refine zj_istore_n (L' := [some (.inr (o)), some (.inl (nI 0)), none]) zd_City_passDay_11 (by decide) rfl ?_
  exact k
theorem zb_City_passDay_12 {Γ : zG} {σ : zS} {o : Nat} {x1 : Int32} (h_o : z_oC o) (kt : (σ.1 o 0) ≤ x1 → z_J Γ zm_City_passDay 103 [none, none, none] [] σ) (kf : ¬ (σ.1 o 0) ≤ x1 → z_J Γ zm_City_passDay 20 [some (.inr (o)), some (.inl (x1)), none] [] σ) : z_J Γ zm_City_passDay 12 [some (.inr (o)), some (.inl (x1)), none] [] σ := by
  refine zj_iload_n zd_City_passDay_12 rfl ?_
  refine zj_aload_n zd_City_passDay_13 rfl ?_
  refine zj_getI (zk_C0 h_o) (by decide) rfl zu_City (k := 0) (by decide) rfl zl_City_43 zd_City_passDay_14 ?_
  exact zj_icmp_ge zd_City_passDay_17 (by decide) (fun h => (zj_weak (L' := [none, none, none]) trivial (kt h))) (fun h => (kf h))
theorem zb_City_passDay_20 {Γ : zG} {σ : zS} {o : Nat} {x1 : Int32} {k1 : Nat} (h_o : z_oC o) (b1 : z_ix x1 12 k1) (kt : ¬ (σ.1 (o + 3) k1) = (nI 2) → z_J Γ zm_City_passDay 97 [some (.inr (o)), some (.inl (x1)), none] [] σ) (kf : (σ.1 (o + 3) k1) = (nI 2) → z_J Γ zm_City_passDay 30 [some (.inr (o)), some (.inl (x1)), none] [] σ) : z_J Γ zm_City_passDay 20 [some (.inr (o)), some (.inl (x1)), none] [] σ := by
  refine zj_aload_n zd_City_passDay_20 rfl ?_
  refine zj_getR (zk_C0 h_o) (by decide) rfl zu_City (k := 3) (by decide) rfl zl_City_18 zd_City_passDay_21 (o' := o + 3) rfl ?_
  refine zj_iload_n zd_City_passDay_24 rfl ?_
  refine zj_iaload (zk_C3 h_o) (by decide) b1 zd_City_passDay_25 ?_
  refine zj_iconst (v := nI 2) zd_City_passDay_26 (by decide) ?_
  exact zj_icmp_ne zd_City_passDay_27 (by decide) (fun h => (kt h)) (fun h => (kf h))
theorem zb_City_passDay_30 {Γ : zG} {σ : zS} {o : Nat} {x1 : Int32} {dc : Nat} {P : Int32 → zS → Prop} (h_o : z_oC o) (hm : z_Ci dc zm_City_backOn [.inr (o), .inl (x1)] σ P) (hdp : dc < z_dep Γ) (k : ∀ r σ1, P r σ1 → z_J Γ zm_City_passDay 35 [some (.inr (o)), some (.inl (x1)), none] [.inl (r)] σ1) : z_J Γ zm_City_passDay 30 [some (.inr (o)), some (.inl (x1)), none] [] σ := by
  refine zj_aload_n zd_City_passDay_30 rfl ?_
  refine zj_iload_n zd_City_passDay_31 rfl ?_
  exact zj_callVi (As := [.inl (x1)]) hm hdp (zk_C0 h_o) (by decide) rfl zl_City_132 zq_City_backOn zd_City_passDay_32 rfl (Nat.le_of_ble_eq_true rfl) (fun r σ1 h => (k r σ1 h))
theorem zb_City_passDay_35 {Γ : zG} {σ : zS} {o : Nat} {x1 y0 : Int32} (h_o : z_oC o) (kt : ¬ y0 = (σ.1 o 12) → z_J Γ zm_City_passDay 97 [some (.inr (o)), some (.inl (x1)), none] [] σ) (kf : y0 = (σ.1 o 12) → z_J Γ zm_City_passDay 42 [some (.inr (o)), some (.inl (x1)), none] [] σ) : z_J Γ zm_City_passDay 35 [some (.inr (o)), some (.inl (x1)), none] [.inl (y0)] σ := by
  refine zj_aload_n zd_City_passDay_35 rfl ?_
  refine zj_getI (zk_C0 h_o) (by decide) rfl zu_City (k := 12) (by decide) rfl zl_City_72 zd_City_passDay_36 ?_
  exact zj_icmp_ne zd_City_passDay_39 (by decide) (fun h => (kt h)) (fun h => (kf h))
theorem zb_City_passDay_42 {Γ : zG} {σ : zS} {o : Nat} {x1 : Int32} {k1 k2 k3 k4 k5 : Nat} {dc : Nat} {P : zS → Prop} (h_o : z_oC o) (b1 : z_ix x1 12 k1) (b2 : z_ix (σ.1 (o + 4) k1) 4 k2) (b3 : z_ix (σ.1 (o + 4) k1) 4 k3) (b4 : z_ix (σ.1 (o + 4) k1) 4 k4) (b5 : z_ix (σ.1 (o + 4) k1) 4 k5) (hm : z_Cv dc zm_City_lift [.inr (o), .inl (x1), .inl (nI 0)] (z_pI (z_pI (z_pI σ (o + 9) k4 ((σ.1 (o + 9) k2) + (σ.1 (o + 8) k3))) o 15 (((z_pI σ (o + 9) k4 ((σ.1 (o + 9) k2) + (σ.1 (o + 8) k3))).1 o 15) + ((z_pI σ (o + 9) k4 ((σ.1 (o + 9) k2) + (σ.1 (o + 8) k3))).1 (o + 8) k5))) o 14 (((z_pI (z_pI σ (o + 9) k4 ((σ.1 (o + 9) k2) + (σ.1 (o + 8) k3))) o 15 (((z_pI σ (o + 9) k4 ((σ.1 (o + 9) k2) + (σ.1 (o + 8) k3))).1 o 15) + ((z_pI σ (o + 9) k4 ((σ.1 (o + 9) k2) + (σ.1 (o + 8) k3))).1 (o + 8) k5))).1 o 14) ||| ((nI 1) <<< (x1 &&& 31)))) P) (hdp : dc < z_dep Γ) (k : ∀ σ1, P σ1 → z_J Γ zm_City_passDay 97 [some (.inr (o)), some (.inl (x1)), none] [] σ1) : z_J Γ zm_City_passDay 42 [some (.inr (o)), some (.inl (x1)), none] [] σ := by
  refine zj_aload_n zd_City_passDay_42 rfl ?_
  refine zj_getR (zk_C0 h_o) (by decide) rfl zu_City (k := 4) (by decide) rfl zl_City_21 zd_City_passDay_43 (o' := o + 4) rfl ?_
  refine zj_iload_n zd_City_passDay_46 rfl ?_
  refine zj_iaload (zk_C4 h_o) (by decide) b1 zd_City_passDay_47 ?_
  refine zj_istore_n (L' := [some (.inr (o)), some (.inl (x1)), some (.inl (σ.1 (o + 4) k1))]) zd_City_passDay_48 (by decide) rfl ?_
  refine zj_aload_n zd_City_passDay_49 rfl ?_
  refine zj_getR (zk_C0 h_o) (by decide) rfl zu_City (k := 11) (by decide) rfl zl_City_40 zd_City_passDay_50 (o' := o + 9) rfl ?_
  refine zj_iload_n zd_City_passDay_53 rfl ?_
  refine zj_dup2 zd_City_passDay_54 ?_
  refine zj_iaload (zk_C9 h_o) (by decide) b2 zd_City_passDay_55 ?_
  refine zj_aload_n zd_City_passDay_56 rfl ?_
  refine zj_getR (zk_C0 h_o) (by decide) rfl zu_City (k := 10) (by decide) rfl zl_City_37 zd_City_passDay_57 (o' := o + 8) rfl ?_
  refine zj_iload_n zd_City_passDay_60 rfl ?_
  refine zj_iaload (zk_C8 h_o) (by decide) b3 zd_City_passDay_61 ?_
  refine zj_iadd zd_City_passDay_62 ?_
  refine zj_iastore (zk_C9 h_o) (by decide) b4 zd_City_passDay_63 ?_
  refine zj_aload_n zd_City_passDay_64 rfl ?_
  refine zj_dup zd_City_passDay_65 ?_
  refine zj_getI (zk_C0 h_o) (by decide) rfl zu_City (k := 15) (by decide) rfl zl_City_126 zd_City_passDay_66 ?_
  refine zj_aload_n zd_City_passDay_69 rfl ?_
  refine zj_getR (zk_C0 h_o) (by decide) rfl zu_City (k := 10) (by decide) rfl zl_City_37 zd_City_passDay_70 (o' := o + 8) rfl ?_
  refine zj_iload_n zd_City_passDay_73 rfl ?_
  refine zj_iaload (zk_C8 h_o) (by decide) b5 zd_City_passDay_74 ?_
  refine zj_iadd zd_City_passDay_75 ?_
  refine zj_putI (zk_C0 h_o) (by decide) rfl zu_City zy_City_ok zn_City (k := 15) (by decide) rfl rfl zl_City_126 rfl rfl zd_City_passDay_76 ?_
  refine zj_aload_n zd_City_passDay_79 rfl ?_
  refine zj_dup zd_City_passDay_80 ?_
  refine zj_getI (zk_C0 h_o) (by decide) rfl zu_City (k := 14) (by decide) rfl zl_City_123 zd_City_passDay_81 ?_
  refine zj_iconst (v := nI 1) zd_City_passDay_84 (by decide) ?_
  refine zj_iload_n zd_City_passDay_85 rfl ?_
  refine zj_ishl zd_City_passDay_86 ?_
  refine zj_ior zd_City_passDay_87 ?_
  refine zj_putI (zk_C0 h_o) (by decide) rfl zu_City zy_City_ok zn_City (k := 14) (by decide) rfl rfl zl_City_123 rfl rfl zd_City_passDay_88 ?_
  refine zj_aload_n zd_City_passDay_91 rfl ?_
  refine zj_iload_n zd_City_passDay_92 rfl ?_
  refine zj_iconst (v := nI 0) zd_City_passDay_93 (by decide) ?_
  exact zj_callVv (As := [.inl (x1), .inl (nI 0)]) hm hdp (zk_C0 h_o) (by decide) rfl zl_City_49 zq_City_lift zd_City_passDay_94 rfl (Nat.le_of_ble_eq_true rfl) (fun σ1 h => (zj_weak (L' := [some (.inr (o)), some (.inl (x1)), none]) ⟨rfl, ⟨rfl, trivial⟩⟩ (k σ1 h)))
theorem zb_City_passDay_97 {Γ : zG} {σ : zS} {o : Nat} {x1 : Int32} (h_o : z_oC o) (k : z_J Γ zm_City_passDay 12 [some (.inr (o)), some (.inl (x1 + nI 1)), none] [] σ) : z_J Γ zm_City_passDay 97 [some (.inr (o)), some (.inl (x1)), none] [] σ := by
  refine zj_iinc (v := nI 1) (L' := [some (.inr (o)), some (.inl (x1 + nI 1)), none]) zd_City_passDay_97 rfl (by decide) (by decide) rfl ?_
  exact zj_goto zd_City_passDay_100 (by decide) k
theorem zb_City_passDay_103 {Γ : zG} {σ : zS}  (e : z_end Γ none σ) : z_J Γ zm_City_passDay 103 [none, none, none] [] σ := by
  exact zj_return rfl zd_City_passDay_103 e
theorem zd_City_backOn_0 : decode zm_City_backOn.2.1 0 = .ok (.aload_n 0, 1) := by decide +kernel
theorem zd_City_backOn_1 : decode zm_City_backOn.2.1 1 = .ok (.getfield 24, 3) := by decide +kernel
theorem zd_City_backOn_4 : decode zm_City_backOn.2.1 4 = .ok (.iload_n 1, 1) := by decide +kernel
theorem zd_City_backOn_5 : decode zm_City_backOn.2.1 5 = .ok (.iaload, 1) := by decide +kernel
theorem zd_City_backOn_6 : decode zm_City_backOn.2.1 6 = .ok (.aload_n 0, 1) := by decide +kernel
theorem zd_City_backOn_7 : decode zm_City_backOn.2.1 7 = .ok (.getfield 37, 3) := by decide +kernel
theorem zd_City_backOn_10 : decode zm_City_backOn.2.1 10 = .ok (.aload_n 0, 1) := by decide +kernel
theorem zd_City_backOn_11 : decode zm_City_backOn.2.1 11 = .ok (.getfield 21, 3) := by decide +kernel
theorem zd_City_backOn_14 : decode zm_City_backOn.2.1 14 = .ok (.iload_n 1, 1) := by decide +kernel
theorem zd_City_backOn_15 : decode zm_City_backOn.2.1 15 = .ok (.iaload, 1) := by decide +kernel
theorem zd_City_backOn_16 : decode zm_City_backOn.2.1 16 = .ok (.iaload, 1) := by decide +kernel
theorem zd_City_backOn_17 : decode zm_City_backOn.2.1 17 = .ok (.iadd, 1) := by decide +kernel
theorem zd_City_backOn_18 : decode zm_City_backOn.2.1 18 = .ok (.ireturn, 1) := by decide +kernel
theorem zb_City_backOn_0 {Γ : zG} {σ : zS} {o : Nat} {x1 : Int32} {k1 k2 k3 : Nat} (h_o : z_oC o) (b1 : z_ix x1 12 k1) (b2 : z_ix x1 12 k2) (b3 : z_ix (σ.1 (o + 4) k2) 4 k3) (e : z_end Γ (some ((σ.1 (o + 5) k1) + (σ.1 (o + 8) k3))) σ) : z_J Γ zm_City_backOn 0 [some (.inr (o)), some (.inl (x1))] [] σ := by
  refine zj_aload_n zd_City_backOn_0 rfl ?_
  refine zj_getR (zk_C0 h_o) (by decide) rfl zu_City (k := 5) (by decide) rfl zl_City_24 zd_City_backOn_1 (o' := o + 5) rfl ?_
  refine zj_iload_n zd_City_backOn_4 rfl ?_
  refine zj_iaload (zk_C5 h_o) (by decide) b1 zd_City_backOn_5 ?_
  refine zj_aload_n zd_City_backOn_6 rfl ?_
  refine zj_getR (zk_C0 h_o) (by decide) rfl zu_City (k := 10) (by decide) rfl zl_City_37 zd_City_backOn_7 (o' := o + 8) rfl ?_
  refine zj_aload_n zd_City_backOn_10 rfl ?_
  refine zj_getR (zk_C0 h_o) (by decide) rfl zu_City (k := 4) (by decide) rfl zl_City_21 zd_City_backOn_11 (o' := o + 4) rfl ?_
  refine zj_iload_n zd_City_backOn_14 rfl ?_
  refine zj_iaload (zk_C4 h_o) (by decide) b2 zd_City_backOn_15 ?_
  refine zj_iaload (zk_C8 h_o) (by decide) b3 zd_City_backOn_16 ?_
  refine zj_iadd zd_City_backOn_17 ?_
  exact zj_ireturn rfl zd_City_backOn_18 e
theorem zd_City_bitsWhere_0 : decode zm_City_bitsWhere.2.1 0 = .ok (.iconst 0, 1) := by decide +kernel
theorem zd_City_bitsWhere_1 : decode zm_City_bitsWhere.2.1 1 = .ok (.istore_n 2, 1) := by decide +kernel
theorem zd_City_bitsWhere_2 : decode zm_City_bitsWhere.2.1 2 = .ok (.iconst 0, 1) := by decide +kernel
theorem zd_City_bitsWhere_3 : decode zm_City_bitsWhere.2.1 3 = .ok (.istore_n 3, 1) := by decide +kernel
theorem zd_City_bitsWhere_4 : decode zm_City_bitsWhere.2.1 4 = .ok (.iload_n 3, 1) := by decide +kernel
theorem zd_City_bitsWhere_5 : decode zm_City_bitsWhere.2.1 5 = .ok (.aload_n 0, 1) := by decide +kernel
theorem zd_City_bitsWhere_6 : decode zm_City_bitsWhere.2.1 6 = .ok (.getfield 43, 3) := by decide +kernel
theorem zd_City_bitsWhere_9 : decode zm_City_bitsWhere.2.1 9 = .ok (.if_icmp .ge 25, 3) := by decide +kernel
theorem zd_City_bitsWhere_12 : decode zm_City_bitsWhere.2.1 12 = .ok (.aload_n 0, 1) := by decide +kernel
theorem zd_City_bitsWhere_13 : decode zm_City_bitsWhere.2.1 13 = .ok (.getfield 18, 3) := by decide +kernel
theorem zd_City_bitsWhere_16 : decode zm_City_bitsWhere.2.1 16 = .ok (.iload_n 3, 1) := by decide +kernel
theorem zd_City_bitsWhere_17 : decode zm_City_bitsWhere.2.1 17 = .ok (.iaload, 1) := by decide +kernel
theorem zd_City_bitsWhere_18 : decode zm_City_bitsWhere.2.1 18 = .ok (.iload_n 1, 1) := by decide +kernel
theorem zd_City_bitsWhere_19 : decode zm_City_bitsWhere.2.1 19 = .ok (.if_icmp .ne 9, 3) := by decide +kernel
theorem zd_City_bitsWhere_22 : decode zm_City_bitsWhere.2.1 22 = .ok (.iload_n 2, 1) := by decide +kernel
theorem zd_City_bitsWhere_23 : decode zm_City_bitsWhere.2.1 23 = .ok (.iconst 1, 1) := by decide +kernel
theorem zd_City_bitsWhere_24 : decode zm_City_bitsWhere.2.1 24 = .ok (.iload_n 3, 1) := by decide +kernel
theorem zd_City_bitsWhere_25 : decode zm_City_bitsWhere.2.1 25 = .ok (.ishl, 1) := by decide +kernel
theorem zd_City_bitsWhere_26 : decode zm_City_bitsWhere.2.1 26 = .ok (.ior, 1) := by decide +kernel
theorem zd_City_bitsWhere_27 : decode zm_City_bitsWhere.2.1 27 = .ok (.istore_n 2, 1) := by decide +kernel
theorem zd_City_bitsWhere_28 : decode zm_City_bitsWhere.2.1 28 = .ok (.iinc 3 1, 3) := by decide +kernel
theorem zd_City_bitsWhere_31 : decode zm_City_bitsWhere.2.1 31 = .ok (.goto (-27), 3) := by decide +kernel
theorem zd_City_bitsWhere_34 : decode zm_City_bitsWhere.2.1 34 = .ok (.iload_n 2, 1) := by decide +kernel
theorem zd_City_bitsWhere_35 : decode zm_City_bitsWhere.2.1 35 = .ok (.ireturn, 1) := by decide +kernel
theorem zb_City_bitsWhere_0 {Γ : zG} {σ : zS} {o : Nat} {x1 : Int32} (h_o : z_oC o) (k : z_J Γ zm_City_bitsWhere 4 [some (.inr (o)), some (.inl (x1)), some (.inl (nI 0)), some (.inl (nI 0))] [] σ) : z_J Γ zm_City_bitsWhere 0 [some (.inr (o)), some (.inl (x1)), none, none] [] σ := by
  refine zj_iconst (v := nI 0) zd_City_bitsWhere_0 (by decide) ?_
  refine zj_istore_n (L' := [some (.inr (o)), some (.inl (x1)), some (.inl (nI 0)), none]) zd_City_bitsWhere_1 (by decide) rfl ?_
  refine zj_iconst (v := nI 0) zd_City_bitsWhere_2 (by decide) ?_
  refine zj_istore_n (L' := [some (.inr (o)), some (.inl (x1)), some (.inl (nI 0)), some (.inl (nI 0))]) zd_City_bitsWhere_3 (by decide) rfl ?_
  exact k
theorem zb_City_bitsWhere_4 {Γ : zG} {σ : zS} {o : Nat} {x1 x2 x3 : Int32} (h_o : z_oC o) (kt : (σ.1 o 0) ≤ x3 → z_J Γ zm_City_bitsWhere 34 [none, none, some (.inl (x2)), none] [] σ) (kf : ¬ (σ.1 o 0) ≤ x3 → z_J Γ zm_City_bitsWhere 12 [some (.inr (o)), some (.inl (x1)), some (.inl (x2)), some (.inl (x3))] [] σ) : z_J Γ zm_City_bitsWhere 4 [some (.inr (o)), some (.inl (x1)), some (.inl (x2)), some (.inl (x3))] [] σ := by
  refine zj_iload_n zd_City_bitsWhere_4 rfl ?_
  refine zj_aload_n zd_City_bitsWhere_5 rfl ?_
  refine zj_getI (zk_C0 h_o) (by decide) rfl zu_City (k := 0) (by decide) rfl zl_City_43 zd_City_bitsWhere_6 ?_
  exact zj_icmp_ge zd_City_bitsWhere_9 (by decide) (fun h => (zj_weak (L' := [none, none, some (.inl (x2)), none]) ⟨rfl, trivial⟩ (kt h))) (fun h => (kf h))
theorem zb_City_bitsWhere_12 {Γ : zG} {σ : zS} {o : Nat} {x1 x2 x3 : Int32} {k1 : Nat} (h_o : z_oC o) (b1 : z_ix x3 12 k1) (kt : ¬ (σ.1 (o + 3) k1) = x1 → z_J Γ zm_City_bitsWhere 28 [some (.inr (o)), some (.inl (x1)), some (.inl (x2)), some (.inl (x3))] [] σ) (kf : (σ.1 (o + 3) k1) = x1 → z_J Γ zm_City_bitsWhere 22 [some (.inr (o)), some (.inl (x1)), some (.inl (x2)), some (.inl (x3))] [] σ) : z_J Γ zm_City_bitsWhere 12 [some (.inr (o)), some (.inl (x1)), some (.inl (x2)), some (.inl (x3))] [] σ := by
  refine zj_aload_n zd_City_bitsWhere_12 rfl ?_
  refine zj_getR (zk_C0 h_o) (by decide) rfl zu_City (k := 3) (by decide) rfl zl_City_18 zd_City_bitsWhere_13 (o' := o + 3) rfl ?_
  refine zj_iload_n zd_City_bitsWhere_16 rfl ?_
  refine zj_iaload (zk_C3 h_o) (by decide) b1 zd_City_bitsWhere_17 ?_
  refine zj_iload_n zd_City_bitsWhere_18 rfl ?_
  exact zj_icmp_ne zd_City_bitsWhere_19 (by decide) (fun h => (kt h)) (fun h => (kf h))
theorem zb_City_bitsWhere_22 {Γ : zG} {σ : zS} {o : Nat} {x1 x2 x3 : Int32} (h_o : z_oC o) (k : z_J Γ zm_City_bitsWhere 28 [some (.inr (o)), some (.inl (x1)), some (.inl (x2 ||| ((nI 1) <<< (x3 &&& 31)))), some (.inl (x3))] [] σ) : z_J Γ zm_City_bitsWhere 22 [some (.inr (o)), some (.inl (x1)), some (.inl (x2)), some (.inl (x3))] [] σ := by
  refine zj_iload_n zd_City_bitsWhere_22 rfl ?_
  refine zj_iconst (v := nI 1) zd_City_bitsWhere_23 (by decide) ?_
  refine zj_iload_n zd_City_bitsWhere_24 rfl ?_
  refine zj_ishl zd_City_bitsWhere_25 ?_
  refine zj_ior zd_City_bitsWhere_26 ?_
  refine zj_istore_n (L' := [some (.inr (o)), some (.inl (x1)), some (.inl (x2 ||| ((nI 1) <<< (x3 &&& 31)))), some (.inl (x3))]) zd_City_bitsWhere_27 (by decide) rfl ?_
  exact k
theorem zb_City_bitsWhere_28 {Γ : zG} {σ : zS} {o : Nat} {x1 x2 x3 : Int32} (h_o : z_oC o) (k : z_J Γ zm_City_bitsWhere 4 [some (.inr (o)), some (.inl (x1)), some (.inl (x2)), some (.inl (x3 + nI 1))] [] σ) : z_J Γ zm_City_bitsWhere 28 [some (.inr (o)), some (.inl (x1)), some (.inl (x2)), some (.inl (x3))] [] σ := by
  refine zj_iinc (v := nI 1) (L' := [some (.inr (o)), some (.inl (x1)), some (.inl (x2)), some (.inl (x3 + nI 1))]) zd_City_bitsWhere_28 rfl (by decide) (by decide) rfl ?_
  exact zj_goto zd_City_bitsWhere_31 (by decide) k
theorem zb_City_bitsWhere_34 {Γ : zG} {σ : zS} {x2 : Int32}  (e : z_end Γ (some (x2)) σ) : z_J Γ zm_City_bitsWhere 34 [none, none, some (.inl (x2)), none] [] σ := by
  refine zj_iload_n zd_City_bitsWhere_34 rfl ?_
  exact zj_ireturn rfl zd_City_bitsWhere_35 e
theorem zd_City_readPage_0 : decode zm_City_readPage.2.1 0 = .ok (.aload_n 0, 1) := by decide +kernel
theorem zd_City_readPage_1 : decode zm_City_readPage.2.1 1 = .ok (.aload_n 1, 1) := by decide +kernel
theorem zd_City_readPage_2 : decode zm_City_readPage.2.1 2 = .ok (.iconst 0, 1) := by decide +kernel
theorem zd_City_readPage_3 : decode zm_City_readPage.2.1 3 = .ok (.iaload, 1) := by decide +kernel
theorem zd_City_readPage_4 : decode zm_City_readPage.2.1 4 = .ok (.putfield 72, 3) := by decide +kernel
theorem zd_City_readPage_7 : decode zm_City_readPage.2.1 7 = .ok (.iconst 1, 1) := by decide +kernel
theorem zd_City_readPage_8 : decode zm_City_readPage.2.1 8 = .ok (.istore_n 2, 1) := by decide +kernel
theorem zd_City_readPage_9 : decode zm_City_readPage.2.1 9 = .ok (.aload_n 1, 1) := by decide +kernel
theorem zd_City_readPage_10 : decode zm_City_readPage.2.1 10 = .ok (.iload_n 2, 1) := by decide +kernel
theorem zd_City_readPage_11 : decode zm_City_readPage.2.1 11 = .ok (.aload_n 0, 1) := by decide +kernel
theorem zd_City_readPage_12 : decode zm_City_readPage.2.1 12 = .ok (.getfield 40, 3) := by decide +kernel
theorem zd_City_readPage_15 : decode zm_City_readPage.2.1 15 = .ok (.iconst 0, 1) := by decide +kernel
theorem zd_City_readPage_16 : decode zm_City_readPage.2.1 16 = .ok (.iconst 4, 1) := by decide +kernel
theorem zd_City_readPage_17 : decode zm_City_readPage.2.1 17 = .ok (.invokestatic 135, 3) := by decide +kernel
theorem zd_City_readPage_20 : decode zm_City_readPage.2.1 20 = .ok (.iinc 2 4, 3) := by decide +kernel
theorem zd_City_readPage_23 : decode zm_City_readPage.2.1 23 = .ok (.aload_n 1, 1) := by decide +kernel
theorem zd_City_readPage_24 : decode zm_City_readPage.2.1 24 = .ok (.iload_n 2, 1) := by decide +kernel
theorem zd_City_readPage_25 : decode zm_City_readPage.2.1 25 = .ok (.aload_n 0, 1) := by decide +kernel
theorem zd_City_readPage_26 : decode zm_City_readPage.2.1 26 = .ok (.getfield 18, 3) := by decide +kernel
theorem zd_City_readPage_29 : decode zm_City_readPage.2.1 29 = .ok (.iconst 0, 1) := by decide +kernel
theorem zd_City_readPage_30 : decode zm_City_readPage.2.1 30 = .ok (.bipush 12, 2) := by decide +kernel
theorem zd_City_readPage_32 : decode zm_City_readPage.2.1 32 = .ok (.invokestatic 135, 3) := by decide +kernel
theorem zd_City_readPage_35 : decode zm_City_readPage.2.1 35 = .ok (.iinc 2 12, 3) := by decide +kernel
theorem zd_City_readPage_38 : decode zm_City_readPage.2.1 38 = .ok (.aload_n 1, 1) := by decide +kernel
theorem zd_City_readPage_39 : decode zm_City_readPage.2.1 39 = .ok (.iload_n 2, 1) := by decide +kernel
theorem zd_City_readPage_40 : decode zm_City_readPage.2.1 40 = .ok (.aload_n 0, 1) := by decide +kernel
theorem zd_City_readPage_41 : decode zm_City_readPage.2.1 41 = .ok (.getfield 21, 3) := by decide +kernel
theorem zd_City_readPage_44 : decode zm_City_readPage.2.1 44 = .ok (.iconst 0, 1) := by decide +kernel
theorem zd_City_readPage_45 : decode zm_City_readPage.2.1 45 = .ok (.bipush 12, 2) := by decide +kernel
theorem zd_City_readPage_47 : decode zm_City_readPage.2.1 47 = .ok (.invokestatic 135, 3) := by decide +kernel
theorem zd_City_readPage_50 : decode zm_City_readPage.2.1 50 = .ok (.iinc 2 12, 3) := by decide +kernel
theorem zd_City_readPage_53 : decode zm_City_readPage.2.1 53 = .ok (.aload_n 1, 1) := by decide +kernel
theorem zd_City_readPage_54 : decode zm_City_readPage.2.1 54 = .ok (.iload_n 2, 1) := by decide +kernel
theorem zd_City_readPage_55 : decode zm_City_readPage.2.1 55 = .ok (.aload_n 0, 1) := by decide +kernel
theorem zd_City_readPage_56 : decode zm_City_readPage.2.1 56 = .ok (.getfield 24, 3) := by decide +kernel
theorem zd_City_readPage_59 : decode zm_City_readPage.2.1 59 = .ok (.iconst 0, 1) := by decide +kernel
theorem zd_City_readPage_60 : decode zm_City_readPage.2.1 60 = .ok (.bipush 12, 2) := by decide +kernel
theorem zd_City_readPage_62 : decode zm_City_readPage.2.1 62 = .ok (.invokestatic 135, 3) := by decide +kernel
theorem zd_City_readPage_65 : decode zm_City_readPage.2.1 65 = .ok (.iinc 2 12, 3) := by decide +kernel
theorem zd_City_readPage_68 : decode zm_City_readPage.2.1 68 = .ok (.aload_n 1, 1) := by decide +kernel
theorem zd_City_readPage_69 : decode zm_City_readPage.2.1 69 = .ok (.iload_n 2, 1) := by decide +kernel
theorem zd_City_readPage_70 : decode zm_City_readPage.2.1 70 = .ok (.aload_n 0, 1) := by decide +kernel
theorem zd_City_readPage_71 : decode zm_City_readPage.2.1 71 = .ok (.getfield 31, 3) := by decide +kernel
theorem zd_City_readPage_74 : decode zm_City_readPage.2.1 74 = .ok (.iconst 0, 1) := by decide +kernel
theorem zd_City_readPage_75 : decode zm_City_readPage.2.1 75 = .ok (.bipush 6, 2) := by decide +kernel
theorem zd_City_readPage_77 : decode zm_City_readPage.2.1 77 = .ok (.invokestatic 135, 3) := by decide +kernel
theorem zd_City_readPage_80 : decode zm_City_readPage.2.1 80 = .ok (.iinc 2 6, 3) := by decide +kernel
theorem zd_City_readPage_83 : decode zm_City_readPage.2.1 83 = .ok (.aload_n 1, 1) := by decide +kernel
theorem zd_City_readPage_84 : decode zm_City_readPage.2.1 84 = .ok (.iload_n 2, 1) := by decide +kernel
theorem zd_City_readPage_85 : decode zm_City_readPage.2.1 85 = .ok (.aload_n 0, 1) := by decide +kernel
theorem zd_City_readPage_86 : decode zm_City_readPage.2.1 86 = .ok (.getfield 34, 3) := by decide +kernel
theorem zd_City_readPage_89 : decode zm_City_readPage.2.1 89 = .ok (.iconst 0, 1) := by decide +kernel
theorem zd_City_readPage_90 : decode zm_City_readPage.2.1 90 = .ok (.bipush 24, 2) := by decide +kernel
theorem zd_City_readPage_92 : decode zm_City_readPage.2.1 92 = .ok (.invokestatic 135, 3) := by decide +kernel
theorem zd_City_readPage_95 : decode zm_City_readPage.2.1 95 = .ok (.return_, 1) := by decide +kernel
theorem zb_City_readPage_0 {Γ : zG} {σ : zS} {o : Nat} {a1 : Nat} {k1 i1 j1 l1 : Nat} (h_o : z_oC o) (h_a1 : z_kd a1 = (11, 71)) (hdp : 0 < z_dep Γ) (b1 : z_ix (nI 0) 71 k1) (p1 : nI 1 = nI i1) (q1 : nI 0 = nI j1) (r1 : nI 4 = nI l1) (s1 : i1 + l1 ≤ 71) (t1 : j1 + l1 ≤ 4) (k : z_J Γ zm_City_readPage 20 [some (.inr (o)), some (.inr (a1)), some (.inl (nI 1))] [] (z_pA (z_pI σ o 12 (σ.1 a1 k1)) (o + 9) (va_cpy ((z_pI σ o 12 (σ.1 a1 k1)).1 a1) ((z_pI σ o 12 (σ.1 a1 k1)).1 (o + 9)) i1 j1 l1))) : z_J Γ zm_City_readPage 0 [some (.inr (o)), some (.inr (a1)), none] [] σ := by
  refine zj_aload_n zd_City_readPage_0 rfl ?_
  refine zj_aload_n zd_City_readPage_1 rfl ?_
  refine zj_iconst (v := nI 0) zd_City_readPage_2 (by decide) ?_
  refine zj_iaload h_a1 (by decide) b1 zd_City_readPage_3 ?_
  refine zj_putI (zk_C0 h_o) (by decide) rfl zu_City zy_City_ok zn_City (k := 12) (by decide) rfl rfl zl_City_72 rfl rfl zd_City_readPage_4 ?_
  refine zj_iconst (v := nI 1) zd_City_readPage_7 (by decide) ?_
  refine zj_istore_n (L' := [some (.inr (o)), some (.inr (a1)), some (.inl (nI 1))]) zd_City_readPage_8 (by decide) rfl ?_
  refine zj_aload_n zd_City_readPage_9 rfl ?_
  refine zj_iload_n zd_City_readPage_10 rfl ?_
  refine zj_aload_n zd_City_readPage_11 rfl ?_
  refine zj_getR (zk_C0 h_o) (by decide) rfl zu_City (k := 11) (by decide) rfl zl_City_40 zd_City_readPage_12 (o' := o + 9) rfl ?_
  refine zj_iconst (v := nI 0) zd_City_readPage_15 (by decide) ?_
  refine zj_iconst (v := nI 4) zd_City_readPage_16 (by decide) ?_
  refine zj_acopy zl_City_135 zx_acopy_n zx_acopy_s zx_System h_a1 (zk_C9 h_o) (by decide) (by decide) p1 q1 r1 s1 t1 hdp (Nat.le_of_ble_eq_true rfl) zd_City_readPage_17 ?_
  exact k
theorem zb_City_readPage_20 {Γ : zG} {σ : zS} {o : Nat} {a1 : Nat} {x2 : Int32} {i1 j1 l1 : Nat} (h_o : z_oC o) (h_a1 : z_kd a1 = (11, 71)) (hdp : 0 < z_dep Γ) (p1 : x2 + nI 4 = nI i1) (q1 : nI 0 = nI j1) (r1 : nI 12 = nI l1) (s1 : i1 + l1 ≤ 71) (t1 : j1 + l1 ≤ 12) (k : z_J Γ zm_City_readPage 35 [some (.inr (o)), some (.inr (a1)), some (.inl (x2 + nI 4))] [] (z_pA σ (o + 3) (va_cpy (σ.1 a1) (σ.1 (o + 3)) i1 j1 l1))) : z_J Γ zm_City_readPage 20 [some (.inr (o)), some (.inr (a1)), some (.inl (x2))] [] σ := by
  refine zj_iinc (v := nI 4) (L' := [some (.inr (o)), some (.inr (a1)), some (.inl (x2 + nI 4))]) zd_City_readPage_20 rfl (by decide) (by decide) rfl ?_
  refine zj_aload_n zd_City_readPage_23 rfl ?_
  refine zj_iload_n zd_City_readPage_24 rfl ?_
  refine zj_aload_n zd_City_readPage_25 rfl ?_
  refine zj_getR (zk_C0 h_o) (by decide) rfl zu_City (k := 3) (by decide) rfl zl_City_18 zd_City_readPage_26 (o' := o + 3) rfl ?_
  refine zj_iconst (v := nI 0) zd_City_readPage_29 (by decide) ?_
  refine zj_bipush (v := nI 12) zd_City_readPage_30 (by decide) ?_
  refine zj_acopy zl_City_135 zx_acopy_n zx_acopy_s zx_System h_a1 (zk_C3 h_o) (by decide) (by decide) p1 q1 r1 s1 t1 hdp (Nat.le_of_ble_eq_true rfl) zd_City_readPage_32 ?_
  exact k
theorem zb_City_readPage_35 {Γ : zG} {σ : zS} {o : Nat} {a1 : Nat} {x2 : Int32} {i1 j1 l1 : Nat} (h_o : z_oC o) (h_a1 : z_kd a1 = (11, 71)) (hdp : 0 < z_dep Γ) (p1 : x2 + nI 12 = nI i1) (q1 : nI 0 = nI j1) (r1 : nI 12 = nI l1) (s1 : i1 + l1 ≤ 71) (t1 : j1 + l1 ≤ 12) (k : z_J Γ zm_City_readPage 50 [some (.inr (o)), some (.inr (a1)), some (.inl (x2 + nI 12))] [] (z_pA σ (o + 4) (va_cpy (σ.1 a1) (σ.1 (o + 4)) i1 j1 l1))) : z_J Γ zm_City_readPage 35 [some (.inr (o)), some (.inr (a1)), some (.inl (x2))] [] σ := by
  refine zj_iinc (v := nI 12) (L' := [some (.inr (o)), some (.inr (a1)), some (.inl (x2 + nI 12))]) zd_City_readPage_35 rfl (by decide) (by decide) rfl ?_
  refine zj_aload_n zd_City_readPage_38 rfl ?_
  refine zj_iload_n zd_City_readPage_39 rfl ?_
  refine zj_aload_n zd_City_readPage_40 rfl ?_
  refine zj_getR (zk_C0 h_o) (by decide) rfl zu_City (k := 4) (by decide) rfl zl_City_21 zd_City_readPage_41 (o' := o + 4) rfl ?_
  refine zj_iconst (v := nI 0) zd_City_readPage_44 (by decide) ?_
  refine zj_bipush (v := nI 12) zd_City_readPage_45 (by decide) ?_
  refine zj_acopy zl_City_135 zx_acopy_n zx_acopy_s zx_System h_a1 (zk_C4 h_o) (by decide) (by decide) p1 q1 r1 s1 t1 hdp (Nat.le_of_ble_eq_true rfl) zd_City_readPage_47 ?_
  exact k
theorem zb_City_readPage_50 {Γ : zG} {σ : zS} {o : Nat} {a1 : Nat} {x2 : Int32} {i1 j1 l1 : Nat} (h_o : z_oC o) (h_a1 : z_kd a1 = (11, 71)) (hdp : 0 < z_dep Γ) (p1 : x2 + nI 12 = nI i1) (q1 : nI 0 = nI j1) (r1 : nI 12 = nI l1) (s1 : i1 + l1 ≤ 71) (t1 : j1 + l1 ≤ 12) (k : z_J Γ zm_City_readPage 65 [some (.inr (o)), some (.inr (a1)), some (.inl (x2 + nI 12))] [] (z_pA σ (o + 5) (va_cpy (σ.1 a1) (σ.1 (o + 5)) i1 j1 l1))) : z_J Γ zm_City_readPage 50 [some (.inr (o)), some (.inr (a1)), some (.inl (x2))] [] σ := by
  refine zj_iinc (v := nI 12) (L' := [some (.inr (o)), some (.inr (a1)), some (.inl (x2 + nI 12))]) zd_City_readPage_50 rfl (by decide) (by decide) rfl ?_
  refine zj_aload_n zd_City_readPage_53 rfl ?_
  refine zj_iload_n zd_City_readPage_54 rfl ?_
  refine zj_aload_n zd_City_readPage_55 rfl ?_
  refine zj_getR (zk_C0 h_o) (by decide) rfl zu_City (k := 5) (by decide) rfl zl_City_24 zd_City_readPage_56 (o' := o + 5) rfl ?_
  refine zj_iconst (v := nI 0) zd_City_readPage_59 (by decide) ?_
  refine zj_bipush (v := nI 12) zd_City_readPage_60 (by decide) ?_
  refine zj_acopy zl_City_135 zx_acopy_n zx_acopy_s zx_System h_a1 (zk_C5 h_o) (by decide) (by decide) p1 q1 r1 s1 t1 hdp (Nat.le_of_ble_eq_true rfl) zd_City_readPage_62 ?_
  exact k
theorem zb_City_readPage_65 {Γ : zG} {σ : zS} {o : Nat} {a1 : Nat} {x2 : Int32} {i1 j1 l1 : Nat} (h_o : z_oC o) (h_a1 : z_kd a1 = (11, 71)) (hdp : 0 < z_dep Γ) (p1 : x2 + nI 12 = nI i1) (q1 : nI 0 = nI j1) (r1 : nI 6 = nI l1) (s1 : i1 + l1 ≤ 71) (t1 : j1 + l1 ≤ 6) (k : z_J Γ zm_City_readPage 80 [some (.inr (o)), some (.inr (a1)), some (.inl (x2 + nI 12))] [] (z_pA σ (o + 6) (va_cpy (σ.1 a1) (σ.1 (o + 6)) i1 j1 l1))) : z_J Γ zm_City_readPage 65 [some (.inr (o)), some (.inr (a1)), some (.inl (x2))] [] σ := by
  refine zj_iinc (v := nI 12) (L' := [some (.inr (o)), some (.inr (a1)), some (.inl (x2 + nI 12))]) zd_City_readPage_65 rfl (by decide) (by decide) rfl ?_
  refine zj_aload_n zd_City_readPage_68 rfl ?_
  refine zj_iload_n zd_City_readPage_69 rfl ?_
  refine zj_aload_n zd_City_readPage_70 rfl ?_
  refine zj_getR (zk_C0 h_o) (by decide) rfl zu_City (k := 7) (by decide) rfl zl_City_31 zd_City_readPage_71 (o' := o + 6) rfl ?_
  refine zj_iconst (v := nI 0) zd_City_readPage_74 (by decide) ?_
  refine zj_bipush (v := nI 6) zd_City_readPage_75 (by decide) ?_
  refine zj_acopy zl_City_135 zx_acopy_n zx_acopy_s zx_System h_a1 (zk_C6 h_o) (by decide) (by decide) p1 q1 r1 s1 t1 hdp (Nat.le_of_ble_eq_true rfl) zd_City_readPage_77 ?_
  exact k
theorem zb_City_readPage_80 {Γ : zG} {σ : zS} {o : Nat} {a1 : Nat} {x2 : Int32} {i1 j1 l1 : Nat} (h_o : z_oC o) (h_a1 : z_kd a1 = (11, 71)) (hdp : 0 < z_dep Γ) (p1 : x2 + nI 6 = nI i1) (q1 : nI 0 = nI j1) (r1 : nI 24 = nI l1) (s1 : i1 + l1 ≤ 71) (t1 : j1 + l1 ≤ 24) (k : z_J Γ zm_City_readPage 95 [none, none, none] [] (z_pA σ (o + 7) (va_cpy (σ.1 a1) (σ.1 (o + 7)) i1 j1 l1))) : z_J Γ zm_City_readPage 80 [some (.inr (o)), some (.inr (a1)), some (.inl (x2))] [] σ := by
  refine zj_iinc (v := nI 6) (L' := [some (.inr (o)), some (.inr (a1)), some (.inl (x2 + nI 6))]) zd_City_readPage_80 rfl (by decide) (by decide) rfl ?_
  refine zj_aload_n zd_City_readPage_83 rfl ?_
  refine zj_iload_n zd_City_readPage_84 rfl ?_
  refine zj_aload_n zd_City_readPage_85 rfl ?_
  refine zj_getR (zk_C0 h_o) (by decide) rfl zu_City (k := 8) (by decide) rfl zl_City_34 zd_City_readPage_86 (o' := o + 7) rfl ?_
  refine zj_iconst (v := nI 0) zd_City_readPage_89 (by decide) ?_
  refine zj_bipush (v := nI 24) zd_City_readPage_90 (by decide) ?_
  refine zj_acopy zl_City_135 zx_acopy_n zx_acopy_s zx_System h_a1 (zk_C7 h_o) (by decide) (by decide) p1 q1 r1 s1 t1 hdp (Nat.le_of_ble_eq_true rfl) zd_City_readPage_92 ?_
  exact (zj_weak (L' := [none, none, none]) trivial k)
theorem zb_City_readPage_95 {Γ : zG} {σ : zS}  (e : z_end Γ none σ) : z_J Γ zm_City_readPage 95 [none, none, none] [] σ := by
  exact zj_return rfl zd_City_readPage_95 e
theorem zd_City_leastHeight_0 : decode zm_City_leastHeight.2.1 0 = .ok (.aload_n 0, 1) := by decide +kernel
theorem zd_City_leastHeight_1 : decode zm_City_leastHeight.2.1 1 = .ok (.iconst (-1), 1) := by decide +kernel
theorem zd_City_leastHeight_2 : decode zm_City_leastHeight.2.1 2 = .ok (.invokevirtual 60, 3) := by decide +kernel
theorem zd_City_leastHeight_5 : decode zm_City_leastHeight.2.1 5 = .ok (.ireturn, 1) := by decide +kernel
theorem zb_City_leastHeight_0 {Γ : zG} {σ : zS} {o : Nat} {dc : Nat} {P : Int32 → zS → Prop} (h_o : z_oC o) (hm : z_Ci dc zm_City_leastHeightWithout [.inr (o), .inl ((-1))] σ P) (hdp : dc < z_dep Γ) (k : ∀ r σ1, P r σ1 → z_J Γ zm_City_leastHeight 5 [none] [.inl (r)] σ1) : z_J Γ zm_City_leastHeight 0 [some (.inr (o))] [] σ := by
  refine zj_aload_n zd_City_leastHeight_0 rfl ?_
  refine zj_iconst (v := (-1)) zd_City_leastHeight_1 (by decide) ?_
  exact zj_callVi (As := [.inl ((-1))]) hm hdp (zk_C0 h_o) (by decide) rfl zl_City_60 zq_City_leastHeightWithout zd_City_leastHeight_2 rfl (Nat.le_of_ble_eq_true rfl) (fun r σ1 h => (zj_weak (L' := [none]) trivial (k r σ1 h)))
theorem zb_City_leastHeight_5 {Γ : zG} {σ : zS} {y0 : Int32}  (e : z_end Γ (some (y0)) σ) : z_J Γ zm_City_leastHeight 5 [none] [.inl (y0)] σ := by
  exact zj_ireturn rfl zd_City_leastHeight_5 e
theorem zd_City_leastHeightWithout_0 : decode zm_City_leastHeightWithout.2.1 0 = .ok (.bipush 99, 2) := by decide +kernel
theorem zd_City_leastHeightWithout_2 : decode zm_City_leastHeightWithout.2.1 2 = .ok (.istore_n 2, 1) := by decide +kernel
theorem zd_City_leastHeightWithout_3 : decode zm_City_leastHeightWithout.2.1 3 = .ok (.iconst 0, 1) := by decide +kernel
theorem zd_City_leastHeightWithout_4 : decode zm_City_leastHeightWithout.2.1 4 = .ok (.istore_n 3, 1) := by decide +kernel
theorem zd_City_leastHeightWithout_5 : decode zm_City_leastHeightWithout.2.1 5 = .ok (.iload_n 3, 1) := by decide +kernel
theorem zd_City_leastHeightWithout_6 : decode zm_City_leastHeightWithout.2.1 6 = .ok (.aload_n 0, 1) := by decide +kernel
theorem zd_City_leastHeightWithout_7 : decode zm_City_leastHeightWithout.2.1 7 = .ok (.getfield 27, 3) := by decide +kernel
theorem zd_City_leastHeightWithout_10 : decode zm_City_leastHeightWithout.2.1 10 = .ok (.if_icmp .ge 49, 3) := by decide +kernel
theorem zd_City_leastHeightWithout_13 : decode zm_City_leastHeightWithout.2.1 13 = .ok (.aload_n 0, 1) := by decide +kernel
theorem zd_City_leastHeightWithout_14 : decode zm_City_leastHeightWithout.2.1 14 = .ok (.iload_n 3, 1) := by decide +kernel
theorem zd_City_leastHeightWithout_15 : decode zm_City_leastHeightWithout.2.1 15 = .ok (.invokevirtual 64, 3) := by decide +kernel
theorem zd_City_leastHeightWithout_18 : decode zm_City_leastHeightWithout.2.1 18 = .ok (.istore 4, 2) := by decide +kernel
theorem zd_City_leastHeightWithout_20 : decode zm_City_leastHeightWithout.2.1 20 = .ok (.iload_n 1, 1) := by decide +kernel
theorem zd_City_leastHeightWithout_21 : decode zm_City_leastHeightWithout.2.1 21 = .ok (.iconst (-1), 1) := by decide +kernel
theorem zd_City_leastHeightWithout_22 : decode zm_City_leastHeightWithout.2.1 22 = .ok (.if_icmp .eq 24, 3) := by decide +kernel
theorem zd_City_leastHeightWithout_25 : decode zm_City_leastHeightWithout.2.1 25 = .ok (.aload_n 0, 1) := by decide +kernel
theorem zd_City_leastHeightWithout_26 : decode zm_City_leastHeightWithout.2.1 26 = .ok (.getfield 21, 3) := by decide +kernel
theorem zd_City_leastHeightWithout_29 : decode zm_City_leastHeightWithout.2.1 29 = .ok (.iload_n 1, 1) := by decide +kernel
theorem zd_City_leastHeightWithout_30 : decode zm_City_leastHeightWithout.2.1 30 = .ok (.iaload, 1) := by decide +kernel
theorem zd_City_leastHeightWithout_31 : decode zm_City_leastHeightWithout.2.1 31 = .ok (.iload_n 3, 1) := by decide +kernel
theorem zd_City_leastHeightWithout_32 : decode zm_City_leastHeightWithout.2.1 32 = .ok (.if_icmp .ne 14, 3) := by decide +kernel
theorem zd_City_leastHeightWithout_35 : decode zm_City_leastHeightWithout.2.1 35 = .ok (.iload 4, 2) := by decide +kernel
theorem zd_City_leastHeightWithout_37 : decode zm_City_leastHeightWithout.2.1 37 = .ok (.aload_n 0, 1) := by decide +kernel
theorem zd_City_leastHeightWithout_38 : decode zm_City_leastHeightWithout.2.1 38 = .ok (.getfield 9, 3) := by decide +kernel
theorem zd_City_leastHeightWithout_41 : decode zm_City_leastHeightWithout.2.1 41 = .ok (.iload_n 1, 1) := by decide +kernel
theorem zd_City_leastHeightWithout_42 : decode zm_City_leastHeightWithout.2.1 42 = .ok (.iaload, 1) := by decide +kernel
theorem zd_City_leastHeightWithout_43 : decode zm_City_leastHeightWithout.2.1 43 = .ok (.isub, 1) := by decide +kernel
theorem zd_City_leastHeightWithout_44 : decode zm_City_leastHeightWithout.2.1 44 = .ok (.istore 4, 2) := by decide +kernel
theorem zd_City_leastHeightWithout_46 : decode zm_City_leastHeightWithout.2.1 46 = .ok (.iload_n 2, 1) := by decide +kernel
theorem zd_City_leastHeightWithout_47 : decode zm_City_leastHeightWithout.2.1 47 = .ok (.iload 4, 2) := by decide +kernel
theorem zd_City_leastHeightWithout_49 : decode zm_City_leastHeightWithout.2.1 49 = .ok (.invokestatic 67, 3) := by decide +kernel
theorem zd_City_leastHeightWithout_52 : decode zm_City_leastHeightWithout.2.1 52 = .ok (.istore_n 2, 1) := by decide +kernel
theorem zd_City_leastHeightWithout_53 : decode zm_City_leastHeightWithout.2.1 53 = .ok (.iinc 3 1, 3) := by decide +kernel
theorem zd_City_leastHeightWithout_56 : decode zm_City_leastHeightWithout.2.1 56 = .ok (.goto (-51), 3) := by decide +kernel
theorem zd_City_leastHeightWithout_59 : decode zm_City_leastHeightWithout.2.1 59 = .ok (.iload_n 2, 1) := by decide +kernel
theorem zd_City_leastHeightWithout_60 : decode zm_City_leastHeightWithout.2.1 60 = .ok (.ireturn, 1) := by decide +kernel
theorem zb_City_leastHeightWithout_0 {Γ : zG} {σ : zS} {o : Nat} {x1 : Int32} (h_o : z_oC o) (k : z_J Γ zm_City_leastHeightWithout 5 [some (.inr (o)), some (.inl (x1)), some (.inl (nI 99)), some (.inl (nI 0)), none] [] σ) : z_J Γ zm_City_leastHeightWithout 0 [some (.inr (o)), some (.inl (x1)), none, none, none] [] σ := by
  refine zj_bipush (v := nI 99) zd_City_leastHeightWithout_0 (by decide) ?_
  refine zj_istore_n (L' := [some (.inr (o)), some (.inl (x1)), some (.inl (nI 99)), none, none]) zd_City_leastHeightWithout_2 (by decide) rfl ?_
  refine zj_iconst (v := nI 0) zd_City_leastHeightWithout_3 (by decide) ?_
  refine zj_istore_n (L' := [some (.inr (o)), some (.inl (x1)), some (.inl (nI 99)), some (.inl (nI 0)), none]) zd_City_leastHeightWithout_4 (by decide) rfl ?_
  exact k
theorem zb_City_leastHeightWithout_5 {Γ : zG} {σ : zS} {o : Nat} {x1 x2 x3 : Int32} (h_o : z_oC o) (kt : (σ.1 o 6) ≤ x3 → z_J Γ zm_City_leastHeightWithout 59 [none, none, some (.inl (x2)), none, none] [] σ) (kf : ¬ (σ.1 o 6) ≤ x3 → z_J Γ zm_City_leastHeightWithout 13 [some (.inr (o)), some (.inl (x1)), some (.inl (x2)), some (.inl (x3)), none] [] σ) : z_J Γ zm_City_leastHeightWithout 5 [some (.inr (o)), some (.inl (x1)), some (.inl (x2)), some (.inl (x3)), none] [] σ := by
  refine zj_iload_n zd_City_leastHeightWithout_5 rfl ?_
  refine zj_aload_n zd_City_leastHeightWithout_6 rfl ?_
  refine zj_getI (zk_C0 h_o) (by decide) rfl zu_City (k := 6) (by decide) rfl zl_City_27 zd_City_leastHeightWithout_7 ?_
  exact zj_icmp_ge zd_City_leastHeightWithout_10 (by decide) (fun h => (zj_weak (L' := [none, none, some (.inl (x2)), none, none]) ⟨rfl, trivial⟩ (kt h))) (fun h => (kf h))
theorem zb_City_leastHeightWithout_13 {Γ : zG} {σ : zS} {o : Nat} {x1 x2 x3 : Int32} {dc : Nat} {P : Int32 → zS → Prop} (h_o : z_oC o) (hm : z_Ci dc zm_City_heightOf [.inr (o), .inl (x3)] σ P) (hdp : dc < z_dep Γ) (k : ∀ r σ1, P r σ1 → z_J Γ zm_City_leastHeightWithout 18 [some (.inr (o)), some (.inl (x1)), some (.inl (x2)), some (.inl (x3)), none] [.inl (r)] σ1) : z_J Γ zm_City_leastHeightWithout 13 [some (.inr (o)), some (.inl (x1)), some (.inl (x2)), some (.inl (x3)), none] [] σ := by
  refine zj_aload_n zd_City_leastHeightWithout_13 rfl ?_
  refine zj_iload_n zd_City_leastHeightWithout_14 rfl ?_
  exact zj_callVi (As := [.inl (x3)]) hm hdp (zk_C0 h_o) (by decide) rfl zl_City_64 zq_City_heightOf zd_City_leastHeightWithout_15 rfl (Nat.le_of_ble_eq_true rfl) (fun r σ1 h => (k r σ1 h))
theorem zb_City_leastHeightWithout_18 {Γ : zG} {σ : zS} {o : Nat} {x1 x2 x3 y0 : Int32} (h_o : z_oC o) (kt : x1 = (-1) → z_J Γ zm_City_leastHeightWithout 46 [some (.inr (o)), some (.inl (x1)), some (.inl (x2)), some (.inl (x3)), some (.inl (y0))] [] σ) (kf : ¬ x1 = (-1) → z_J Γ zm_City_leastHeightWithout 25 [some (.inr (o)), some (.inl (x1)), some (.inl (x2)), some (.inl (x3)), some (.inl (y0))] [] σ) : z_J Γ zm_City_leastHeightWithout 18 [some (.inr (o)), some (.inl (x1)), some (.inl (x2)), some (.inl (x3)), none] [.inl (y0)] σ := by
  refine zj_istore (L' := [some (.inr (o)), some (.inl (x1)), some (.inl (x2)), some (.inl (x3)), some (.inl (y0))]) zd_City_leastHeightWithout_18 (by decide) rfl ?_
  refine zj_iload_n zd_City_leastHeightWithout_20 rfl ?_
  refine zj_iconst (v := (-1)) zd_City_leastHeightWithout_21 (by decide) ?_
  exact zj_icmp_eq zd_City_leastHeightWithout_22 (by decide) (fun h => (kt h)) (fun h => (kf h))
theorem zb_City_leastHeightWithout_25 {Γ : zG} {σ : zS} {o : Nat} {x1 x2 x3 x4 : Int32} {k1 : Nat} (h_o : z_oC o) (b1 : z_ix x1 12 k1) (kt : ¬ (σ.1 (o + 4) k1) = x3 → z_J Γ zm_City_leastHeightWithout 46 [some (.inr (o)), some (.inl (x1)), some (.inl (x2)), some (.inl (x3)), some (.inl (x4))] [] σ) (kf : (σ.1 (o + 4) k1) = x3 → z_J Γ zm_City_leastHeightWithout 35 [some (.inr (o)), some (.inl (x1)), some (.inl (x2)), some (.inl (x3)), some (.inl (x4))] [] σ) : z_J Γ zm_City_leastHeightWithout 25 [some (.inr (o)), some (.inl (x1)), some (.inl (x2)), some (.inl (x3)), some (.inl (x4))] [] σ := by
  refine zj_aload_n zd_City_leastHeightWithout_25 rfl ?_
  refine zj_getR (zk_C0 h_o) (by decide) rfl zu_City (k := 4) (by decide) rfl zl_City_21 zd_City_leastHeightWithout_26 (o' := o + 4) rfl ?_
  refine zj_iload_n zd_City_leastHeightWithout_29 rfl ?_
  refine zj_iaload (zk_C4 h_o) (by decide) b1 zd_City_leastHeightWithout_30 ?_
  refine zj_iload_n zd_City_leastHeightWithout_31 rfl ?_
  exact zj_icmp_ne zd_City_leastHeightWithout_32 (by decide) (fun h => (kt h)) (fun h => (kf h))
theorem zb_City_leastHeightWithout_35 {Γ : zG} {σ : zS} {o : Nat} {x1 x2 x3 x4 : Int32} {k1 : Nat} (h_o : z_oC o) (b1 : z_ix x1 12 k1) (k : z_J Γ zm_City_leastHeightWithout 46 [some (.inr (o)), some (.inl (x1)), some (.inl (x2)), some (.inl (x3)), some (.inl (x4 - (σ.1 (o + 1) k1)))] [] σ) : z_J Γ zm_City_leastHeightWithout 35 [some (.inr (o)), some (.inl (x1)), some (.inl (x2)), some (.inl (x3)), some (.inl (x4))] [] σ := by
  refine zj_iload zd_City_leastHeightWithout_35 rfl ?_
  refine zj_aload_n zd_City_leastHeightWithout_37 rfl ?_
  refine zj_getR (zk_C0 h_o) (by decide) rfl zu_City (k := 1) (by decide) rfl zl_City_9 zd_City_leastHeightWithout_38 (o' := o + 1) rfl ?_
  refine zj_iload_n zd_City_leastHeightWithout_41 rfl ?_
  refine zj_iaload (zk_C1 h_o) (by decide) b1 zd_City_leastHeightWithout_42 ?_
  refine zj_isub zd_City_leastHeightWithout_43 ?_
  refine zj_istore (L' := [some (.inr (o)), some (.inl (x1)), some (.inl (x2)), some (.inl (x3)), some (.inl (x4 - (σ.1 (o + 1) k1)))]) zd_City_leastHeightWithout_44 (by decide) rfl ?_
  exact k
theorem zb_City_leastHeightWithout_46 {Γ : zG} {σ : zS} {o : Nat} {x1 x2 x3 x4 : Int32} (h_o : z_oC o) (hdp : 0 < z_dep Γ) (k : z_J Γ zm_City_leastHeightWithout 5 [some (.inr (o)), some (.inl (x1)), some (.inl (z_min x2 x4)), some (.inl (x3 + nI 1)), none] [] σ) : z_J Γ zm_City_leastHeightWithout 46 [some (.inr (o)), some (.inl (x1)), some (.inl (x2)), some (.inl (x3)), some (.inl (x4))] [] σ := by
  refine zj_iload_n zd_City_leastHeightWithout_46 rfl ?_
  refine zj_iload zd_City_leastHeightWithout_47 rfl ?_
  refine zj_mmin zl_City_67 zx_min_s zx_Math zx_min_c hdp (Nat.le_of_ble_eq_true rfl) zd_City_leastHeightWithout_49 ?_
  refine zj_istore_n (L' := [some (.inr (o)), some (.inl (x1)), some (.inl (z_min x2 x4)), some (.inl (x3)), some (.inl (x4))]) zd_City_leastHeightWithout_52 (by decide) rfl ?_
  refine zj_iinc (v := nI 1) (L' := [some (.inr (o)), some (.inl (x1)), some (.inl (z_min x2 x4)), some (.inl (x3 + nI 1)), some (.inl (x4))]) zd_City_leastHeightWithout_53 rfl (by decide) (by decide) rfl ?_
  exact zj_goto zd_City_leastHeightWithout_56 (by decide) (zj_weak (L' := [some (.inr (o)), some (.inl (x1)), some (.inl (z_min x2 x4)), some (.inl (x3 + nI 1)), none]) ⟨rfl, ⟨rfl, ⟨rfl, ⟨rfl, trivial⟩⟩⟩⟩ k)
theorem zb_City_leastHeightWithout_59 {Γ : zG} {σ : zS} {x2 : Int32}  (e : z_end Γ (some (x2)) σ) : z_J Γ zm_City_leastHeightWithout 59 [none, none, some (.inl (x2)), none, none] [] σ := by
  refine zj_iload_n zd_City_leastHeightWithout_59 rfl ?_
  exact zj_ireturn rfl zd_City_leastHeightWithout_60 e
theorem zd_City_bitsChosen_0 : decode zm_City_bitsChosen.2.1 0 = .ok (.iconst 0, 1) := by decide +kernel
theorem zd_City_bitsChosen_1 : decode zm_City_bitsChosen.2.1 1 = .ok (.istore_n 3, 1) := by decide +kernel
theorem zd_City_bitsChosen_2 : decode zm_City_bitsChosen.2.1 2 = .ok (.iconst 0, 1) := by decide +kernel
theorem zd_City_bitsChosen_3 : decode zm_City_bitsChosen.2.1 3 = .ok (.istore 4, 2) := by decide +kernel
theorem zd_City_bitsChosen_5 : decode zm_City_bitsChosen.2.1 5 = .ok (.iload 4, 2) := by decide +kernel
theorem zd_City_bitsChosen_7 : decode zm_City_bitsChosen.2.1 7 = .ok (.aload_n 0, 1) := by decide +kernel
theorem zd_City_bitsChosen_8 : decode zm_City_bitsChosen.2.1 8 = .ok (.getfield 31, 3) := by decide +kernel
theorem zd_City_bitsChosen_11 : decode zm_City_bitsChosen.2.1 11 = .ok (.iload_n 1, 1) := by decide +kernel
theorem zd_City_bitsChosen_12 : decode zm_City_bitsChosen.2.1 12 = .ok (.iaload, 1) := by decide +kernel
theorem zd_City_bitsChosen_13 : decode zm_City_bitsChosen.2.1 13 = .ok (.if_icmp .ge 31, 3) := by decide +kernel
theorem zd_City_bitsChosen_16 : decode zm_City_bitsChosen.2.1 16 = .ok (.iload_n 2, 1) := by decide +kernel
theorem zd_City_bitsChosen_17 : decode zm_City_bitsChosen.2.1 17 = .ok (.iload 4, 2) := by decide +kernel
theorem zd_City_bitsChosen_19 : decode zm_City_bitsChosen.2.1 19 = .ok (.ishr, 1) := by decide +kernel
theorem zd_City_bitsChosen_20 : decode zm_City_bitsChosen.2.1 20 = .ok (.iconst 1, 1) := by decide +kernel
theorem zd_City_bitsChosen_21 : decode zm_City_bitsChosen.2.1 21 = .ok (.iand, 1) := by decide +kernel
theorem zd_City_bitsChosen_22 : decode zm_City_bitsChosen.2.1 22 = .ok (.iconst 1, 1) := by decide +kernel
theorem zd_City_bitsChosen_23 : decode zm_City_bitsChosen.2.1 23 = .ok (.if_icmp .ne 15, 3) := by decide +kernel
theorem zd_City_bitsChosen_26 : decode zm_City_bitsChosen.2.1 26 = .ok (.iload_n 3, 1) := by decide +kernel
theorem zd_City_bitsChosen_27 : decode zm_City_bitsChosen.2.1 27 = .ok (.iconst 1, 1) := by decide +kernel
theorem zd_City_bitsChosen_28 : decode zm_City_bitsChosen.2.1 28 = .ok (.aload_n 0, 1) := by decide +kernel
theorem zd_City_bitsChosen_29 : decode zm_City_bitsChosen.2.1 29 = .ok (.iload_n 1, 1) := by decide +kernel
theorem zd_City_bitsChosen_30 : decode zm_City_bitsChosen.2.1 30 = .ok (.iload 4, 2) := by decide +kernel
theorem zd_City_bitsChosen_32 : decode zm_City_bitsChosen.2.1 32 = .ok (.invokevirtual 53, 3) := by decide +kernel
theorem zd_City_bitsChosen_35 : decode zm_City_bitsChosen.2.1 35 = .ok (.ishl, 1) := by decide +kernel
theorem zd_City_bitsChosen_36 : decode zm_City_bitsChosen.2.1 36 = .ok (.ior, 1) := by decide +kernel
theorem zd_City_bitsChosen_37 : decode zm_City_bitsChosen.2.1 37 = .ok (.istore_n 3, 1) := by decide +kernel
theorem zd_City_bitsChosen_38 : decode zm_City_bitsChosen.2.1 38 = .ok (.iinc 4 1, 3) := by decide +kernel
theorem zd_City_bitsChosen_41 : decode zm_City_bitsChosen.2.1 41 = .ok (.goto (-36), 3) := by decide +kernel
theorem zd_City_bitsChosen_44 : decode zm_City_bitsChosen.2.1 44 = .ok (.iload_n 3, 1) := by decide +kernel
theorem zd_City_bitsChosen_45 : decode zm_City_bitsChosen.2.1 45 = .ok (.ireturn, 1) := by decide +kernel
theorem zb_City_bitsChosen_0 {Γ : zG} {σ : zS} {o : Nat} {x1 x2 : Int32} (h_o : z_oC o) (k : z_J Γ zm_City_bitsChosen 5 [some (.inr (o)), some (.inl (x1)), some (.inl (x2)), some (.inl (nI 0)), some (.inl (nI 0))] [] σ) : z_J Γ zm_City_bitsChosen 0 [some (.inr (o)), some (.inl (x1)), some (.inl (x2)), none, none] [] σ := by
  refine zj_iconst (v := nI 0) zd_City_bitsChosen_0 (by decide) ?_
  refine zj_istore_n (L' := [some (.inr (o)), some (.inl (x1)), some (.inl (x2)), some (.inl (nI 0)), none]) zd_City_bitsChosen_1 (by decide) rfl ?_
  refine zj_iconst (v := nI 0) zd_City_bitsChosen_2 (by decide) ?_
  refine zj_istore (L' := [some (.inr (o)), some (.inl (x1)), some (.inl (x2)), some (.inl (nI 0)), some (.inl (nI 0))]) zd_City_bitsChosen_3 (by decide) rfl ?_
  exact k
theorem zb_City_bitsChosen_5 {Γ : zG} {σ : zS} {o : Nat} {x1 x2 x3 x4 : Int32} {k1 : Nat} (h_o : z_oC o) (b1 : z_ix x1 6 k1) (kt : (σ.1 (o + 6) k1) ≤ x4 → z_J Γ zm_City_bitsChosen 44 [none, none, none, some (.inl (x3)), none] [] σ) (kf : ¬ (σ.1 (o + 6) k1) ≤ x4 → z_J Γ zm_City_bitsChosen 16 [some (.inr (o)), some (.inl (x1)), some (.inl (x2)), some (.inl (x3)), some (.inl (x4))] [] σ) : z_J Γ zm_City_bitsChosen 5 [some (.inr (o)), some (.inl (x1)), some (.inl (x2)), some (.inl (x3)), some (.inl (x4))] [] σ := by
  refine zj_iload zd_City_bitsChosen_5 rfl ?_
  refine zj_aload_n zd_City_bitsChosen_7 rfl ?_
  refine zj_getR (zk_C0 h_o) (by decide) rfl zu_City (k := 7) (by decide) rfl zl_City_31 zd_City_bitsChosen_8 (o' := o + 6) rfl ?_
  refine zj_iload_n zd_City_bitsChosen_11 rfl ?_
  refine zj_iaload (zk_C6 h_o) (by decide) b1 zd_City_bitsChosen_12 ?_
  exact zj_icmp_ge zd_City_bitsChosen_13 (by decide) (fun h => (zj_weak (L' := [none, none, none, some (.inl (x3)), none]) ⟨rfl, trivial⟩ (kt h))) (fun h => (kf h))
theorem zb_City_bitsChosen_16 {Γ : zG} {σ : zS} {o : Nat} {x1 x2 x3 x4 : Int32} (h_o : z_oC o) (kt : ¬ ((x2 >>> (x4 &&& 31)) &&& (nI 1)) = (nI 1) → z_J Γ zm_City_bitsChosen 38 [some (.inr (o)), some (.inl (x1)), some (.inl (x2)), some (.inl (x3)), some (.inl (x4))] [] σ) (kf : ((x2 >>> (x4 &&& 31)) &&& (nI 1)) = (nI 1) → z_J Γ zm_City_bitsChosen 26 [some (.inr (o)), some (.inl (x1)), some (.inl (x2)), some (.inl (x3)), some (.inl (x4))] [] σ) : z_J Γ zm_City_bitsChosen 16 [some (.inr (o)), some (.inl (x1)), some (.inl (x2)), some (.inl (x3)), some (.inl (x4))] [] σ := by
  refine zj_iload_n zd_City_bitsChosen_16 rfl ?_
  refine zj_iload zd_City_bitsChosen_17 rfl ?_
  refine zj_ishr zd_City_bitsChosen_19 ?_
  refine zj_iconst (v := nI 1) zd_City_bitsChosen_20 (by decide) ?_
  refine zj_iand zd_City_bitsChosen_21 ?_
  refine zj_iconst (v := nI 1) zd_City_bitsChosen_22 (by decide) ?_
  exact zj_icmp_ne zd_City_bitsChosen_23 (by decide) (fun h => (kt h)) (fun h => (kf h))
theorem zb_City_bitsChosen_26 {Γ : zG} {σ : zS} {o : Nat} {x1 x2 x3 x4 : Int32} {dc : Nat} {P : Int32 → zS → Prop} (h_o : z_oC o) (hm : z_Ci dc zm_City_bookAt [.inr (o), .inl (x1), .inl (x4)] σ P) (hdp : dc < z_dep Γ) (k : ∀ r σ1, P r σ1 → z_J Γ zm_City_bitsChosen 35 [some (.inr (o)), some (.inl (x1)), some (.inl (x2)), none, some (.inl (x4))] [.inl (r), .inl (nI 1), .inl (x3)] σ1) : z_J Γ zm_City_bitsChosen 26 [some (.inr (o)), some (.inl (x1)), some (.inl (x2)), some (.inl (x3)), some (.inl (x4))] [] σ := by
  refine zj_iload_n zd_City_bitsChosen_26 rfl ?_
  refine zj_iconst (v := nI 1) zd_City_bitsChosen_27 (by decide) ?_
  refine zj_aload_n zd_City_bitsChosen_28 rfl ?_
  refine zj_iload_n zd_City_bitsChosen_29 rfl ?_
  refine zj_iload zd_City_bitsChosen_30 rfl ?_
  exact zj_callVi (As := [.inl (x1), .inl (x4)]) hm hdp (zk_C0 h_o) (by decide) rfl zl_City_53 zq_City_bookAt zd_City_bitsChosen_32 rfl (Nat.le_of_ble_eq_true rfl) (fun r σ1 h => (zj_weak (L' := [some (.inr (o)), some (.inl (x1)), some (.inl (x2)), none, some (.inl (x4))]) ⟨rfl, ⟨rfl, ⟨rfl, ⟨rfl, trivial⟩⟩⟩⟩ (k r σ1 h)))
theorem zb_City_bitsChosen_35 {Γ : zG} {σ : zS} {o : Nat} {x1 x2 x4 y0 y1 y2 : Int32} (h_o : z_oC o) (k : z_J Γ zm_City_bitsChosen 38 [some (.inr (o)), some (.inl (x1)), some (.inl (x2)), some (.inl (y2 ||| (y1 <<< (y0 &&& 31)))), some (.inl (x4))] [] σ) : z_J Γ zm_City_bitsChosen 35 [some (.inr (o)), some (.inl (x1)), some (.inl (x2)), none, some (.inl (x4))] [.inl (y0), .inl (y1), .inl (y2)] σ := by
  refine zj_ishl zd_City_bitsChosen_35 ?_
  refine zj_ior zd_City_bitsChosen_36 ?_
  refine zj_istore_n (L' := [some (.inr (o)), some (.inl (x1)), some (.inl (x2)), some (.inl (y2 ||| (y1 <<< (y0 &&& 31)))), some (.inl (x4))]) zd_City_bitsChosen_37 (by decide) rfl ?_
  exact k
theorem zb_City_bitsChosen_38 {Γ : zG} {σ : zS} {o : Nat} {x1 x2 x3 x4 : Int32} (h_o : z_oC o) (k : z_J Γ zm_City_bitsChosen 5 [some (.inr (o)), some (.inl (x1)), some (.inl (x2)), some (.inl (x3)), some (.inl (x4 + nI 1))] [] σ) : z_J Γ zm_City_bitsChosen 38 [some (.inr (o)), some (.inl (x1)), some (.inl (x2)), some (.inl (x3)), some (.inl (x4))] [] σ := by
  refine zj_iinc (v := nI 1) (L' := [some (.inr (o)), some (.inl (x1)), some (.inl (x2)), some (.inl (x3)), some (.inl (x4 + nI 1))]) zd_City_bitsChosen_38 rfl (by decide) (by decide) rfl ?_
  exact zj_goto zd_City_bitsChosen_41 (by decide) k
theorem zb_City_bitsChosen_44 {Γ : zG} {σ : zS} {x3 : Int32}  (e : z_end Γ (some (x3)) σ) : z_J Γ zm_City_bitsChosen 44 [none, none, none, some (.inl (x3)), none] [] σ := by
  refine zj_iload_n zd_City_bitsChosen_44 rfl ?_
  exact zj_ireturn rfl zd_City_bitsChosen_45 e
theorem zd_City_copyColumnWithout_0 : decode zm_City_copyColumnWithout.2.1 0 = .ok (.aload_n 0, 1) := by decide +kernel
theorem zd_City_copyColumnWithout_1 : decode zm_City_copyColumnWithout.2.1 1 = .ok (.getfield 31, 3) := by decide +kernel
theorem zd_City_copyColumnWithout_4 : decode zm_City_copyColumnWithout.2.1 4 = .ok (.iload_n 2, 1) := by decide +kernel
theorem zd_City_copyColumnWithout_5 : decode zm_City_copyColumnWithout.2.1 5 = .ok (.iconst 0, 1) := by decide +kernel
theorem zd_City_copyColumnWithout_6 : decode zm_City_copyColumnWithout.2.1 6 = .ok (.iastore, 1) := by decide +kernel
theorem zd_City_copyColumnWithout_7 : decode zm_City_copyColumnWithout.2.1 7 = .ok (.iconst 0, 1) := by decide +kernel
theorem zd_City_copyColumnWithout_8 : decode zm_City_copyColumnWithout.2.1 8 = .ok (.istore 4, 2) := by decide +kernel
theorem zd_City_copyColumnWithout_10 : decode zm_City_copyColumnWithout.2.1 10 = .ok (.iload 4, 2) := by decide +kernel
theorem zd_City_copyColumnWithout_12 : decode zm_City_copyColumnWithout.2.1 12 = .ok (.aload_n 1, 1) := by decide +kernel
theorem zd_City_copyColumnWithout_13 : decode zm_City_copyColumnWithout.2.1 13 = .ok (.getfield 31, 3) := by decide +kernel
theorem zd_City_copyColumnWithout_16 : decode zm_City_copyColumnWithout.2.1 16 = .ok (.iload_n 2, 1) := by decide +kernel
theorem zd_City_copyColumnWithout_17 : decode zm_City_copyColumnWithout.2.1 17 = .ok (.iaload, 1) := by decide +kernel
theorem zd_City_copyColumnWithout_18 : decode zm_City_copyColumnWithout.2.1 18 = .ok (.if_icmp .ge 50, 3) := by decide +kernel
theorem zd_City_copyColumnWithout_21 : decode zm_City_copyColumnWithout.2.1 21 = .ok (.iload_n 3, 1) := by decide +kernel
theorem zd_City_copyColumnWithout_22 : decode zm_City_copyColumnWithout.2.1 22 = .ok (.iload 4, 2) := by decide +kernel
theorem zd_City_copyColumnWithout_24 : decode zm_City_copyColumnWithout.2.1 24 = .ok (.ishr, 1) := by decide +kernel
theorem zd_City_copyColumnWithout_25 : decode zm_City_copyColumnWithout.2.1 25 = .ok (.iconst 1, 1) := by decide +kernel
theorem zd_City_copyColumnWithout_26 : decode zm_City_copyColumnWithout.2.1 26 = .ok (.iand, 1) := by decide +kernel
theorem zd_City_copyColumnWithout_27 : decode zm_City_copyColumnWithout.2.1 27 = .ok (.ifCond .ne 35, 3) := by decide +kernel
theorem zd_City_copyColumnWithout_30 : decode zm_City_copyColumnWithout.2.1 30 = .ok (.aload_n 0, 1) := by decide +kernel
theorem zd_City_copyColumnWithout_31 : decode zm_City_copyColumnWithout.2.1 31 = .ok (.getfield 34, 3) := by decide +kernel
theorem zd_City_copyColumnWithout_34 : decode zm_City_copyColumnWithout.2.1 34 = .ok (.iload_n 2, 1) := by decide +kernel
theorem zd_City_copyColumnWithout_35 : decode zm_City_copyColumnWithout.2.1 35 = .ok (.iconst 4, 1) := by decide +kernel
theorem zd_City_copyColumnWithout_36 : decode zm_City_copyColumnWithout.2.1 36 = .ok (.imul, 1) := by decide +kernel
theorem zd_City_copyColumnWithout_37 : decode zm_City_copyColumnWithout.2.1 37 = .ok (.aload_n 0, 1) := by decide +kernel
theorem zd_City_copyColumnWithout_38 : decode zm_City_copyColumnWithout.2.1 38 = .ok (.getfield 31, 3) := by decide +kernel
theorem zd_City_copyColumnWithout_41 : decode zm_City_copyColumnWithout.2.1 41 = .ok (.iload_n 2, 1) := by decide +kernel
theorem zd_City_copyColumnWithout_42 : decode zm_City_copyColumnWithout.2.1 42 = .ok (.iaload, 1) := by decide +kernel
theorem zd_City_copyColumnWithout_43 : decode zm_City_copyColumnWithout.2.1 43 = .ok (.iadd, 1) := by decide +kernel
theorem zd_City_copyColumnWithout_44 : decode zm_City_copyColumnWithout.2.1 44 = .ok (.aload_n 1, 1) := by decide +kernel
theorem zd_City_copyColumnWithout_45 : decode zm_City_copyColumnWithout.2.1 45 = .ok (.iload_n 2, 1) := by decide +kernel
theorem zd_City_copyColumnWithout_46 : decode zm_City_copyColumnWithout.2.1 46 = .ok (.iload 4, 2) := by decide +kernel
theorem zd_City_copyColumnWithout_48 : decode zm_City_copyColumnWithout.2.1 48 = .ok (.invokevirtual 53, 3) := by decide +kernel
theorem zd_City_copyColumnWithout_51 : decode zm_City_copyColumnWithout.2.1 51 = .ok (.iastore, 1) := by decide +kernel
theorem zd_City_copyColumnWithout_52 : decode zm_City_copyColumnWithout.2.1 52 = .ok (.aload_n 0, 1) := by decide +kernel
theorem zd_City_copyColumnWithout_53 : decode zm_City_copyColumnWithout.2.1 53 = .ok (.getfield 31, 3) := by decide +kernel
theorem zd_City_copyColumnWithout_56 : decode zm_City_copyColumnWithout.2.1 56 = .ok (.iload_n 2, 1) := by decide +kernel
theorem zd_City_copyColumnWithout_57 : decode zm_City_copyColumnWithout.2.1 57 = .ok (.dup2, 1) := by decide +kernel
theorem zd_City_copyColumnWithout_58 : decode zm_City_copyColumnWithout.2.1 58 = .ok (.iaload, 1) := by decide +kernel
theorem zd_City_copyColumnWithout_59 : decode zm_City_copyColumnWithout.2.1 59 = .ok (.iconst 1, 1) := by decide +kernel
theorem zd_City_copyColumnWithout_60 : decode zm_City_copyColumnWithout.2.1 60 = .ok (.iadd, 1) := by decide +kernel
theorem zd_City_copyColumnWithout_61 : decode zm_City_copyColumnWithout.2.1 61 = .ok (.iastore, 1) := by decide +kernel
theorem zd_City_copyColumnWithout_62 : decode zm_City_copyColumnWithout.2.1 62 = .ok (.iinc 4 1, 3) := by decide +kernel
theorem zd_City_copyColumnWithout_65 : decode zm_City_copyColumnWithout.2.1 65 = .ok (.goto (-55), 3) := by decide +kernel
theorem zd_City_copyColumnWithout_68 : decode zm_City_copyColumnWithout.2.1 68 = .ok (.return_, 1) := by decide +kernel
theorem zb_City_copyColumnWithout_0 {Γ : zG} {σ : zS} {o : Nat} {c1 : Nat} {x2 x3 : Int32} {k1 : Nat} (h_o : z_oC o) (h_c1 : z_oC c1) (b1 : z_ix x2 6 k1) (k : z_J Γ zm_City_copyColumnWithout 10 [some (.inr (o)), some (.inr (c1)), some (.inl (x2)), some (.inl (x3)), some (.inl (nI 0))] [] (z_pI σ (o + 6) k1 (nI 0))) : z_J Γ zm_City_copyColumnWithout 0 [some (.inr (o)), some (.inr (c1)), some (.inl (x2)), some (.inl (x3)), none] [] σ := by
  refine zj_aload_n zd_City_copyColumnWithout_0 rfl ?_
  refine zj_getR (zk_C0 h_o) (by decide) rfl zu_City (k := 7) (by decide) rfl zl_City_31 zd_City_copyColumnWithout_1 (o' := o + 6) rfl ?_
  refine zj_iload_n zd_City_copyColumnWithout_4 rfl ?_
  refine zj_iconst (v := nI 0) zd_City_copyColumnWithout_5 (by decide) ?_
  refine zj_iastore (zk_C6 h_o) (by decide) b1 zd_City_copyColumnWithout_6 ?_
  refine zj_iconst (v := nI 0) zd_City_copyColumnWithout_7 (by decide) ?_
  refine zj_istore (L' := [some (.inr (o)), some (.inr (c1)), some (.inl (x2)), some (.inl (x3)), some (.inl (nI 0))]) zd_City_copyColumnWithout_8 (by decide) rfl ?_
  exact k
theorem zb_City_copyColumnWithout_10 {Γ : zG} {σ : zS} {o : Nat} {c1 : Nat} {x2 x3 x4 : Int32} {k1 : Nat} (h_o : z_oC o) (h_c1 : z_oC c1) (b1 : z_ix x2 6 k1) (kt : (σ.1 (c1 + 6) k1) ≤ x4 → z_J Γ zm_City_copyColumnWithout 68 [none, none, none, none, none] [] σ) (kf : ¬ (σ.1 (c1 + 6) k1) ≤ x4 → z_J Γ zm_City_copyColumnWithout 21 [some (.inr (o)), some (.inr (c1)), some (.inl (x2)), some (.inl (x3)), some (.inl (x4))] [] σ) : z_J Γ zm_City_copyColumnWithout 10 [some (.inr (o)), some (.inr (c1)), some (.inl (x2)), some (.inl (x3)), some (.inl (x4))] [] σ := by
  refine zj_iload zd_City_copyColumnWithout_10 rfl ?_
  refine zj_aload_n zd_City_copyColumnWithout_12 rfl ?_
  refine zj_getR (zk_C0 h_c1) (by decide) rfl zu_City (k := 7) (by decide) rfl zl_City_31 zd_City_copyColumnWithout_13 (o' := c1 + 6) rfl ?_
  refine zj_iload_n zd_City_copyColumnWithout_16 rfl ?_
  refine zj_iaload (zk_C6 h_c1) (by decide) b1 zd_City_copyColumnWithout_17 ?_
  exact zj_icmp_ge zd_City_copyColumnWithout_18 (by decide) (fun h => (zj_weak (L' := [none, none, none, none, none]) trivial (kt h))) (fun h => (kf h))
theorem zb_City_copyColumnWithout_21 {Γ : zG} {σ : zS} {o : Nat} {c1 : Nat} {x2 x3 x4 : Int32} (h_o : z_oC o) (h_c1 : z_oC c1) (kt : ¬ ((x3 >>> (x4 &&& 31)) &&& (nI 1)) = 0 → z_J Γ zm_City_copyColumnWithout 62 [some (.inr (o)), some (.inr (c1)), some (.inl (x2)), some (.inl (x3)), some (.inl (x4))] [] σ) (kf : ((x3 >>> (x4 &&& 31)) &&& (nI 1)) = 0 → z_J Γ zm_City_copyColumnWithout 30 [some (.inr (o)), some (.inr (c1)), some (.inl (x2)), some (.inl (x3)), some (.inl (x4))] [] σ) : z_J Γ zm_City_copyColumnWithout 21 [some (.inr (o)), some (.inr (c1)), some (.inl (x2)), some (.inl (x3)), some (.inl (x4))] [] σ := by
  refine zj_iload_n zd_City_copyColumnWithout_21 rfl ?_
  refine zj_iload zd_City_copyColumnWithout_22 rfl ?_
  refine zj_ishr zd_City_copyColumnWithout_24 ?_
  refine zj_iconst (v := nI 1) zd_City_copyColumnWithout_25 (by decide) ?_
  refine zj_iand zd_City_copyColumnWithout_26 ?_
  exact zj_if_ne zd_City_copyColumnWithout_27 (by decide) (fun h => (kt h)) (fun h => (kf h))
theorem zb_City_copyColumnWithout_30 {Γ : zG} {σ : zS} {o : Nat} {c1 : Nat} {x2 x3 x4 : Int32} {k1 : Nat} {dc : Nat} {P : Int32 → zS → Prop} (h_o : z_oC o) (h_c1 : z_oC c1) (b1 : z_ix x2 6 k1) (hm : z_Ci dc zm_City_bookAt [.inr (c1), .inl (x2), .inl (x4)] σ P) (hdp : dc < z_dep Γ) (k : ∀ r σ1, P r σ1 → z_J Γ zm_City_copyColumnWithout 51 [some (.inr (o)), some (.inr (c1)), some (.inl (x2)), some (.inl (x3)), some (.inl (x4))] [.inl (r), .inl ((x2 * (nI 4)) + (σ.1 (o + 6) k1)), .inr (o + 7)] σ1) : z_J Γ zm_City_copyColumnWithout 30 [some (.inr (o)), some (.inr (c1)), some (.inl (x2)), some (.inl (x3)), some (.inl (x4))] [] σ := by
  refine zj_aload_n zd_City_copyColumnWithout_30 rfl ?_
  refine zj_getR (zk_C0 h_o) (by decide) rfl zu_City (k := 8) (by decide) rfl zl_City_34 zd_City_copyColumnWithout_31 (o' := o + 7) rfl ?_
  refine zj_iload_n zd_City_copyColumnWithout_34 rfl ?_
  refine zj_iconst (v := nI 4) zd_City_copyColumnWithout_35 (by decide) ?_
  refine zj_imul zd_City_copyColumnWithout_36 ?_
  refine zj_aload_n zd_City_copyColumnWithout_37 rfl ?_
  refine zj_getR (zk_C0 h_o) (by decide) rfl zu_City (k := 7) (by decide) rfl zl_City_31 zd_City_copyColumnWithout_38 (o' := o + 6) rfl ?_
  refine zj_iload_n zd_City_copyColumnWithout_41 rfl ?_
  refine zj_iaload (zk_C6 h_o) (by decide) b1 zd_City_copyColumnWithout_42 ?_
  refine zj_iadd zd_City_copyColumnWithout_43 ?_
  refine zj_aload_n zd_City_copyColumnWithout_44 rfl ?_
  refine zj_iload_n zd_City_copyColumnWithout_45 rfl ?_
  refine zj_iload zd_City_copyColumnWithout_46 rfl ?_
  exact zj_callVi (As := [.inl (x2), .inl (x4)]) hm hdp (zk_C0 h_c1) (by decide) rfl zl_City_53 zq_City_bookAt zd_City_copyColumnWithout_48 rfl (Nat.le_of_ble_eq_true rfl) (fun r σ1 h => (k r σ1 h))
theorem zb_City_copyColumnWithout_51 {Γ : zG} {σ : zS} {o : Nat} {c1 : Nat} {x2 x3 x4 y0 y1 : Int32} {k1 k2 k3 : Nat} (h_o : z_oC o) (h_c1 : z_oC c1) (b1 : z_ix y1 24 k1) (b2 : z_ix x2 6 k2) (b3 : z_ix x2 6 k3) (k : z_J Γ zm_City_copyColumnWithout 62 [some (.inr (o)), some (.inr (c1)), some (.inl (x2)), some (.inl (x3)), some (.inl (x4))] [] (z_pI (z_pI σ (o + 7) k1 y0) (o + 6) k3 (((z_pI σ (o + 7) k1 y0).1 (o + 6) k2) + (nI 1)))) : z_J Γ zm_City_copyColumnWithout 51 [some (.inr (o)), some (.inr (c1)), some (.inl (x2)), some (.inl (x3)), some (.inl (x4))] [.inl (y0), .inl (y1), .inr (o + 7)] σ := by
  refine zj_iastore (zk_C7 h_o) (by decide) b1 zd_City_copyColumnWithout_51 ?_
  refine zj_aload_n zd_City_copyColumnWithout_52 rfl ?_
  refine zj_getR (zk_C0 h_o) (by decide) rfl zu_City (k := 7) (by decide) rfl zl_City_31 zd_City_copyColumnWithout_53 (o' := o + 6) rfl ?_
  refine zj_iload_n zd_City_copyColumnWithout_56 rfl ?_
  refine zj_dup2 zd_City_copyColumnWithout_57 ?_
  refine zj_iaload (zk_C6 h_o) (by decide) b2 zd_City_copyColumnWithout_58 ?_
  refine zj_iconst (v := nI 1) zd_City_copyColumnWithout_59 (by decide) ?_
  refine zj_iadd zd_City_copyColumnWithout_60 ?_
  refine zj_iastore (zk_C6 h_o) (by decide) b3 zd_City_copyColumnWithout_61 ?_
  exact k
theorem zb_City_copyColumnWithout_62 {Γ : zG} {σ : zS} {o : Nat} {c1 : Nat} {x2 x3 x4 : Int32} (h_o : z_oC o) (h_c1 : z_oC c1) (k : z_J Γ zm_City_copyColumnWithout 10 [some (.inr (o)), some (.inr (c1)), some (.inl (x2)), some (.inl (x3)), some (.inl (x4 + nI 1))] [] σ) : z_J Γ zm_City_copyColumnWithout 62 [some (.inr (o)), some (.inr (c1)), some (.inl (x2)), some (.inl (x3)), some (.inl (x4))] [] σ := by
  refine zj_iinc (v := nI 1) (L' := [some (.inr (o)), some (.inr (c1)), some (.inl (x2)), some (.inl (x3)), some (.inl (x4 + nI 1))]) zd_City_copyColumnWithout_62 rfl (by decide) (by decide) rfl ?_
  exact zj_goto zd_City_copyColumnWithout_65 (by decide) k
theorem zb_City_copyColumnWithout_68 {Γ : zG} {σ : zS}  (e : z_end Γ none σ) : z_J Γ zm_City_copyColumnWithout 68 [none, none, none, none, none] [] σ := by
  exact zj_return rfl zd_City_copyColumnWithout_68 e
theorem zd_City_weightOf_0 : decode zm_City_weightOf.2.1 0 = .ok (.iconst 0, 1) := by decide +kernel
theorem zd_City_weightOf_1 : decode zm_City_weightOf.2.1 1 = .ok (.istore_n 2, 1) := by decide +kernel
theorem zd_City_weightOf_2 : decode zm_City_weightOf.2.1 2 = .ok (.iconst 0, 1) := by decide +kernel
theorem zd_City_weightOf_3 : decode zm_City_weightOf.2.1 3 = .ok (.istore_n 3, 1) := by decide +kernel
theorem zd_City_weightOf_4 : decode zm_City_weightOf.2.1 4 = .ok (.iload_n 3, 1) := by decide +kernel
theorem zd_City_weightOf_5 : decode zm_City_weightOf.2.1 5 = .ok (.aload_n 0, 1) := by decide +kernel
theorem zd_City_weightOf_6 : decode zm_City_weightOf.2.1 6 = .ok (.getfield 31, 3) := by decide +kernel
theorem zd_City_weightOf_9 : decode zm_City_weightOf.2.1 9 = .ok (.iload_n 1, 1) := by decide +kernel
theorem zd_City_weightOf_10 : decode zm_City_weightOf.2.1 10 = .ok (.iaload, 1) := by decide +kernel
theorem zd_City_weightOf_11 : decode zm_City_weightOf.2.1 11 = .ok (.if_icmp .ge 23, 3) := by decide +kernel
theorem zd_City_weightOf_14 : decode zm_City_weightOf.2.1 14 = .ok (.iload_n 2, 1) := by decide +kernel
theorem zd_City_weightOf_15 : decode zm_City_weightOf.2.1 15 = .ok (.aload_n 0, 1) := by decide +kernel
theorem zd_City_weightOf_16 : decode zm_City_weightOf.2.1 16 = .ok (.getfield 15, 3) := by decide +kernel
theorem zd_City_weightOf_19 : decode zm_City_weightOf.2.1 19 = .ok (.aload_n 0, 1) := by decide +kernel
theorem zd_City_weightOf_20 : decode zm_City_weightOf.2.1 20 = .ok (.iload_n 1, 1) := by decide +kernel
theorem zd_City_weightOf_21 : decode zm_City_weightOf.2.1 21 = .ok (.iload_n 3, 1) := by decide +kernel
theorem zd_City_weightOf_22 : decode zm_City_weightOf.2.1 22 = .ok (.invokevirtual 53, 3) := by decide +kernel
theorem zd_City_weightOf_25 : decode zm_City_weightOf.2.1 25 = .ok (.iaload, 1) := by decide +kernel
theorem zd_City_weightOf_26 : decode zm_City_weightOf.2.1 26 = .ok (.iadd, 1) := by decide +kernel
theorem zd_City_weightOf_27 : decode zm_City_weightOf.2.1 27 = .ok (.istore_n 2, 1) := by decide +kernel
theorem zd_City_weightOf_28 : decode zm_City_weightOf.2.1 28 = .ok (.iinc 3 1, 3) := by decide +kernel
theorem zd_City_weightOf_31 : decode zm_City_weightOf.2.1 31 = .ok (.goto (-27), 3) := by decide +kernel
theorem zd_City_weightOf_34 : decode zm_City_weightOf.2.1 34 = .ok (.iload_n 2, 1) := by decide +kernel
theorem zd_City_weightOf_35 : decode zm_City_weightOf.2.1 35 = .ok (.ireturn, 1) := by decide +kernel
theorem zb_City_weightOf_0 {Γ : zG} {σ : zS} {o : Nat} {x1 : Int32} (h_o : z_oC o) (k : z_J Γ zm_City_weightOf 4 [some (.inr (o)), some (.inl (x1)), some (.inl (nI 0)), some (.inl (nI 0))] [] σ) : z_J Γ zm_City_weightOf 0 [some (.inr (o)), some (.inl (x1)), none, none] [] σ := by
  refine zj_iconst (v := nI 0) zd_City_weightOf_0 (by decide) ?_
  refine zj_istore_n (L' := [some (.inr (o)), some (.inl (x1)), some (.inl (nI 0)), none]) zd_City_weightOf_1 (by decide) rfl ?_
  refine zj_iconst (v := nI 0) zd_City_weightOf_2 (by decide) ?_
  refine zj_istore_n (L' := [some (.inr (o)), some (.inl (x1)), some (.inl (nI 0)), some (.inl (nI 0))]) zd_City_weightOf_3 (by decide) rfl ?_
  exact k
theorem zb_City_weightOf_4 {Γ : zG} {σ : zS} {o : Nat} {x1 x2 x3 : Int32} {k1 : Nat} (h_o : z_oC o) (b1 : z_ix x1 6 k1) (kt : (σ.1 (o + 6) k1) ≤ x3 → z_J Γ zm_City_weightOf 34 [none, none, some (.inl (x2)), none] [] σ) (kf : ¬ (σ.1 (o + 6) k1) ≤ x3 → z_J Γ zm_City_weightOf 14 [some (.inr (o)), some (.inl (x1)), some (.inl (x2)), some (.inl (x3))] [] σ) : z_J Γ zm_City_weightOf 4 [some (.inr (o)), some (.inl (x1)), some (.inl (x2)), some (.inl (x3))] [] σ := by
  refine zj_iload_n zd_City_weightOf_4 rfl ?_
  refine zj_aload_n zd_City_weightOf_5 rfl ?_
  refine zj_getR (zk_C0 h_o) (by decide) rfl zu_City (k := 7) (by decide) rfl zl_City_31 zd_City_weightOf_6 (o' := o + 6) rfl ?_
  refine zj_iload_n zd_City_weightOf_9 rfl ?_
  refine zj_iaload (zk_C6 h_o) (by decide) b1 zd_City_weightOf_10 ?_
  exact zj_icmp_ge zd_City_weightOf_11 (by decide) (fun h => (zj_weak (L' := [none, none, some (.inl (x2)), none]) ⟨rfl, trivial⟩ (kt h))) (fun h => (kf h))
theorem zb_City_weightOf_14 {Γ : zG} {σ : zS} {o : Nat} {x1 x2 x3 : Int32} {dc : Nat} {P : Int32 → zS → Prop} (h_o : z_oC o) (hm : z_Ci dc zm_City_bookAt [.inr (o), .inl (x1), .inl (x3)] σ P) (hdp : dc < z_dep Γ) (k : ∀ r σ1, P r σ1 → z_J Γ zm_City_weightOf 25 [some (.inr (o)), some (.inl (x1)), none, some (.inl (x3))] [.inl (r), .inr (o + 2), .inl (x2)] σ1) : z_J Γ zm_City_weightOf 14 [some (.inr (o)), some (.inl (x1)), some (.inl (x2)), some (.inl (x3))] [] σ := by
  refine zj_iload_n zd_City_weightOf_14 rfl ?_
  refine zj_aload_n zd_City_weightOf_15 rfl ?_
  refine zj_getR (zk_C0 h_o) (by decide) rfl zu_City (k := 2) (by decide) rfl zl_City_15 zd_City_weightOf_16 (o' := o + 2) rfl ?_
  refine zj_aload_n zd_City_weightOf_19 rfl ?_
  refine zj_iload_n zd_City_weightOf_20 rfl ?_
  refine zj_iload_n zd_City_weightOf_21 rfl ?_
  exact zj_callVi (As := [.inl (x1), .inl (x3)]) hm hdp (zk_C0 h_o) (by decide) rfl zl_City_53 zq_City_bookAt zd_City_weightOf_22 rfl (Nat.le_of_ble_eq_true rfl) (fun r σ1 h => (zj_weak (L' := [some (.inr (o)), some (.inl (x1)), none, some (.inl (x3))]) ⟨rfl, ⟨rfl, ⟨rfl, trivial⟩⟩⟩ (k r σ1 h)))
theorem zb_City_weightOf_25 {Γ : zG} {σ : zS} {o : Nat} {x1 x3 y0 y2 : Int32} {k1 : Nat} (h_o : z_oC o) (b1 : z_ix y0 12 k1) (k : z_J Γ zm_City_weightOf 4 [some (.inr (o)), some (.inl (x1)), some (.inl (y2 + (σ.1 (o + 2) k1))), some (.inl (x3 + nI 1))] [] σ) : z_J Γ zm_City_weightOf 25 [some (.inr (o)), some (.inl (x1)), none, some (.inl (x3))] [.inl (y0), .inr (o + 2), .inl (y2)] σ := by
  refine zj_iaload (zk_C2 h_o) (by decide) b1 zd_City_weightOf_25 ?_
  refine zj_iadd zd_City_weightOf_26 ?_
  refine zj_istore_n (L' := [some (.inr (o)), some (.inl (x1)), some (.inl (y2 + (σ.1 (o + 2) k1))), some (.inl (x3))]) zd_City_weightOf_27 (by decide) rfl ?_
  refine zj_iinc (v := nI 1) (L' := [some (.inr (o)), some (.inl (x1)), some (.inl (y2 + (σ.1 (o + 2) k1))), some (.inl (x3 + nI 1))]) zd_City_weightOf_28 rfl (by decide) (by decide) rfl ?_
  exact zj_goto zd_City_weightOf_31 (by decide) k
theorem zb_City_weightOf_34 {Γ : zG} {σ : zS} {x2 : Int32}  (e : z_end Γ (some (x2)) σ) : z_J Γ zm_City_weightOf 34 [none, none, some (.inl (x2)), none] [] σ := by
  refine zj_iload_n zd_City_weightOf_34 rfl ?_
  exact zj_ireturn rfl zd_City_weightOf_35 e
