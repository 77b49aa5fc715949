theorem zd_Walls_undo_0 : decode zm_Walls_undo.2.1 0 = .ok (.aload_n 0, 1) := by decide +kernel
theorem zd_Walls_undo_1 : decode zm_Walls_undo.2.1 1 = .ok (.getfield 47, 3) := by decide +kernel
theorem zd_Walls_undo_4 : decode zm_Walls_undo.2.1 4 = .ok (.getfield 278, 3) := by decide +kernel
theorem zd_Walls_undo_7 : decode zm_Walls_undo.2.1 7 = .ok (.ifCond .ne 5, 3) := by decide +kernel
theorem zd_Walls_undo_10 : decode zm_Walls_undo.2.1 10 = .ok (.iconst (-1), 1) := by decide +kernel
theorem zd_Walls_undo_11 : decode zm_Walls_undo.2.1 11 = .ok (.ireturn, 1) := by decide +kernel
theorem zd_Walls_undo_12 : decode zm_Walls_undo.2.1 12 = .ok (.aload_n 0, 1) := by decide +kernel
theorem zd_Walls_undo_13 : decode zm_Walls_undo.2.1 13 = .ok (.getfield 47, 3) := by decide +kernel
theorem zd_Walls_undo_16 : decode zm_Walls_undo.2.1 16 = .ok (.aload_n 0, 1) := by decide +kernel
theorem zd_Walls_undo_17 : decode zm_Walls_undo.2.1 17 = .ok (.getfield 20, 3) := by decide +kernel
theorem zd_Walls_undo_20 : decode zm_Walls_undo.2.1 20 = .ok (.invokevirtual 281, 3) := by decide +kernel
theorem zd_Walls_undo_23 : decode zm_Walls_undo.2.1 23 = .ok (.aload_n 0, 1) := by decide +kernel
theorem zd_Walls_undo_24 : decode zm_Walls_undo.2.1 24 = .ok (.getfield 47, 3) := by decide +kernel
theorem zd_Walls_undo_27 : decode zm_Walls_undo.2.1 27 = .ok (.getfield 278, 3) := by decide +kernel
theorem zd_Walls_undo_30 : decode zm_Walls_undo.2.1 30 = .ok (.ireturn, 1) := by decide +kernel
theorem zb_Walls_undo_0 {Γ : zG} {σ : zS}  (kt : ¬ (σ.1 11 2) = 0 → z_J Γ zm_Walls_undo 12 [some (.inr (0))] [] σ) (kf : (σ.1 11 2) = 0 → z_J Γ zm_Walls_undo 10 [none] [] σ) : z_J Γ zm_Walls_undo 0 [some (.inr (0))] [] σ := by
  refine zj_aload_n zd_Walls_undo_0 rfl ?_
  refine zj_getR rfl (by decide) rfl zu_Walls (k := 9) (by decide) rfl zl_Walls_47 zd_Walls_undo_1 (o' := 11) rfl ?_
  refine zj_getI rfl (by decide) rfl zu_History (k := 2) (by decide) rfl zl_Walls_278 zd_Walls_undo_4 ?_
  exact zj_if_ne zd_Walls_undo_7 (by decide) (fun h => (kt h)) (fun h => (zj_weak (L' := [none]) trivial (kf h)))
theorem zb_Walls_undo_10 {Γ : zG} {σ : zS}  (e : z_end Γ (some ((-1))) σ) : z_J Γ zm_Walls_undo 10 [none] [] σ := by
  refine zj_iconst (v := (-1)) zd_Walls_undo_10 (by decide) ?_
  exact zj_ireturn rfl zd_Walls_undo_11 e
theorem zb_Walls_undo_12 {Γ : zG} {σ : zS} {dc : Nat} {P : zS → Prop}  (hm : z_Cv dc zm_History_restore [.inr (11), .inr (33)] σ P) (hdp : dc < z_dep Γ) (k : ∀ σ1, P σ1 → z_J Γ zm_Walls_undo 23 [some (.inr (0))] [] σ1) : z_J Γ zm_Walls_undo 12 [some (.inr (0))] [] σ := by
  refine zj_aload_n zd_Walls_undo_12 rfl ?_
  refine zj_getR rfl (by decide) rfl zu_Walls (k := 9) (by decide) rfl zl_Walls_47 zd_Walls_undo_13 (o' := 11) rfl ?_
  refine zj_aload_n zd_Walls_undo_16 rfl ?_
  refine zj_getR rfl (by decide) rfl zu_Walls (k := 4) (by decide) rfl zl_Walls_20 zd_Walls_undo_17 (o' := 33) rfl ?_
  exact zj_callVv (As := [.inr (33)]) hm hdp rfl (by decide) rfl zl_Walls_281 zq_History_restore zd_Walls_undo_20 rfl (Nat.le_of_ble_eq_true rfl) (fun σ1 h => (k σ1 h))
theorem zb_Walls_undo_23 {Γ : zG} {σ : zS}  (e : z_end Γ (some (σ.1 11 2)) σ) : z_J Γ zm_Walls_undo 23 [some (.inr (0))] [] σ := by
  refine zj_aload_n zd_Walls_undo_23 rfl ?_
  refine zj_getR rfl (by decide) rfl zu_Walls (k := 9) (by decide) rfl zl_Walls_47 zd_Walls_undo_24 (o' := 11) rfl ?_
  refine zj_getI rfl (by decide) rfl zu_History (k := 2) (by decide) rfl zl_Walls_278 zd_Walls_undo_27 ?_
  exact zj_ireturn rfl zd_Walls_undo_30 e
theorem zd_Walls_low_0 : decode zm_Walls_low.2.1 0 = .ok (.iload_n 1, 1) := by decide +kernel
theorem zd_Walls_low_1 : decode zm_Walls_low.2.1 1 = .ok (.invokestatic 284, 3) := by decide +kernel
theorem zd_Walls_low_4 : decode zm_Walls_low.2.1 4 = .ok (.ifCond .ne 5, 3) := by decide +kernel
theorem zd_Walls_low_7 : decode zm_Walls_low.2.1 7 = .ok (.iconst (-1), 1) := by decide +kernel
theorem zd_Walls_low_8 : decode zm_Walls_low.2.1 8 = .ok (.ireturn, 1) := by decide +kernel
theorem zd_Walls_low_9 : decode zm_Walls_low.2.1 9 = .ok (.iconst 0, 1) := by decide +kernel
theorem zd_Walls_low_10 : decode zm_Walls_low.2.1 10 = .ok (.istore_n 2, 1) := by decide +kernel
theorem zd_Walls_low_11 : decode zm_Walls_low.2.1 11 = .ok (.iconst 0, 1) := by decide +kernel
theorem zd_Walls_low_12 : decode zm_Walls_low.2.1 12 = .ok (.istore_n 3, 1) := by decide +kernel
theorem zd_Walls_low_13 : decode zm_Walls_low.2.1 13 = .ok (.iconst 0, 1) := by decide +kernel
theorem zd_Walls_low_14 : decode zm_Walls_low.2.1 14 = .ok (.istore 4, 2) := by decide +kernel
theorem zd_Walls_low_16 : decode zm_Walls_low.2.1 16 = .ok (.iload 4, 2) := by decide +kernel
theorem zd_Walls_low_18 : decode zm_Walls_low.2.1 18 = .ok (.aload_n 0, 1) := by decide +kernel
theorem zd_Walls_low_19 : decode zm_Walls_low.2.1 19 = .ok (.getfield 20, 3) := by decide +kernel
theorem zd_Walls_low_22 : decode zm_Walls_low.2.1 22 = .ok (.getfield 117, 3) := by decide +kernel
theorem zd_Walls_low_25 : decode zm_Walls_low.2.1 25 = .ok (.if_icmp .ge 40, 3) := by decide +kernel
theorem zd_Walls_low_28 : decode zm_Walls_low.2.1 28 = .ok (.aload_n 0, 1) := by decide +kernel
theorem zd_Walls_low_29 : decode zm_Walls_low.2.1 29 = .ok (.getfield 20, 3) := by decide +kernel
theorem zd_Walls_low_32 : decode zm_Walls_low.2.1 32 = .ok (.iload 4, 2) := by decide +kernel
theorem zd_Walls_low_34 : decode zm_Walls_low.2.1 34 = .ok (.invokevirtual 176, 3) := by decide +kernel
theorem zd_Walls_low_37 : decode zm_Walls_low.2.1 37 = .ok (.istore 5, 2) := by decide +kernel
theorem zd_Walls_low_39 : decode zm_Walls_low.2.1 39 = .ok (.iload 5, 2) := by decide +kernel
theorem zd_Walls_low_41 : decode zm_Walls_low.2.1 41 = .ok (.iload_n 1, 1) := by decide +kernel
theorem zd_Walls_low_42 : decode zm_Walls_low.2.1 42 = .ok (.if_icmp .ge 17, 3) := by decide +kernel
theorem zd_Walls_low_45 : decode zm_Walls_low.2.1 45 = .ok (.iload_n 2, 1) := by decide +kernel
theorem zd_Walls_low_46 : decode zm_Walls_low.2.1 46 = .ok (.iconst 1, 1) := by decide +kernel
theorem zd_Walls_low_47 : decode zm_Walls_low.2.1 47 = .ok (.iload 4, 2) := by decide +kernel
theorem zd_Walls_low_49 : decode zm_Walls_low.2.1 49 = .ok (.ishl, 1) := by decide +kernel
theorem zd_Walls_low_50 : decode zm_Walls_low.2.1 50 = .ok (.ior, 1) := by decide +kernel
theorem zd_Walls_low_51 : decode zm_Walls_low.2.1 51 = .ok (.istore_n 2, 1) := by decide +kernel
theorem zd_Walls_low_52 : decode zm_Walls_low.2.1 52 = .ok (.iload_n 3, 1) := by decide +kernel
theorem zd_Walls_low_53 : decode zm_Walls_low.2.1 53 = .ok (.iload_n 1, 1) := by decide +kernel
theorem zd_Walls_low_54 : decode zm_Walls_low.2.1 54 = .ok (.iload 5, 2) := by decide +kernel
theorem zd_Walls_low_56 : decode zm_Walls_low.2.1 56 = .ok (.isub, 1) := by decide +kernel
theorem zd_Walls_low_57 : decode zm_Walls_low.2.1 57 = .ok (.iadd, 1) := by decide +kernel
theorem zd_Walls_low_58 : decode zm_Walls_low.2.1 58 = .ok (.istore_n 3, 1) := by decide +kernel
theorem zd_Walls_low_59 : decode zm_Walls_low.2.1 59 = .ok (.iinc 4 1, 3) := by decide +kernel
theorem zd_Walls_low_62 : decode zm_Walls_low.2.1 62 = .ok (.goto (-46), 3) := by decide +kernel
theorem zd_Walls_low_65 : decode zm_Walls_low.2.1 65 = .ok (.aload_n 0, 1) := by decide +kernel
theorem zd_Walls_low_66 : decode zm_Walls_low.2.1 66 = .ok (.iload_n 3, 1) := by decide +kernel
theorem zd_Walls_low_67 : decode zm_Walls_low.2.1 67 = .ok (.aload_n 0, 1) := by decide +kernel
theorem zd_Walls_low_68 : decode zm_Walls_low.2.1 68 = .ok (.getfield 20, 3) := by decide +kernel
theorem zd_Walls_low_71 : decode zm_Walls_low.2.1 71 = .ok (.invokevirtual 287, 3) := by decide +kernel
theorem zd_Walls_low_74 : decode zm_Walls_low.2.1 74 = .ok (.invokevirtual 257, 3) := by decide +kernel
theorem zd_Walls_low_77 : decode zm_Walls_low.2.1 77 = .ok (.iload_n 2, 1) := by decide +kernel
theorem zd_Walls_low_78 : decode zm_Walls_low.2.1 78 = .ok (.ireturn, 1) := by decide +kernel
theorem zb_Walls_low_0 {Γ : zG} {σ : zS} {x1 : Int32} {dc : Nat} {P : Int32 → zS → Prop}  (hm : z_Ci dc zm_Walls_isHeight [.inl (x1)] σ P) (hdp : dc < z_dep Γ) (k : ∀ r σ1, P r σ1 → z_J Γ zm_Walls_low 4 [some (.inr (0)), some (.inl (x1)), none, none, none, none] [.inl (r)] σ1) : z_J Γ zm_Walls_low 0 [some (.inr (0)), some (.inl (x1)), none, none, none, none] [] σ := by
  refine zj_iload_n zd_Walls_low_0 rfl ?_
  exact zj_callSi (As := [.inl (x1)]) hm hdp zl_Walls_284 zq_Walls_isHeight zd_Walls_low_1 rfl (Nat.le_of_ble_eq_true rfl) (fun r σ1 h => (k r σ1 h))
theorem zb_Walls_low_4 {Γ : zG} {σ : zS} {x1 y0 : Int32}  (kt : ¬ y0 = 0 → z_J Γ zm_Walls_low 9 [some (.inr (0)), some (.inl (x1)), none, none, none, none] [] σ) (kf : y0 = 0 → z_J Γ zm_Walls_low 7 [none, none, none, none, none, none] [] σ) : z_J Γ zm_Walls_low 4 [some (.inr (0)), some (.inl (x1)), none, none, none, none] [.inl (y0)] σ := by
  exact zj_if_ne zd_Walls_low_4 (by decide) (fun h => (kt h)) (fun h => (zj_weak (L' := [none, none, none, none, none, none]) trivial (kf h)))
theorem zb_Walls_low_7 {Γ : zG} {σ : zS}  (e : z_end Γ (some ((-1))) σ) : z_J Γ zm_Walls_low 7 [none, none, none, none, none, none] [] σ := by
  refine zj_iconst (v := (-1)) zd_Walls_low_7 (by decide) ?_
  exact zj_ireturn rfl zd_Walls_low_8 e
theorem zb_Walls_low_9 {Γ : zG} {σ : zS} {x1 : Int32}  (k : z_J Γ zm_Walls_low 16 [some (.inr (0)), some (.inl (x1)), some (.inl (nI 0)), some (.inl (nI 0)), some (.inl (nI 0)), none] [] σ) : z_J Γ zm_Walls_low 9 [some (.inr (0)), some (.inl (x1)), none, none, none, none] [] σ := by
  refine zj_iconst (v := nI 0) zd_Walls_low_9 (by decide) ?_
  refine zj_istore_n (L' := [some (.inr (0)), some (.inl (x1)), some (.inl (nI 0)), none, none, none]) zd_Walls_low_10 (by decide) rfl ?_
  refine zj_iconst (v := nI 0) zd_Walls_low_11 (by decide) ?_
  refine zj_istore_n (L' := [some (.inr (0)), some (.inl (x1)), some (.inl (nI 0)), some (.inl (nI 0)), none, none]) zd_Walls_low_12 (by decide) rfl ?_
  refine zj_iconst (v := nI 0) zd_Walls_low_13 (by decide) ?_
  refine zj_istore (L' := [some (.inr (0)), some (.inl (x1)), some (.inl (nI 0)), some (.inl (nI 0)), some (.inl (nI 0)), none]) zd_Walls_low_14 (by decide) rfl ?_
  exact k
theorem zb_Walls_low_16 {Γ : zG} {σ : zS} {x1 x2 x3 x4 : Int32}  (kt : (σ.1 33 6) ≤ x4 → z_J Γ zm_Walls_low 65 [some (.inr (0)), none, some (.inl (x2)), some (.inl (x3)), none, none] [] σ) (kf : ¬ (σ.1 33 6) ≤ x4 → z_J Γ zm_Walls_low 28 [some (.inr (0)), some (.inl (x1)), some (.inl (x2)), some (.inl (x3)), some (.inl (x4)), none] [] σ) : z_J Γ zm_Walls_low 16 [some (.inr (0)), some (.inl (x1)), some (.inl (x2)), some (.inl (x3)), some (.inl (x4)), none] [] σ := by
  refine zj_iload zd_Walls_low_16 rfl ?_
  refine zj_aload_n zd_Walls_low_18 rfl ?_
  refine zj_getR rfl (by decide) rfl zu_Walls (k := 4) (by decide) rfl zl_Walls_20 zd_Walls_low_19 (o' := 33) rfl ?_
  refine zj_getI rfl (by decide) rfl zu_City (k := 6) (by decide) rfl zl_Walls_117 zd_Walls_low_22 ?_
  exact zj_icmp_ge zd_Walls_low_25 (by decide) (fun h => (zj_weak (L' := [some (.inr (0)), none, some (.inl (x2)), some (.inl (x3)), none, none]) ⟨rfl, ⟨rfl, ⟨rfl, trivial⟩⟩⟩ (kt h))) (fun h => (kf h))
theorem zb_Walls_low_28 {Γ : zG} {σ : zS} {x1 x2 x3 x4 : Int32} {dc : Nat} {P : Int32 → zS → Prop}  (hm : z_Ci dc zm_City_heightOf [.inr (33), .inl (x4)] σ P) (hdp : dc < z_dep Γ) (k : ∀ r σ1, P r σ1 → z_J Γ zm_Walls_low 37 [some (.inr (0)), some (.inl (x1)), some (.inl (x2)), some (.inl (x3)), some (.inl (x4)), none] [.inl (r)] σ1) : z_J Γ zm_Walls_low 28 [some (.inr (0)), some (.inl (x1)), some (.inl (x2)), some (.inl (x3)), some (.inl (x4)), none] [] σ := by
  refine zj_aload_n zd_Walls_low_28 rfl ?_
  refine zj_getR rfl (by decide) rfl zu_Walls (k := 4) (by decide) rfl zl_Walls_20 zd_Walls_low_29 (o' := 33) rfl ?_
  refine zj_iload zd_Walls_low_32 rfl ?_
  exact zj_callVi (As := [.inl (x4)]) hm hdp rfl (by decide) rfl zl_Walls_176 zq_City_heightOf zd_Walls_low_34 rfl (Nat.le_of_ble_eq_true rfl) (fun r σ1 h => (k r σ1 h))
theorem zb_Walls_low_37 {Γ : zG} {σ : zS} {x1 x2 x3 x4 y0 : Int32}  (kt : x1 ≤ y0 → z_J Γ zm_Walls_low 59 [some (.inr (0)), some (.inl (x1)), some (.inl (x2)), some (.inl (x3)), some (.inl (x4)), none] [] σ) (kf : ¬ x1 ≤ y0 → z_J Γ zm_Walls_low 45 [some (.inr (0)), some (.inl (x1)), some (.inl (x2)), some (.inl (x3)), some (.inl (x4)), some (.inl (y0))] [] σ) : z_J Γ zm_Walls_low 37 [some (.inr (0)), some (.inl (x1)), some (.inl (x2)), some (.inl (x3)), some (.inl (x4)), none] [.inl (y0)] σ := by
  refine zj_istore (L' := [some (.inr (0)), some (.inl (x1)), some (.inl (x2)), some (.inl (x3)), some (.inl (x4)), some (.inl (y0))]) zd_Walls_low_37 (by decide) rfl ?_
  refine zj_iload zd_Walls_low_39 rfl ?_
  refine zj_iload_n zd_Walls_low_41 rfl ?_
  exact zj_icmp_ge zd_Walls_low_42 (by decide) (fun h => (zj_weak (L' := [some (.inr (0)), some (.inl (x1)), some (.inl (x2)), some (.inl (x3)), some (.inl (x4)), none]) ⟨rfl, ⟨rfl, ⟨rfl, ⟨rfl, ⟨rfl, trivial⟩⟩⟩⟩⟩ (kt h))) (fun h => (kf h))
theorem zb_Walls_low_45 {Γ : zG} {σ : zS} {x1 x2 x3 x4 x5 : Int32}  (k : z_J Γ zm_Walls_low 59 [some (.inr (0)), some (.inl (x1)), some (.inl (x2 ||| ((nI 1) <<< (x4 &&& 31)))), some (.inl (x3 + (x1 - x5))), some (.inl (x4)), none] [] σ) : z_J Γ zm_Walls_low 45 [some (.inr (0)), some (.inl (x1)), some (.inl (x2)), some (.inl (x3)), some (.inl (x4)), some (.inl (x5))] [] σ := by
  refine zj_iload_n zd_Walls_low_45 rfl ?_
  refine zj_iconst (v := nI 1) zd_Walls_low_46 (by decide) ?_
  refine zj_iload zd_Walls_low_47 rfl ?_
  refine zj_ishl zd_Walls_low_49 ?_
  refine zj_ior zd_Walls_low_50 ?_
  refine zj_istore_n (L' := [some (.inr (0)), some (.inl (x1)), some (.inl (x2 ||| ((nI 1) <<< (x4 &&& 31)))), some (.inl (x3)), some (.inl (x4)), some (.inl (x5))]) zd_Walls_low_51 (by decide) rfl ?_
  refine zj_iload_n zd_Walls_low_52 rfl ?_
  refine zj_iload_n zd_Walls_low_53 rfl ?_
  refine zj_iload zd_Walls_low_54 rfl ?_
  refine zj_isub zd_Walls_low_56 ?_
  refine zj_iadd zd_Walls_low_57 ?_
  refine zj_istore_n (L' := [some (.inr (0)), some (.inl (x1)), some (.inl (x2 ||| ((nI 1) <<< (x4 &&& 31)))), some (.inl (x3 + (x1 - x5))), some (.inl (x4)), some (.inl (x5))]) zd_Walls_low_58 (by decide) rfl ?_
  exact (zj_weak (L' := [some (.inr (0)), some (.inl (x1)), some (.inl (x2 ||| ((nI 1) <<< (x4 &&& 31)))), some (.inl (x3 + (x1 - x5))), some (.inl (x4)), none]) ⟨rfl, ⟨rfl, ⟨rfl, ⟨rfl, ⟨rfl, trivial⟩⟩⟩⟩⟩ k)
theorem zb_Walls_low_59 {Γ : zG} {σ : zS} {x1 x2 x3 x4 : Int32}  (k : z_J Γ zm_Walls_low 16 [some (.inr (0)), some (.inl (x1)), some (.inl (x2)), some (.inl (x3)), some (.inl (x4 + nI 1)), none] [] σ) : z_J Γ zm_Walls_low 59 [some (.inr (0)), some (.inl (x1)), some (.inl (x2)), some (.inl (x3)), some (.inl (x4)), none] [] σ := by
  refine zj_iinc (v := nI 1) (L' := [some (.inr (0)), some (.inl (x1)), some (.inl (x2)), some (.inl (x3)), some (.inl (x4 + nI 1)), none]) zd_Walls_low_59 rfl (by decide) (by decide) rfl ?_
  exact zj_goto zd_Walls_low_62 (by decide) k
theorem zb_Walls_low_65 {Γ : zG} {σ : zS} {x2 x3 : Int32} {dc : Nat} {P : Int32 → zS → Prop}  (hm : z_Ci dc zm_City_leastHeight [.inr (33)] σ P) (hdp : dc < z_dep Γ) (k : ∀ r σ1, P r σ1 → z_J Γ zm_Walls_low 74 [none, none, some (.inl (x2)), none, none, none] [.inl (r), .inl (x3), .inr (0)] σ1) : z_J Γ zm_Walls_low 65 [some (.inr (0)), none, some (.inl (x2)), some (.inl (x3)), none, none] [] σ := by
  refine zj_aload_n zd_Walls_low_65 rfl ?_
  refine zj_iload_n zd_Walls_low_66 rfl ?_
  refine zj_aload_n zd_Walls_low_67 rfl ?_
  refine zj_getR rfl (by decide) rfl zu_Walls (k := 4) (by decide) rfl zl_Walls_20 zd_Walls_low_68 (o' := 33) rfl ?_
  exact zj_callVi (As := []) hm hdp rfl (by decide) rfl zl_Walls_287 zq_City_leastHeight zd_Walls_low_71 rfl (Nat.le_of_ble_eq_true rfl) (fun r σ1 h => (zj_weak (L' := [none, none, some (.inl (x2)), none, none, none]) ⟨rfl, trivial⟩ (k r σ1 h)))
theorem zb_Walls_low_74 {Γ : zG} {σ : zS} {x2 y0 y1 : Int32} {dc : Nat} {P : zS → Prop}  (hm : z_Cv dc zm_Walls_tellTwo [.inr (0), .inl (y1), .inl (y0)] σ P) (hdp : dc < z_dep Γ) (k : ∀ σ1, P σ1 → z_J Γ zm_Walls_low 77 [none, none, some (.inl (x2)), none, none, none] [] σ1) : z_J Γ zm_Walls_low 74 [none, none, some (.inl (x2)), none, none, none] [.inl (y0), .inl (y1), .inr (0)] σ := by
  exact zj_callVv (As := [.inl (y1), .inl (y0)]) hm hdp rfl (by decide) rfl zl_Walls_257 zq_Walls_tellTwo zd_Walls_low_74 rfl (Nat.le_of_ble_eq_true rfl) (fun σ1 h => (k σ1 h))
theorem zb_Walls_low_77 {Γ : zG} {σ : zS} {x2 : Int32}  (e : z_end Γ (some (x2)) σ) : z_J Γ zm_Walls_low 77 [none, none, some (.inl (x2)), none, none, none] [] σ := by
  refine zj_iload_n zd_Walls_low_77 rfl ?_
  exact zj_ireturn rfl zd_Walls_low_78 e
theorem zd_Walls_isHeight_0 : decode zm_Walls_isHeight.2.1 0 = .ok (.iload_n 0, 1) := by decide +kernel
theorem zd_Walls_isHeight_1 : decode zm_Walls_isHeight.2.1 1 = .ok (.ifCond .lt 13, 3) := by decide +kernel
theorem zd_Walls_isHeight_4 : decode zm_Walls_isHeight.2.1 4 = .ok (.iload_n 0, 1) := by decide +kernel
theorem zd_Walls_isHeight_5 : decode zm_Walls_isHeight.2.1 5 = .ok (.bipush 99, 2) := by decide +kernel
theorem zd_Walls_isHeight_7 : decode zm_Walls_isHeight.2.1 7 = .ok (.if_icmp .gt 7, 3) := by decide +kernel
theorem zd_Walls_isHeight_10 : decode zm_Walls_isHeight.2.1 10 = .ok (.iconst 1, 1) := by decide +kernel
theorem zd_Walls_isHeight_11 : decode zm_Walls_isHeight.2.1 11 = .ok (.goto 4, 3) := by decide +kernel
theorem zd_Walls_isHeight_14 : decode zm_Walls_isHeight.2.1 14 = .ok (.iconst 0, 1) := by decide +kernel
theorem zd_Walls_isHeight_15 : decode zm_Walls_isHeight.2.1 15 = .ok (.ireturn, 1) := by decide +kernel
theorem zb_Walls_isHeight_0 {Γ : zG} {σ : zS} {x0 : Int32}  (kt : x0 < 0 → z_J Γ zm_Walls_isHeight 14 [none] [] σ) (kf : ¬ x0 < 0 → z_J Γ zm_Walls_isHeight 4 [some (.inl (x0))] [] σ) : z_J Γ zm_Walls_isHeight 0 [some (.inl (x0))] [] σ := by
  refine zj_iload_n zd_Walls_isHeight_0 rfl ?_
  exact zj_if_lt zd_Walls_isHeight_1 (by decide) (fun h => (zj_weak (L' := [none]) trivial (kt h))) (fun h => (kf h))
theorem zb_Walls_isHeight_4 {Γ : zG} {σ : zS} {x0 : Int32}  (kt : (nI 99) < x0 → z_J Γ zm_Walls_isHeight 14 [none] [] σ) (kf : ¬ (nI 99) < x0 → z_J Γ zm_Walls_isHeight 10 [none] [] σ) : z_J Γ zm_Walls_isHeight 4 [some (.inl (x0))] [] σ := by
  refine zj_iload_n zd_Walls_isHeight_4 rfl ?_
  refine zj_bipush (v := nI 99) zd_Walls_isHeight_5 (by decide) ?_
  exact zj_icmp_gt zd_Walls_isHeight_7 (by decide) (fun h => (zj_weak (L' := [none]) trivial (kt h))) (fun h => (zj_weak (L' := [none]) trivial (kf h)))
theorem zb_Walls_isHeight_10 {Γ : zG} {σ : zS}  (k : z_J Γ zm_Walls_isHeight 15 [none] [.inl (nI 1)] σ) : z_J Γ zm_Walls_isHeight 10 [none] [] σ := by
  refine zj_iconst (v := nI 1) zd_Walls_isHeight_10 (by decide) ?_
  exact zj_goto zd_Walls_isHeight_11 (by decide) k
theorem zb_Walls_isHeight_14 {Γ : zG} {σ : zS}  (k : z_J Γ zm_Walls_isHeight 15 [none] [.inl (nI 0)] σ) : z_J Γ zm_Walls_isHeight 14 [none] [] σ := by
  refine zj_iconst (v := nI 0) zd_Walls_isHeight_14 (by decide) ?_
  exact k
theorem zb_Walls_isHeight_15 {Γ : zG} {σ : zS} {y0 : Int32}  (e : z_end Γ (some (y0)) σ) (z1 : y0 = 0 ∨ y0 = 1) : z_J Γ zm_Walls_isHeight 15 [none] [.inl (y0)] σ := by
  exact zj_zreturn rfl z1 zd_Walls_isHeight_15 e
theorem zd_Walls_weakest_0 : decode zm_Walls_weakest.2.1 0 = .ok (.iconst (-1), 1) := by decide +kernel
theorem zd_Walls_weakest_1 : decode zm_Walls_weakest.2.1 1 = .ok (.istore_n 1, 1) := by decide +kernel
theorem zd_Walls_weakest_2 : decode zm_Walls_weakest.2.1 2 = .ok (.iconst 0, 1) := by decide +kernel
theorem zd_Walls_weakest_3 : decode zm_Walls_weakest.2.1 3 = .ok (.istore_n 2, 1) := by decide +kernel
theorem zd_Walls_weakest_4 : decode zm_Walls_weakest.2.1 4 = .ok (.iconst 0, 1) := by decide +kernel
theorem zd_Walls_weakest_5 : decode zm_Walls_weakest.2.1 5 = .ok (.istore_n 3, 1) := by decide +kernel
theorem zd_Walls_weakest_6 : decode zm_Walls_weakest.2.1 6 = .ok (.iload_n 3, 1) := by decide +kernel
theorem zd_Walls_weakest_7 : decode zm_Walls_weakest.2.1 7 = .ok (.aload_n 0, 1) := by decide +kernel
theorem zd_Walls_weakest_8 : decode zm_Walls_weakest.2.1 8 = .ok (.getfield 20, 3) := by decide +kernel
theorem zd_Walls_weakest_11 : decode zm_Walls_weakest.2.1 11 = .ok (.getfield 210, 3) := by decide +kernel
theorem zd_Walls_weakest_14 : decode zm_Walls_weakest.2.1 14 = .ok (.if_icmp .ge 51, 3) := by decide +kernel
theorem zd_Walls_weakest_17 : decode zm_Walls_weakest.2.1 17 = .ok (.aload_n 0, 1) := by decide +kernel
theorem zd_Walls_weakest_18 : decode zm_Walls_weakest.2.1 18 = .ok (.getfield 20, 3) := by decide +kernel
theorem zd_Walls_weakest_21 : decode zm_Walls_weakest.2.1 21 = .ok (.getfield 153, 3) := by decide +kernel
theorem zd_Walls_weakest_24 : decode zm_Walls_weakest.2.1 24 = .ok (.iload_n 3, 1) := by decide +kernel
theorem zd_Walls_weakest_25 : decode zm_Walls_weakest.2.1 25 = .ok (.iaload, 1) := by decide +kernel
theorem zd_Walls_weakest_26 : decode zm_Walls_weakest.2.1 26 = .ok (.iconst 1, 1) := by decide +kernel
theorem zd_Walls_weakest_27 : decode zm_Walls_weakest.2.1 27 = .ok (.if_icmp .eq 6, 3) := by decide +kernel
theorem zd_Walls_weakest_30 : decode zm_Walls_weakest.2.1 30 = .ok (.goto 29, 3) := by decide +kernel
theorem zd_Walls_weakest_33 : decode zm_Walls_weakest.2.1 33 = .ok (.aload_n 0, 1) := by decide +kernel
theorem zd_Walls_weakest_34 : decode zm_Walls_weakest.2.1 34 = .ok (.getfield 20, 3) := by decide +kernel
theorem zd_Walls_weakest_37 : decode zm_Walls_weakest.2.1 37 = .ok (.iload_n 3, 1) := by decide +kernel
theorem zd_Walls_weakest_38 : decode zm_Walls_weakest.2.1 38 = .ok (.invokevirtual 290, 3) := by decide +kernel
theorem zd_Walls_weakest_41 : decode zm_Walls_weakest.2.1 41 = .ok (.istore 4, 2) := by decide +kernel
theorem zd_Walls_weakest_43 : decode zm_Walls_weakest.2.1 43 = .ok (.iload_n 1, 1) := by decide +kernel
theorem zd_Walls_weakest_44 : decode zm_Walls_weakest.2.1 44 = .ok (.iconst (-1), 1) := by decide +kernel
theorem zd_Walls_weakest_45 : decode zm_Walls_weakest.2.1 45 = .ok (.if_icmp .eq 9, 3) := by decide +kernel
theorem zd_Walls_weakest_48 : decode zm_Walls_weakest.2.1 48 = .ok (.iload 4, 2) := by decide +kernel
theorem zd_Walls_weakest_50 : decode zm_Walls_weakest.2.1 50 = .ok (.iload_n 2, 1) := by decide +kernel
theorem zd_Walls_weakest_51 : decode zm_Walls_weakest.2.1 51 = .ok (.if_icmp .ge 8, 3) := by decide +kernel
theorem zd_Walls_weakest_54 : decode zm_Walls_weakest.2.1 54 = .ok (.iload_n 3, 1) := by decide +kernel
theorem zd_Walls_weakest_55 : decode zm_Walls_weakest.2.1 55 = .ok (.istore_n 1, 1) := by decide +kernel
theorem zd_Walls_weakest_56 : decode zm_Walls_weakest.2.1 56 = .ok (.iload 4, 2) := by decide +kernel
theorem zd_Walls_weakest_58 : decode zm_Walls_weakest.2.1 58 = .ok (.istore_n 2, 1) := by decide +kernel
theorem zd_Walls_weakest_59 : decode zm_Walls_weakest.2.1 59 = .ok (.iinc 3 1, 3) := by decide +kernel
theorem zd_Walls_weakest_62 : decode zm_Walls_weakest.2.1 62 = .ok (.goto (-56), 3) := by decide +kernel
theorem zd_Walls_weakest_65 : decode zm_Walls_weakest.2.1 65 = .ok (.iload_n 1, 1) := by decide +kernel
theorem zd_Walls_weakest_66 : decode zm_Walls_weakest.2.1 66 = .ok (.iconst (-1), 1) := by decide +kernel
theorem zd_Walls_weakest_67 : decode zm_Walls_weakest.2.1 67 = .ok (.if_icmp .ne 6, 3) := by decide +kernel
theorem zd_Walls_weakest_70 : decode zm_Walls_weakest.2.1 70 = .ok (.bipush (-2), 2) := by decide +kernel
theorem zd_Walls_weakest_72 : decode zm_Walls_weakest.2.1 72 = .ok (.ireturn, 1) := by decide +kernel
theorem zd_Walls_weakest_73 : decode zm_Walls_weakest.2.1 73 = .ok (.aload_n 0, 1) := by decide +kernel
theorem zd_Walls_weakest_74 : decode zm_Walls_weakest.2.1 74 = .ok (.iload_n 2, 1) := by decide +kernel
theorem zd_Walls_weakest_75 : decode zm_Walls_weakest.2.1 75 = .ok (.aload_n 0, 1) := by decide +kernel
theorem zd_Walls_weakest_76 : decode zm_Walls_weakest.2.1 76 = .ok (.getfield 20, 3) := by decide +kernel
theorem zd_Walls_weakest_79 : decode zm_Walls_weakest.2.1 79 = .ok (.invokevirtual 287, 3) := by decide +kernel
theorem zd_Walls_weakest_82 : decode zm_Walls_weakest.2.1 82 = .ok (.invokevirtual 257, 3) := by decide +kernel
theorem zd_Walls_weakest_85 : decode zm_Walls_weakest.2.1 85 = .ok (.iload_n 1, 1) := by decide +kernel
theorem zd_Walls_weakest_86 : decode zm_Walls_weakest.2.1 86 = .ok (.ireturn, 1) := by decide +kernel
theorem zb_Walls_weakest_0 {Γ : zG} {σ : zS}  (k : z_J Γ zm_Walls_weakest 6 [some (.inr (0)), some (.inl ((-1))), some (.inl (nI 0)), some (.inl (nI 0)), none] [] σ) : z_J Γ zm_Walls_weakest 0 [some (.inr (0)), none, none, none, none] [] σ := by
  refine zj_iconst (v := (-1)) zd_Walls_weakest_0 (by decide) ?_
  refine zj_istore_n (L' := [some (.inr (0)), some (.inl ((-1))), none, none, none]) zd_Walls_weakest_1 (by decide) rfl ?_
  refine zj_iconst (v := nI 0) zd_Walls_weakest_2 (by decide) ?_
  refine zj_istore_n (L' := [some (.inr (0)), some (.inl ((-1))), some (.inl (nI 0)), none, none]) zd_Walls_weakest_3 (by decide) rfl ?_
  refine zj_iconst (v := nI 0) zd_Walls_weakest_4 (by decide) ?_
  refine zj_istore_n (L' := [some (.inr (0)), some (.inl ((-1))), some (.inl (nI 0)), some (.inl (nI 0)), none]) zd_Walls_weakest_5 (by decide) rfl ?_
  exact k
theorem zb_Walls_weakest_6 {Γ : zG} {σ : zS} {x1 x2 x3 : Int32}  (kt : (σ.1 33 0) ≤ x3 → z_J Γ zm_Walls_weakest 65 [some (.inr (0)), some (.inl (x1)), some (.inl (x2)), none, none] [] σ) (kf : ¬ (σ.1 33 0) ≤ x3 → z_J Γ zm_Walls_weakest 17 [some (.inr (0)), some (.inl (x1)), some (.inl (x2)), some (.inl (x3)), none] [] σ) : z_J Γ zm_Walls_weakest 6 [some (.inr (0)), some (.inl (x1)), some (.inl (x2)), some (.inl (x3)), none] [] σ := by
  refine zj_iload_n zd_Walls_weakest_6 rfl ?_
  refine zj_aload_n zd_Walls_weakest_7 rfl ?_
  refine zj_getR rfl (by decide) rfl zu_Walls (k := 4) (by decide) rfl zl_Walls_20 zd_Walls_weakest_8 (o' := 33) rfl ?_
  refine zj_getI rfl (by decide) rfl zu_City (k := 0) (by decide) rfl zl_Walls_210 zd_Walls_weakest_11 ?_
  exact zj_icmp_ge zd_Walls_weakest_14 (by decide) (fun h => (zj_weak (L' := [some (.inr (0)), some (.inl (x1)), some (.inl (x2)), none, none]) ⟨rfl, ⟨rfl, ⟨rfl, trivial⟩⟩⟩ (kt h))) (fun h => (kf h))
theorem zb_Walls_weakest_17 {Γ : zG} {σ : zS} {x1 x2 x3 : Int32} {k1 : Nat}  (b1 : z_ix x3 12 k1) (kt : (σ.1 36 k1) = (nI 1) → z_J Γ zm_Walls_weakest 33 [some (.inr (0)), some (.inl (x1)), some (.inl (x2)), some (.inl (x3)), none] [] σ) (kf : ¬ (σ.1 36 k1) = (nI 1) → z_J Γ zm_Walls_weakest 30 [some (.inr (0)), some (.inl (x1)), some (.inl (x2)), some (.inl (x3)), none] [] σ) : z_J Γ zm_Walls_weakest 17 [some (.inr (0)), some (.inl (x1)), some (.inl (x2)), some (.inl (x3)), none] [] σ := by
  refine zj_aload_n zd_Walls_weakest_17 rfl ?_
  refine zj_getR rfl (by decide) rfl zu_Walls (k := 4) (by decide) rfl zl_Walls_20 zd_Walls_weakest_18 (o' := 33) rfl ?_
  refine zj_getR rfl (by decide) rfl zu_City (k := 3) (by decide) rfl zl_Walls_153 zd_Walls_weakest_21 (o' := 36) rfl ?_
  refine zj_iload_n zd_Walls_weakest_24 rfl ?_
  refine zj_iaload rfl (by decide) b1 zd_Walls_weakest_25 ?_
  refine zj_iconst (v := nI 1) zd_Walls_weakest_26 (by decide) ?_
  exact zj_icmp_eq zd_Walls_weakest_27 (by decide) (fun h => (kt h)) (fun h => (kf h))
theorem zb_Walls_weakest_30 {Γ : zG} {σ : zS} {x1 x2 x3 : Int32}  (k : z_J Γ zm_Walls_weakest 59 [some (.inr (0)), some (.inl (x1)), some (.inl (x2)), some (.inl (x3)), none] [] σ) : z_J Γ zm_Walls_weakest 30 [some (.inr (0)), some (.inl (x1)), some (.inl (x2)), some (.inl (x3)), none] [] σ := by
  exact zj_goto zd_Walls_weakest_30 (by decide) k
theorem zb_Walls_weakest_33 {Γ : zG} {σ : zS} {x1 x2 x3 : Int32} {dc : Nat} {P : Int32 → zS → Prop}  (hm : z_Ci dc zm_City_leastHeightWithout [.inr (33), .inl (x3)] σ P) (hdp : dc < z_dep Γ) (k : ∀ r σ1, P r σ1 → z_J Γ zm_Walls_weakest 41 [some (.inr (0)), some (.inl (x1)), some (.inl (x2)), some (.inl (x3)), none] [.inl (r)] σ1) : z_J Γ zm_Walls_weakest 33 [some (.inr (0)), some (.inl (x1)), some (.inl (x2)), some (.inl (x3)), none] [] σ := by
  refine zj_aload_n zd_Walls_weakest_33 rfl ?_
  refine zj_getR rfl (by decide) rfl zu_Walls (k := 4) (by decide) rfl zl_Walls_20 zd_Walls_weakest_34 (o' := 33) rfl ?_
  refine zj_iload_n zd_Walls_weakest_37 rfl ?_
  exact zj_callVi (As := [.inl (x3)]) hm hdp rfl (by decide) rfl zl_Walls_290 zq_City_leastHeightWithout zd_Walls_weakest_38 rfl (Nat.le_of_ble_eq_true rfl) (fun r σ1 h => (k r σ1 h))
theorem zb_Walls_weakest_41 {Γ : zG} {σ : zS} {x1 x2 x3 y0 : Int32}  (kt : x1 = (-1) → z_J Γ zm_Walls_weakest 54 [some (.inr (0)), none, none, some (.inl (x3)), some (.inl (y0))] [] σ) (kf : ¬ x1 = (-1) → z_J Γ zm_Walls_weakest 48 [some (.inr (0)), some (.inl (x1)), some (.inl (x2)), some (.inl (x3)), some (.inl (y0))] [] σ) : z_J Γ zm_Walls_weakest 41 [some (.inr (0)), some (.inl (x1)), some (.inl (x2)), some (.inl (x3)), none] [.inl (y0)] σ := by
  refine zj_istore (L' := [some (.inr (0)), some (.inl (x1)), some (.inl (x2)), some (.inl (x3)), some (.inl (y0))]) zd_Walls_weakest_41 (by decide) rfl ?_
  refine zj_iload_n zd_Walls_weakest_43 rfl ?_
  refine zj_iconst (v := (-1)) zd_Walls_weakest_44 (by decide) ?_
  exact zj_icmp_eq zd_Walls_weakest_45 (by decide) (fun h => (zj_weak (L' := [some (.inr (0)), none, none, some (.inl (x3)), some (.inl (y0))]) ⟨rfl, ⟨rfl, ⟨rfl, trivial⟩⟩⟩ (kt h))) (fun h => (kf h))
theorem zb_Walls_weakest_48 {Γ : zG} {σ : zS} {x1 x2 x3 x4 : Int32}  (kt : x2 ≤ x4 → z_J Γ zm_Walls_weakest 59 [some (.inr (0)), some (.inl (x1)), some (.inl (x2)), some (.inl (x3)), none] [] σ) (kf : ¬ x2 ≤ x4 → z_J Γ zm_Walls_weakest 54 [some (.inr (0)), none, none, some (.inl (x3)), some (.inl (x4))] [] σ) : z_J Γ zm_Walls_weakest 48 [some (.inr (0)), some (.inl (x1)), some (.inl (x2)), some (.inl (x3)), some (.inl (x4))] [] σ := by
  refine zj_iload zd_Walls_weakest_48 rfl ?_
  refine zj_iload_n zd_Walls_weakest_50 rfl ?_
  exact zj_icmp_ge zd_Walls_weakest_51 (by decide) (fun h => (zj_weak (L' := [some (.inr (0)), some (.inl (x1)), some (.inl (x2)), some (.inl (x3)), none]) ⟨rfl, ⟨rfl, ⟨rfl, ⟨rfl, trivial⟩⟩⟩⟩ (kt h))) (fun h => (zj_weak (L' := [some (.inr (0)), none, none, some (.inl (x3)), some (.inl (x4))]) ⟨rfl, ⟨rfl, ⟨rfl, trivial⟩⟩⟩ (kf h)))
theorem zb_Walls_weakest_54 {Γ : zG} {σ : zS} {x3 x4 : Int32}  (k : z_J Γ zm_Walls_weakest 59 [some (.inr (0)), some (.inl (x3)), some (.inl (x4)), some (.inl (x3)), none] [] σ) : z_J Γ zm_Walls_weakest 54 [some (.inr (0)), none, none, some (.inl (x3)), some (.inl (x4))] [] σ := by
  refine zj_iload_n zd_Walls_weakest_54 rfl ?_
  refine zj_istore_n (L' := [some (.inr (0)), some (.inl (x3)), none, some (.inl (x3)), some (.inl (x4))]) zd_Walls_weakest_55 (by decide) rfl ?_
  refine zj_iload zd_Walls_weakest_56 rfl ?_
  refine zj_istore_n (L' := [some (.inr (0)), some (.inl (x3)), some (.inl (x4)), some (.inl (x3)), some (.inl (x4))]) zd_Walls_weakest_58 (by decide) rfl ?_
  exact (zj_weak (L' := [some (.inr (0)), some (.inl (x3)), some (.inl (x4)), some (.inl (x3)), none]) ⟨rfl, ⟨rfl, ⟨rfl, ⟨rfl, trivial⟩⟩⟩⟩ k)
theorem zb_Walls_weakest_59 {Γ : zG} {σ : zS} {x1 x2 x3 : Int32}  (k : z_J Γ zm_Walls_weakest 6 [some (.inr (0)), some (.inl (x1)), some (.inl (x2)), some (.inl (x3 + nI 1)), none] [] σ) : z_J Γ zm_Walls_weakest 59 [some (.inr (0)), some (.inl (x1)), some (.inl (x2)), some (.inl (x3)), none] [] σ := by
  refine zj_iinc (v := nI 1) (L' := [some (.inr (0)), some (.inl (x1)), some (.inl (x2)), some (.inl (x3 + nI 1)), none]) zd_Walls_weakest_59 rfl (by decide) (by decide) rfl ?_
  exact zj_goto zd_Walls_weakest_62 (by decide) k
theorem zb_Walls_weakest_65 {Γ : zG} {σ : zS} {x1 x2 : Int32}  (kt : ¬ x1 = (-1) → z_J Γ zm_Walls_weakest 73 [some (.inr (0)), some (.inl (x1)), some (.inl (x2)), none, none] [] σ) (kf : x1 = (-1) → z_J Γ zm_Walls_weakest 70 [none, none, none, none, none] [] σ) : z_J Γ zm_Walls_weakest 65 [some (.inr (0)), some (.inl (x1)), some (.inl (x2)), none, none] [] σ := by
  refine zj_iload_n zd_Walls_weakest_65 rfl ?_
  refine zj_iconst (v := (-1)) zd_Walls_weakest_66 (by decide) ?_
  exact zj_icmp_ne zd_Walls_weakest_67 (by decide) (fun h => (kt h)) (fun h => (zj_weak (L' := [none, none, none, none, none]) trivial (kf h)))
theorem zb_Walls_weakest_70 {Γ : zG} {σ : zS}  (e : z_end Γ (some ((-2))) σ) : z_J Γ zm_Walls_weakest 70 [none, none, none, none, none] [] σ := by
  refine zj_bipush (v := (-2)) zd_Walls_weakest_70 (by decide) ?_
  exact zj_ireturn rfl zd_Walls_weakest_72 e
theorem zb_Walls_weakest_73 {Γ : zG} {σ : zS} {x1 x2 : Int32} {dc : Nat} {P : Int32 → zS → Prop}  (hm : z_Ci dc zm_City_leastHeight [.inr (33)] σ P) (hdp : dc < z_dep Γ) (k : ∀ r σ1, P r σ1 → z_J Γ zm_Walls_weakest 82 [none, some (.inl (x1)), none, none, none] [.inl (r), .inl (x2), .inr (0)] σ1) : z_J Γ zm_Walls_weakest 73 [some (.inr (0)), some (.inl (x1)), some (.inl (x2)), none, none] [] σ := by
  refine zj_aload_n zd_Walls_weakest_73 rfl ?_
  refine zj_iload_n zd_Walls_weakest_74 rfl ?_
  refine zj_aload_n zd_Walls_weakest_75 rfl ?_
  refine zj_getR rfl (by decide) rfl zu_Walls (k := 4) (by decide) rfl zl_Walls_20 zd_Walls_weakest_76 (o' := 33) rfl ?_
  exact zj_callVi (As := []) hm hdp rfl (by decide) rfl zl_Walls_287 zq_City_leastHeight zd_Walls_weakest_79 rfl (Nat.le_of_ble_eq_true rfl) (fun r σ1 h => (zj_weak (L' := [none, some (.inl (x1)), none, none, none]) ⟨rfl, trivial⟩ (k r σ1 h)))
theorem zb_Walls_weakest_82 {Γ : zG} {σ : zS} {x1 y0 y1 : Int32} {dc : Nat} {P : zS → Prop}  (hm : z_Cv dc zm_Walls_tellTwo [.inr (0), .inl (y1), .inl (y0)] σ P) (hdp : dc < z_dep Γ) (k : ∀ σ1, P σ1 → z_J Γ zm_Walls_weakest 85 [none, some (.inl (x1)), none, none, none] [] σ1) : z_J Γ zm_Walls_weakest 82 [none, some (.inl (x1)), none, none, none] [.inl (y0), .inl (y1), .inr (0)] σ := by
  exact zj_callVv (As := [.inl (y1), .inl (y0)]) hm hdp rfl (by decide) rfl zl_Walls_257 zq_Walls_tellTwo zd_Walls_weakest_82 rfl (Nat.le_of_ble_eq_true rfl) (fun σ1 h => (k σ1 h))
theorem zb_Walls_weakest_85 {Γ : zG} {σ : zS} {x1 : Int32}  (e : z_end Γ (some (x1)) σ) : z_J Γ zm_Walls_weakest 85 [none, some (.inl (x1)), none, none, none] [] σ := by
  refine zj_iload_n zd_Walls_weakest_85 rfl ?_
  exact zj_ireturn rfl zd_Walls_weakest_86 e
theorem zd_Walls_room_0 : decode zm_Walls_room.2.1 0 = .ok (.aload_n 0, 1) := by decide +kernel
theorem zd_Walls_room_1 : decode zm_Walls_room.2.1 1 = .ok (.getfield 20, 3) := by decide +kernel
theorem zd_Walls_room_4 : decode zm_Walls_room.2.1 4 = .ok (.iload_n 1, 1) := by decide +kernel
theorem zd_Walls_room_5 : decode zm_Walls_room.2.1 5 = .ok (.invokevirtual 171, 3) := by decide +kernel
theorem zd_Walls_room_8 : decode zm_Walls_room.2.1 8 = .ok (.ifCond .ne 5, 3) := by decide +kernel
theorem zd_Walls_room_11 : decode zm_Walls_room.2.1 11 = .ok (.iconst (-1), 1) := by decide +kernel
theorem zd_Walls_room_12 : decode zm_Walls_room.2.1 12 = .ok (.ireturn, 1) := by decide +kernel
theorem zd_Walls_room_13 : decode zm_Walls_room.2.1 13 = .ok (.aload_n 0, 1) := by decide +kernel
theorem zd_Walls_room_14 : decode zm_Walls_room.2.1 14 = .ok (.getfield 20, 3) := by decide +kernel
theorem zd_Walls_room_17 : decode zm_Walls_room.2.1 17 = .ok (.iload_n 1, 1) := by decide +kernel
theorem zd_Walls_room_18 : decode zm_Walls_room.2.1 18 = .ok (.aload_n 0, 1) := by decide +kernel
theorem zd_Walls_room_19 : decode zm_Walls_room.2.1 19 = .ok (.getfield 30, 3) := by decide +kernel
theorem zd_Walls_room_22 : decode zm_Walls_room.2.1 22 = .ok (.invokevirtual 185, 3) := by decide +kernel
theorem zd_Walls_room_25 : decode zm_Walls_room.2.1 25 = .ok (.ifCond .ne 6, 3) := by decide +kernel
theorem zd_Walls_room_28 : decode zm_Walls_room.2.1 28 = .ok (.bipush (-2), 2) := by decide +kernel
theorem zd_Walls_room_30 : decode zm_Walls_room.2.1 30 = .ok (.ireturn, 1) := by decide +kernel
theorem zd_Walls_room_31 : decode zm_Walls_room.2.1 31 = .ok (.sipush 999, 3) := by decide +kernel
theorem zd_Walls_room_34 : decode zm_Walls_room.2.1 34 = .ok (.istore_n 2, 1) := by decide +kernel
theorem zd_Walls_room_35 : decode zm_Walls_room.2.1 35 = .ok (.iconst (-1), 1) := by decide +kernel
theorem zd_Walls_room_36 : decode zm_Walls_room.2.1 36 = .ok (.istore_n 3, 1) := by decide +kernel
theorem zd_Walls_room_37 : decode zm_Walls_room.2.1 37 = .ok (.iconst 0, 1) := by decide +kernel
theorem zd_Walls_room_38 : decode zm_Walls_room.2.1 38 = .ok (.istore 4, 2) := by decide +kernel
theorem zd_Walls_room_40 : decode zm_Walls_room.2.1 40 = .ok (.aload_n 0, 1) := by decide +kernel
theorem zd_Walls_room_41 : decode zm_Walls_room.2.1 41 = .ok (.getfield 20, 3) := by decide +kernel
theorem zd_Walls_room_44 : decode zm_Walls_room.2.1 44 = .ok (.getfield 179, 3) := by decide +kernel
theorem zd_Walls_room_47 : decode zm_Walls_room.2.1 47 = .ok (.iload_n 1, 1) := by decide +kernel
theorem zd_Walls_room_48 : decode zm_Walls_room.2.1 48 = .ok (.iaload, 1) := by decide +kernel
theorem zd_Walls_room_49 : decode zm_Walls_room.2.1 49 = .ok (.iconst 1, 1) := by decide +kernel
theorem zd_Walls_room_50 : decode zm_Walls_room.2.1 50 = .ok (.isub, 1) := by decide +kernel
theorem zd_Walls_room_51 : decode zm_Walls_room.2.1 51 = .ok (.istore 5, 2) := by decide +kernel
theorem zd_Walls_room_53 : decode zm_Walls_room.2.1 53 = .ok (.iload 5, 2) := by decide +kernel
theorem zd_Walls_room_55 : decode zm_Walls_room.2.1 55 = .ok (.ifCond .lt 72, 3) := by decide +kernel
theorem zd_Walls_room_58 : decode zm_Walls_room.2.1 58 = .ok (.aload_n 0, 1) := by decide +kernel
theorem zd_Walls_room_59 : decode zm_Walls_room.2.1 59 = .ok (.getfield 20, 3) := by decide +kernel
theorem zd_Walls_room_62 : decode zm_Walls_room.2.1 62 = .ok (.iload_n 1, 1) := by decide +kernel
theorem zd_Walls_room_63 : decode zm_Walls_room.2.1 63 = .ok (.iload 5, 2) := by decide +kernel
theorem zd_Walls_room_65 : decode zm_Walls_room.2.1 65 = .ok (.invokevirtual 293, 3) := by decide +kernel
theorem zd_Walls_room_68 : decode zm_Walls_room.2.1 68 = .ok (.istore 6, 2) := by decide +kernel
theorem zd_Walls_room_70 : decode zm_Walls_room.2.1 70 = .ok (.aload_n 0, 1) := by decide +kernel
theorem zd_Walls_room_71 : decode zm_Walls_room.2.1 71 = .ok (.getfield 20, 3) := by decide +kernel
theorem zd_Walls_room_74 : decode zm_Walls_room.2.1 74 = .ok (.iload_n 1, 1) := by decide +kernel
theorem zd_Walls_room_75 : decode zm_Walls_room.2.1 75 = .ok (.iload 5, 2) := by decide +kernel
theorem zd_Walls_room_77 : decode zm_Walls_room.2.1 77 = .ok (.aload_n 0, 1) := by decide +kernel
theorem zd_Walls_room_78 : decode zm_Walls_room.2.1 78 = .ok (.getfield 30, 3) := by decide +kernel
theorem zd_Walls_room_81 : decode zm_Walls_room.2.1 81 = .ok (.invokevirtual 165, 3) := by decide +kernel
theorem zd_Walls_room_84 : decode zm_Walls_room.2.1 84 = .ok (.iload 4, 2) := by decide +kernel
theorem zd_Walls_room_86 : decode zm_Walls_room.2.1 86 = .ok (.isub, 1) := by decide +kernel
theorem zd_Walls_room_87 : decode zm_Walls_room.2.1 87 = .ok (.istore 7, 2) := by decide +kernel
theorem zd_Walls_room_89 : decode zm_Walls_room.2.1 89 = .ok (.iload_n 3, 1) := by decide +kernel
theorem zd_Walls_room_90 : decode zm_Walls_room.2.1 90 = .ok (.iconst (-1), 1) := by decide +kernel
theorem zd_Walls_room_91 : decode zm_Walls_room.2.1 91 = .ok (.if_icmp .eq 9, 3) := by decide +kernel
theorem zd_Walls_room_94 : decode zm_Walls_room.2.1 94 = .ok (.iload 7, 2) := by decide +kernel
theorem zd_Walls_room_96 : decode zm_Walls_room.2.1 96 = .ok (.iload_n 2, 1) := by decide +kernel
theorem zd_Walls_room_97 : decode zm_Walls_room.2.1 97 = .ok (.if_icmp .ge 9, 3) := by decide +kernel
theorem zd_Walls_room_100 : decode zm_Walls_room.2.1 100 = .ok (.iload 7, 2) := by decide +kernel
theorem zd_Walls_room_102 : decode zm_Walls_room.2.1 102 = .ok (.istore_n 2, 1) := by decide +kernel
theorem zd_Walls_room_103 : decode zm_Walls_room.2.1 103 = .ok (.iload 6, 2) := by decide +kernel
theorem zd_Walls_room_105 : decode zm_Walls_room.2.1 105 = .ok (.istore_n 3, 1) := by decide +kernel
theorem zd_Walls_room_106 : decode zm_Walls_room.2.1 106 = .ok (.iload 4, 2) := by decide +kernel
theorem zd_Walls_room_108 : decode zm_Walls_room.2.1 108 = .ok (.aload_n 0, 1) := by decide +kernel
theorem zd_Walls_room_109 : decode zm_Walls_room.2.1 109 = .ok (.getfield 20, 3) := by decide +kernel
theorem zd_Walls_room_112 : decode zm_Walls_room.2.1 112 = .ok (.getfield 150, 3) := by decide +kernel
theorem zd_Walls_room_115 : decode zm_Walls_room.2.1 115 = .ok (.iload 6, 2) := by decide +kernel
theorem zd_Walls_room_117 : decode zm_Walls_room.2.1 117 = .ok (.iaload, 1) := by decide +kernel
theorem zd_Walls_room_118 : decode zm_Walls_room.2.1 118 = .ok (.iadd, 1) := by decide +kernel
theorem zd_Walls_room_119 : decode zm_Walls_room.2.1 119 = .ok (.istore 4, 2) := by decide +kernel
theorem zd_Walls_room_121 : decode zm_Walls_room.2.1 121 = .ok (.iinc 5 (-1), 3) := by decide +kernel
theorem zd_Walls_room_124 : decode zm_Walls_room.2.1 124 = .ok (.goto (-71), 3) := by decide +kernel
theorem zd_Walls_room_127 : decode zm_Walls_room.2.1 127 = .ok (.aload_n 0, 1) := by decide +kernel
theorem zd_Walls_room_128 : decode zm_Walls_room.2.1 128 = .ok (.iload_n 3, 1) := by decide +kernel
theorem zd_Walls_room_129 : decode zm_Walls_room.2.1 129 = .ok (.invokevirtual 242, 3) := by decide +kernel
theorem zd_Walls_room_132 : decode zm_Walls_room.2.1 132 = .ok (.iload_n 2, 1) := by decide +kernel
theorem zd_Walls_room_133 : decode zm_Walls_room.2.1 133 = .ok (.ireturn, 1) := by decide +kernel
theorem zb_Walls_room_0 {Γ : zG} {σ : zS} {x1 : Int32} {dc : Nat} {P : Int32 → zS → Prop}  (hm : z_Ci dc zm_City_isColumn [.inr (33), .inl (x1)] σ P) (hdp : dc < z_dep Γ) (k : ∀ r σ1, P r σ1 → z_J Γ zm_Walls_room 8 [some (.inr (0)), some (.inl (x1)), none, none, none, none, none, none] [.inl (r)] σ1) : z_J Γ zm_Walls_room 0 [some (.inr (0)), some (.inl (x1)), none, none, none, none, none, none] [] σ := by
  refine zj_aload_n zd_Walls_room_0 rfl ?_
  refine zj_getR rfl (by decide) rfl zu_Walls (k := 4) (by decide) rfl zl_Walls_20 zd_Walls_room_1 (o' := 33) rfl ?_
  refine zj_iload_n zd_Walls_room_4 rfl ?_
  exact zj_callVi (As := [.inl (x1)]) hm hdp rfl (by decide) rfl zl_Walls_171 zq_City_isColumn zd_Walls_room_5 rfl (Nat.le_of_ble_eq_true rfl) (fun r σ1 h => (k r σ1 h))
theorem zb_Walls_room_8 {Γ : zG} {σ : zS} {x1 y0 : Int32}  (kt : ¬ y0 = 0 → z_J Γ zm_Walls_room 13 [some (.inr (0)), some (.inl (x1)), none, none, none, none, none, none] [] σ) (kf : y0 = 0 → z_J Γ zm_Walls_room 11 [none, none, none, none, none, none, none, none] [] σ) : z_J Γ zm_Walls_room 8 [some (.inr (0)), some (.inl (x1)), none, none, none, none, none, none] [.inl (y0)] σ := by
  exact zj_if_ne zd_Walls_room_8 (by decide) (fun h => (kt h)) (fun h => (zj_weak (L' := [none, none, none, none, none, none, none, none]) trivial (kf h)))
theorem zb_Walls_room_11 {Γ : zG} {σ : zS}  (e : z_end Γ (some ((-1))) σ) : z_J Γ zm_Walls_room 11 [none, none, none, none, none, none, none, none] [] σ := by
  refine zj_iconst (v := (-1)) zd_Walls_room_11 (by decide) ?_
  exact zj_ireturn rfl zd_Walls_room_12 e
theorem zb_Walls_room_13 {Γ : zG} {σ : zS} {x1 : Int32} {dc : Nat} {P : Int32 → zS → Prop}  (m1 : z_oR (σ.2 0 6)) (hm : z_Ci dc zm_City_holdsUp [.inr (33), .inl (x1), .inr (σ.2 0 6)] σ P) (hdp : dc < z_dep Γ) (k : ∀ r σ1, P r σ1 → z_J Γ zm_Walls_room 25 [some (.inr (0)), some (.inl (x1)), none, none, none, none, none, none] [.inl (r)] σ1) : z_J Γ zm_Walls_room 13 [some (.inr (0)), some (.inl (x1)), none, none, none, none, none, none] [] σ := by
  refine zj_aload_n zd_Walls_room_13 rfl ?_
  refine zj_getR rfl (by decide) rfl zu_Walls (k := 4) (by decide) rfl zl_Walls_20 zd_Walls_room_14 (o' := 33) rfl ?_
  refine zj_iload_n zd_Walls_room_17 rfl ?_
  refine zj_aload_n zd_Walls_room_18 rfl ?_
  refine zj_getM rfl (by decide) rfl zu_Walls (k := 6) (by decide) rfl zl_Walls_30 zd_Walls_room_19 (zk_Rl m1) ?_
  exact zj_callVi (As := [.inl (x1), .inr (σ.2 0 6)]) hm hdp rfl (by decide) rfl zl_Walls_185 zq_City_holdsUp zd_Walls_room_22 rfl (Nat.le_of_ble_eq_true rfl) (fun r σ1 h => (k r σ1 h))
theorem zb_Walls_room_25 {Γ : zG} {σ : zS} {x1 y0 : Int32}  (kt : ¬ y0 = 0 → z_J Γ zm_Walls_room 31 [some (.inr (0)), some (.inl (x1)), none, none, none, none, none, none] [] σ) (kf : y0 = 0 → z_J Γ zm_Walls_room 28 [none, none, none, none, none, none, none, none] [] σ) : z_J Γ zm_Walls_room 25 [some (.inr (0)), some (.inl (x1)), none, none, none, none, none, none] [.inl (y0)] σ := by
  exact zj_if_ne zd_Walls_room_25 (by decide) (fun h => (kt h)) (fun h => (zj_weak (L' := [none, none, none, none, none, none, none, none]) trivial (kf h)))
theorem zb_Walls_room_28 {Γ : zG} {σ : zS}  (e : z_end Γ (some ((-2))) σ) : z_J Γ zm_Walls_room 28 [none, none, none, none, none, none, none, none] [] σ := by
  refine zj_bipush (v := (-2)) zd_Walls_room_28 (by decide) ?_
  exact zj_ireturn rfl zd_Walls_room_30 e
theorem zb_Walls_room_31 {Γ : zG} {σ : zS} {x1 : Int32} {k1 : Nat}  (b1 : z_ix x1 6 k1) (k : z_J Γ zm_Walls_room 53 [some (.inr (0)), some (.inl (x1)), some (.inl (nI 999)), some (.inl ((-1))), some (.inl (nI 0)), some (.inl ((σ.1 39 k1) - (nI 1))), none, none] [] σ) : z_J Γ zm_Walls_room 31 [some (.inr (0)), some (.inl (x1)), none, none, none, none, none, none] [] σ := by
  refine zj_sipush (v := nI 999) zd_Walls_room_31 (by decide) ?_
  refine zj_istore_n (L' := [some (.inr (0)), some (.inl (x1)), some (.inl (nI 999)), none, none, none, none, none]) zd_Walls_room_34 (by decide) rfl ?_
  refine zj_iconst (v := (-1)) zd_Walls_room_35 (by decide) ?_
  refine zj_istore_n (L' := [some (.inr (0)), some (.inl (x1)), some (.inl (nI 999)), some (.inl ((-1))), none, none, none, none]) zd_Walls_room_36 (by decide) rfl ?_
  refine zj_iconst (v := nI 0) zd_Walls_room_37 (by decide) ?_
  refine zj_istore (L' := [some (.inr (0)), some (.inl (x1)), some (.inl (nI 999)), some (.inl ((-1))), some (.inl (nI 0)), none, none, none]) zd_Walls_room_38 (by decide) rfl ?_
  refine zj_aload_n zd_Walls_room_40 rfl ?_
  refine zj_getR rfl (by decide) rfl zu_Walls (k := 4) (by decide) rfl zl_Walls_20 zd_Walls_room_41 (o' := 33) rfl ?_
  refine zj_getR rfl (by decide) rfl zu_City (k := 7) (by decide) rfl zl_Walls_179 zd_Walls_room_44 (o' := 39) rfl ?_
  refine zj_iload_n zd_Walls_room_47 rfl ?_
  refine zj_iaload rfl (by decide) b1 zd_Walls_room_48 ?_
  refine zj_iconst (v := nI 1) zd_Walls_room_49 (by decide) ?_
  refine zj_isub zd_Walls_room_50 ?_
  refine zj_istore (L' := [some (.inr (0)), some (.inl (x1)), some (.inl (nI 999)), some (.inl ((-1))), some (.inl (nI 0)), some (.inl ((σ.1 39 k1) - (nI 1))), none, none]) zd_Walls_room_51 (by decide) rfl ?_
  exact k
theorem zb_Walls_room_53 {Γ : zG} {σ : zS} {x1 x2 x3 x4 x5 : Int32}  (kt : x5 < 0 → z_J Γ zm_Walls_room 127 [some (.inr (0)), none, some (.inl (x2)), some (.inl (x3)), none, none, none, none] [] σ) (kf : ¬ x5 < 0 → z_J Γ zm_Walls_room 58 [some (.inr (0)), some (.inl (x1)), some (.inl (x2)), some (.inl (x3)), some (.inl (x4)), some (.inl (x5)), none, none] [] σ) : z_J Γ zm_Walls_room 53 [some (.inr (0)), some (.inl (x1)), some (.inl (x2)), some (.inl (x3)), some (.inl (x4)), some (.inl (x5)), none, none] [] σ := by
  refine zj_iload zd_Walls_room_53 rfl ?_
  exact zj_if_lt zd_Walls_room_55 (by decide) (fun h => (zj_weak (L' := [some (.inr (0)), none, some (.inl (x2)), some (.inl (x3)), none, none, none, none]) ⟨rfl, ⟨rfl, ⟨rfl, trivial⟩⟩⟩ (kt h))) (fun h => (kf h))
theorem zb_Walls_room_58 {Γ : zG} {σ : zS} {x1 x2 x3 x4 x5 : Int32} {dc : Nat} {P : Int32 → zS → Prop}  (hm : z_Ci dc zm_City_bookAt [.inr (33), .inl (x1), .inl (x5)] σ P) (hdp : dc < z_dep Γ) (k : ∀ r σ1, P r σ1 → z_J Γ zm_Walls_room 68 [some (.inr (0)), some (.inl (x1)), some (.inl (x2)), some (.inl (x3)), some (.inl (x4)), some (.inl (x5)), none, none] [.inl (r)] σ1) : z_J Γ zm_Walls_room 58 [some (.inr (0)), some (.inl (x1)), some (.inl (x2)), some (.inl (x3)), some (.inl (x4)), some (.inl (x5)), none, none] [] σ := by
  refine zj_aload_n zd_Walls_room_58 rfl ?_
  refine zj_getR rfl (by decide) rfl zu_Walls (k := 4) (by decide) rfl zl_Walls_20 zd_Walls_room_59 (o' := 33) rfl ?_
  refine zj_iload_n zd_Walls_room_62 rfl ?_
  refine zj_iload zd_Walls_room_63 rfl ?_
  exact zj_callVi (As := [.inl (x1), .inl (x5)]) hm hdp rfl (by decide) rfl zl_Walls_293 zq_City_bookAt zd_Walls_room_65 rfl (Nat.le_of_ble_eq_true rfl) (fun r σ1 h => (k r σ1 h))
theorem zb_Walls_room_68 {Γ : zG} {σ : zS} {x1 x2 x3 x4 x5 y0 : Int32} {dc : Nat} {P : Int32 → zS → Prop}  (m1 : z_oR (σ.2 0 6)) (hm : z_Ci dc zm_City_bearsAt [.inr (33), .inl (x1), .inl (x5), .inr (σ.2 0 6)] σ P) (hdp : dc < z_dep Γ) (k : ∀ r σ1, P r σ1 → z_J Γ zm_Walls_room 84 [some (.inr (0)), some (.inl (x1)), some (.inl (x2)), some (.inl (x3)), some (.inl (x4)), some (.inl (x5)), some (.inl (y0)), none] [.inl (r)] σ1) : z_J Γ zm_Walls_room 68 [some (.inr (0)), some (.inl (x1)), some (.inl (x2)), some (.inl (x3)), some (.inl (x4)), some (.inl (x5)), none, none] [.inl (y0)] σ := by
  refine zj_istore (L' := [some (.inr (0)), some (.inl (x1)), some (.inl (x2)), some (.inl (x3)), some (.inl (x4)), some (.inl (x5)), some (.inl (y0)), none]) zd_Walls_room_68 (by decide) rfl ?_
  refine zj_aload_n zd_Walls_room_70 rfl ?_
  refine zj_getR rfl (by decide) rfl zu_Walls (k := 4) (by decide) rfl zl_Walls_20 zd_Walls_room_71 (o' := 33) rfl ?_
  refine zj_iload_n zd_Walls_room_74 rfl ?_
  refine zj_iload zd_Walls_room_75 rfl ?_
  refine zj_aload_n zd_Walls_room_77 rfl ?_
  refine zj_getM rfl (by decide) rfl zu_Walls (k := 6) (by decide) rfl zl_Walls_30 zd_Walls_room_78 (zk_Rl m1) ?_
  exact zj_callVi (As := [.inl (x1), .inl (x5), .inr (σ.2 0 6)]) hm hdp rfl (by decide) rfl zl_Walls_165 zq_City_bearsAt zd_Walls_room_81 rfl (Nat.le_of_ble_eq_true rfl) (fun r σ1 h => (k r σ1 h))
theorem zb_Walls_room_84 {Γ : zG} {σ : zS} {x1 x2 x3 x4 x5 x6 y0 : Int32}  (kt : x3 = (-1) → z_J Γ zm_Walls_room 100 [some (.inr (0)), some (.inl (x1)), none, none, some (.inl (x4)), some (.inl (x5)), some (.inl (x6)), some (.inl (y0 - x4))] [] σ) (kf : ¬ x3 = (-1) → z_J Γ zm_Walls_room 94 [some (.inr (0)), some (.inl (x1)), some (.inl (x2)), some (.inl (x3)), some (.inl (x4)), some (.inl (x5)), some (.inl (x6)), some (.inl (y0 - x4))] [] σ) : z_J Γ zm_Walls_room 84 [some (.inr (0)), some (.inl (x1)), some (.inl (x2)), some (.inl (x3)), some (.inl (x4)), some (.inl (x5)), some (.inl (x6)), none] [.inl (y0)] σ := by
  refine zj_iload zd_Walls_room_84 rfl ?_
  refine zj_isub zd_Walls_room_86 ?_
  refine zj_istore (L' := [some (.inr (0)), some (.inl (x1)), some (.inl (x2)), some (.inl (x3)), some (.inl (x4)), some (.inl (x5)), some (.inl (x6)), some (.inl (y0 - x4))]) zd_Walls_room_87 (by decide) rfl ?_
  refine zj_iload_n zd_Walls_room_89 rfl ?_
  refine zj_iconst (v := (-1)) zd_Walls_room_90 (by decide) ?_
  exact zj_icmp_eq zd_Walls_room_91 (by decide) (fun h => (zj_weak (L' := [some (.inr (0)), some (.inl (x1)), none, none, some (.inl (x4)), some (.inl (x5)), some (.inl (x6)), some (.inl (y0 - x4))]) ⟨rfl, ⟨rfl, ⟨rfl, ⟨rfl, ⟨rfl, ⟨rfl, trivial⟩⟩⟩⟩⟩⟩ (kt h))) (fun h => (kf h))
theorem zb_Walls_room_94 {Γ : zG} {σ : zS} {x1 x2 x3 x4 x5 x6 x7 : Int32}  (kt : x2 ≤ x7 → z_J Γ zm_Walls_room 106 [some (.inr (0)), some (.inl (x1)), some (.inl (x2)), some (.inl (x3)), some (.inl (x4)), some (.inl (x5)), some (.inl (x6)), none] [] σ) (kf : ¬ x2 ≤ x7 → z_J Γ zm_Walls_room 100 [some (.inr (0)), some (.inl (x1)), none, none, some (.inl (x4)), some (.inl (x5)), some (.inl (x6)), some (.inl (x7))] [] σ) : z_J Γ zm_Walls_room 94 [some (.inr (0)), some (.inl (x1)), some (.inl (x2)), some (.inl (x3)), some (.inl (x4)), some (.inl (x5)), some (.inl (x6)), some (.inl (x7))] [] σ := by
  refine zj_iload zd_Walls_room_94 rfl ?_
  refine zj_iload_n zd_Walls_room_96 rfl ?_
  exact zj_icmp_ge zd_Walls_room_97 (by decide) (fun h => (zj_weak (L' := [some (.inr (0)), some (.inl (x1)), some (.inl (x2)), some (.inl (x3)), some (.inl (x4)), some (.inl (x5)), some (.inl (x6)), none]) ⟨rfl, ⟨rfl, ⟨rfl, ⟨rfl, ⟨rfl, ⟨rfl, ⟨rfl, trivial⟩⟩⟩⟩⟩⟩⟩ (kt h))) (fun h => (zj_weak (L' := [some (.inr (0)), some (.inl (x1)), none, none, some (.inl (x4)), some (.inl (x5)), some (.inl (x6)), some (.inl (x7))]) ⟨rfl, ⟨rfl, ⟨rfl, ⟨rfl, ⟨rfl, ⟨rfl, trivial⟩⟩⟩⟩⟩⟩ (kf h)))
theorem zb_Walls_room_100 {Γ : zG} {σ : zS} {x1 x4 x5 x6 x7 : Int32}  (k : z_J Γ zm_Walls_room 106 [some (.inr (0)), some (.inl (x1)), some (.inl (x7)), some (.inl (x6)), some (.inl (x4)), some (.inl (x5)), some (.inl (x6)), none] [] σ) : z_J Γ zm_Walls_room 100 [some (.inr (0)), some (.inl (x1)), none, none, some (.inl (x4)), some (.inl (x5)), some (.inl (x6)), some (.inl (x7))] [] σ := by
  refine zj_iload zd_Walls_room_100 rfl ?_
  refine zj_istore_n (L' := [some (.inr (0)), some (.inl (x1)), some (.inl (x7)), none, some (.inl (x4)), some (.inl (x5)), some (.inl (x6)), some (.inl (x7))]) zd_Walls_room_102 (by decide) rfl ?_
  refine zj_iload zd_Walls_room_103 rfl ?_
  refine zj_istore_n (L' := [some (.inr (0)), some (.inl (x1)), some (.inl (x7)), some (.inl (x6)), some (.inl (x4)), some (.inl (x5)), some (.inl (x6)), some (.inl (x7))]) zd_Walls_room_105 (by decide) rfl ?_
  exact (zj_weak (L' := [some (.inr (0)), some (.inl (x1)), some (.inl (x7)), some (.inl (x6)), some (.inl (x4)), some (.inl (x5)), some (.inl (x6)), none]) ⟨rfl, ⟨rfl, ⟨rfl, ⟨rfl, ⟨rfl, ⟨rfl, ⟨rfl, trivial⟩⟩⟩⟩⟩⟩⟩ k)
theorem zb_Walls_room_106 {Γ : zG} {σ : zS} {x1 x2 x3 x4 x5 x6 : Int32} {k1 : Nat}  (b1 : z_ix x6 12 k1) (k : z_J Γ zm_Walls_room 53 [some (.inr (0)), some (.inl (x1)), some (.inl (x2)), some (.inl (x3)), some (.inl (x4 + (σ.1 35 k1))), some (.inl (x5 + (-1))), none, none] [] σ) : z_J Γ zm_Walls_room 106 [some (.inr (0)), some (.inl (x1)), some (.inl (x2)), some (.inl (x3)), some (.inl (x4)), some (.inl (x5)), some (.inl (x6)), none] [] σ := by
  refine zj_iload zd_Walls_room_106 rfl ?_
  refine zj_aload_n zd_Walls_room_108 rfl ?_
  refine zj_getR rfl (by decide) rfl zu_Walls (k := 4) (by decide) rfl zl_Walls_20 zd_Walls_room_109 (o' := 33) rfl ?_
  refine zj_getR rfl (by decide) rfl zu_City (k := 2) (by decide) rfl zl_Walls_150 zd_Walls_room_112 (o' := 35) rfl ?_
  refine zj_iload zd_Walls_room_115 rfl ?_
  refine zj_iaload rfl (by decide) b1 zd_Walls_room_117 ?_
  refine zj_iadd zd_Walls_room_118 ?_
  refine zj_istore (L' := [some (.inr (0)), some (.inl (x1)), some (.inl (x2)), some (.inl (x3)), some (.inl (x4 + (σ.1 35 k1))), some (.inl (x5)), some (.inl (x6)), none]) zd_Walls_room_119 (by decide) rfl ?_
  refine zj_iinc (v := (-1)) (L' := [some (.inr (0)), some (.inl (x1)), some (.inl (x2)), some (.inl (x3)), some (.inl (x4 + (σ.1 35 k1))), some (.inl (x5 + (-1))), some (.inl (x6)), none]) zd_Walls_room_121 rfl (by decide) (by decide) rfl ?_
  exact zj_goto zd_Walls_room_124 (by decide) (zj_weak (L' := [some (.inr (0)), some (.inl (x1)), some (.inl (x2)), some (.inl (x3)), some (.inl (x4 + (σ.1 35 k1))), some (.inl (x5 + (-1))), none, none]) ⟨rfl, ⟨rfl, ⟨rfl, ⟨rfl, ⟨rfl, ⟨rfl, trivial⟩⟩⟩⟩⟩⟩ k)
theorem zb_Walls_room_127 {Γ : zG} {σ : zS} {x2 x3 : Int32} {dc : Nat} {P : zS → Prop}  (hm : z_Cv dc zm_Walls_tell [.inr (0), .inl (x3)] σ P) (hdp : dc < z_dep Γ) (k : ∀ σ1, P σ1 → z_J Γ zm_Walls_room 132 [none, none, some (.inl (x2)), none, none, none, none, none] [] σ1) : z_J Γ zm_Walls_room 127 [some (.inr (0)), none, some (.inl (x2)), some (.inl (x3)), none, none, none, none] [] σ := by
  refine zj_aload_n zd_Walls_room_127 rfl ?_
  refine zj_iload_n zd_Walls_room_128 rfl ?_
  exact zj_callVv (As := [.inl (x3)]) hm hdp rfl (by decide) rfl zl_Walls_242 zq_Walls_tell zd_Walls_room_129 rfl (Nat.le_of_ble_eq_true rfl) (fun σ1 h => (zj_weak (L' := [none, none, some (.inl (x2)), none, none, none, none, none]) ⟨rfl, trivial⟩ (k σ1 h)))
theorem zb_Walls_room_132 {Γ : zG} {σ : zS} {x2 : Int32}  (e : z_end Γ (some (x2)) σ) : z_J Γ zm_Walls_room 132 [none, none, some (.inl (x2)), none, none, none, none, none] [] σ := by
  refine zj_iload_n zd_Walls_room_132 rfl ?_
  exact zj_ireturn rfl zd_Walls_room_133 e
theorem zd_Walls_home_0 : decode zm_Walls_home.2.1 0 = .ok (.iconst (-1), 1) := by decide +kernel
theorem zd_Walls_home_1 : decode zm_Walls_home.2.1 1 = .ok (.istore_n 1, 1) := by decide +kernel
theorem zd_Walls_home_2 : decode zm_Walls_home.2.1 2 = .ok (.iconst 0, 1) := by decide +kernel
theorem zd_Walls_home_3 : decode zm_Walls_home.2.1 3 = .ok (.istore_n 2, 1) := by decide +kernel
theorem zd_Walls_home_4 : decode zm_Walls_home.2.1 4 = .ok (.iconst 0, 1) := by decide +kernel
theorem zd_Walls_home_5 : decode zm_Walls_home.2.1 5 = .ok (.istore_n 3, 1) := by decide +kernel
theorem zd_Walls_home_6 : decode zm_Walls_home.2.1 6 = .ok (.iload_n 3, 1) := by decide +kernel
theorem zd_Walls_home_7 : decode zm_Walls_home.2.1 7 = .ok (.aload_n 0, 1) := by decide +kernel
theorem zd_Walls_home_8 : decode zm_Walls_home.2.1 8 = .ok (.getfield 20, 3) := by decide +kernel
theorem zd_Walls_home_11 : decode zm_Walls_home.2.1 11 = .ok (.getfield 210, 3) := by decide +kernel
theorem zd_Walls_home_14 : decode zm_Walls_home.2.1 14 = .ok (.if_icmp .ge 59, 3) := by decide +kernel
theorem zd_Walls_home_17 : decode zm_Walls_home.2.1 17 = .ok (.aload_n 0, 1) := by decide +kernel
theorem zd_Walls_home_18 : decode zm_Walls_home.2.1 18 = .ok (.getfield 20, 3) := by decide +kernel
theorem zd_Walls_home_21 : decode zm_Walls_home.2.1 21 = .ok (.getfield 153, 3) := by decide +kernel
theorem zd_Walls_home_24 : decode zm_Walls_home.2.1 24 = .ok (.iload_n 3, 1) := by decide +kernel
theorem zd_Walls_home_25 : decode zm_Walls_home.2.1 25 = .ok (.iaload, 1) := by decide +kernel
theorem zd_Walls_home_26 : decode zm_Walls_home.2.1 26 = .ok (.iconst 2, 1) := by decide +kernel
theorem zd_Walls_home_27 : decode zm_Walls_home.2.1 27 = .ok (.if_icmp .eq 6, 3) := by decide +kernel
theorem zd_Walls_home_30 : decode zm_Walls_home.2.1 30 = .ok (.goto 37, 3) := by decide +kernel
theorem zd_Walls_home_33 : decode zm_Walls_home.2.1 33 = .ok (.aload_n 0, 1) := by decide +kernel
theorem zd_Walls_home_34 : decode zm_Walls_home.2.1 34 = .ok (.getfield 20, 3) := by decide +kernel
theorem zd_Walls_home_37 : decode zm_Walls_home.2.1 37 = .ok (.iload_n 3, 1) := by decide +kernel
theorem zd_Walls_home_38 : decode zm_Walls_home.2.1 38 = .ok (.invokevirtual 296, 3) := by decide +kernel
theorem zd_Walls_home_41 : decode zm_Walls_home.2.1 41 = .ok (.aload_n 0, 1) := by decide +kernel
theorem zd_Walls_home_42 : decode zm_Walls_home.2.1 42 = .ok (.getfield 20, 3) := by decide +kernel
theorem zd_Walls_home_45 : decode zm_Walls_home.2.1 45 = .ok (.getfield 299, 3) := by decide +kernel
theorem zd_Walls_home_48 : decode zm_Walls_home.2.1 48 = .ok (.isub, 1) := by decide +kernel
theorem zd_Walls_home_49 : decode zm_Walls_home.2.1 49 = .ok (.istore 4, 2) := by decide +kernel
theorem zd_Walls_home_51 : decode zm_Walls_home.2.1 51 = .ok (.iload_n 1, 1) := by decide +kernel
theorem zd_Walls_home_52 : decode zm_Walls_home.2.1 52 = .ok (.iconst (-1), 1) := by decide +kernel
theorem zd_Walls_home_53 : decode zm_Walls_home.2.1 53 = .ok (.if_icmp .eq 9, 3) := by decide +kernel
theorem zd_Walls_home_56 : decode zm_Walls_home.2.1 56 = .ok (.iload 4, 2) := by decide +kernel
theorem zd_Walls_home_58 : decode zm_Walls_home.2.1 58 = .ok (.iload_n 2, 1) := by decide +kernel
theorem zd_Walls_home_59 : decode zm_Walls_home.2.1 59 = .ok (.if_icmp .lt 8, 3) := by decide +kernel
theorem zd_Walls_home_62 : decode zm_Walls_home.2.1 62 = .ok (.iload_n 3, 1) := by decide +kernel
theorem zd_Walls_home_63 : decode zm_Walls_home.2.1 63 = .ok (.istore_n 1, 1) := by decide +kernel
theorem zd_Walls_home_64 : decode zm_Walls_home.2.1 64 = .ok (.iload 4, 2) := by decide +kernel
theorem zd_Walls_home_66 : decode zm_Walls_home.2.1 66 = .ok (.istore_n 2, 1) := by decide +kernel
theorem zd_Walls_home_67 : decode zm_Walls_home.2.1 67 = .ok (.iinc 3 1, 3) := by decide +kernel
theorem zd_Walls_home_70 : decode zm_Walls_home.2.1 70 = .ok (.goto (-64), 3) := by decide +kernel
theorem zd_Walls_home_73 : decode zm_Walls_home.2.1 73 = .ok (.aload_n 0, 1) := by decide +kernel
theorem zd_Walls_home_74 : decode zm_Walls_home.2.1 74 = .ok (.iload_n 1, 1) := by decide +kernel
theorem zd_Walls_home_75 : decode zm_Walls_home.2.1 75 = .ok (.invokevirtual 242, 3) := by decide +kernel
theorem zd_Walls_home_78 : decode zm_Walls_home.2.1 78 = .ok (.iload_n 2, 1) := by decide +kernel
theorem zd_Walls_home_79 : decode zm_Walls_home.2.1 79 = .ok (.ireturn, 1) := by decide +kernel
theorem zb_Walls_home_0 {Γ : zG} {σ : zS}  (k : z_J Γ zm_Walls_home 6 [some (.inr (0)), some (.inl ((-1))), some (.inl (nI 0)), some (.inl (nI 0)), none] [] σ) : z_J Γ zm_Walls_home 0 [some (.inr (0)), none, none, none, none] [] σ := by
  refine zj_iconst (v := (-1)) zd_Walls_home_0 (by decide) ?_
  refine zj_istore_n (L' := [some (.inr (0)), some (.inl ((-1))), none, none, none]) zd_Walls_home_1 (by decide) rfl ?_
  refine zj_iconst (v := nI 0) zd_Walls_home_2 (by decide) ?_
  refine zj_istore_n (L' := [some (.inr (0)), some (.inl ((-1))), some (.inl (nI 0)), none, none]) zd_Walls_home_3 (by decide) rfl ?_
  refine zj_iconst (v := nI 0) zd_Walls_home_4 (by decide) ?_
  refine zj_istore_n (L' := [some (.inr (0)), some (.inl ((-1))), some (.inl (nI 0)), some (.inl (nI 0)), none]) zd_Walls_home_5 (by decide) rfl ?_
  exact k
theorem zb_Walls_home_6 {Γ : zG} {σ : zS} {x1 x2 x3 : Int32}  (kt : (σ.1 33 0) ≤ x3 → z_J Γ zm_Walls_home 73 [some (.inr (0)), some (.inl (x1)), some (.inl (x2)), none, none] [] σ) (kf : ¬ (σ.1 33 0) ≤ x3 → z_J Γ zm_Walls_home 17 [some (.inr (0)), some (.inl (x1)), some (.inl (x2)), some (.inl (x3)), none] [] σ) : z_J Γ zm_Walls_home 6 [some (.inr (0)), some (.inl (x1)), some (.inl (x2)), some (.inl (x3)), none] [] σ := by
  refine zj_iload_n zd_Walls_home_6 rfl ?_
  refine zj_aload_n zd_Walls_home_7 rfl ?_
  refine zj_getR rfl (by decide) rfl zu_Walls (k := 4) (by decide) rfl zl_Walls_20 zd_Walls_home_8 (o' := 33) rfl ?_
  refine zj_getI rfl (by decide) rfl zu_City (k := 0) (by decide) rfl zl_Walls_210 zd_Walls_home_11 ?_
  exact zj_icmp_ge zd_Walls_home_14 (by decide) (fun h => (zj_weak (L' := [some (.inr (0)), some (.inl (x1)), some (.inl (x2)), none, none]) ⟨rfl, ⟨rfl, ⟨rfl, trivial⟩⟩⟩ (kt h))) (fun h => (kf h))
theorem zb_Walls_home_17 {Γ : zG} {σ : zS} {x1 x2 x3 : Int32} {k1 : Nat}  (b1 : z_ix x3 12 k1) (kt : (σ.1 36 k1) = (nI 2) → z_J Γ zm_Walls_home 33 [some (.inr (0)), some (.inl (x1)), some (.inl (x2)), some (.inl (x3)), none] [] σ) (kf : ¬ (σ.1 36 k1) = (nI 2) → z_J Γ zm_Walls_home 30 [some (.inr (0)), some (.inl (x1)), some (.inl (x2)), some (.inl (x3)), none] [] σ) : z_J Γ zm_Walls_home 17 [some (.inr (0)), some (.inl (x1)), some (.inl (x2)), some (.inl (x3)), none] [] σ := by
  refine zj_aload_n zd_Walls_home_17 rfl ?_
  refine zj_getR rfl (by decide) rfl zu_Walls (k := 4) (by decide) rfl zl_Walls_20 zd_Walls_home_18 (o' := 33) rfl ?_
  refine zj_getR rfl (by decide) rfl zu_City (k := 3) (by decide) rfl zl_Walls_153 zd_Walls_home_21 (o' := 36) rfl ?_
  refine zj_iload_n zd_Walls_home_24 rfl ?_
  refine zj_iaload rfl (by decide) b1 zd_Walls_home_25 ?_
  refine zj_iconst (v := nI 2) zd_Walls_home_26 (by decide) ?_
  exact zj_icmp_eq zd_Walls_home_27 (by decide) (fun h => (kt h)) (fun h => (kf h))
theorem zb_Walls_home_30 {Γ : zG} {σ : zS} {x1 x2 x3 : Int32}  (k : z_J Γ zm_Walls_home 67 [some (.inr (0)), some (.inl (x1)), some (.inl (x2)), some (.inl (x3)), none] [] σ) : z_J Γ zm_Walls_home 30 [some (.inr (0)), some (.inl (x1)), some (.inl (x2)), some (.inl (x3)), none] [] σ := by
  exact zj_goto zd_Walls_home_30 (by decide) k
theorem zb_Walls_home_33 {Γ : zG} {σ : zS} {x1 x2 x3 : Int32} {dc : Nat} {P : Int32 → zS → Prop}  (hm : z_Ci dc zm_City_backOn [.inr (33), .inl (x3)] σ P) (hdp : dc < z_dep Γ) (k : ∀ r σ1, P r σ1 → z_J Γ zm_Walls_home 41 [some (.inr (0)), some (.inl (x1)), some (.inl (x2)), some (.inl (x3)), none] [.inl (r)] σ1) : z_J Γ zm_Walls_home 33 [some (.inr (0)), some (.inl (x1)), some (.inl (x2)), some (.inl (x3)), none] [] σ := by
  refine zj_aload_n zd_Walls_home_33 rfl ?_
  refine zj_getR rfl (by decide) rfl zu_Walls (k := 4) (by decide) rfl zl_Walls_20 zd_Walls_home_34 (o' := 33) rfl ?_
  refine zj_iload_n zd_Walls_home_37 rfl ?_
  exact zj_callVi (As := [.inl (x3)]) hm hdp rfl (by decide) rfl zl_Walls_296 zq_City_backOn zd_Walls_home_38 rfl (Nat.le_of_ble_eq_true rfl) (fun r σ1 h => (k r σ1 h))
theorem zb_Walls_home_41 {Γ : zG} {σ : zS} {x1 x2 x3 y0 : Int32}  (kt : x1 = (-1) → z_J Γ zm_Walls_home 62 [some (.inr (0)), none, none, some (.inl (x3)), some (.inl (y0 - (σ.1 33 12)))] [] σ) (kf : ¬ x1 = (-1) → z_J Γ zm_Walls_home 56 [some (.inr (0)), some (.inl (x1)), some (.inl (x2)), some (.inl (x3)), some (.inl (y0 - (σ.1 33 12)))] [] σ) : z_J Γ zm_Walls_home 41 [some (.inr (0)), some (.inl (x1)), some (.inl (x2)), some (.inl (x3)), none] [.inl (y0)] σ := by
  refine zj_aload_n zd_Walls_home_41 rfl ?_
  refine zj_getR rfl (by decide) rfl zu_Walls (k := 4) (by decide) rfl zl_Walls_20 zd_Walls_home_42 (o' := 33) rfl ?_
  refine zj_getI rfl (by decide) rfl zu_City (k := 12) (by decide) rfl zl_Walls_299 zd_Walls_home_45 ?_
  refine zj_isub zd_Walls_home_48 ?_
  refine zj_istore (L' := [some (.inr (0)), some (.inl (x1)), some (.inl (x2)), some (.inl (x3)), some (.inl (y0 - (σ.1 33 12)))]) zd_Walls_home_49 (by decide) rfl ?_
  refine zj_iload_n zd_Walls_home_51 rfl ?_
  refine zj_iconst (v := (-1)) zd_Walls_home_52 (by decide) ?_
  exact zj_icmp_eq zd_Walls_home_53 (by decide) (fun h => (zj_weak (L' := [some (.inr (0)), none, none, some (.inl (x3)), some (.inl (y0 - (σ.1 33 12)))]) ⟨rfl, ⟨rfl, ⟨rfl, trivial⟩⟩⟩ (kt h))) (fun h => (kf h))
theorem zb_Walls_home_56 {Γ : zG} {σ : zS} {x1 x2 x3 x4 : Int32}  (kt : x4 < x2 → z_J Γ zm_Walls_home 67 [some (.inr (0)), some (.inl (x1)), some (.inl (x2)), some (.inl (x3)), none] [] σ) (kf : ¬ x4 < x2 → z_J Γ zm_Walls_home 62 [some (.inr (0)), none, none, some (.inl (x3)), some (.inl (x4))] [] σ) : z_J Γ zm_Walls_home 56 [some (.inr (0)), some (.inl (x1)), some (.inl (x2)), some (.inl (x3)), some (.inl (x4))] [] σ := by
  refine zj_iload zd_Walls_home_56 rfl ?_
  refine zj_iload_n zd_Walls_home_58 rfl ?_
  exact zj_icmp_lt zd_Walls_home_59 (by decide) (fun h => (zj_weak (L' := [some (.inr (0)), some (.inl (x1)), some (.inl (x2)), some (.inl (x3)), none]) ⟨rfl, ⟨rfl, ⟨rfl, ⟨rfl, trivial⟩⟩⟩⟩ (kt h))) (fun h => (zj_weak (L' := [some (.inr (0)), none, none, some (.inl (x3)), some (.inl (x4))]) ⟨rfl, ⟨rfl, ⟨rfl, trivial⟩⟩⟩ (kf h)))
theorem zb_Walls_home_62 {Γ : zG} {σ : zS} {x3 x4 : Int32}  (k : z_J Γ zm_Walls_home 67 [some (.inr (0)), some (.inl (x3)), some (.inl (x4)), some (.inl (x3)), none] [] σ) : z_J Γ zm_Walls_home 62 [some (.inr (0)), none, none, some (.inl (x3)), some (.inl (x4))] [] σ := by
  refine zj_iload_n zd_Walls_home_62 rfl ?_
  refine zj_istore_n (L' := [some (.inr (0)), some (.inl (x3)), none, some (.inl (x3)), some (.inl (x4))]) zd_Walls_home_63 (by decide) rfl ?_
  refine zj_iload zd_Walls_home_64 rfl ?_
  refine zj_istore_n (L' := [some (.inr (0)), some (.inl (x3)), some (.inl (x4)), some (.inl (x3)), some (.inl (x4))]) zd_Walls_home_66 (by decide) rfl ?_
  exact (zj_weak (L' := [some (.inr (0)), some (.inl (x3)), some (.inl (x4)), some (.inl (x3)), none]) ⟨rfl, ⟨rfl, ⟨rfl, ⟨rfl, trivial⟩⟩⟩⟩ k)
theorem zb_Walls_home_67 {Γ : zG} {σ : zS} {x1 x2 x3 : Int32}  (k : z_J Γ zm_Walls_home 6 [some (.inr (0)), some (.inl (x1)), some (.inl (x2)), some (.inl (x3 + nI 1)), none] [] σ) : z_J Γ zm_Walls_home 67 [some (.inr (0)), some (.inl (x1)), some (.inl (x2)), some (.inl (x3)), none] [] σ := by
  refine zj_iinc (v := nI 1) (L' := [some (.inr (0)), some (.inl (x1)), some (.inl (x2)), some (.inl (x3 + nI 1)), none]) zd_Walls_home_67 rfl (by decide) (by decide) rfl ?_
  exact zj_goto zd_Walls_home_70 (by decide) k
theorem zb_Walls_home_73 {Γ : zG} {σ : zS} {x1 x2 : Int32} {dc : Nat} {P : zS → Prop}  (hm : z_Cv dc zm_Walls_tell [.inr (0), .inl (x1)] σ P) (hdp : dc < z_dep Γ) (k : ∀ σ1, P σ1 → z_J Γ zm_Walls_home 78 [none, none, some (.inl (x2)), none, none] [] σ1) : z_J Γ zm_Walls_home 73 [some (.inr (0)), some (.inl (x1)), some (.inl (x2)), none, none] [] σ := by
  refine zj_aload_n zd_Walls_home_73 rfl ?_
  refine zj_iload_n zd_Walls_home_74 rfl ?_
  exact zj_callVv (As := [.inl (x1)]) hm hdp rfl (by decide) rfl zl_Walls_242 zq_Walls_tell zd_Walls_home_75 rfl (Nat.le_of_ble_eq_true rfl) (fun σ1 h => (zj_weak (L' := [none, none, some (.inl (x2)), none, none]) ⟨rfl, trivial⟩ (k σ1 h)))
theorem zb_Walls_home_78 {Γ : zG} {σ : zS} {x2 : Int32}  (e : z_end Γ (some (x2)) σ) : z_J Γ zm_Walls_home 78 [none, none, some (.inl (x2)), none, none] [] σ := by
  refine zj_iload_n zd_Walls_home_78 rfl ?_
  exact zj_ireturn rfl zd_Walls_home_79 e
theorem zd_Walls_spares_0 : decode zm_Walls_spares.2.1 0 = .ok (.iload_n 1, 1) := by decide +kernel
theorem zd_Walls_spares_1 : decode zm_Walls_spares.2.1 1 = .ok (.invokestatic 284, 3) := by decide +kernel
theorem zd_Walls_spares_4 : decode zm_Walls_spares.2.1 4 = .ok (.ifCond .ne 5, 3) := by decide +kernel
theorem zd_Walls_spares_7 : decode zm_Walls_spares.2.1 7 = .ok (.iconst (-1), 1) := by decide +kernel
theorem zd_Walls_spares_8 : decode zm_Walls_spares.2.1 8 = .ok (.ireturn, 1) := by decide +kernel
theorem zd_Walls_spares_9 : decode zm_Walls_spares.2.1 9 = .ok (.aload_n 0, 1) := by decide +kernel
theorem zd_Walls_spares_10 : decode zm_Walls_spares.2.1 10 = .ok (.getfield 24, 3) := by decide +kernel
theorem zd_Walls_spares_13 : decode zm_Walls_spares.2.1 13 = .ok (.aload_n 0, 1) := by decide +kernel
theorem zd_Walls_spares_14 : decode zm_Walls_spares.2.1 14 = .ok (.getfield 20, 3) := by decide +kernel
theorem zd_Walls_spares_17 : decode zm_Walls_spares.2.1 17 = .ok (.invokevirtual 103, 3) := by decide +kernel
theorem zd_Walls_spares_20 : decode zm_Walls_spares.2.1 20 = .ok (.iconst 0, 1) := by decide +kernel
theorem zd_Walls_spares_21 : decode zm_Walls_spares.2.1 21 = .ok (.istore_n 2, 1) := by decide +kernel
theorem zd_Walls_spares_22 : decode zm_Walls_spares.2.1 22 = .ok (.iconst 0, 1) := by decide +kernel
theorem zd_Walls_spares_23 : decode zm_Walls_spares.2.1 23 = .ok (.istore_n 3, 1) := by decide +kernel
theorem zd_Walls_spares_24 : decode zm_Walls_spares.2.1 24 = .ok (.iload_n 3, 1) := by decide +kernel
theorem zd_Walls_spares_25 : decode zm_Walls_spares.2.1 25 = .ok (.aload_n 0, 1) := by decide +kernel
theorem zd_Walls_spares_26 : decode zm_Walls_spares.2.1 26 = .ok (.getfield 20, 3) := by decide +kernel
theorem zd_Walls_spares_29 : decode zm_Walls_spares.2.1 29 = .ok (.getfield 117, 3) := by decide +kernel
theorem zd_Walls_spares_32 : decode zm_Walls_spares.2.1 32 = .ok (.if_icmp .ge 30, 3) := by decide +kernel
theorem zd_Walls_spares_35 : decode zm_Walls_spares.2.1 35 = .ok (.aload_n 0, 1) := by decide +kernel
theorem zd_Walls_spares_36 : decode zm_Walls_spares.2.1 36 = .ok (.getfield 20, 3) := by decide +kernel
theorem zd_Walls_spares_39 : decode zm_Walls_spares.2.1 39 = .ok (.iload_n 3, 1) := by decide +kernel
theorem zd_Walls_spares_40 : decode zm_Walls_spares.2.1 40 = .ok (.invokevirtual 176, 3) := by decide +kernel
theorem zd_Walls_spares_43 : decode zm_Walls_spares.2.1 43 = .ok (.iload_n 1, 1) := by decide +kernel
theorem zd_Walls_spares_44 : decode zm_Walls_spares.2.1 44 = .ok (.if_icmp .lt 12, 3) := by decide +kernel
theorem zd_Walls_spares_47 : decode zm_Walls_spares.2.1 47 = .ok (.iload_n 2, 1) := by decide +kernel
theorem zd_Walls_spares_48 : decode zm_Walls_spares.2.1 48 = .ok (.aload_n 0, 1) := by decide +kernel
theorem zd_Walls_spares_49 : decode zm_Walls_spares.2.1 49 = .ok (.iload_n 3, 1) := by decide +kernel
theorem zd_Walls_spares_50 : decode zm_Walls_spares.2.1 50 = .ok (.iload_n 1, 1) := by decide +kernel
theorem zd_Walls_spares_51 : decode zm_Walls_spares.2.1 51 = .ok (.invokevirtual 302, 3) := by decide +kernel
theorem zd_Walls_spares_54 : decode zm_Walls_spares.2.1 54 = .ok (.ior, 1) := by decide +kernel
theorem zd_Walls_spares_55 : decode zm_Walls_spares.2.1 55 = .ok (.istore_n 2, 1) := by decide +kernel
theorem zd_Walls_spares_56 : decode zm_Walls_spares.2.1 56 = .ok (.iinc 3 1, 3) := by decide +kernel
theorem zd_Walls_spares_59 : decode zm_Walls_spares.2.1 59 = .ok (.goto (-35), 3) := by decide +kernel
theorem zd_Walls_spares_62 : decode zm_Walls_spares.2.1 62 = .ok (.aload_n 0, 1) := by decide +kernel
theorem zd_Walls_spares_63 : decode zm_Walls_spares.2.1 63 = .ok (.iload_n 2, 1) := by decide +kernel
theorem zd_Walls_spares_64 : decode zm_Walls_spares.2.1 64 = .ok (.invokevirtual 242, 3) := by decide +kernel
theorem zd_Walls_spares_67 : decode zm_Walls_spares.2.1 67 = .ok (.iload_n 2, 1) := by decide +kernel
theorem zd_Walls_spares_68 : decode zm_Walls_spares.2.1 68 = .ok (.invokestatic 273, 3) := by decide +kernel
theorem zd_Walls_spares_71 : decode zm_Walls_spares.2.1 71 = .ok (.ireturn, 1) := by decide +kernel
theorem zb_Walls_spares_0 {Γ : zG} {σ : zS} {x1 : Int32} {dc : Nat} {P : Int32 → zS → Prop}  (hm : z_Ci dc zm_Walls_isHeight [.inl (x1)] σ P) (hdp : dc < z_dep Γ) (k : ∀ r σ1, P r σ1 → z_J Γ zm_Walls_spares 4 [some (.inr (0)), some (.inl (x1)), none, none] [.inl (r)] σ1) : z_J Γ zm_Walls_spares 0 [some (.inr (0)), some (.inl (x1)), none, none] [] σ := by
  refine zj_iload_n zd_Walls_spares_0 rfl ?_
  exact zj_callSi (As := [.inl (x1)]) hm hdp zl_Walls_284 zq_Walls_isHeight zd_Walls_spares_1 rfl (Nat.le_of_ble_eq_true rfl) (fun r σ1 h => (k r σ1 h))
theorem zb_Walls_spares_4 {Γ : zG} {σ : zS} {x1 y0 : Int32}  (kt : ¬ y0 = 0 → z_J Γ zm_Walls_spares 9 [some (.inr (0)), some (.inl (x1)), none, none] [] σ) (kf : y0 = 0 → z_J Γ zm_Walls_spares 7 [none, none, none, none] [] σ) : z_J Γ zm_Walls_spares 4 [some (.inr (0)), some (.inl (x1)), none, none] [.inl (y0)] σ := by
  exact zj_if_ne zd_Walls_spares_4 (by decide) (fun h => (kt h)) (fun h => (zj_weak (L' := [none, none, none, none]) trivial (kf h)))
theorem zb_Walls_spares_7 {Γ : zG} {σ : zS}  (e : z_end Γ (some ((-1))) σ) : z_J Γ zm_Walls_spares 7 [none, none, none, none] [] σ := by
  refine zj_iconst (v := (-1)) zd_Walls_spares_7 (by decide) ?_
  exact zj_ireturn rfl zd_Walls_spares_8 e
theorem zb_Walls_spares_9 {Γ : zG} {σ : zS} {x1 : Int32} {dc : Nat} {P : zS → Prop}  (hm : z_Cv dc zm_City_copyFrom [.inr (43), .inr (33)] σ P) (hdp : dc < z_dep Γ) (k : ∀ σ1, P σ1 → z_J Γ zm_Walls_spares 20 [some (.inr (0)), some (.inl (x1)), none, none] [] σ1) : z_J Γ zm_Walls_spares 9 [some (.inr (0)), some (.inl (x1)), none, none] [] σ := by
  refine zj_aload_n zd_Walls_spares_9 rfl ?_
  refine zj_getR rfl (by decide) rfl zu_Walls (k := 5) (by decide) rfl zl_Walls_24 zd_Walls_spares_10 (o' := 43) rfl ?_
  refine zj_aload_n zd_Walls_spares_13 rfl ?_
  refine zj_getR rfl (by decide) rfl zu_Walls (k := 4) (by decide) rfl zl_Walls_20 zd_Walls_spares_14 (o' := 33) rfl ?_
  exact zj_callVv (As := [.inr (33)]) hm hdp rfl (by decide) rfl zl_Walls_103 zq_City_copyFrom zd_Walls_spares_17 rfl (Nat.le_of_ble_eq_true rfl) (fun σ1 h => (k σ1 h))
theorem zb_Walls_spares_20 {Γ : zG} {σ : zS} {x1 : Int32}  (k : z_J Γ zm_Walls_spares 24 [some (.inr (0)), some (.inl (x1)), some (.inl (nI 0)), some (.inl (nI 0))] [] σ) : z_J Γ zm_Walls_spares 20 [some (.inr (0)), some (.inl (x1)), none, none] [] σ := by
  refine zj_iconst (v := nI 0) zd_Walls_spares_20 (by decide) ?_
  refine zj_istore_n (L' := [some (.inr (0)), some (.inl (x1)), some (.inl (nI 0)), none]) zd_Walls_spares_21 (by decide) rfl ?_
  refine zj_iconst (v := nI 0) zd_Walls_spares_22 (by decide) ?_
  refine zj_istore_n (L' := [some (.inr (0)), some (.inl (x1)), some (.inl (nI 0)), some (.inl (nI 0))]) zd_Walls_spares_23 (by decide) rfl ?_
  exact k
theorem zb_Walls_spares_24 {Γ : zG} {σ : zS} {x1 x2 x3 : Int32}  (kt : (σ.1 33 6) ≤ x3 → z_J Γ zm_Walls_spares 62 [some (.inr (0)), none, some (.inl (x2)), none] [] σ) (kf : ¬ (σ.1 33 6) ≤ x3 → z_J Γ zm_Walls_spares 35 [some (.inr (0)), some (.inl (x1)), some (.inl (x2)), some (.inl (x3))] [] σ) : z_J Γ zm_Walls_spares 24 [some (.inr (0)), some (.inl (x1)), some (.inl (x2)), some (.inl (x3))] [] σ := by
  refine zj_iload_n zd_Walls_spares_24 rfl ?_
  refine zj_aload_n zd_Walls_spares_25 rfl ?_
  refine zj_getR rfl (by decide) rfl zu_Walls (k := 4) (by decide) rfl zl_Walls_20 zd_Walls_spares_26 (o' := 33) rfl ?_
  refine zj_getI rfl (by decide) rfl zu_City (k := 6) (by decide) rfl zl_Walls_117 zd_Walls_spares_29 ?_
  exact zj_icmp_ge zd_Walls_spares_32 (by decide) (fun h => (zj_weak (L' := [some (.inr (0)), none, some (.inl (x2)), none]) ⟨rfl, ⟨rfl, trivial⟩⟩ (kt h))) (fun h => (kf h))
theorem zb_Walls_spares_35 {Γ : zG} {σ : zS} {x1 x2 x3 : Int32} {dc : Nat} {P : Int32 → zS → Prop}  (hm : z_Ci dc zm_City_heightOf [.inr (33), .inl (x3)] σ P) (hdp : dc < z_dep Γ) (k : ∀ r σ1, P r σ1 → z_J Γ zm_Walls_spares 43 [some (.inr (0)), some (.inl (x1)), some (.inl (x2)), some (.inl (x3))] [.inl (r)] σ1) : z_J Γ zm_Walls_spares 35 [some (.inr (0)), some (.inl (x1)), some (.inl (x2)), some (.inl (x3))] [] σ := by
  refine zj_aload_n zd_Walls_spares_35 rfl ?_
  refine zj_getR rfl (by decide) rfl zu_Walls (k := 4) (by decide) rfl zl_Walls_20 zd_Walls_spares_36 (o' := 33) rfl ?_
  refine zj_iload_n zd_Walls_spares_39 rfl ?_
  exact zj_callVi (As := [.inl (x3)]) hm hdp rfl (by decide) rfl zl_Walls_176 zq_City_heightOf zd_Walls_spares_40 rfl (Nat.le_of_ble_eq_true rfl) (fun r σ1 h => (k r σ1 h))
theorem zb_Walls_spares_43 {Γ : zG} {σ : zS} {x1 x2 x3 y0 : Int32}  (kt : y0 < x1 → z_J Γ zm_Walls_spares 56 [some (.inr (0)), some (.inl (x1)), some (.inl (x2)), some (.inl (x3))] [] σ) (kf : ¬ y0 < x1 → z_J Γ zm_Walls_spares 47 [some (.inr (0)), some (.inl (x1)), some (.inl (x2)), some (.inl (x3))] [] σ) : z_J Γ zm_Walls_spares 43 [some (.inr (0)), some (.inl (x1)), some (.inl (x2)), some (.inl (x3))] [.inl (y0)] σ := by
  refine zj_iload_n zd_Walls_spares_43 rfl ?_
  exact zj_icmp_lt zd_Walls_spares_44 (by decide) (fun h => (kt h)) (fun h => (kf h))
theorem zb_Walls_spares_47 {Γ : zG} {σ : zS} {x1 x2 x3 : Int32} {dc : Nat} {P : Int32 → zS → Prop}  (hm : z_Ci dc zm_Walls_mostSpared [.inr (0), .inl (x3), .inl (x1)] σ P) (hdp : dc < z_dep Γ) (k : ∀ r σ1, P r σ1 → z_J Γ zm_Walls_spares 54 [some (.inr (0)), some (.inl (x1)), none, some (.inl (x3))] [.inl (r), .inl (x2)] σ1) : z_J Γ zm_Walls_spares 47 [some (.inr (0)), some (.inl (x1)), some (.inl (x2)), some (.inl (x3))] [] σ := by
  refine zj_iload_n zd_Walls_spares_47 rfl ?_
  refine zj_aload_n zd_Walls_spares_48 rfl ?_
  refine zj_iload_n zd_Walls_spares_49 rfl ?_
  refine zj_iload_n zd_Walls_spares_50 rfl ?_
  exact zj_callVi (As := [.inl (x3), .inl (x1)]) hm hdp rfl (by decide) rfl zl_Walls_302 zq_Walls_mostSpared zd_Walls_spares_51 rfl (Nat.le_of_ble_eq_true rfl) (fun r σ1 h => (zj_weak (L' := [some (.inr (0)), some (.inl (x1)), none, some (.inl (x3))]) ⟨rfl, ⟨rfl, ⟨rfl, trivial⟩⟩⟩ (k r σ1 h)))
theorem zb_Walls_spares_54 {Γ : zG} {σ : zS} {x1 x3 y0 y1 : Int32}  (k : z_J Γ zm_Walls_spares 56 [some (.inr (0)), some (.inl (x1)), some (.inl (y1 ||| y0)), some (.inl (x3))] [] σ) : z_J Γ zm_Walls_spares 54 [some (.inr (0)), some (.inl (x1)), none, some (.inl (x3))] [.inl (y0), .inl (y1)] σ := by
  refine zj_ior zd_Walls_spares_54 ?_
  refine zj_istore_n (L' := [some (.inr (0)), some (.inl (x1)), some (.inl (y1 ||| y0)), some (.inl (x3))]) zd_Walls_spares_55 (by decide) rfl ?_
  exact k
theorem zb_Walls_spares_56 {Γ : zG} {σ : zS} {x1 x2 x3 : Int32}  (k : z_J Γ zm_Walls_spares 24 [some (.inr (0)), some (.inl (x1)), some (.inl (x2)), some (.inl (x3 + nI 1))] [] σ) : z_J Γ zm_Walls_spares 56 [some (.inr (0)), some (.inl (x1)), some (.inl (x2)), some (.inl (x3))] [] σ := by
  refine zj_iinc (v := nI 1) (L' := [some (.inr (0)), some (.inl (x1)), some (.inl (x2)), some (.inl (x3 + nI 1))]) zd_Walls_spares_56 rfl (by decide) (by decide) rfl ?_
  exact zj_goto zd_Walls_spares_59 (by decide) k
theorem zb_Walls_spares_62 {Γ : zG} {σ : zS} {x2 : Int32} {dc : Nat} {P : zS → Prop}  (hm : z_Cv dc zm_Walls_tell [.inr (0), .inl (x2)] σ P) (hdp : dc < z_dep Γ) (k : ∀ σ1, P σ1 → z_J Γ zm_Walls_spares 67 [none, none, some (.inl (x2)), none] [] σ1) : z_J Γ zm_Walls_spares 62 [some (.inr (0)), none, some (.inl (x2)), none] [] σ := by
  refine zj_aload_n zd_Walls_spares_62 rfl ?_
  refine zj_iload_n zd_Walls_spares_63 rfl ?_
  exact zj_callVv (As := [.inl (x2)]) hm hdp rfl (by decide) rfl zl_Walls_242 zq_Walls_tell zd_Walls_spares_64 rfl (Nat.le_of_ble_eq_true rfl) (fun σ1 h => (zj_weak (L' := [none, none, some (.inl (x2)), none]) ⟨rfl, trivial⟩ (k σ1 h)))
theorem zb_Walls_spares_67 {Γ : zG} {σ : zS} {x2 : Int32} (hdp : 0 < z_dep Γ) (e : z_end Γ (some (z_bc x2)) σ) : z_J Γ zm_Walls_spares 67 [none, none, some (.inl (x2)), none] [] σ := by
  refine zj_iload_n zd_Walls_spares_67 rfl ?_
  refine zj_bitc zl_Walls_273 hdp (Nat.le_of_ble_eq_true rfl) zd_Walls_spares_68 ?_
  exact zj_ireturn rfl zd_Walls_spares_71 e
theorem zd_Walls_mostSpared_0 : decode zm_Walls_mostSpared.2.1 0 = .ok (.aload_n 0, 1) := by decide +kernel
theorem zd_Walls_mostSpared_1 : decode zm_Walls_mostSpared.2.1 1 = .ok (.getfield 20, 3) := by decide +kernel
theorem zd_Walls_mostSpared_4 : decode zm_Walls_mostSpared.2.1 4 = .ok (.iload_n 1, 1) := by decide +kernel
theorem zd_Walls_mostSpared_5 : decode zm_Walls_mostSpared.2.1 5 = .ok (.aload_n 0, 1) := by decide +kernel
theorem zd_Walls_mostSpared_6 : decode zm_Walls_mostSpared.2.1 6 = .ok (.getfield 30, 3) := by decide +kernel
theorem zd_Walls_mostSpared_9 : decode zm_Walls_mostSpared.2.1 9 = .ok (.invokevirtual 185, 3) := by decide +kernel
theorem zd_Walls_mostSpared_12 : decode zm_Walls_mostSpared.2.1 12 = .ok (.istore_n 3, 1) := by decide +kernel
theorem zd_Walls_mostSpared_13 : decode zm_Walls_mostSpared.2.1 13 = .ok (.iconst 0, 1) := by decide +kernel
theorem zd_Walls_mostSpared_14 : decode zm_Walls_mostSpared.2.1 14 = .ok (.istore 4, 2) := by decide +kernel
theorem zd_Walls_mostSpared_16 : decode zm_Walls_mostSpared.2.1 16 = .ok (.iconst 1, 1) := by decide +kernel
theorem zd_Walls_mostSpared_17 : decode zm_Walls_mostSpared.2.1 17 = .ok (.istore 5, 2) := by decide +kernel
theorem zd_Walls_mostSpared_19 : decode zm_Walls_mostSpared.2.1 19 = .ok (.iload 5, 2) := by decide +kernel
theorem zd_Walls_mostSpared_21 : decode zm_Walls_mostSpared.2.1 21 = .ok (.iconst 1, 1) := by decide +kernel
theorem zd_Walls_mostSpared_22 : decode zm_Walls_mostSpared.2.1 22 = .ok (.aload_n 0, 1) := by decide +kernel
theorem zd_Walls_mostSpared_23 : decode zm_Walls_mostSpared.2.1 23 = .ok (.getfield 20, 3) := by decide +kernel
theorem zd_Walls_mostSpared_26 : decode zm_Walls_mostSpared.2.1 26 = .ok (.getfield 179, 3) := by decide +kernel
theorem zd_Walls_mostSpared_29 : decode zm_Walls_mostSpared.2.1 29 = .ok (.iload_n 1, 1) := by decide +kernel
theorem zd_Walls_mostSpared_30 : decode zm_Walls_mostSpared.2.1 30 = .ok (.iaload, 1) := by decide +kernel
theorem zd_Walls_mostSpared_31 : decode zm_Walls_mostSpared.2.1 31 = .ok (.ishl, 1) := by decide +kernel
theorem zd_Walls_mostSpared_32 : decode zm_Walls_mostSpared.2.1 32 = .ok (.if_icmp .ge 105, 3) := by decide +kernel
theorem zd_Walls_mostSpared_35 : decode zm_Walls_mostSpared.2.1 35 = .ok (.aload_n 0, 1) := by decide +kernel
theorem zd_Walls_mostSpared_36 : decode zm_Walls_mostSpared.2.1 36 = .ok (.getfield 20, 3) := by decide +kernel
theorem zd_Walls_mostSpared_39 : decode zm_Walls_mostSpared.2.1 39 = .ok (.iload_n 1, 1) := by decide +kernel
theorem zd_Walls_mostSpared_40 : decode zm_Walls_mostSpared.2.1 40 = .ok (.iload 5, 2) := by decide +kernel
theorem zd_Walls_mostSpared_42 : decode zm_Walls_mostSpared.2.1 42 = .ok (.invokevirtual 338, 3) := by decide +kernel
theorem zd_Walls_mostSpared_45 : decode zm_Walls_mostSpared.2.1 45 = .ok (.istore 6, 2) := by decide +kernel
theorem zd_Walls_mostSpared_47 : decode zm_Walls_mostSpared.2.1 47 = .ok (.iload 6, 2) := by decide +kernel
theorem zd_Walls_mostSpared_49 : decode zm_Walls_mostSpared.2.1 49 = .ok (.invokestatic 273, 3) := by decide +kernel
theorem zd_Walls_mostSpared_52 : decode zm_Walls_mostSpared.2.1 52 = .ok (.iload 4, 2) := by decide +kernel
theorem zd_Walls_mostSpared_54 : decode zm_Walls_mostSpared.2.1 54 = .ok (.invokestatic 273, 3) := by decide +kernel
theorem zd_Walls_mostSpared_57 : decode zm_Walls_mostSpared.2.1 57 = .ok (.isub, 1) := by decide +kernel
theorem zd_Walls_mostSpared_58 : decode zm_Walls_mostSpared.2.1 58 = .ok (.istore 7, 2) := by decide +kernel
theorem zd_Walls_mostSpared_60 : decode zm_Walls_mostSpared.2.1 60 = .ok (.iload 7, 2) := by decide +kernel
theorem zd_Walls_mostSpared_62 : decode zm_Walls_mostSpared.2.1 62 = .ok (.ifCond .lt 69, 3) := by decide +kernel
theorem zd_Walls_mostSpared_65 : decode zm_Walls_mostSpared.2.1 65 = .ok (.iload 7, 2) := by decide +kernel
theorem zd_Walls_mostSpared_67 : decode zm_Walls_mostSpared.2.1 67 = .ok (.ifCond .ne 10, 3) := by decide +kernel
theorem zd_Walls_mostSpared_70 : decode zm_Walls_mostSpared.2.1 70 = .ok (.iload 6, 2) := by decide +kernel
theorem zd_Walls_mostSpared_72 : decode zm_Walls_mostSpared.2.1 72 = .ok (.iload 4, 2) := by decide +kernel
theorem zd_Walls_mostSpared_74 : decode zm_Walls_mostSpared.2.1 74 = .ok (.if_icmp .gt 57, 3) := by decide +kernel
theorem zd_Walls_mostSpared_77 : decode zm_Walls_mostSpared.2.1 77 = .ok (.aload_n 0, 1) := by decide +kernel
theorem zd_Walls_mostSpared_78 : decode zm_Walls_mostSpared.2.1 78 = .ok (.getfield 20, 3) := by decide +kernel
theorem zd_Walls_mostSpared_81 : decode zm_Walls_mostSpared.2.1 81 = .ok (.iload_n 1, 1) := by decide +kernel
theorem zd_Walls_mostSpared_82 : decode zm_Walls_mostSpared.2.1 82 = .ok (.iload 5, 2) := by decide +kernel
theorem zd_Walls_mostSpared_84 : decode zm_Walls_mostSpared.2.1 84 = .ok (.invokevirtual 335, 3) := by decide +kernel
theorem zd_Walls_mostSpared_87 : decode zm_Walls_mostSpared.2.1 87 = .ok (.iload_n 2, 1) := by decide +kernel
theorem zd_Walls_mostSpared_88 : decode zm_Walls_mostSpared.2.1 88 = .ok (.if_icmp .ge 6, 3) := by decide +kernel
theorem zd_Walls_mostSpared_91 : decode zm_Walls_mostSpared.2.1 91 = .ok (.goto 40, 3) := by decide +kernel
theorem zd_Walls_mostSpared_94 : decode zm_Walls_mostSpared.2.1 94 = .ok (.aload_n 0, 1) := by decide +kernel
theorem zd_Walls_mostSpared_95 : decode zm_Walls_mostSpared.2.1 95 = .ok (.getfield 24, 3) := by decide +kernel
theorem zd_Walls_mostSpared_98 : decode zm_Walls_mostSpared.2.1 98 = .ok (.aload_n 0, 1) := by decide +kernel
theorem zd_Walls_mostSpared_99 : decode zm_Walls_mostSpared.2.1 99 = .ok (.getfield 20, 3) := by decide +kernel
theorem zd_Walls_mostSpared_102 : decode zm_Walls_mostSpared.2.1 102 = .ok (.iload_n 1, 1) := by decide +kernel
theorem zd_Walls_mostSpared_103 : decode zm_Walls_mostSpared.2.1 103 = .ok (.iload 5, 2) := by decide +kernel
theorem zd_Walls_mostSpared_105 : decode zm_Walls_mostSpared.2.1 105 = .ok (.invokevirtual 305, 3) := by decide +kernel
theorem zd_Walls_mostSpared_108 : decode zm_Walls_mostSpared.2.1 108 = .ok (.iload_n 3, 1) := by decide +kernel
theorem zd_Walls_mostSpared_109 : decode zm_Walls_mostSpared.2.1 109 = .ok (.ifCond .eq 18, 3) := by decide +kernel
theorem zd_Walls_mostSpared_112 : decode zm_Walls_mostSpared.2.1 112 = .ok (.aload_n 0, 1) := by decide +kernel
theorem zd_Walls_mostSpared_113 : decode zm_Walls_mostSpared.2.1 113 = .ok (.getfield 24, 3) := by decide +kernel
theorem zd_Walls_mostSpared_116 : decode zm_Walls_mostSpared.2.1 116 = .ok (.iload_n 1, 1) := by decide +kernel
theorem zd_Walls_mostSpared_117 : decode zm_Walls_mostSpared.2.1 117 = .ok (.aload_n 0, 1) := by decide +kernel
theorem zd_Walls_mostSpared_118 : decode zm_Walls_mostSpared.2.1 118 = .ok (.getfield 30, 3) := by decide +kernel
theorem zd_Walls_mostSpared_121 : decode zm_Walls_mostSpared.2.1 121 = .ok (.invokevirtual 185, 3) := by decide +kernel
theorem zd_Walls_mostSpared_124 : decode zm_Walls_mostSpared.2.1 124 = .ok (.ifCond .eq 7, 3) := by decide +kernel
theorem zd_Walls_mostSpared_127 : decode zm_Walls_mostSpared.2.1 127 = .ok (.iload 6, 2) := by decide +kernel
theorem zd_Walls_mostSpared_129 : decode zm_Walls_mostSpared.2.1 129 = .ok (.istore 4, 2) := by decide +kernel
theorem zd_Walls_mostSpared_131 : decode zm_Walls_mostSpared.2.1 131 = .ok (.iinc 5 1, 3) := by decide +kernel
theorem zd_Walls_mostSpared_134 : decode zm_Walls_mostSpared.2.1 134 = .ok (.goto (-115), 3) := by decide +kernel
theorem zd_Walls_mostSpared_137 : decode zm_Walls_mostSpared.2.1 137 = .ok (.iload 4, 2) := by decide +kernel
theorem zd_Walls_mostSpared_139 : decode zm_Walls_mostSpared.2.1 139 = .ok (.ireturn, 1) := by decide +kernel
theorem zb_Walls_mostSpared_0 {Γ : zG} {σ : zS} {x1 x2 : Int32} {dc : Nat} {P : Int32 → zS → Prop}  (m1 : z_oR (σ.2 0 6)) (hm : z_Ci dc zm_City_holdsUp [.inr (33), .inl (x1), .inr (σ.2 0 6)] σ P) (hdp : dc < z_dep Γ) (k : ∀ r σ1, P r σ1 → z_J Γ zm_Walls_mostSpared 12 [some (.inr (0)), some (.inl (x1)), some (.inl (x2)), none, none, none, none, none] [.inl (r)] σ1) : z_J Γ zm_Walls_mostSpared 0 [some (.inr (0)), some (.inl (x1)), some (.inl (x2)), none, none, none, none, none] [] σ := by
  refine zj_aload_n zd_Walls_mostSpared_0 rfl ?_
  refine zj_getR rfl (by decide) rfl zu_Walls (k := 4) (by decide) rfl zl_Walls_20 zd_Walls_mostSpared_1 (o' := 33) rfl ?_
  refine zj_iload_n zd_Walls_mostSpared_4 rfl ?_
  refine zj_aload_n zd_Walls_mostSpared_5 rfl ?_
  refine zj_getM rfl (by decide) rfl zu_Walls (k := 6) (by decide) rfl zl_Walls_30 zd_Walls_mostSpared_6 (zk_Rl m1) ?_
  exact zj_callVi (As := [.inl (x1), .inr (σ.2 0 6)]) hm hdp rfl (by decide) rfl zl_Walls_185 zq_City_holdsUp zd_Walls_mostSpared_9 rfl (Nat.le_of_ble_eq_true rfl) (fun r σ1 h => (k r σ1 h))
theorem zb_Walls_mostSpared_12 {Γ : zG} {σ : zS} {x1 x2 y0 : Int32}  (k : z_J Γ zm_Walls_mostSpared 19 [some (.inr (0)), some (.inl (x1)), some (.inl (x2)), some (.inl (y0)), some (.inl (nI 0)), some (.inl (nI 1)), none, none] [] σ) : z_J Γ zm_Walls_mostSpared 12 [some (.inr (0)), some (.inl (x1)), some (.inl (x2)), none, none, none, none, none] [.inl (y0)] σ := by
  refine zj_istore_n (L' := [some (.inr (0)), some (.inl (x1)), some (.inl (x2)), some (.inl (y0)), none, none, none, none]) zd_Walls_mostSpared_12 (by decide) rfl ?_
  refine zj_iconst (v := nI 0) zd_Walls_mostSpared_13 (by decide) ?_
  refine zj_istore (L' := [some (.inr (0)), some (.inl (x1)), some (.inl (x2)), some (.inl (y0)), some (.inl (nI 0)), none, none, none]) zd_Walls_mostSpared_14 (by decide) rfl ?_
  refine zj_iconst (v := nI 1) zd_Walls_mostSpared_16 (by decide) ?_
  refine zj_istore (L' := [some (.inr (0)), some (.inl (x1)), some (.inl (x2)), some (.inl (y0)), some (.inl (nI 0)), some (.inl (nI 1)), none, none]) zd_Walls_mostSpared_17 (by decide) rfl ?_
  exact k
theorem zb_Walls_mostSpared_19 {Γ : zG} {σ : zS} {x1 x2 x3 x4 x5 : Int32} {k1 : Nat}  (b1 : z_ix x1 6 k1) (kt : ((nI 1) <<< ((σ.1 39 k1) &&& 31)) ≤ x5 → z_J Γ zm_Walls_mostSpared 137 [none, none, none, none, some (.inl (x4)), none, none, none] [] σ) (kf : ¬ ((nI 1) <<< ((σ.1 39 k1) &&& 31)) ≤ x5 → z_J Γ zm_Walls_mostSpared 35 [some (.inr (0)), some (.inl (x1)), some (.inl (x2)), some (.inl (x3)), some (.inl (x4)), some (.inl (x5)), none, none] [] σ) : z_J Γ zm_Walls_mostSpared 19 [some (.inr (0)), some (.inl (x1)), some (.inl (x2)), some (.inl (x3)), some (.inl (x4)), some (.inl (x5)), none, none] [] σ := by
  refine zj_iload zd_Walls_mostSpared_19 rfl ?_
  refine zj_iconst (v := nI 1) zd_Walls_mostSpared_21 (by decide) ?_
  refine zj_aload_n zd_Walls_mostSpared_22 rfl ?_
  refine zj_getR rfl (by decide) rfl zu_Walls (k := 4) (by decide) rfl zl_Walls_20 zd_Walls_mostSpared_23 (o' := 33) rfl ?_
  refine zj_getR rfl (by decide) rfl zu_City (k := 7) (by decide) rfl zl_Walls_179 zd_Walls_mostSpared_26 (o' := 39) rfl ?_
  refine zj_iload_n zd_Walls_mostSpared_29 rfl ?_
  refine zj_iaload rfl (by decide) b1 zd_Walls_mostSpared_30 ?_
  refine zj_ishl zd_Walls_mostSpared_31 ?_
  exact zj_icmp_ge zd_Walls_mostSpared_32 (by decide) (fun h => (zj_weak (L' := [none, none, none, none, some (.inl (x4)), none, none, none]) ⟨rfl, trivial⟩ (kt h))) (fun h => (kf h))
theorem zb_Walls_mostSpared_35 {Γ : zG} {σ : zS} {x1 x2 x3 x4 x5 : Int32} {dc : Nat} {P : Int32 → zS → Prop}  (hm : z_Ci dc zm_City_bitsChosen [.inr (33), .inl (x1), .inl (x5)] σ P) (hdp : dc < z_dep Γ) (k : ∀ r σ1, P r σ1 → z_J Γ zm_Walls_mostSpared 45 [some (.inr (0)), some (.inl (x1)), some (.inl (x2)), some (.inl (x3)), some (.inl (x4)), some (.inl (x5)), none, none] [.inl (r)] σ1) : z_J Γ zm_Walls_mostSpared 35 [some (.inr (0)), some (.inl (x1)), some (.inl (x2)), some (.inl (x3)), some (.inl (x4)), some (.inl (x5)), none, none] [] σ := by
  refine zj_aload_n zd_Walls_mostSpared_35 rfl ?_
  refine zj_getR rfl (by decide) rfl zu_Walls (k := 4) (by decide) rfl zl_Walls_20 zd_Walls_mostSpared_36 (o' := 33) rfl ?_
  refine zj_iload_n zd_Walls_mostSpared_39 rfl ?_
  refine zj_iload zd_Walls_mostSpared_40 rfl ?_
  exact zj_callVi (As := [.inl (x1), .inl (x5)]) hm hdp rfl (by decide) rfl zl_Walls_338 zq_City_bitsChosen zd_Walls_mostSpared_42 rfl (Nat.le_of_ble_eq_true rfl) (fun r σ1 h => (k r σ1 h))
theorem zb_Walls_mostSpared_45 {Γ : zG} {σ : zS} {x1 x2 x3 x4 x5 y0 : Int32} (hdp : 0 < z_dep Γ) (kt : ((z_bc y0) - (z_bc x4)) < 0 → z_J Γ zm_Walls_mostSpared 131 [some (.inr (0)), some (.inl (x1)), some (.inl (x2)), some (.inl (x3)), some (.inl (x4)), some (.inl (x5)), none, none] [] σ) (kf : ¬ ((z_bc y0) - (z_bc x4)) < 0 → z_J Γ zm_Walls_mostSpared 65 [some (.inr (0)), some (.inl (x1)), some (.inl (x2)), some (.inl (x3)), some (.inl (x4)), some (.inl (x5)), some (.inl (y0)), some (.inl ((z_bc y0) - (z_bc x4)))] [] σ) : z_J Γ zm_Walls_mostSpared 45 [some (.inr (0)), some (.inl (x1)), some (.inl (x2)), some (.inl (x3)), some (.inl (x4)), some (.inl (x5)), none, none] [.inl (y0)] σ := by
  refine zj_istore (L' := [some (.inr (0)), some (.inl (x1)), some (.inl (x2)), some (.inl (x3)), some (.inl (x4)), some (.inl (x5)), some (.inl (y0)), none]) zd_Walls_mostSpared_45 (by decide) rfl ?_
  refine zj_iload zd_Walls_mostSpared_47 rfl ?_
  refine zj_bitc zl_Walls_273 hdp (Nat.le_of_ble_eq_true rfl) zd_Walls_mostSpared_49 ?_
  refine zj_iload zd_Walls_mostSpared_52 rfl ?_
  refine zj_bitc zl_Walls_273 hdp (Nat.le_of_ble_eq_true rfl) zd_Walls_mostSpared_54 ?_
  refine zj_isub zd_Walls_mostSpared_57 ?_
  refine zj_istore (L' := [some (.inr (0)), some (.inl (x1)), some (.inl (x2)), some (.inl (x3)), some (.inl (x4)), some (.inl (x5)), some (.inl (y0)), some (.inl ((z_bc y0) - (z_bc x4)))]) zd_Walls_mostSpared_58 (by decide) rfl ?_
  refine zj_iload zd_Walls_mostSpared_60 rfl ?_
  exact zj_if_lt zd_Walls_mostSpared_62 (by decide) (fun h => (zj_weak (L' := [some (.inr (0)), some (.inl (x1)), some (.inl (x2)), some (.inl (x3)), some (.inl (x4)), some (.inl (x5)), none, none]) ⟨rfl, ⟨rfl, ⟨rfl, ⟨rfl, ⟨rfl, ⟨rfl, trivial⟩⟩⟩⟩⟩⟩ (kt h))) (fun h => (kf h))
theorem zb_Walls_mostSpared_65 {Γ : zG} {σ : zS} {x1 x2 x3 x4 x5 x6 x7 : Int32}  (kt : ¬ x7 = 0 → z_J Γ zm_Walls_mostSpared 77 [some (.inr (0)), some (.inl (x1)), some (.inl (x2)), some (.inl (x3)), some (.inl (x4)), some (.inl (x5)), some (.inl (x6)), none] [] σ) (kf : x7 = 0 → z_J Γ zm_Walls_mostSpared 70 [some (.inr (0)), some (.inl (x1)), some (.inl (x2)), some (.inl (x3)), some (.inl (x4)), some (.inl (x5)), some (.inl (x6)), none] [] σ) : z_J Γ zm_Walls_mostSpared 65 [some (.inr (0)), some (.inl (x1)), some (.inl (x2)), some (.inl (x3)), some (.inl (x4)), some (.inl (x5)), some (.inl (x6)), some (.inl (x7))] [] σ := by
  refine zj_iload zd_Walls_mostSpared_65 rfl ?_
  exact zj_if_ne zd_Walls_mostSpared_67 (by decide) (fun h => (zj_weak (L' := [some (.inr (0)), some (.inl (x1)), some (.inl (x2)), some (.inl (x3)), some (.inl (x4)), some (.inl (x5)), some (.inl (x6)), none]) ⟨rfl, ⟨rfl, ⟨rfl, ⟨rfl, ⟨rfl, ⟨rfl, ⟨rfl, trivial⟩⟩⟩⟩⟩⟩⟩ (kt h))) (fun h => (zj_weak (L' := [some (.inr (0)), some (.inl (x1)), some (.inl (x2)), some (.inl (x3)), some (.inl (x4)), some (.inl (x5)), some (.inl (x6)), none]) ⟨rfl, ⟨rfl, ⟨rfl, ⟨rfl, ⟨rfl, ⟨rfl, ⟨rfl, trivial⟩⟩⟩⟩⟩⟩⟩ (kf h)))
theorem zb_Walls_mostSpared_70 {Γ : zG} {σ : zS} {x1 x2 x3 x4 x5 x6 : Int32}  (kt : x4 < x6 → z_J Γ zm_Walls_mostSpared 131 [some (.inr (0)), some (.inl (x1)), some (.inl (x2)), some (.inl (x3)), some (.inl (x4)), some (.inl (x5)), none, none] [] σ) (kf : ¬ x4 < x6 → z_J Γ zm_Walls_mostSpared 77 [some (.inr (0)), some (.inl (x1)), some (.inl (x2)), some (.inl (x3)), some (.inl (x4)), some (.inl (x5)), some (.inl (x6)), none] [] σ) : z_J Γ zm_Walls_mostSpared 70 [some (.inr (0)), some (.inl (x1)), some (.inl (x2)), some (.inl (x3)), some (.inl (x4)), some (.inl (x5)), some (.inl (x6)), none] [] σ := by
  refine zj_iload zd_Walls_mostSpared_70 rfl ?_
  refine zj_iload zd_Walls_mostSpared_72 rfl ?_
  exact zj_icmp_gt zd_Walls_mostSpared_74 (by decide) (fun h => (zj_weak (L' := [some (.inr (0)), some (.inl (x1)), some (.inl (x2)), some (.inl (x3)), some (.inl (x4)), some (.inl (x5)), none, none]) ⟨rfl, ⟨rfl, ⟨rfl, ⟨rfl, ⟨rfl, ⟨rfl, trivial⟩⟩⟩⟩⟩⟩ (kt h))) (fun h => (kf h))
theorem zb_Walls_mostSpared_77 {Γ : zG} {σ : zS} {x1 x2 x3 x4 x5 x6 : Int32} {dc : Nat} {P : Int32 → zS → Prop}  (hm : z_Ci dc zm_City_heightWithout [.inr (33), .inl (x1), .inl (x5)] σ P) (hdp : dc < z_dep Γ) (k : ∀ r σ1, P r σ1 → z_J Γ zm_Walls_mostSpared 87 [some (.inr (0)), some (.inl (x1)), some (.inl (x2)), some (.inl (x3)), some (.inl (x4)), some (.inl (x5)), some (.inl (x6)), none] [.inl (r)] σ1) : z_J Γ zm_Walls_mostSpared 77 [some (.inr (0)), some (.inl (x1)), some (.inl (x2)), some (.inl (x3)), some (.inl (x4)), some (.inl (x5)), some (.inl (x6)), none] [] σ := by
  refine zj_aload_n zd_Walls_mostSpared_77 rfl ?_
  refine zj_getR rfl (by decide) rfl zu_Walls (k := 4) (by decide) rfl zl_Walls_20 zd_Walls_mostSpared_78 (o' := 33) rfl ?_
  refine zj_iload_n zd_Walls_mostSpared_81 rfl ?_
  refine zj_iload zd_Walls_mostSpared_82 rfl ?_
  exact zj_callVi (As := [.inl (x1), .inl (x5)]) hm hdp rfl (by decide) rfl zl_Walls_335 zq_City_heightWithout zd_Walls_mostSpared_84 rfl (Nat.le_of_ble_eq_true rfl) (fun r σ1 h => (k r σ1 h))
theorem zb_Walls_mostSpared_87 {Γ : zG} {σ : zS} {x1 x2 x3 x4 x5 x6 y0 : Int32}  (kt : x2 ≤ y0 → z_J Γ zm_Walls_mostSpared 94 [some (.inr (0)), some (.inl (x1)), some (.inl (x2)), some (.inl (x3)), some (.inl (x4)), some (.inl (x5)), some (.inl (x6)), none] [] σ) (kf : ¬ x2 ≤ y0 → z_J Γ zm_Walls_mostSpared 91 [some (.inr (0)), some (.inl (x1)), some (.inl (x2)), some (.inl (x3)), some (.inl (x4)), some (.inl (x5)), none, none] [] σ) : z_J Γ zm_Walls_mostSpared 87 [some (.inr (0)), some (.inl (x1)), some (.inl (x2)), some (.inl (x3)), some (.inl (x4)), some (.inl (x5)), some (.inl (x6)), none] [.inl (y0)] σ := by
  refine zj_iload_n zd_Walls_mostSpared_87 rfl ?_
  exact zj_icmp_ge zd_Walls_mostSpared_88 (by decide) (fun h => (kt h)) (fun h => (zj_weak (L' := [some (.inr (0)), some (.inl (x1)), some (.inl (x2)), some (.inl (x3)), some (.inl (x4)), some (.inl (x5)), none, none]) ⟨rfl, ⟨rfl, ⟨rfl, ⟨rfl, ⟨rfl, ⟨rfl, trivial⟩⟩⟩⟩⟩⟩ (kf h)))
theorem zb_Walls_mostSpared_91 {Γ : zG} {σ : zS} {x1 x2 x3 x4 x5 : Int32}  (k : z_J Γ zm_Walls_mostSpared 131 [some (.inr (0)), some (.inl (x1)), some (.inl (x2)), some (.inl (x3)), some (.inl (x4)), some (.inl (x5)), none, none] [] σ) : z_J Γ zm_Walls_mostSpared 91 [some (.inr (0)), some (.inl (x1)), some (.inl (x2)), some (.inl (x3)), some (.inl (x4)), some (.inl (x5)), none, none] [] σ := by
  exact zj_goto zd_Walls_mostSpared_91 (by decide) k
theorem zb_Walls_mostSpared_94 {Γ : zG} {σ : zS} {x1 x2 x3 x4 x5 x6 : Int32} {dc : Nat} {P : zS → Prop}  (hm : z_Cv dc zm_City_copyColumnWithout [.inr (43), .inr (33), .inl (x1), .inl (x5)] σ P) (hdp : dc < z_dep Γ) (k : ∀ σ1, P σ1 → z_J Γ zm_Walls_mostSpared 108 [some (.inr (0)), some (.inl (x1)), some (.inl (x2)), some (.inl (x3)), some (.inl (x4)), some (.inl (x5)), some (.inl (x6)), none] [] σ1) : z_J Γ zm_Walls_mostSpared 94 [some (.inr (0)), some (.inl (x1)), some (.inl (x2)), some (.inl (x3)), some (.inl (x4)), some (.inl (x5)), some (.inl (x6)), none] [] σ := by
  refine zj_aload_n zd_Walls_mostSpared_94 rfl ?_
  refine zj_getR rfl (by decide) rfl zu_Walls (k := 5) (by decide) rfl zl_Walls_24 zd_Walls_mostSpared_95 (o' := 43) rfl ?_
  refine zj_aload_n zd_Walls_mostSpared_98 rfl ?_
  refine zj_getR rfl (by decide) rfl zu_Walls (k := 4) (by decide) rfl zl_Walls_20 zd_Walls_mostSpared_99 (o' := 33) rfl ?_
  refine zj_iload_n zd_Walls_mostSpared_102 rfl ?_
  refine zj_iload zd_Walls_mostSpared_103 rfl ?_
  exact zj_callVv (As := [.inr (33), .inl (x1), .inl (x5)]) hm hdp rfl (by decide) rfl zl_Walls_305 zq_City_copyColumnWithout zd_Walls_mostSpared_105 rfl (Nat.le_of_ble_eq_true rfl) (fun σ1 h => (k σ1 h))
theorem zb_Walls_mostSpared_108 {Γ : zG} {σ : zS} {x1 x2 x3 x4 x5 x6 : Int32}  (kt : x3 = 0 → z_J Γ zm_Walls_mostSpared 127 [some (.inr (0)), some (.inl (x1)), some (.inl (x2)), some (.inl (x3)), none, some (.inl (x5)), some (.inl (x6)), none] [] σ) (kf : ¬ x3 = 0 → z_J Γ zm_Walls_mostSpared 112 [some (.inr (0)), some (.inl (x1)), some (.inl (x2)), some (.inl (x3)), some (.inl (x4)), some (.inl (x5)), some (.inl (x6)), none] [] σ) : z_J Γ zm_Walls_mostSpared 108 [some (.inr (0)), some (.inl (x1)), some (.inl (x2)), some (.inl (x3)), some (.inl (x4)), some (.inl (x5)), some (.inl (x6)), none] [] σ := by
  refine zj_iload_n zd_Walls_mostSpared_108 rfl ?_
  exact zj_if_eq zd_Walls_mostSpared_109 (by decide) (fun h => (zj_weak (L' := [some (.inr (0)), some (.inl (x1)), some (.inl (x2)), some (.inl (x3)), none, some (.inl (x5)), some (.inl (x6)), none]) ⟨rfl, ⟨rfl, ⟨rfl, ⟨rfl, ⟨rfl, ⟨rfl, trivial⟩⟩⟩⟩⟩⟩ (kt h))) (fun h => (kf h))
theorem zb_Walls_mostSpared_112 {Γ : zG} {σ : zS} {x1 x2 x3 x4 x5 x6 : Int32} {dc : Nat} {P : Int32 → zS → Prop}  (m1 : z_oR (σ.2 0 6)) (hm : z_Ci dc zm_City_holdsUp [.inr (43), .inl (x1), .inr (σ.2 0 6)] σ P) (hdp : dc < z_dep Γ) (k : ∀ r σ1, P r σ1 → z_J Γ zm_Walls_mostSpared 124 [some (.inr (0)), some (.inl (x1)), some (.inl (x2)), some (.inl (x3)), some (.inl (x4)), some (.inl (x5)), some (.inl (x6)), none] [.inl (r)] σ1) : z_J Γ zm_Walls_mostSpared 112 [some (.inr (0)), some (.inl (x1)), some (.inl (x2)), some (.inl (x3)), some (.inl (x4)), some (.inl (x5)), some (.inl (x6)), none] [] σ := by
  refine zj_aload_n zd_Walls_mostSpared_112 rfl ?_
  refine zj_getR rfl (by decide) rfl zu_Walls (k := 5) (by decide) rfl zl_Walls_24 zd_Walls_mostSpared_113 (o' := 43) rfl ?_
  refine zj_iload_n zd_Walls_mostSpared_116 rfl ?_
  refine zj_aload_n zd_Walls_mostSpared_117 rfl ?_
  refine zj_getM rfl (by decide) rfl zu_Walls (k := 6) (by decide) rfl zl_Walls_30 zd_Walls_mostSpared_118 (zk_Rl m1) ?_
  exact zj_callVi (As := [.inl (x1), .inr (σ.2 0 6)]) hm hdp rfl (by decide) rfl zl_Walls_185 zq_City_holdsUp zd_Walls_mostSpared_121 rfl (Nat.le_of_ble_eq_true rfl) (fun r σ1 h => (k r σ1 h))
theorem zb_Walls_mostSpared_124 {Γ : zG} {σ : zS} {x1 x2 x3 x4 x5 x6 y0 : Int32}  (kt : y0 = 0 → z_J Γ zm_Walls_mostSpared 131 [some (.inr (0)), some (.inl (x1)), some (.inl (x2)), some (.inl (x3)), some (.inl (x4)), some (.inl (x5)), none, none] [] σ) (kf : ¬ y0 = 0 → z_J Γ zm_Walls_mostSpared 127 [some (.inr (0)), some (.inl (x1)), some (.inl (x2)), some (.inl (x3)), none, some (.inl (x5)), some (.inl (x6)), none] [] σ) : z_J Γ zm_Walls_mostSpared 124 [some (.inr (0)), some (.inl (x1)), some (.inl (x2)), some (.inl (x3)), some (.inl (x4)), some (.inl (x5)), some (.inl (x6)), none] [.inl (y0)] σ := by
  exact zj_if_eq zd_Walls_mostSpared_124 (by decide) (fun h => (zj_weak (L' := [some (.inr (0)), some (.inl (x1)), some (.inl (x2)), some (.inl (x3)), some (.inl (x4)), some (.inl (x5)), none, none]) ⟨rfl, ⟨rfl, ⟨rfl, ⟨rfl, ⟨rfl, ⟨rfl, trivial⟩⟩⟩⟩⟩⟩ (kt h))) (fun h => (zj_weak (L' := [some (.inr (0)), some (.inl (x1)), some (.inl (x2)), some (.inl (x3)), none, some (.inl (x5)), some (.inl (x6)), none]) ⟨rfl, ⟨rfl, ⟨rfl, ⟨rfl, ⟨rfl, ⟨rfl, trivial⟩⟩⟩⟩⟩⟩ (kf h)))
theorem zb_Walls_mostSpared_127 {Γ : zG} {σ : zS} {x1 x2 x3 x5 x6 : Int32}  (k : z_J Γ zm_Walls_mostSpared 131 [some (.inr (0)), some (.inl (x1)), some (.inl (x2)), some (.inl (x3)), some (.inl (x6)), some (.inl (x5)), none, none] [] σ) : z_J Γ zm_Walls_mostSpared 127 [some (.inr (0)), some (.inl (x1)), some (.inl (x2)), some (.inl (x3)), none, some (.inl (x5)), some (.inl (x6)), none] [] σ := by
  refine zj_iload zd_Walls_mostSpared_127 rfl ?_
  refine zj_istore (L' := [some (.inr (0)), some (.inl (x1)), some (.inl (x2)), some (.inl (x3)), some (.inl (x6)), some (.inl (x5)), some (.inl (x6)), none]) zd_Walls_mostSpared_129 (by decide) rfl ?_
  exact (zj_weak (L' := [some (.inr (0)), some (.inl (x1)), some (.inl (x2)), some (.inl (x3)), some (.inl (x6)), some (.inl (x5)), none, none]) ⟨rfl, ⟨rfl, ⟨rfl, ⟨rfl, ⟨rfl, ⟨rfl, trivial⟩⟩⟩⟩⟩⟩ k)
theorem zb_Walls_mostSpared_131 {Γ : zG} {σ : zS} {x1 x2 x3 x4 x5 : Int32}  (k : z_J Γ zm_Walls_mostSpared 19 [some (.inr (0)), some (.inl (x1)), some (.inl (x2)), some (.inl (x3)), some (.inl (x4)), some (.inl (x5 + nI 1)), none, none] [] σ) : z_J Γ zm_Walls_mostSpared 131 [some (.inr (0)), some (.inl (x1)), some (.inl (x2)), some (.inl (x3)), some (.inl (x4)), some (.inl (x5)), none, none] [] σ := by
  refine zj_iinc (v := nI 1) (L' := [some (.inr (0)), some (.inl (x1)), some (.inl (x2)), some (.inl (x3)), some (.inl (x4)), some (.inl (x5 + nI 1)), none, none]) zd_Walls_mostSpared_131 rfl (by decide) (by decide) rfl ?_
  exact zj_goto zd_Walls_mostSpared_134 (by decide) k
theorem zb_Walls_mostSpared_137 {Γ : zG} {σ : zS} {x4 : Int32}  (e : z_end Γ (some (x4)) σ) : z_J Γ zm_Walls_mostSpared 137 [none, none, none, none, some (.inl (x4)), none, none, none] [] σ := by
  refine zj_iload zd_Walls_mostSpared_137 rfl ?_
  exact zj_ireturn rfl zd_Walls_mostSpared_139 e
theorem zd_Walls_spare_0 : decode zm_Walls_spare.2.1 0 = .ok (.aload_n 0, 1) := by decide +kernel
theorem zd_Walls_spare_1 : decode zm_Walls_spare.2.1 1 = .ok (.getfield 20, 3) := by decide +kernel
theorem zd_Walls_spare_4 : decode zm_Walls_spare.2.1 4 = .ok (.iload_n 1, 1) := by decide +kernel
theorem zd_Walls_spare_5 : decode zm_Walls_spare.2.1 5 = .ok (.invokevirtual 171, 3) := by decide +kernel
theorem zd_Walls_spare_8 : decode zm_Walls_spare.2.1 8 = .ok (.ifCond .ne 5, 3) := by decide +kernel
theorem zd_Walls_spare_11 : decode zm_Walls_spare.2.1 11 = .ok (.iconst (-1), 1) := by decide +kernel
theorem zd_Walls_spare_12 : decode zm_Walls_spare.2.1 12 = .ok (.ireturn, 1) := by decide +kernel
theorem zd_Walls_spare_13 : decode zm_Walls_spare.2.1 13 = .ok (.aload_n 0, 1) := by decide +kernel
theorem zd_Walls_spare_14 : decode zm_Walls_spare.2.1 14 = .ok (.getfield 24, 3) := by decide +kernel
theorem zd_Walls_spare_17 : decode zm_Walls_spare.2.1 17 = .ok (.aload_n 0, 1) := by decide +kernel
theorem zd_Walls_spare_18 : decode zm_Walls_spare.2.1 18 = .ok (.getfield 20, 3) := by decide +kernel
theorem zd_Walls_spare_21 : decode zm_Walls_spare.2.1 21 = .ok (.invokevirtual 103, 3) := by decide +kernel
theorem zd_Walls_spare_24 : decode zm_Walls_spare.2.1 24 = .ok (.iconst (-1), 1) := by decide +kernel
theorem zd_Walls_spare_25 : decode zm_Walls_spare.2.1 25 = .ok (.istore_n 2, 1) := by decide +kernel
theorem zd_Walls_spare_26 : decode zm_Walls_spare.2.1 26 = .ok (.iconst 0, 1) := by decide +kernel
theorem zd_Walls_spare_27 : decode zm_Walls_spare.2.1 27 = .ok (.istore_n 3, 1) := by decide +kernel
theorem zd_Walls_spare_28 : decode zm_Walls_spare.2.1 28 = .ok (.iconst 0, 1) := by decide +kernel
theorem zd_Walls_spare_29 : decode zm_Walls_spare.2.1 29 = .ok (.istore 4, 2) := by decide +kernel
theorem zd_Walls_spare_31 : decode zm_Walls_spare.2.1 31 = .ok (.iload 4, 2) := by decide +kernel
theorem zd_Walls_spare_33 : decode zm_Walls_spare.2.1 33 = .ok (.aload_n 0, 1) := by decide +kernel
theorem zd_Walls_spare_34 : decode zm_Walls_spare.2.1 34 = .ok (.getfield 20, 3) := by decide +kernel
theorem zd_Walls_spare_37 : decode zm_Walls_spare.2.1 37 = .ok (.getfield 179, 3) := by decide +kernel
theorem zd_Walls_spare_40 : decode zm_Walls_spare.2.1 40 = .ok (.iload_n 1, 1) := by decide +kernel
theorem zd_Walls_spare_41 : decode zm_Walls_spare.2.1 41 = .ok (.iaload, 1) := by decide +kernel
theorem zd_Walls_spare_42 : decode zm_Walls_spare.2.1 42 = .ok (.if_icmp .ge 75, 3) := by decide +kernel
theorem zd_Walls_spare_45 : decode zm_Walls_spare.2.1 45 = .ok (.aload_n 0, 1) := by decide +kernel
theorem zd_Walls_spare_46 : decode zm_Walls_spare.2.1 46 = .ok (.getfield 24, 3) := by decide +kernel
theorem zd_Walls_spare_49 : decode zm_Walls_spare.2.1 49 = .ok (.aload_n 0, 1) := by decide +kernel
theorem zd_Walls_spare_50 : decode zm_Walls_spare.2.1 50 = .ok (.getfield 20, 3) := by decide +kernel
theorem zd_Walls_spare_53 : decode zm_Walls_spare.2.1 53 = .ok (.iload_n 1, 1) := by decide +kernel
theorem zd_Walls_spare_54 : decode zm_Walls_spare.2.1 54 = .ok (.iconst 1, 1) := by decide +kernel
theorem zd_Walls_spare_55 : decode zm_Walls_spare.2.1 55 = .ok (.iload 4, 2) := by decide +kernel
theorem zd_Walls_spare_57 : decode zm_Walls_spare.2.1 57 = .ok (.ishl, 1) := by decide +kernel
theorem zd_Walls_spare_58 : decode zm_Walls_spare.2.1 58 = .ok (.invokevirtual 305, 3) := by decide +kernel
theorem zd_Walls_spare_61 : decode zm_Walls_spare.2.1 61 = .ok (.aload_n 0, 1) := by decide +kernel
theorem zd_Walls_spare_62 : decode zm_Walls_spare.2.1 62 = .ok (.getfield 24, 3) := by decide +kernel
theorem zd_Walls_spare_65 : decode zm_Walls_spare.2.1 65 = .ok (.iload_n 1, 1) := by decide +kernel
theorem zd_Walls_spare_66 : decode zm_Walls_spare.2.1 66 = .ok (.invokevirtual 176, 3) := by decide +kernel
theorem zd_Walls_spare_69 : decode zm_Walls_spare.2.1 69 = .ok (.istore 5, 2) := by decide +kernel
theorem zd_Walls_spare_71 : decode zm_Walls_spare.2.1 71 = .ok (.aload_n 0, 1) := by decide +kernel
theorem zd_Walls_spare_72 : decode zm_Walls_spare.2.1 72 = .ok (.getfield 24, 3) := by decide +kernel
theorem zd_Walls_spare_75 : decode zm_Walls_spare.2.1 75 = .ok (.iload_n 1, 1) := by decide +kernel
theorem zd_Walls_spare_76 : decode zm_Walls_spare.2.1 76 = .ok (.aload_n 0, 1) := by decide +kernel
theorem zd_Walls_spare_77 : decode zm_Walls_spare.2.1 77 = .ok (.getfield 30, 3) := by decide +kernel
theorem zd_Walls_spare_80 : decode zm_Walls_spare.2.1 80 = .ok (.invokevirtual 185, 3) := by decide +kernel
theorem zd_Walls_spare_83 : decode zm_Walls_spare.2.1 83 = .ok (.ifCond .eq 28, 3) := by decide +kernel
theorem zd_Walls_spare_86 : decode zm_Walls_spare.2.1 86 = .ok (.iload_n 2, 1) := by decide +kernel
theorem zd_Walls_spare_87 : decode zm_Walls_spare.2.1 87 = .ok (.iconst (-1), 1) := by decide +kernel
theorem zd_Walls_spare_88 : decode zm_Walls_spare.2.1 88 = .ok (.if_icmp .eq 9, 3) := by decide +kernel
theorem zd_Walls_spare_91 : decode zm_Walls_spare.2.1 91 = .ok (.iload 5, 2) := by decide +kernel
theorem zd_Walls_spare_93 : decode zm_Walls_spare.2.1 93 = .ok (.iload_n 3, 1) := by decide +kernel
theorem zd_Walls_spare_94 : decode zm_Walls_spare.2.1 94 = .ok (.if_icmp .le 17, 3) := by decide +kernel
theorem zd_Walls_spare_97 : decode zm_Walls_spare.2.1 97 = .ok (.aload_n 0, 1) := by decide +kernel
theorem zd_Walls_spare_98 : decode zm_Walls_spare.2.1 98 = .ok (.getfield 20, 3) := by decide +kernel
theorem zd_Walls_spare_101 : decode zm_Walls_spare.2.1 101 = .ok (.iload_n 1, 1) := by decide +kernel
theorem zd_Walls_spare_102 : decode zm_Walls_spare.2.1 102 = .ok (.iload 4, 2) := by decide +kernel
theorem zd_Walls_spare_104 : decode zm_Walls_spare.2.1 104 = .ok (.invokevirtual 293, 3) := by decide +kernel
theorem zd_Walls_spare_107 : decode zm_Walls_spare.2.1 107 = .ok (.istore_n 2, 1) := by decide +kernel
theorem zd_Walls_spare_108 : decode zm_Walls_spare.2.1 108 = .ok (.iload 5, 2) := by decide +kernel
theorem zd_Walls_spare_110 : decode zm_Walls_spare.2.1 110 = .ok (.istore_n 3, 1) := by decide +kernel
theorem zd_Walls_spare_111 : decode zm_Walls_spare.2.1 111 = .ok (.iinc 4 1, 3) := by decide +kernel
theorem zd_Walls_spare_114 : decode zm_Walls_spare.2.1 114 = .ok (.goto (-83), 3) := by decide +kernel
theorem zd_Walls_spare_117 : decode zm_Walls_spare.2.1 117 = .ok (.iload_n 2, 1) := by decide +kernel
theorem zd_Walls_spare_118 : decode zm_Walls_spare.2.1 118 = .ok (.iconst (-1), 1) := by decide +kernel
theorem zd_Walls_spare_119 : decode zm_Walls_spare.2.1 119 = .ok (.if_icmp .ne 6, 3) := by decide +kernel
theorem zd_Walls_spare_122 : decode zm_Walls_spare.2.1 122 = .ok (.bipush (-2), 2) := by decide +kernel
theorem zd_Walls_spare_124 : decode zm_Walls_spare.2.1 124 = .ok (.ireturn, 1) := by decide +kernel
theorem zd_Walls_spare_125 : decode zm_Walls_spare.2.1 125 = .ok (.aload_n 0, 1) := by decide +kernel
theorem zd_Walls_spare_126 : decode zm_Walls_spare.2.1 126 = .ok (.iload_n 3, 1) := by decide +kernel
theorem zd_Walls_spare_127 : decode zm_Walls_spare.2.1 127 = .ok (.invokevirtual 242, 3) := by decide +kernel
theorem zd_Walls_spare_130 : decode zm_Walls_spare.2.1 130 = .ok (.iload_n 2, 1) := by decide +kernel
theorem zd_Walls_spare_131 : decode zm_Walls_spare.2.1 131 = .ok (.ireturn, 1) := by decide +kernel
theorem zb_Walls_spare_0 {Γ : zG} {σ : zS} {x1 : Int32} {dc : Nat} {P : Int32 → zS → Prop}  (hm : z_Ci dc zm_City_isColumn [.inr (33), .inl (x1)] σ P) (hdp : dc < z_dep Γ) (k : ∀ r σ1, P r σ1 → z_J Γ zm_Walls_spare 8 [some (.inr (0)), some (.inl (x1)), none, none, none, none] [.inl (r)] σ1) : z_J Γ zm_Walls_spare 0 [some (.inr (0)), some (.inl (x1)), none, none, none, none] [] σ := by
  refine zj_aload_n zd_Walls_spare_0 rfl ?_
  refine zj_getR rfl (by decide) rfl zu_Walls (k := 4) (by decide) rfl zl_Walls_20 zd_Walls_spare_1 (o' := 33) rfl ?_
  refine zj_iload_n zd_Walls_spare_4 rfl ?_
  exact zj_callVi (As := [.inl (x1)]) hm hdp rfl (by decide) rfl zl_Walls_171 zq_City_isColumn zd_Walls_spare_5 rfl (Nat.le_of_ble_eq_true rfl) (fun r σ1 h => (k r σ1 h))
theorem zb_Walls_spare_8 {Γ : zG} {σ : zS} {x1 y0 : Int32}  (kt : ¬ y0 = 0 → z_J Γ zm_Walls_spare 13 [some (.inr (0)), some (.inl (x1)), none, none, none, none] [] σ) (kf : y0 = 0 → z_J Γ zm_Walls_spare 11 [none, none, none, none, none, none] [] σ) : z_J Γ zm_Walls_spare 8 [some (.inr (0)), some (.inl (x1)), none, none, none, none] [.inl (y0)] σ := by
  exact zj_if_ne zd_Walls_spare_8 (by decide) (fun h => (kt h)) (fun h => (zj_weak (L' := [none, none, none, none, none, none]) trivial (kf h)))
theorem zb_Walls_spare_11 {Γ : zG} {σ : zS}  (e : z_end Γ (some ((-1))) σ) : z_J Γ zm_Walls_spare 11 [none, none, none, none, none, none] [] σ := by
  refine zj_iconst (v := (-1)) zd_Walls_spare_11 (by decide) ?_
  exact zj_ireturn rfl zd_Walls_spare_12 e
theorem zb_Walls_spare_13 {Γ : zG} {σ : zS} {x1 : Int32} {dc : Nat} {P : zS → Prop}  (hm : z_Cv dc zm_City_copyFrom [.inr (43), .inr (33)] σ P) (hdp : dc < z_dep Γ) (k : ∀ σ1, P σ1 → z_J Γ zm_Walls_spare 24 [some (.inr (0)), some (.inl (x1)), none, none, none, none] [] σ1) : z_J Γ zm_Walls_spare 13 [some (.inr (0)), some (.inl (x1)), none, none, none, none] [] σ := by
  refine zj_aload_n zd_Walls_spare_13 rfl ?_
  refine zj_getR rfl (by decide) rfl zu_Walls (k := 5) (by decide) rfl zl_Walls_24 zd_Walls_spare_14 (o' := 43) rfl ?_
  refine zj_aload_n zd_Walls_spare_17 rfl ?_
  refine zj_getR rfl (by decide) rfl zu_Walls (k := 4) (by decide) rfl zl_Walls_20 zd_Walls_spare_18 (o' := 33) rfl ?_
  exact zj_callVv (As := [.inr (33)]) hm hdp rfl (by decide) rfl zl_Walls_103 zq_City_copyFrom zd_Walls_spare_21 rfl (Nat.le_of_ble_eq_true rfl) (fun σ1 h => (k σ1 h))
theorem zb_Walls_spare_24 {Γ : zG} {σ : zS} {x1 : Int32}  (k : z_J Γ zm_Walls_spare 31 [some (.inr (0)), some (.inl (x1)), some (.inl ((-1))), some (.inl (nI 0)), some (.inl (nI 0)), none] [] σ) : z_J Γ zm_Walls_spare 24 [some (.inr (0)), some (.inl (x1)), none, none, none, none] [] σ := by
  refine zj_iconst (v := (-1)) zd_Walls_spare_24 (by decide) ?_
  refine zj_istore_n (L' := [some (.inr (0)), some (.inl (x1)), some (.inl ((-1))), none, none, none]) zd_Walls_spare_25 (by decide) rfl ?_
  refine zj_iconst (v := nI 0) zd_Walls_spare_26 (by decide) ?_
  refine zj_istore_n (L' := [some (.inr (0)), some (.inl (x1)), some (.inl ((-1))), some (.inl (nI 0)), none, none]) zd_Walls_spare_27 (by decide) rfl ?_
  refine zj_iconst (v := nI 0) zd_Walls_spare_28 (by decide) ?_
  refine zj_istore (L' := [some (.inr (0)), some (.inl (x1)), some (.inl ((-1))), some (.inl (nI 0)), some (.inl (nI 0)), none]) zd_Walls_spare_29 (by decide) rfl ?_
  exact k
theorem zb_Walls_spare_31 {Γ : zG} {σ : zS} {x1 x2 x3 x4 : Int32} {k1 : Nat}  (b1 : z_ix x1 6 k1) (kt : (σ.1 39 k1) ≤ x4 → z_J Γ zm_Walls_spare 117 [some (.inr (0)), none, some (.inl (x2)), some (.inl (x3)), none, none] [] σ) (kf : ¬ (σ.1 39 k1) ≤ x4 → z_J Γ zm_Walls_spare 45 [some (.inr (0)), some (.inl (x1)), some (.inl (x2)), some (.inl (x3)), some (.inl (x4)), none] [] σ) : z_J Γ zm_Walls_spare 31 [some (.inr (0)), some (.inl (x1)), some (.inl (x2)), some (.inl (x3)), some (.inl (x4)), none] [] σ := by
  refine zj_iload zd_Walls_spare_31 rfl ?_
  refine zj_aload_n zd_Walls_spare_33 rfl ?_
  refine zj_getR rfl (by decide) rfl zu_Walls (k := 4) (by decide) rfl zl_Walls_20 zd_Walls_spare_34 (o' := 33) rfl ?_
  refine zj_getR rfl (by decide) rfl zu_City (k := 7) (by decide) rfl zl_Walls_179 zd_Walls_spare_37 (o' := 39) rfl ?_
  refine zj_iload_n zd_Walls_spare_40 rfl ?_
  refine zj_iaload rfl (by decide) b1 zd_Walls_spare_41 ?_
  exact zj_icmp_ge zd_Walls_spare_42 (by decide) (fun h => (zj_weak (L' := [some (.inr (0)), none, some (.inl (x2)), some (.inl (x3)), none, none]) ⟨rfl, ⟨rfl, ⟨rfl, trivial⟩⟩⟩ (kt h))) (fun h => (kf h))
theorem zb_Walls_spare_45 {Γ : zG} {σ : zS} {x1 x2 x3 x4 : Int32} {dc : Nat} {P : zS → Prop}  (hm : z_Cv dc zm_City_copyColumnWithout [.inr (43), .inr (33), .inl (x1), .inl ((nI 1) <<< (x4 &&& 31))] σ P) (hdp : dc < z_dep Γ) (k : ∀ σ1, P σ1 → z_J Γ zm_Walls_spare 61 [some (.inr (0)), some (.inl (x1)), some (.inl (x2)), some (.inl (x3)), some (.inl (x4)), none] [] σ1) : z_J Γ zm_Walls_spare 45 [some (.inr (0)), some (.inl (x1)), some (.inl (x2)), some (.inl (x3)), some (.inl (x4)), none] [] σ := by
  refine zj_aload_n zd_Walls_spare_45 rfl ?_
  refine zj_getR rfl (by decide) rfl zu_Walls (k := 5) (by decide) rfl zl_Walls_24 zd_Walls_spare_46 (o' := 43) rfl ?_
  refine zj_aload_n zd_Walls_spare_49 rfl ?_
  refine zj_getR rfl (by decide) rfl zu_Walls (k := 4) (by decide) rfl zl_Walls_20 zd_Walls_spare_50 (o' := 33) rfl ?_
  refine zj_iload_n zd_Walls_spare_53 rfl ?_
  refine zj_iconst (v := nI 1) zd_Walls_spare_54 (by decide) ?_
  refine zj_iload zd_Walls_spare_55 rfl ?_
  refine zj_ishl zd_Walls_spare_57 ?_
  exact zj_callVv (As := [.inr (33), .inl (x1), .inl ((nI 1) <<< (x4 &&& 31))]) hm hdp rfl (by decide) rfl zl_Walls_305 zq_City_copyColumnWithout zd_Walls_spare_58 rfl (Nat.le_of_ble_eq_true rfl) (fun σ1 h => (k σ1 h))
theorem zb_Walls_spare_61 {Γ : zG} {σ : zS} {x1 x2 x3 x4 : Int32} {dc : Nat} {P : Int32 → zS → Prop}  (hm : z_Ci dc zm_City_heightOf [.inr (43), .inl (x1)] σ P) (hdp : dc < z_dep Γ) (k : ∀ r σ1, P r σ1 → z_J Γ zm_Walls_spare 69 [some (.inr (0)), some (.inl (x1)), some (.inl (x2)), some (.inl (x3)), some (.inl (x4)), none] [.inl (r)] σ1) : z_J Γ zm_Walls_spare 61 [some (.inr (0)), some (.inl (x1)), some (.inl (x2)), some (.inl (x3)), some (.inl (x4)), none] [] σ := by
  refine zj_aload_n zd_Walls_spare_61 rfl ?_
  refine zj_getR rfl (by decide) rfl zu_Walls (k := 5) (by decide) rfl zl_Walls_24 zd_Walls_spare_62 (o' := 43) rfl ?_
  refine zj_iload_n zd_Walls_spare_65 rfl ?_
  exact zj_callVi (As := [.inl (x1)]) hm hdp rfl (by decide) rfl zl_Walls_176 zq_City_heightOf zd_Walls_spare_66 rfl (Nat.le_of_ble_eq_true rfl) (fun r σ1 h => (k r σ1 h))
theorem zb_Walls_spare_69 {Γ : zG} {σ : zS} {x1 x2 x3 x4 y0 : Int32} {dc : Nat} {P : Int32 → zS → Prop}  (m1 : z_oR (σ.2 0 6)) (hm : z_Ci dc zm_City_holdsUp [.inr (43), .inl (x1), .inr (σ.2 0 6)] σ P) (hdp : dc < z_dep Γ) (k : ∀ r σ1, P r σ1 → z_J Γ zm_Walls_spare 83 [some (.inr (0)), some (.inl (x1)), some (.inl (x2)), some (.inl (x3)), some (.inl (x4)), some (.inl (y0))] [.inl (r)] σ1) : z_J Γ zm_Walls_spare 69 [some (.inr (0)), some (.inl (x1)), some (.inl (x2)), some (.inl (x3)), some (.inl (x4)), none] [.inl (y0)] σ := by
  refine zj_istore (L' := [some (.inr (0)), some (.inl (x1)), some (.inl (x2)), some (.inl (x3)), some (.inl (x4)), some (.inl (y0))]) zd_Walls_spare_69 (by decide) rfl ?_
  refine zj_aload_n zd_Walls_spare_71 rfl ?_
  refine zj_getR rfl (by decide) rfl zu_Walls (k := 5) (by decide) rfl zl_Walls_24 zd_Walls_spare_72 (o' := 43) rfl ?_
  refine zj_iload_n zd_Walls_spare_75 rfl ?_
  refine zj_aload_n zd_Walls_spare_76 rfl ?_
  refine zj_getM rfl (by decide) rfl zu_Walls (k := 6) (by decide) rfl zl_Walls_30 zd_Walls_spare_77 (zk_Rl m1) ?_
  exact zj_callVi (As := [.inl (x1), .inr (σ.2 0 6)]) hm hdp rfl (by decide) rfl zl_Walls_185 zq_City_holdsUp zd_Walls_spare_80 rfl (Nat.le_of_ble_eq_true rfl) (fun r σ1 h => (k r σ1 h))
theorem zb_Walls_spare_83 {Γ : zG} {σ : zS} {x1 x2 x3 x4 x5 y0 : Int32}  (kt : y0 = 0 → z_J Γ zm_Walls_spare 111 [some (.inr (0)), some (.inl (x1)), some (.inl (x2)), some (.inl (x3)), some (.inl (x4)), none] [] σ) (kf : ¬ y0 = 0 → z_J Γ zm_Walls_spare 86 [some (.inr (0)), some (.inl (x1)), some (.inl (x2)), some (.inl (x3)), some (.inl (x4)), some (.inl (x5))] [] σ) : z_J Γ zm_Walls_spare 83 [some (.inr (0)), some (.inl (x1)), some (.inl (x2)), some (.inl (x3)), some (.inl (x4)), some (.inl (x5))] [.inl (y0)] σ := by
  exact zj_if_eq zd_Walls_spare_83 (by decide) (fun h => (zj_weak (L' := [some (.inr (0)), some (.inl (x1)), some (.inl (x2)), some (.inl (x3)), some (.inl (x4)), none]) ⟨rfl, ⟨rfl, ⟨rfl, ⟨rfl, ⟨rfl, trivial⟩⟩⟩⟩⟩ (kt h))) (fun h => (kf h))
theorem zb_Walls_spare_86 {Γ : zG} {σ : zS} {x1 x2 x3 x4 x5 : Int32}  (kt : x2 = (-1) → z_J Γ zm_Walls_spare 97 [some (.inr (0)), some (.inl (x1)), none, none, some (.inl (x4)), some (.inl (x5))] [] σ) (kf : ¬ x2 = (-1) → z_J Γ zm_Walls_spare 91 [some (.inr (0)), some (.inl (x1)), some (.inl (x2)), some (.inl (x3)), some (.inl (x4)), some (.inl (x5))] [] σ) : z_J Γ zm_Walls_spare 86 [some (.inr (0)), some (.inl (x1)), some (.inl (x2)), some (.inl (x3)), some (.inl (x4)), some (.inl (x5))] [] σ := by
  refine zj_iload_n zd_Walls_spare_86 rfl ?_
  refine zj_iconst (v := (-1)) zd_Walls_spare_87 (by decide) ?_
  exact zj_icmp_eq zd_Walls_spare_88 (by decide) (fun h => (zj_weak (L' := [some (.inr (0)), some (.inl (x1)), none, none, some (.inl (x4)), some (.inl (x5))]) ⟨rfl, ⟨rfl, ⟨rfl, ⟨rfl, trivial⟩⟩⟩⟩ (kt h))) (fun h => (kf h))
theorem zb_Walls_spare_91 {Γ : zG} {σ : zS} {x1 x2 x3 x4 x5 : Int32}  (kt : x5 ≤ x3 → z_J Γ zm_Walls_spare 111 [some (.inr (0)), some (.inl (x1)), some (.inl (x2)), some (.inl (x3)), some (.inl (x4)), none] [] σ) (kf : ¬ x5 ≤ x3 → z_J Γ zm_Walls_spare 97 [some (.inr (0)), some (.inl (x1)), none, none, some (.inl (x4)), some (.inl (x5))] [] σ) : z_J Γ zm_Walls_spare 91 [some (.inr (0)), some (.inl (x1)), some (.inl (x2)), some (.inl (x3)), some (.inl (x4)), some (.inl (x5))] [] σ := by
  refine zj_iload zd_Walls_spare_91 rfl ?_
  refine zj_iload_n zd_Walls_spare_93 rfl ?_
  exact zj_icmp_le zd_Walls_spare_94 (by decide) (fun h => (zj_weak (L' := [some (.inr (0)), some (.inl (x1)), some (.inl (x2)), some (.inl (x3)), some (.inl (x4)), none]) ⟨rfl, ⟨rfl, ⟨rfl, ⟨rfl, ⟨rfl, trivial⟩⟩⟩⟩⟩ (kt h))) (fun h => (zj_weak (L' := [some (.inr (0)), some (.inl (x1)), none, none, some (.inl (x4)), some (.inl (x5))]) ⟨rfl, ⟨rfl, ⟨rfl, ⟨rfl, trivial⟩⟩⟩⟩ (kf h)))
theorem zb_Walls_spare_97 {Γ : zG} {σ : zS} {x1 x4 x5 : Int32} {dc : Nat} {P : Int32 → zS → Prop}  (hm : z_Ci dc zm_City_bookAt [.inr (33), .inl (x1), .inl (x4)] σ P) (hdp : dc < z_dep Γ) (k : ∀ r σ1, P r σ1 → z_J Γ zm_Walls_spare 107 [some (.inr (0)), some (.inl (x1)), none, none, some (.inl (x4)), some (.inl (x5))] [.inl (r)] σ1) : z_J Γ zm_Walls_spare 97 [some (.inr (0)), some (.inl (x1)), none, none, some (.inl (x4)), some (.inl (x5))] [] σ := by
  refine zj_aload_n zd_Walls_spare_97 rfl ?_
  refine zj_getR rfl (by decide) rfl zu_Walls (k := 4) (by decide) rfl zl_Walls_20 zd_Walls_spare_98 (o' := 33) rfl ?_
  refine zj_iload_n zd_Walls_spare_101 rfl ?_
  refine zj_iload zd_Walls_spare_102 rfl ?_
  exact zj_callVi (As := [.inl (x1), .inl (x4)]) hm hdp rfl (by decide) rfl zl_Walls_293 zq_City_bookAt zd_Walls_spare_104 rfl (Nat.le_of_ble_eq_true rfl) (fun r σ1 h => (k r σ1 h))
theorem zb_Walls_spare_107 {Γ : zG} {σ : zS} {x1 x4 x5 y0 : Int32}  (k : z_J Γ zm_Walls_spare 111 [some (.inr (0)), some (.inl (x1)), some (.inl (y0)), some (.inl (x5)), some (.inl (x4)), none] [] σ) : z_J Γ zm_Walls_spare 107 [some (.inr (0)), some (.inl (x1)), none, none, some (.inl (x4)), some (.inl (x5))] [.inl (y0)] σ := by
  refine zj_istore_n (L' := [some (.inr (0)), some (.inl (x1)), some (.inl (y0)), none, some (.inl (x4)), some (.inl (x5))]) zd_Walls_spare_107 (by decide) rfl ?_
  refine zj_iload zd_Walls_spare_108 rfl ?_
  refine zj_istore_n (L' := [some (.inr (0)), some (.inl (x1)), some (.inl (y0)), some (.inl (x5)), some (.inl (x4)), some (.inl (x5))]) zd_Walls_spare_110 (by decide) rfl ?_
  exact (zj_weak (L' := [some (.inr (0)), some (.inl (x1)), some (.inl (y0)), some (.inl (x5)), some (.inl (x4)), none]) ⟨rfl, ⟨rfl, ⟨rfl, ⟨rfl, ⟨rfl, trivial⟩⟩⟩⟩⟩ k)
theorem zb_Walls_spare_111 {Γ : zG} {σ : zS} {x1 x2 x3 x4 : Int32}  (k : z_J Γ zm_Walls_spare 31 [some (.inr (0)), some (.inl (x1)), some (.inl (x2)), some (.inl (x3)), some (.inl (x4 + nI 1)), none] [] σ) : z_J Γ zm_Walls_spare 111 [some (.inr (0)), some (.inl (x1)), some (.inl (x2)), some (.inl (x3)), some (.inl (x4)), none] [] σ := by
  refine zj_iinc (v := nI 1) (L' := [some (.inr (0)), some (.inl (x1)), some (.inl (x2)), some (.inl (x3)), some (.inl (x4 + nI 1)), none]) zd_Walls_spare_111 rfl (by decide) (by decide) rfl ?_
  exact zj_goto zd_Walls_spare_114 (by decide) k
theorem zb_Walls_spare_117 {Γ : zG} {σ : zS} {x2 x3 : Int32}  (kt : ¬ x2 = (-1) → z_J Γ zm_Walls_spare 125 [some (.inr (0)), none, some (.inl (x2)), some (.inl (x3)), none, none] [] σ) (kf : x2 = (-1) → z_J Γ zm_Walls_spare 122 [none, none, none, none, none, none] [] σ) : z_J Γ zm_Walls_spare 117 [some (.inr (0)), none, some (.inl (x2)), some (.inl (x3)), none, none] [] σ := by
  refine zj_iload_n zd_Walls_spare_117 rfl ?_
  refine zj_iconst (v := (-1)) zd_Walls_spare_118 (by decide) ?_
  exact zj_icmp_ne zd_Walls_spare_119 (by decide) (fun h => (kt h)) (fun h => (zj_weak (L' := [none, none, none, none, none, none]) trivial (kf h)))
theorem zb_Walls_spare_122 {Γ : zG} {σ : zS}  (e : z_end Γ (some ((-2))) σ) : z_J Γ zm_Walls_spare 122 [none, none, none, none, none, none] [] σ := by
  refine zj_bipush (v := (-2)) zd_Walls_spare_122 (by decide) ?_
  exact zj_ireturn rfl zd_Walls_spare_124 e
theorem zb_Walls_spare_125 {Γ : zG} {σ : zS} {x2 x3 : Int32} {dc : Nat} {P : zS → Prop}  (hm : z_Cv dc zm_Walls_tell [.inr (0), .inl (x3)] σ P) (hdp : dc < z_dep Γ) (k : ∀ σ1, P σ1 → z_J Γ zm_Walls_spare 130 [none, none, some (.inl (x2)), none, none, none] [] σ1) : z_J Γ zm_Walls_spare 125 [some (.inr (0)), none, some (.inl (x2)), some (.inl (x3)), none, none] [] σ := by
  refine zj_aload_n zd_Walls_spare_125 rfl ?_
  refine zj_iload_n zd_Walls_spare_126 rfl ?_
  exact zj_callVv (As := [.inl (x3)]) hm hdp rfl (by decide) rfl zl_Walls_242 zq_Walls_tell zd_Walls_spare_127 rfl (Nat.le_of_ble_eq_true rfl) (fun σ1 h => (zj_weak (L' := [none, none, some (.inl (x2)), none, none, none]) ⟨rfl, trivial⟩ (k σ1 h)))
theorem zb_Walls_spare_130 {Γ : zG} {σ : zS} {x2 : Int32}  (e : z_end Γ (some (x2)) σ) : z_J Γ zm_Walls_spare 130 [none, none, some (.inl (x2)), none, none, none] [] σ := by
  refine zj_iload_n zd_Walls_spare_130 rfl ?_
  exact zj_ireturn rfl zd_Walls_spare_131 e
theorem zd_Walls_build_0 : decode zm_Walls_build.2.1 0 = .ok (.iload_n 1, 1) := by decide +kernel
theorem zd_Walls_build_1 : decode zm_Walls_build.2.1 1 = .ok (.invokestatic 284, 3) := by decide +kernel
theorem zd_Walls_build_4 : decode zm_Walls_build.2.1 4 = .ok (.ifCond .ne 5, 3) := by decide +kernel
theorem zd_Walls_build_7 : decode zm_Walls_build.2.1 7 = .ok (.iconst (-1), 1) := by decide +kernel
theorem zd_Walls_build_8 : decode zm_Walls_build.2.1 8 = .ok (.ireturn, 1) := by decide +kernel
theorem zd_Walls_build_9 : decode zm_Walls_build.2.1 9 = .ok (.aload_n 0, 1) := by decide +kernel
theorem zd_Walls_build_10 : decode zm_Walls_build.2.1 10 = .ok (.getfield 24, 3) := by decide +kernel
theorem zd_Walls_build_13 : decode zm_Walls_build.2.1 13 = .ok (.aload_n 0, 1) := by decide +kernel
theorem zd_Walls_build_14 : decode zm_Walls_build.2.1 14 = .ok (.getfield 20, 3) := by decide +kernel
theorem zd_Walls_build_17 : decode zm_Walls_build.2.1 17 = .ok (.invokevirtual 103, 3) := by decide +kernel
theorem zd_Walls_build_20 : decode zm_Walls_build.2.1 20 = .ok (.aload_n 0, 1) := by decide +kernel
theorem zd_Walls_build_21 : decode zm_Walls_build.2.1 21 = .ok (.aload_n 0, 1) := by decide +kernel
theorem zd_Walls_build_22 : decode zm_Walls_build.2.1 22 = .ok (.getfield 66, 3) := by decide +kernel
theorem zd_Walls_build_25 : decode zm_Walls_build.2.1 25 = .ok (.aload_n 0, 1) := by decide +kernel
theorem zd_Walls_build_26 : decode zm_Walls_build.2.1 26 = .ok (.getfield 24, 3) := by decide +kernel
theorem zd_Walls_build_29 : decode zm_Walls_build.2.1 29 = .ok (.aload_n 0, 1) := by decide +kernel
theorem zd_Walls_build_30 : decode zm_Walls_build.2.1 30 = .ok (.getfield 30, 3) := by decide +kernel
theorem zd_Walls_build_33 : decode zm_Walls_build.2.1 33 = .ok (.iconst 0, 1) := by decide +kernel
theorem zd_Walls_build_34 : decode zm_Walls_build.2.1 34 = .ok (.iload_n 1, 1) := by decide +kernel
theorem zd_Walls_build_35 : decode zm_Walls_build.2.1 35 = .ok (.invokevirtual 309, 3) := by decide +kernel
theorem zd_Walls_build_38 : decode zm_Walls_build.2.1 38 = .ok (.invokevirtual 313, 3) := by decide +kernel
theorem zd_Walls_build_41 : decode zm_Walls_build.2.1 41 = .ok (.ireturn, 1) := by decide +kernel
theorem zb_Walls_build_0 {Γ : zG} {σ : zS} {x1 : Int32} {dc : Nat} {P : Int32 → zS → Prop}  (hm : z_Ci dc zm_Walls_isHeight [.inl (x1)] σ P) (hdp : dc < z_dep Γ) (k : ∀ r σ1, P r σ1 → z_J Γ zm_Walls_build 4 [some (.inr (0)), some (.inl (x1))] [.inl (r)] σ1) : z_J Γ zm_Walls_build 0 [some (.inr (0)), some (.inl (x1))] [] σ := by
  refine zj_iload_n zd_Walls_build_0 rfl ?_
  exact zj_callSi (As := [.inl (x1)]) hm hdp zl_Walls_284 zq_Walls_isHeight zd_Walls_build_1 rfl (Nat.le_of_ble_eq_true rfl) (fun r σ1 h => (k r σ1 h))
theorem zb_Walls_build_4 {Γ : zG} {σ : zS} {x1 y0 : Int32}  (kt : ¬ y0 = 0 → z_J Γ zm_Walls_build 9 [some (.inr (0)), some (.inl (x1))] [] σ) (kf : y0 = 0 → z_J Γ zm_Walls_build 7 [none, none] [] σ) : z_J Γ zm_Walls_build 4 [some (.inr (0)), some (.inl (x1))] [.inl (y0)] σ := by
  exact zj_if_ne zd_Walls_build_4 (by decide) (fun h => (kt h)) (fun h => (zj_weak (L' := [none, none]) trivial (kf h)))
theorem zb_Walls_build_7 {Γ : zG} {σ : zS}  (e : z_end Γ (some ((-1))) σ) : z_J Γ zm_Walls_build 7 [none, none] [] σ := by
  refine zj_iconst (v := (-1)) zd_Walls_build_7 (by decide) ?_
  exact zj_ireturn rfl zd_Walls_build_8 e
theorem zb_Walls_build_9 {Γ : zG} {σ : zS} {x1 : Int32} {dc : Nat} {P : zS → Prop}  (hm : z_Cv dc zm_City_copyFrom [.inr (43), .inr (33)] σ P) (hdp : dc < z_dep Γ) (k : ∀ σ1, P σ1 → z_J Γ zm_Walls_build 20 [some (.inr (0)), some (.inl (x1))] [] σ1) : z_J Γ zm_Walls_build 9 [some (.inr (0)), some (.inl (x1))] [] σ := by
  refine zj_aload_n zd_Walls_build_9 rfl ?_
  refine zj_getR rfl (by decide) rfl zu_Walls (k := 5) (by decide) rfl zl_Walls_24 zd_Walls_build_10 (o' := 43) rfl ?_
  refine zj_aload_n zd_Walls_build_13 rfl ?_
  refine zj_getR rfl (by decide) rfl zu_Walls (k := 4) (by decide) rfl zl_Walls_20 zd_Walls_build_14 (o' := 33) rfl ?_
  exact zj_callVv (As := [.inr (33)]) hm hdp rfl (by decide) rfl zl_Walls_103 zq_City_copyFrom zd_Walls_build_17 rfl (Nat.le_of_ble_eq_true rfl) (fun σ1 h => (k σ1 h))
theorem zb_Walls_build_20 {Γ : zG} {σ : zS} {x1 : Int32} {dc : Nat} {P : Int32 → zS → Prop}  (m1 : z_oR (σ.2 0 6)) (hm : z_Ci dc zm_Mason_fewest [.inr (26), .inr (43), .inr (σ.2 0 6), .inl (nI 0), .inl (x1)] σ P) (hdp : dc < z_dep Γ) (k : ∀ r σ1, P r σ1 → z_J Γ zm_Walls_build 38 [none, none] [.inl (r), .inr (0)] σ1) : z_J Γ zm_Walls_build 20 [some (.inr (0)), some (.inl (x1))] [] σ := by
  refine zj_aload_n zd_Walls_build_20 rfl ?_
  refine zj_aload_n zd_Walls_build_21 rfl ?_
  refine zj_getR rfl (by decide) rfl zu_Walls (k := 13) (by decide) rfl zl_Walls_66 zd_Walls_build_22 (o' := 26) rfl ?_
  refine zj_aload_n zd_Walls_build_25 rfl ?_
  refine zj_getR rfl (by decide) rfl zu_Walls (k := 5) (by decide) rfl zl_Walls_24 zd_Walls_build_26 (o' := 43) rfl ?_
  refine zj_aload_n zd_Walls_build_29 rfl ?_
  refine zj_getM rfl (by decide) rfl zu_Walls (k := 6) (by decide) rfl zl_Walls_30 zd_Walls_build_30 (zk_Rl m1) ?_
  refine zj_iconst (v := nI 0) zd_Walls_build_33 (by decide) ?_
  refine zj_iload_n zd_Walls_build_34 rfl ?_
  exact zj_callVi (As := [.inr (43), .inr (σ.2 0 6), .inl (nI 0), .inl (x1)]) hm hdp rfl (by decide) rfl zl_Walls_309 zq_Mason_fewest zd_Walls_build_35 rfl (Nat.le_of_ble_eq_true rfl) (fun r σ1 h => (zj_weak (L' := [none, none]) trivial (k r σ1 h)))
theorem zb_Walls_build_38 {Γ : zG} {σ : zS} {y0 : Int32} {dc : Nat} {P : Int32 → zS → Prop}  (hm : z_Ci dc zm_Walls_tellSteps [.inr (0), .inl (y0)] σ P) (hdp : dc < z_dep Γ) (k : ∀ r σ1, P r σ1 → z_J Γ zm_Walls_build 41 [none, none] [.inl (r)] σ1) : z_J Γ zm_Walls_build 38 [none, none] [.inl (y0), .inr (0)] σ := by
  exact zj_callVi (As := [.inl (y0)]) hm hdp rfl (by decide) rfl zl_Walls_313 zq_Walls_tellSteps zd_Walls_build_38 rfl (Nat.le_of_ble_eq_true rfl) (fun r σ1 h => (k r σ1 h))
theorem zb_Walls_build_41 {Γ : zG} {σ : zS} {y0 : Int32}  (e : z_end Γ (some (y0)) σ) : z_J Γ zm_Walls_build 41 [none, none] [.inl (y0)] σ := by
  exact zj_ireturn rfl zd_Walls_build_41 e
theorem zd_Walls_tellSteps_0 : decode zm_Walls_tellSteps.2.1 0 = .ok (.iload_n 1, 1) := by decide +kernel
theorem zd_Walls_tellSteps_1 : decode zm_Walls_tellSteps.2.1 1 = .ok (.ifCond .lt 17, 3) := by decide +kernel
theorem zd_Walls_tellSteps_4 : decode zm_Walls_tellSteps.2.1 4 = .ok (.aload_n 0, 1) := by decide +kernel
theorem zd_Walls_tellSteps_5 : decode zm_Walls_tellSteps.2.1 5 = .ok (.aload_n 0, 1) := by decide +kernel
theorem zd_Walls_tellSteps_6 : decode zm_Walls_tellSteps.2.1 6 = .ok (.getfield 66, 3) := by decide +kernel
theorem zd_Walls_tellSteps_9 : decode zm_Walls_tellSteps.2.1 9 = .ok (.getfield 421, 3) := by decide +kernel
theorem zd_Walls_tellSteps_12 : decode zm_Walls_tellSteps.2.1 12 = .ok (.iconst 2, 1) := by decide +kernel
theorem zd_Walls_tellSteps_13 : decode zm_Walls_tellSteps.2.1 13 = .ok (.iload_n 1, 1) := by decide +kernel
theorem zd_Walls_tellSteps_14 : decode zm_Walls_tellSteps.2.1 14 = .ok (.imul, 1) := by decide +kernel
theorem zd_Walls_tellSteps_15 : decode zm_Walls_tellSteps.2.1 15 = .ok (.invokevirtual 322, 3) := by decide +kernel
theorem zd_Walls_tellSteps_18 : decode zm_Walls_tellSteps.2.1 18 = .ok (.iload_n 1, 1) := by decide +kernel
theorem zd_Walls_tellSteps_19 : decode zm_Walls_tellSteps.2.1 19 = .ok (.ireturn, 1) := by decide +kernel
theorem zb_Walls_tellSteps_0 {Γ : zG} {σ : zS} {x1 : Int32}  (kt : x1 < 0 → z_J Γ zm_Walls_tellSteps 18 [none, some (.inl (x1))] [] σ) (kf : ¬ x1 < 0 → z_J Γ zm_Walls_tellSteps 4 [some (.inr (0)), some (.inl (x1))] [] σ) : z_J Γ zm_Walls_tellSteps 0 [some (.inr (0)), some (.inl (x1))] [] σ := by
  refine zj_iload_n zd_Walls_tellSteps_0 rfl ?_
  exact zj_if_lt zd_Walls_tellSteps_1 (by decide) (fun h => (zj_weak (L' := [none, some (.inl (x1))]) ⟨rfl, trivial⟩ (kt h))) (fun h => (kf h))
theorem zb_Walls_tellSteps_4 {Γ : zG} {σ : zS} {x1 : Int32} {dc : Nat} {P : zS → Prop}  (hm : z_Cv dc zm_Walls_tellRow [.inr (0), .inr (27), .inl ((nI 2) * x1)] σ P) (hdp : dc < z_dep Γ) (k : ∀ σ1, P σ1 → z_J Γ zm_Walls_tellSteps 18 [none, some (.inl (x1))] [] σ1) : z_J Γ zm_Walls_tellSteps 4 [some (.inr (0)), some (.inl (x1))] [] σ := by
  refine zj_aload_n zd_Walls_tellSteps_4 rfl ?_
  refine zj_aload_n zd_Walls_tellSteps_5 rfl ?_
  refine zj_getR rfl (by decide) rfl zu_Walls (k := 13) (by decide) rfl zl_Walls_66 zd_Walls_tellSteps_6 (o' := 26) rfl ?_
  refine zj_getR rfl (by decide) rfl zu_Mason (k := 0) (by decide) rfl zl_Walls_421 zd_Walls_tellSteps_9 (o' := 27) rfl ?_
  refine zj_iconst (v := nI 2) zd_Walls_tellSteps_12 (by decide) ?_
  refine zj_iload_n zd_Walls_tellSteps_13 rfl ?_
  refine zj_imul zd_Walls_tellSteps_14 ?_
  exact zj_callVv (As := [.inr (27), .inl ((nI 2) * x1)]) hm hdp rfl (by decide) rfl zl_Walls_322 zq_Walls_tellRow zd_Walls_tellSteps_15 rfl (Nat.le_of_ble_eq_true rfl) (fun σ1 h => (zj_weak (L' := [none, some (.inl (x1))]) ⟨rfl, trivial⟩ (k σ1 h)))
theorem zb_Walls_tellSteps_18 {Γ : zG} {σ : zS} {x1 : Int32}  (e : z_end Γ (some (x1)) σ) : z_J Γ zm_Walls_tellSteps 18 [none, some (.inl (x1))] [] σ := by
  refine zj_iload_n zd_Walls_tellSteps_18 rfl ?_
  exact zj_ireturn rfl zd_Walls_tellSteps_19 e
theorem zd_Walls_tellRow_0 : decode zm_Walls_tellRow.2.1 0 = .ok (.aload_n 1, 1) := by decide +kernel
theorem zd_Walls_tellRow_1 : decode zm_Walls_tellRow.2.1 1 = .ok (.iconst 0, 1) := by decide +kernel
theorem zd_Walls_tellRow_2 : decode zm_Walls_tellRow.2.1 2 = .ok (.aload_n 0, 1) := by decide +kernel
theorem zd_Walls_tellRow_3 : decode zm_Walls_tellRow.2.1 3 = .ok (.getfield 13, 3) := by decide +kernel
theorem zd_Walls_tellRow_6 : decode zm_Walls_tellRow.2.1 6 = .ok (.iconst 0, 1) := by decide +kernel
theorem zd_Walls_tellRow_7 : decode zm_Walls_tellRow.2.1 7 = .ok (.iload_n 2, 1) := by decide +kernel
theorem zd_Walls_tellRow_8 : decode zm_Walls_tellRow.2.1 8 = .ok (.invokestatic 383, 3) := by decide +kernel
theorem zd_Walls_tellRow_11 : decode zm_Walls_tellRow.2.1 11 = .ok (.aload_n 0, 1) := by decide +kernel
theorem zd_Walls_tellRow_12 : decode zm_Walls_tellRow.2.1 12 = .ok (.iload_n 2, 1) := by decide +kernel
theorem zd_Walls_tellRow_13 : decode zm_Walls_tellRow.2.1 13 = .ok (.putfield 349, 3) := by decide +kernel
theorem zd_Walls_tellRow_16 : decode zm_Walls_tellRow.2.1 16 = .ok (.return_, 1) := by decide +kernel
theorem zb_Walls_tellRow_0 {Γ : zG} {σ : zS} {a1 : Nat} {n1 : Nat} {x2 : Int32} {i1 j1 l1 : Nat} (h_a1 : z_kd a1 = (11, n1)) (hs_n1 : n1 < 2 ^ 31) (hdp : 0 < z_dep Γ) (p1 : nI 0 = nI i1) (q1 : nI 0 = nI j1) (r1 : x2 = nI l1) (s1 : i1 + l1 ≤ n1) (t1 : j1 + l1 ≤ 12) (k : z_J Γ zm_Walls_tellRow 11 [some (.inr (0)), none, some (.inl (x2))] [] (z_pA σ 2 (va_cpy (σ.1 a1) (σ.1 2) i1 j1 l1))) : z_J Γ zm_Walls_tellRow 0 [some (.inr (0)), some (.inr (a1)), some (.inl (x2))] [] σ := by
  refine zj_aload_n zd_Walls_tellRow_0 rfl ?_
  refine zj_iconst (v := nI 0) zd_Walls_tellRow_1 (by decide) ?_
  refine zj_aload_n zd_Walls_tellRow_2 rfl ?_
  refine zj_getR rfl (by decide) rfl zu_Walls (k := 2) (by decide) rfl zl_Walls_13 zd_Walls_tellRow_3 (o' := 2) rfl ?_
  refine zj_iconst (v := nI 0) zd_Walls_tellRow_6 (by decide) ?_
  refine zj_iload_n zd_Walls_tellRow_7 rfl ?_
  refine zj_acopy zl_Walls_383 zx_acopy_n zx_acopy_s zx_System h_a1 rfl hs_n1 (by decide) p1 q1 r1 s1 t1 hdp (Nat.le_of_ble_eq_true rfl) zd_Walls_tellRow_8 ?_
  exact (zj_weak (L' := [some (.inr (0)), none, some (.inl (x2))]) ⟨rfl, ⟨rfl, trivial⟩⟩ k)
theorem zb_Walls_tellRow_11 {Γ : zG} {σ : zS} {x2 : Int32}  (e : z_end Γ none (z_pI σ 0 3 x2)) : z_J Γ zm_Walls_tellRow 11 [some (.inr (0)), none, some (.inl (x2))] [] σ := by
  refine zj_aload_n zd_Walls_tellRow_11 rfl ?_
  refine zj_iload_n zd_Walls_tellRow_12 rfl ?_
  refine zj_putI rfl (by decide) rfl zu_Walls zy_Walls_ok zn_Walls (k := 3) (by decide) rfl rfl zl_Walls_349 rfl rfl zd_Walls_tellRow_13 ?_
  exact zj_return rfl zd_Walls_tellRow_16 e
theorem zd_Walls_tallest_0 : decode zm_Walls_tallest.2.1 0 = .ok (.aload_n 0, 1) := by decide +kernel
theorem zd_Walls_tallest_1 : decode zm_Walls_tallest.2.1 1 = .ok (.getfield 20, 3) := by decide +kernel
theorem zd_Walls_tallest_4 : decode zm_Walls_tallest.2.1 4 = .ok (.iconst 0, 1) := by decide +kernel
theorem zd_Walls_tallest_5 : decode zm_Walls_tallest.2.1 5 = .ok (.invokevirtual 270, 3) := by decide +kernel
theorem zd_Walls_tallest_8 : decode zm_Walls_tallest.2.1 8 = .ok (.invokestatic 273, 3) := by decide +kernel
theorem zd_Walls_tallest_11 : decode zm_Walls_tallest.2.1 11 = .ok (.bipush 6, 2) := by decide +kernel
theorem zd_Walls_tallest_13 : decode zm_Walls_tallest.2.1 13 = .ok (.if_icmp .le 6, 3) := by decide +kernel
theorem zd_Walls_tallest_16 : decode zm_Walls_tallest.2.1 16 = .ok (.bipush (-3), 2) := by decide +kernel
theorem zd_Walls_tallest_18 : decode zm_Walls_tallest.2.1 18 = .ok (.ireturn, 1) := by decide +kernel
theorem zd_Walls_tallest_19 : decode zm_Walls_tallest.2.1 19 = .ok (.aload_n 0, 1) := by decide +kernel
theorem zd_Walls_tallest_20 : decode zm_Walls_tallest.2.1 20 = .ok (.getfield 20, 3) := by decide +kernel
theorem zd_Walls_tallest_23 : decode zm_Walls_tallest.2.1 23 = .ok (.invokevirtual 287, 3) := by decide +kernel
theorem zd_Walls_tallest_26 : decode zm_Walls_tallest.2.1 26 = .ok (.istore_n 1, 1) := by decide +kernel
theorem zd_Walls_tallest_27 : decode zm_Walls_tallest.2.1 27 = .ok (.iconst 0, 1) := by decide +kernel
theorem zd_Walls_tallest_28 : decode zm_Walls_tallest.2.1 28 = .ok (.istore_n 2, 1) := by decide +kernel
theorem zd_Walls_tallest_29 : decode zm_Walls_tallest.2.1 29 = .ok (.iload_n 1, 1) := by decide +kernel
theorem zd_Walls_tallest_30 : decode zm_Walls_tallest.2.1 30 = .ok (.iconst 1, 1) := by decide +kernel
theorem zd_Walls_tallest_31 : decode zm_Walls_tallest.2.1 31 = .ok (.iadd, 1) := by decide +kernel
theorem zd_Walls_tallest_32 : decode zm_Walls_tallest.2.1 32 = .ok (.istore_n 3, 1) := by decide +kernel
theorem zd_Walls_tallest_33 : decode zm_Walls_tallest.2.1 33 = .ok (.iload_n 3, 1) := by decide +kernel
theorem zd_Walls_tallest_34 : decode zm_Walls_tallest.2.1 34 = .ok (.bipush 99, 2) := by decide +kernel
theorem zd_Walls_tallest_36 : decode zm_Walls_tallest.2.1 36 = .ok (.if_icmp .gt 66, 3) := by decide +kernel
theorem zd_Walls_tallest_39 : decode zm_Walls_tallest.2.1 39 = .ok (.iload_n 3, 1) := by decide +kernel
theorem zd_Walls_tallest_40 : decode zm_Walls_tallest.2.1 40 = .ok (.iload_n 1, 1) := by decide +kernel
theorem zd_Walls_tallest_41 : decode zm_Walls_tallest.2.1 41 = .ok (.if_icmp .gt 6, 3) := by decide +kernel
theorem zd_Walls_tallest_44 : decode zm_Walls_tallest.2.1 44 = .ok (.goto 52, 3) := by decide +kernel
theorem zd_Walls_tallest_47 : decode zm_Walls_tallest.2.1 47 = .ok (.aload_n 0, 1) := by decide +kernel
theorem zd_Walls_tallest_48 : decode zm_Walls_tallest.2.1 48 = .ok (.getfield 24, 3) := by decide +kernel
theorem zd_Walls_tallest_51 : decode zm_Walls_tallest.2.1 51 = .ok (.aload_n 0, 1) := by decide +kernel
theorem zd_Walls_tallest_52 : decode zm_Walls_tallest.2.1 52 = .ok (.getfield 20, 3) := by decide +kernel
theorem zd_Walls_tallest_55 : decode zm_Walls_tallest.2.1 55 = .ok (.invokevirtual 103, 3) := by decide +kernel
theorem zd_Walls_tallest_58 : decode zm_Walls_tallest.2.1 58 = .ok (.aload_n 0, 1) := by decide +kernel
theorem zd_Walls_tallest_59 : decode zm_Walls_tallest.2.1 59 = .ok (.getfield 66, 3) := by decide +kernel
theorem zd_Walls_tallest_62 : decode zm_Walls_tallest.2.1 62 = .ok (.aload_n 0, 1) := by decide +kernel
theorem zd_Walls_tallest_63 : decode zm_Walls_tallest.2.1 63 = .ok (.getfield 24, 3) := by decide +kernel
theorem zd_Walls_tallest_66 : decode zm_Walls_tallest.2.1 66 = .ok (.aload_n 0, 1) := by decide +kernel
theorem zd_Walls_tallest_67 : decode zm_Walls_tallest.2.1 67 = .ok (.getfield 30, 3) := by decide +kernel
theorem zd_Walls_tallest_70 : decode zm_Walls_tallest.2.1 70 = .ok (.iconst 0, 1) := by decide +kernel
theorem zd_Walls_tallest_71 : decode zm_Walls_tallest.2.1 71 = .ok (.iload_n 3, 1) := by decide +kernel
theorem zd_Walls_tallest_72 : decode zm_Walls_tallest.2.1 72 = .ok (.invokevirtual 309, 3) := by decide +kernel
theorem zd_Walls_tallest_75 : decode zm_Walls_tallest.2.1 75 = .ok (.istore 4, 2) := by decide +kernel
theorem zd_Walls_tallest_77 : decode zm_Walls_tallest.2.1 77 = .ok (.iload 4, 2) := by decide +kernel
theorem zd_Walls_tallest_79 : decode zm_Walls_tallest.2.1 79 = .ok (.ifCond .ge 6, 3) := by decide +kernel
theorem zd_Walls_tallest_82 : decode zm_Walls_tallest.2.1 82 = .ok (.goto 20, 3) := by decide +kernel
theorem zd_Walls_tallest_85 : decode zm_Walls_tallest.2.1 85 = .ok (.iload 4, 2) := by decide +kernel
theorem zd_Walls_tallest_87 : decode zm_Walls_tallest.2.1 87 = .ok (.istore_n 2, 1) := by decide +kernel
theorem zd_Walls_tallest_88 : decode zm_Walls_tallest.2.1 88 = .ok (.aload_n 0, 1) := by decide +kernel
theorem zd_Walls_tallest_89 : decode zm_Walls_tallest.2.1 89 = .ok (.getfield 24, 3) := by decide +kernel
theorem zd_Walls_tallest_92 : decode zm_Walls_tallest.2.1 92 = .ok (.invokevirtual 287, 3) := by decide +kernel
theorem zd_Walls_tallest_95 : decode zm_Walls_tallest.2.1 95 = .ok (.istore_n 1, 1) := by decide +kernel
theorem zd_Walls_tallest_96 : decode zm_Walls_tallest.2.1 96 = .ok (.iinc 3 1, 3) := by decide +kernel
theorem zd_Walls_tallest_99 : decode zm_Walls_tallest.2.1 99 = .ok (.goto (-66), 3) := by decide +kernel
theorem zd_Walls_tallest_102 : decode zm_Walls_tallest.2.1 102 = .ok (.aload_n 0, 1) := by decide +kernel
theorem zd_Walls_tallest_103 : decode zm_Walls_tallest.2.1 103 = .ok (.iload_n 2, 1) := by decide +kernel
theorem zd_Walls_tallest_104 : decode zm_Walls_tallest.2.1 104 = .ok (.invokevirtual 242, 3) := by decide +kernel
theorem zd_Walls_tallest_107 : decode zm_Walls_tallest.2.1 107 = .ok (.iload_n 1, 1) := by decide +kernel
theorem zd_Walls_tallest_108 : decode zm_Walls_tallest.2.1 108 = .ok (.ireturn, 1) := by decide +kernel
theorem zb_Walls_tallest_0 {Γ : zG} {σ : zS} {dc : Nat} {P : Int32 → zS → Prop}  (hm : z_Ci dc zm_City_bitsWhere [.inr (33), .inl (nI 0)] σ P) (hdp : dc < z_dep Γ) (k : ∀ r σ1, P r σ1 → z_J Γ zm_Walls_tallest 8 [some (.inr (0)), none, none, none, none] [.inl (r)] σ1) : z_J Γ zm_Walls_tallest 0 [some (.inr (0)), none, none, none, none] [] σ := by
  refine zj_aload_n zd_Walls_tallest_0 rfl ?_
  refine zj_getR rfl (by decide) rfl zu_Walls (k := 4) (by decide) rfl zl_Walls_20 zd_Walls_tallest_1 (o' := 33) rfl ?_
  refine zj_iconst (v := nI 0) zd_Walls_tallest_4 (by decide) ?_
  exact zj_callVi (As := [.inl (nI 0)]) hm hdp rfl (by decide) rfl zl_Walls_270 zq_City_bitsWhere zd_Walls_tallest_5 rfl (Nat.le_of_ble_eq_true rfl) (fun r σ1 h => (k r σ1 h))
theorem zb_Walls_tallest_8 {Γ : zG} {σ : zS} {y0 : Int32} (hdp : 0 < z_dep Γ) (kt : (z_bc y0) ≤ (nI 6) → z_J Γ zm_Walls_tallest 19 [some (.inr (0)), none, none, none, none] [] σ) (kf : ¬ (z_bc y0) ≤ (nI 6) → z_J Γ zm_Walls_tallest 16 [none, none, none, none, none] [] σ) : z_J Γ zm_Walls_tallest 8 [some (.inr (0)), none, none, none, none] [.inl (y0)] σ := by
  refine zj_bitc zl_Walls_273 hdp (Nat.le_of_ble_eq_true rfl) zd_Walls_tallest_8 ?_
  refine zj_bipush (v := nI 6) zd_Walls_tallest_11 (by decide) ?_
  exact zj_icmp_le zd_Walls_tallest_13 (by decide) (fun h => (kt h)) (fun h => (zj_weak (L' := [none, none, none, none, none]) trivial (kf h)))
theorem zb_Walls_tallest_16 {Γ : zG} {σ : zS}  (e : z_end Γ (some ((-3))) σ) : z_J Γ zm_Walls_tallest 16 [none, none, none, none, none] [] σ := by
  refine zj_bipush (v := (-3)) zd_Walls_tallest_16 (by decide) ?_
  exact zj_ireturn rfl zd_Walls_tallest_18 e
theorem zb_Walls_tallest_19 {Γ : zG} {σ : zS} {dc : Nat} {P : Int32 → zS → Prop}  (hm : z_Ci dc zm_City_leastHeight [.inr (33)] σ P) (hdp : dc < z_dep Γ) (k : ∀ r σ1, P r σ1 → z_J Γ zm_Walls_tallest 26 [some (.inr (0)), none, none, none, none] [.inl (r)] σ1) : z_J Γ zm_Walls_tallest 19 [some (.inr (0)), none, none, none, none] [] σ := by
  refine zj_aload_n zd_Walls_tallest_19 rfl ?_
  refine zj_getR rfl (by decide) rfl zu_Walls (k := 4) (by decide) rfl zl_Walls_20 zd_Walls_tallest_20 (o' := 33) rfl ?_
  exact zj_callVi (As := []) hm hdp rfl (by decide) rfl zl_Walls_287 zq_City_leastHeight zd_Walls_tallest_23 rfl (Nat.le_of_ble_eq_true rfl) (fun r σ1 h => (k r σ1 h))
theorem zb_Walls_tallest_26 {Γ : zG} {σ : zS} {y0 : Int32}  (k : z_J Γ zm_Walls_tallest 33 [some (.inr (0)), some (.inl (y0)), some (.inl (nI 0)), some (.inl (y0 + (nI 1))), none] [] σ) : z_J Γ zm_Walls_tallest 26 [some (.inr (0)), none, none, none, none] [.inl (y0)] σ := by
  refine zj_istore_n (L' := [some (.inr (0)), some (.inl (y0)), none, none, none]) zd_Walls_tallest_26 (by decide) rfl ?_
  refine zj_iconst (v := nI 0) zd_Walls_tallest_27 (by decide) ?_
  refine zj_istore_n (L' := [some (.inr (0)), some (.inl (y0)), some (.inl (nI 0)), none, none]) zd_Walls_tallest_28 (by decide) rfl ?_
  refine zj_iload_n zd_Walls_tallest_29 rfl ?_
  refine zj_iconst (v := nI 1) zd_Walls_tallest_30 (by decide) ?_
  refine zj_iadd zd_Walls_tallest_31 ?_
  refine zj_istore_n (L' := [some (.inr (0)), some (.inl (y0)), some (.inl (nI 0)), some (.inl (y0 + (nI 1))), none]) zd_Walls_tallest_32 (by decide) rfl ?_
  exact k
theorem zb_Walls_tallest_33 {Γ : zG} {σ : zS} {x1 x2 x3 : Int32}  (kt : (nI 99) < x3 → z_J Γ zm_Walls_tallest 102 [some (.inr (0)), some (.inl (x1)), some (.inl (x2)), none, none] [] σ) (kf : ¬ (nI 99) < x3 → z_J Γ zm_Walls_tallest 39 [some (.inr (0)), some (.inl (x1)), some (.inl (x2)), some (.inl (x3)), none] [] σ) : z_J Γ zm_Walls_tallest 33 [some (.inr (0)), some (.inl (x1)), some (.inl (x2)), some (.inl (x3)), none] [] σ := by
  refine zj_iload_n zd_Walls_tallest_33 rfl ?_
  refine zj_bipush (v := nI 99) zd_Walls_tallest_34 (by decide) ?_
  exact zj_icmp_gt zd_Walls_tallest_36 (by decide) (fun h => (zj_weak (L' := [some (.inr (0)), some (.inl (x1)), some (.inl (x2)), none, none]) ⟨rfl, ⟨rfl, ⟨rfl, trivial⟩⟩⟩ (kt h))) (fun h => (kf h))
theorem zb_Walls_tallest_39 {Γ : zG} {σ : zS} {x1 x2 x3 : Int32}  (kt : x1 < x3 → z_J Γ zm_Walls_tallest 47 [some (.inr (0)), some (.inl (x1)), some (.inl (x2)), some (.inl (x3)), none] [] σ) (kf : ¬ x1 < x3 → z_J Γ zm_Walls_tallest 44 [some (.inr (0)), some (.inl (x1)), some (.inl (x2)), some (.inl (x3)), none] [] σ) : z_J Γ zm_Walls_tallest 39 [some (.inr (0)), some (.inl (x1)), some (.inl (x2)), some (.inl (x3)), none] [] σ := by
  refine zj_iload_n zd_Walls_tallest_39 rfl ?_
  refine zj_iload_n zd_Walls_tallest_40 rfl ?_
  exact zj_icmp_gt zd_Walls_tallest_41 (by decide) (fun h => (kt h)) (fun h => (kf h))
theorem zb_Walls_tallest_44 {Γ : zG} {σ : zS} {x1 x2 x3 : Int32}  (k : z_J Γ zm_Walls_tallest 96 [some (.inr (0)), some (.inl (x1)), some (.inl (x2)), some (.inl (x3)), none] [] σ) : z_J Γ zm_Walls_tallest 44 [some (.inr (0)), some (.inl (x1)), some (.inl (x2)), some (.inl (x3)), none] [] σ := by
  exact zj_goto zd_Walls_tallest_44 (by decide) k
theorem zb_Walls_tallest_47 {Γ : zG} {σ : zS} {x1 x2 x3 : Int32} {dc : Nat} {P : zS → Prop}  (hm : z_Cv dc zm_City_copyFrom [.inr (43), .inr (33)] σ P) (hdp : dc < z_dep Γ) (k : ∀ σ1, P σ1 → z_J Γ zm_Walls_tallest 58 [some (.inr (0)), some (.inl (x1)), some (.inl (x2)), some (.inl (x3)), none] [] σ1) : z_J Γ zm_Walls_tallest 47 [some (.inr (0)), some (.inl (x1)), some (.inl (x2)), some (.inl (x3)), none] [] σ := by
  refine zj_aload_n zd_Walls_tallest_47 rfl ?_
  refine zj_getR rfl (by decide) rfl zu_Walls (k := 5) (by decide) rfl zl_Walls_24 zd_Walls_tallest_48 (o' := 43) rfl ?_
  refine zj_aload_n zd_Walls_tallest_51 rfl ?_
  refine zj_getR rfl (by decide) rfl zu_Walls (k := 4) (by decide) rfl zl_Walls_20 zd_Walls_tallest_52 (o' := 33) rfl ?_
  exact zj_callVv (As := [.inr (33)]) hm hdp rfl (by decide) rfl zl_Walls_103 zq_City_copyFrom zd_Walls_tallest_55 rfl (Nat.le_of_ble_eq_true rfl) (fun σ1 h => (k σ1 h))
theorem zb_Walls_tallest_58 {Γ : zG} {σ : zS} {x1 x2 x3 : Int32} {dc : Nat} {P : Int32 → zS → Prop}  (m1 : z_oR (σ.2 0 6)) (hm : z_Ci dc zm_Mason_fewest [.inr (26), .inr (43), .inr (σ.2 0 6), .inl (nI 0), .inl (x3)] σ P) (hdp : dc < z_dep Γ) (k : ∀ r σ1, P r σ1 → z_J Γ zm_Walls_tallest 75 [some (.inr (0)), some (.inl (x1)), some (.inl (x2)), some (.inl (x3)), none] [.inl (r)] σ1) : z_J Γ zm_Walls_tallest 58 [some (.inr (0)), some (.inl (x1)), some (.inl (x2)), some (.inl (x3)), none] [] σ := by
  refine zj_aload_n zd_Walls_tallest_58 rfl ?_
  refine zj_getR rfl (by decide) rfl zu_Walls (k := 13) (by decide) rfl zl_Walls_66 zd_Walls_tallest_59 (o' := 26) rfl ?_
  refine zj_aload_n zd_Walls_tallest_62 rfl ?_
  refine zj_getR rfl (by decide) rfl zu_Walls (k := 5) (by decide) rfl zl_Walls_24 zd_Walls_tallest_63 (o' := 43) rfl ?_
  refine zj_aload_n zd_Walls_tallest_66 rfl ?_
  refine zj_getM rfl (by decide) rfl zu_Walls (k := 6) (by decide) rfl zl_Walls_30 zd_Walls_tallest_67 (zk_Rl m1) ?_
  refine zj_iconst (v := nI 0) zd_Walls_tallest_70 (by decide) ?_
  refine zj_iload_n zd_Walls_tallest_71 rfl ?_
  exact zj_callVi (As := [.inr (43), .inr (σ.2 0 6), .inl (nI 0), .inl (x3)]) hm hdp rfl (by decide) rfl zl_Walls_309 zq_Mason_fewest zd_Walls_tallest_72 rfl (Nat.le_of_ble_eq_true rfl) (fun r σ1 h => (k r σ1 h))
theorem zb_Walls_tallest_75 {Γ : zG} {σ : zS} {x1 x2 x3 y0 : Int32}  (kt : 0 ≤ y0 → z_J Γ zm_Walls_tallest 85 [some (.inr (0)), none, none, some (.inl (x3)), some (.inl (y0))] [] σ) (kf : ¬ 0 ≤ y0 → z_J Γ zm_Walls_tallest 82 [some (.inr (0)), some (.inl (x1)), some (.inl (x2)), none, none] [] σ) : z_J Γ zm_Walls_tallest 75 [some (.inr (0)), some (.inl (x1)), some (.inl (x2)), some (.inl (x3)), none] [.inl (y0)] σ := by
  refine zj_istore (L' := [some (.inr (0)), some (.inl (x1)), some (.inl (x2)), some (.inl (x3)), some (.inl (y0))]) zd_Walls_tallest_75 (by decide) rfl ?_
  refine zj_iload zd_Walls_tallest_77 rfl ?_
  exact zj_if_ge zd_Walls_tallest_79 (by decide) (fun h => (zj_weak (L' := [some (.inr (0)), none, none, some (.inl (x3)), some (.inl (y0))]) ⟨rfl, ⟨rfl, ⟨rfl, trivial⟩⟩⟩ (kt h))) (fun h => (zj_weak (L' := [some (.inr (0)), some (.inl (x1)), some (.inl (x2)), none, none]) ⟨rfl, ⟨rfl, ⟨rfl, trivial⟩⟩⟩ (kf h)))
theorem zb_Walls_tallest_82 {Γ : zG} {σ : zS} {x1 x2 : Int32}  (k : z_J Γ zm_Walls_tallest 102 [some (.inr (0)), some (.inl (x1)), some (.inl (x2)), none, none] [] σ) : z_J Γ zm_Walls_tallest 82 [some (.inr (0)), some (.inl (x1)), some (.inl (x2)), none, none] [] σ := by
  exact zj_goto zd_Walls_tallest_82 (by decide) k
theorem zb_Walls_tallest_85 {Γ : zG} {σ : zS} {x3 x4 : Int32} {dc : Nat} {P : Int32 → zS → Prop}  (hm : z_Ci dc zm_City_leastHeight [.inr (43)] σ P) (hdp : dc < z_dep Γ) (k : ∀ r σ1, P r σ1 → z_J Γ zm_Walls_tallest 95 [some (.inr (0)), none, some (.inl (x4)), some (.inl (x3)), none] [.inl (r)] σ1) : z_J Γ zm_Walls_tallest 85 [some (.inr (0)), none, none, some (.inl (x3)), some (.inl (x4))] [] σ := by
  refine zj_iload zd_Walls_tallest_85 rfl ?_
  refine zj_istore_n (L' := [some (.inr (0)), none, some (.inl (x4)), some (.inl (x3)), some (.inl (x4))]) zd_Walls_tallest_87 (by decide) rfl ?_
  refine zj_aload_n zd_Walls_tallest_88 rfl ?_
  refine zj_getR rfl (by decide) rfl zu_Walls (k := 5) (by decide) rfl zl_Walls_24 zd_Walls_tallest_89 (o' := 43) rfl ?_
  exact zj_callVi (As := []) hm hdp rfl (by decide) rfl zl_Walls_287 zq_City_leastHeight zd_Walls_tallest_92 rfl (Nat.le_of_ble_eq_true rfl) (fun r σ1 h => (zj_weak (L' := [some (.inr (0)), none, some (.inl (x4)), some (.inl (x3)), none]) ⟨rfl, ⟨rfl, ⟨rfl, trivial⟩⟩⟩ (k r σ1 h)))
theorem zb_Walls_tallest_95 {Γ : zG} {σ : zS} {x2 x3 y0 : Int32}  (k : z_J Γ zm_Walls_tallest 96 [some (.inr (0)), some (.inl (y0)), some (.inl (x2)), some (.inl (x3)), none] [] σ) : z_J Γ zm_Walls_tallest 95 [some (.inr (0)), none, some (.inl (x2)), some (.inl (x3)), none] [.inl (y0)] σ := by
  refine zj_istore_n (L' := [some (.inr (0)), some (.inl (y0)), some (.inl (x2)), some (.inl (x3)), none]) zd_Walls_tallest_95 (by decide) rfl ?_
  exact k
theorem zb_Walls_tallest_96 {Γ : zG} {σ : zS} {x1 x2 x3 : Int32}  (k : z_J Γ zm_Walls_tallest 33 [some (.inr (0)), some (.inl (x1)), some (.inl (x2)), some (.inl (x3 + nI 1)), none] [] σ) : z_J Γ zm_Walls_tallest 96 [some (.inr (0)), some (.inl (x1)), some (.inl (x2)), some (.inl (x3)), none] [] σ := by
  refine zj_iinc (v := nI 1) (L' := [some (.inr (0)), some (.inl (x1)), some (.inl (x2)), some (.inl (x3 + nI 1)), none]) zd_Walls_tallest_96 rfl (by decide) (by decide) rfl ?_
  exact zj_goto zd_Walls_tallest_99 (by decide) k
theorem zb_Walls_tallest_102 {Γ : zG} {σ : zS} {x1 x2 : Int32} {dc : Nat} {P : zS → Prop}  (hm : z_Cv dc zm_Walls_tell [.inr (0), .inl (x2)] σ P) (hdp : dc < z_dep Γ) (k : ∀ σ1, P σ1 → z_J Γ zm_Walls_tallest 107 [none, some (.inl (x1)), none, none, none] [] σ1) : z_J Γ zm_Walls_tallest 102 [some (.inr (0)), some (.inl (x1)), some (.inl (x2)), none, none] [] σ := by
  refine zj_aload_n zd_Walls_tallest_102 rfl ?_
  refine zj_iload_n zd_Walls_tallest_103 rfl ?_
  exact zj_callVv (As := [.inl (x2)]) hm hdp rfl (by decide) rfl zl_Walls_242 zq_Walls_tell zd_Walls_tallest_104 rfl (Nat.le_of_ble_eq_true rfl) (fun σ1 h => (zj_weak (L' := [none, some (.inl (x1)), none, none, none]) ⟨rfl, trivial⟩ (k σ1 h)))
theorem zb_Walls_tallest_107 {Γ : zG} {σ : zS} {x1 : Int32}  (e : z_end Γ (some (x1)) σ) : z_J Γ zm_Walls_tallest 107 [none, some (.inl (x1)), none, none, none] [] σ := by
  refine zj_iload_n zd_Walls_tallest_107 rfl ?_
  exact zj_ireturn rfl zd_Walls_tallest_108 e
theorem zd_Walls_calls_0 : decode zm_Walls_calls.2.1 0 = .ok (.iload_n 1, 1) := by decide +kernel
theorem zd_Walls_calls_1 : decode zm_Walls_calls.2.1 1 = .ok (.invokestatic 284, 3) := by decide +kernel
theorem zd_Walls_calls_4 : decode zm_Walls_calls.2.1 4 = .ok (.ifCond .ne 5, 3) := by decide +kernel
theorem zd_Walls_calls_7 : decode zm_Walls_calls.2.1 7 = .ok (.iconst (-1), 1) := by decide +kernel
theorem zd_Walls_calls_8 : decode zm_Walls_calls.2.1 8 = .ok (.ireturn, 1) := by decide +kernel
theorem zd_Walls_calls_9 : decode zm_Walls_calls.2.1 9 = .ok (.aload_n 0, 1) := by decide +kernel
theorem zd_Walls_calls_10 : decode zm_Walls_calls.2.1 10 = .ok (.getfield 24, 3) := by decide +kernel
theorem zd_Walls_calls_13 : decode zm_Walls_calls.2.1 13 = .ok (.aload_n 0, 1) := by decide +kernel
theorem zd_Walls_calls_14 : decode zm_Walls_calls.2.1 14 = .ok (.getfield 20, 3) := by decide +kernel
theorem zd_Walls_calls_17 : decode zm_Walls_calls.2.1 17 = .ok (.invokevirtual 103, 3) := by decide +kernel
theorem zd_Walls_calls_20 : decode zm_Walls_calls.2.1 20 = .ok (.aload_n 0, 1) := by decide +kernel
theorem zd_Walls_calls_21 : decode zm_Walls_calls.2.1 21 = .ok (.aload_n 0, 1) := by decide +kernel
theorem zd_Walls_calls_22 : decode zm_Walls_calls.2.1 22 = .ok (.getfield 66, 3) := by decide +kernel
theorem zd_Walls_calls_25 : decode zm_Walls_calls.2.1 25 = .ok (.aload_n 0, 1) := by decide +kernel
theorem zd_Walls_calls_26 : decode zm_Walls_calls.2.1 26 = .ok (.getfield 24, 3) := by decide +kernel
theorem zd_Walls_calls_29 : decode zm_Walls_calls.2.1 29 = .ok (.aload_n 0, 1) := by decide +kernel
theorem zd_Walls_calls_30 : decode zm_Walls_calls.2.1 30 = .ok (.getfield 30, 3) := by decide +kernel
theorem zd_Walls_calls_33 : decode zm_Walls_calls.2.1 33 = .ok (.iconst 2, 1) := by decide +kernel
theorem zd_Walls_calls_34 : decode zm_Walls_calls.2.1 34 = .ok (.iload_n 1, 1) := by decide +kernel
theorem zd_Walls_calls_35 : decode zm_Walls_calls.2.1 35 = .ok (.invokevirtual 309, 3) := by decide +kernel
theorem zd_Walls_calls_38 : decode zm_Walls_calls.2.1 38 = .ok (.invokevirtual 313, 3) := by decide +kernel
theorem zd_Walls_calls_41 : decode zm_Walls_calls.2.1 41 = .ok (.ireturn, 1) := by decide +kernel
theorem zb_Walls_calls_0 {Γ : zG} {σ : zS} {x1 : Int32} {dc : Nat} {P : Int32 → zS → Prop}  (hm : z_Ci dc zm_Walls_isHeight [.inl (x1)] σ P) (hdp : dc < z_dep Γ) (k : ∀ r σ1, P r σ1 → z_J Γ zm_Walls_calls 4 [some (.inr (0)), some (.inl (x1))] [.inl (r)] σ1) : z_J Γ zm_Walls_calls 0 [some (.inr (0)), some (.inl (x1))] [] σ := by
  refine zj_iload_n zd_Walls_calls_0 rfl ?_
  exact zj_callSi (As := [.inl (x1)]) hm hdp zl_Walls_284 zq_Walls_isHeight zd_Walls_calls_1 rfl (Nat.le_of_ble_eq_true rfl) (fun r σ1 h => (k r σ1 h))
theorem zb_Walls_calls_4 {Γ : zG} {σ : zS} {x1 y0 : Int32}  (kt : ¬ y0 = 0 → z_J Γ zm_Walls_calls 9 [some (.inr (0)), some (.inl (x1))] [] σ) (kf : y0 = 0 → z_J Γ zm_Walls_calls 7 [none, none] [] σ) : z_J Γ zm_Walls_calls 4 [some (.inr (0)), some (.inl (x1))] [.inl (y0)] σ := by
  exact zj_if_ne zd_Walls_calls_4 (by decide) (fun h => (kt h)) (fun h => (zj_weak (L' := [none, none]) trivial (kf h)))
theorem zb_Walls_calls_7 {Γ : zG} {σ : zS}  (e : z_end Γ (some ((-1))) σ) : z_J Γ zm_Walls_calls 7 [none, none] [] σ := by
  refine zj_iconst (v := (-1)) zd_Walls_calls_7 (by decide) ?_
  exact zj_ireturn rfl zd_Walls_calls_8 e
theorem zb_Walls_calls_9 {Γ : zG} {σ : zS} {x1 : Int32} {dc : Nat} {P : zS → Prop}  (hm : z_Cv dc zm_City_copyFrom [.inr (43), .inr (33)] σ P) (hdp : dc < z_dep Γ) (k : ∀ σ1, P σ1 → z_J Γ zm_Walls_calls 20 [some (.inr (0)), some (.inl (x1))] [] σ1) : z_J Γ zm_Walls_calls 9 [some (.inr (0)), some (.inl (x1))] [] σ := by
  refine zj_aload_n zd_Walls_calls_9 rfl ?_
  refine zj_getR rfl (by decide) rfl zu_Walls (k := 5) (by decide) rfl zl_Walls_24 zd_Walls_calls_10 (o' := 43) rfl ?_
  refine zj_aload_n zd_Walls_calls_13 rfl ?_
  refine zj_getR rfl (by decide) rfl zu_Walls (k := 4) (by decide) rfl zl_Walls_20 zd_Walls_calls_14 (o' := 33) rfl ?_
  exact zj_callVv (As := [.inr (33)]) hm hdp rfl (by decide) rfl zl_Walls_103 zq_City_copyFrom zd_Walls_calls_17 rfl (Nat.le_of_ble_eq_true rfl) (fun σ1 h => (k σ1 h))
theorem zb_Walls_calls_20 {Γ : zG} {σ : zS} {x1 : Int32} {dc : Nat} {P : Int32 → zS → Prop}  (m1 : z_oR (σ.2 0 6)) (hm : z_Ci dc zm_Mason_fewest [.inr (26), .inr (43), .inr (σ.2 0 6), .inl (nI 2), .inl (x1)] σ P) (hdp : dc < z_dep Γ) (k : ∀ r σ1, P r σ1 → z_J Γ zm_Walls_calls 38 [none, none] [.inl (r), .inr (0)] σ1) : z_J Γ zm_Walls_calls 20 [some (.inr (0)), some (.inl (x1))] [] σ := by
  refine zj_aload_n zd_Walls_calls_20 rfl ?_
  refine zj_aload_n zd_Walls_calls_21 rfl ?_
  refine zj_getR rfl (by decide) rfl zu_Walls (k := 13) (by decide) rfl zl_Walls_66 zd_Walls_calls_22 (o' := 26) rfl ?_
  refine zj_aload_n zd_Walls_calls_25 rfl ?_
  refine zj_getR rfl (by decide) rfl zu_Walls (k := 5) (by decide) rfl zl_Walls_24 zd_Walls_calls_26 (o' := 43) rfl ?_
  refine zj_aload_n zd_Walls_calls_29 rfl ?_
  refine zj_getM rfl (by decide) rfl zu_Walls (k := 6) (by decide) rfl zl_Walls_30 zd_Walls_calls_30 (zk_Rl m1) ?_
  refine zj_iconst (v := nI 2) zd_Walls_calls_33 (by decide) ?_
  refine zj_iload_n zd_Walls_calls_34 rfl ?_
  exact zj_callVi (As := [.inr (43), .inr (σ.2 0 6), .inl (nI 2), .inl (x1)]) hm hdp rfl (by decide) rfl zl_Walls_309 zq_Mason_fewest zd_Walls_calls_35 rfl (Nat.le_of_ble_eq_true rfl) (fun r σ1 h => (zj_weak (L' := [none, none]) trivial (k r σ1 h)))
theorem zb_Walls_calls_38 {Γ : zG} {σ : zS} {y0 : Int32} {dc : Nat} {P : Int32 → zS → Prop}  (hm : z_Ci dc zm_Walls_tellSteps [.inr (0), .inl (y0)] σ P) (hdp : dc < z_dep Γ) (k : ∀ r σ1, P r σ1 → z_J Γ zm_Walls_calls 41 [none, none] [.inl (r)] σ1) : z_J Γ zm_Walls_calls 38 [none, none] [.inl (y0), .inr (0)] σ := by
  exact zj_callVi (As := [.inl (y0)]) hm hdp rfl (by decide) rfl zl_Walls_313 zq_Walls_tellSteps zd_Walls_calls_38 rfl (Nat.le_of_ble_eq_true rfl) (fun r σ1 h => (k r σ1 h))
theorem zb_Walls_calls_41 {Γ : zG} {σ : zS} {y0 : Int32}  (e : z_end Γ (some (y0)) σ) : z_J Γ zm_Walls_calls 41 [none, none] [.inl (y0)] σ := by
  exact zj_ireturn rfl zd_Walls_calls_41 e
theorem zd_Walls_stack_0 : decode zm_Walls_stack.2.1 0 = .ok (.aload_n 0, 1) := by decide +kernel
theorem zd_Walls_stack_1 : decode zm_Walls_stack.2.1 1 = .ok (.getfield 20, 3) := by decide +kernel
theorem zd_Walls_stack_4 : decode zm_Walls_stack.2.1 4 = .ok (.iload_n 2, 1) := by decide +kernel
theorem zd_Walls_stack_5 : decode zm_Walls_stack.2.1 5 = .ok (.invokevirtual 171, 3) := by decide +kernel
theorem zd_Walls_stack_8 : decode zm_Walls_stack.2.1 8 = .ok (.ifCond .eq 18, 3) := by decide +kernel
theorem zd_Walls_stack_11 : decode zm_Walls_stack.2.1 11 = .ok (.iload_n 1, 1) := by decide +kernel
theorem zd_Walls_stack_12 : decode zm_Walls_stack.2.1 12 = .ok (.iconst 1, 1) := by decide +kernel
theorem zd_Walls_stack_13 : decode zm_Walls_stack.2.1 13 = .ok (.aload_n 0, 1) := by decide +kernel
theorem zd_Walls_stack_14 : decode zm_Walls_stack.2.1 14 = .ok (.getfield 20, 3) := by decide +kernel
theorem zd_Walls_stack_17 : decode zm_Walls_stack.2.1 17 = .ok (.getfield 210, 3) := by decide +kernel
theorem zd_Walls_stack_20 : decode zm_Walls_stack.2.1 20 = .ok (.ishl, 1) := by decide +kernel
theorem zd_Walls_stack_21 : decode zm_Walls_stack.2.1 21 = .ok (.ineg, 1) := by decide +kernel
theorem zd_Walls_stack_22 : decode zm_Walls_stack.2.1 22 = .ok (.iand, 1) := by decide +kernel
theorem zd_Walls_stack_23 : decode zm_Walls_stack.2.1 23 = .ok (.ifCond .eq 5, 3) := by decide +kernel
theorem zd_Walls_stack_26 : decode zm_Walls_stack.2.1 26 = .ok (.iconst (-1), 1) := by decide +kernel
theorem zd_Walls_stack_27 : decode zm_Walls_stack.2.1 27 = .ok (.ireturn, 1) := by decide +kernel
theorem zd_Walls_stack_28 : decode zm_Walls_stack.2.1 28 = .ok (.iload_n 1, 1) := by decide +kernel
theorem zd_Walls_stack_29 : decode zm_Walls_stack.2.1 29 = .ok (.invokestatic 273, 3) := by decide +kernel
theorem zd_Walls_stack_32 : decode zm_Walls_stack.2.1 32 = .ok (.istore_n 3, 1) := by decide +kernel
theorem zd_Walls_stack_33 : decode zm_Walls_stack.2.1 33 = .ok (.iload_n 3, 1) := by decide +kernel
theorem zd_Walls_stack_34 : decode zm_Walls_stack.2.1 34 = .ok (.iconst 1, 1) := by decide +kernel
theorem zd_Walls_stack_35 : decode zm_Walls_stack.2.1 35 = .ok (.if_icmp .lt 8, 3) := by decide +kernel
theorem zd_Walls_stack_38 : decode zm_Walls_stack.2.1 38 = .ok (.iload_n 3, 1) := by decide +kernel
theorem zd_Walls_stack_39 : decode zm_Walls_stack.2.1 39 = .ok (.iconst 4, 1) := by decide +kernel
theorem zd_Walls_stack_40 : decode zm_Walls_stack.2.1 40 = .ok (.if_icmp .le 6, 3) := by decide +kernel
theorem zd_Walls_stack_43 : decode zm_Walls_stack.2.1 43 = .ok (.bipush (-2), 2) := by decide +kernel
theorem zd_Walls_stack_45 : decode zm_Walls_stack.2.1 45 = .ok (.ireturn, 1) := by decide +kernel
theorem zd_Walls_stack_46 : decode zm_Walls_stack.2.1 46 = .ok (.aload_n 0, 1) := by decide +kernel
theorem zd_Walls_stack_47 : decode zm_Walls_stack.2.1 47 = .ok (.getfield 24, 3) := by decide +kernel
theorem zd_Walls_stack_50 : decode zm_Walls_stack.2.1 50 = .ok (.aload_n 0, 1) := by decide +kernel
theorem zd_Walls_stack_51 : decode zm_Walls_stack.2.1 51 = .ok (.getfield 20, 3) := by decide +kernel
theorem zd_Walls_stack_54 : decode zm_Walls_stack.2.1 54 = .ok (.invokevirtual 103, 3) := by decide +kernel
theorem zd_Walls_stack_57 : decode zm_Walls_stack.2.1 57 = .ok (.aload_n 0, 1) := by decide +kernel
theorem zd_Walls_stack_58 : decode zm_Walls_stack.2.1 58 = .ok (.getfield 80, 3) := by decide +kernel
theorem zd_Walls_stack_61 : decode zm_Walls_stack.2.1 61 = .ok (.aload_n 0, 1) := by decide +kernel
theorem zd_Walls_stack_62 : decode zm_Walls_stack.2.1 62 = .ok (.getfield 24, 3) := by decide +kernel
theorem zd_Walls_stack_65 : decode zm_Walls_stack.2.1 65 = .ok (.aload_n 0, 1) := by decide +kernel
theorem zd_Walls_stack_66 : decode zm_Walls_stack.2.1 66 = .ok (.getfield 30, 3) := by decide +kernel
theorem zd_Walls_stack_69 : decode zm_Walls_stack.2.1 69 = .ok (.iload_n 1, 1) := by decide +kernel
theorem zd_Walls_stack_70 : decode zm_Walls_stack.2.1 70 = .ok (.iload_n 2, 1) := by decide +kernel
theorem zd_Walls_stack_71 : decode zm_Walls_stack.2.1 71 = .ok (.invokevirtual 316, 3) := by decide +kernel
theorem zd_Walls_stack_74 : decode zm_Walls_stack.2.1 74 = .ok (.istore 4, 2) := by decide +kernel
theorem zd_Walls_stack_76 : decode zm_Walls_stack.2.1 76 = .ok (.aload_n 0, 1) := by decide +kernel
theorem zd_Walls_stack_77 : decode zm_Walls_stack.2.1 77 = .ok (.aload_n 0, 1) := by decide +kernel
theorem zd_Walls_stack_78 : decode zm_Walls_stack.2.1 78 = .ok (.getfield 80, 3) := by decide +kernel
theorem zd_Walls_stack_81 : decode zm_Walls_stack.2.1 81 = .ok (.getfield 319, 3) := by decide +kernel
theorem zd_Walls_stack_84 : decode zm_Walls_stack.2.1 84 = .ok (.iload 4, 2) := by decide +kernel
theorem zd_Walls_stack_86 : decode zm_Walls_stack.2.1 86 = .ok (.ifCond .ne 7, 3) := by decide +kernel
theorem zd_Walls_stack_89 : decode zm_Walls_stack.2.1 89 = .ok (.iconst 0, 1) := by decide +kernel
theorem zd_Walls_stack_90 : decode zm_Walls_stack.2.1 90 = .ok (.goto 4, 3) := by decide +kernel
theorem zd_Walls_stack_93 : decode zm_Walls_stack.2.1 93 = .ok (.iload_n 3, 1) := by decide +kernel
theorem zd_Walls_stack_94 : decode zm_Walls_stack.2.1 94 = .ok (.invokevirtual 322, 3) := by decide +kernel
theorem zd_Walls_stack_97 : decode zm_Walls_stack.2.1 97 = .ok (.iload 4, 2) := by decide +kernel
theorem zd_Walls_stack_99 : decode zm_Walls_stack.2.1 99 = .ok (.ireturn, 1) := by decide +kernel
theorem zb_Walls_stack_0 {Γ : zG} {σ : zS} {x1 x2 : Int32} {dc : Nat} {P : Int32 → zS → Prop}  (hm : z_Ci dc zm_City_isColumn [.inr (33), .inl (x2)] σ P) (hdp : dc < z_dep Γ) (k : ∀ r σ1, P r σ1 → z_J Γ zm_Walls_stack 8 [some (.inr (0)), some (.inl (x1)), some (.inl (x2)), none, none] [.inl (r)] σ1) : z_J Γ zm_Walls_stack 0 [some (.inr (0)), some (.inl (x1)), some (.inl (x2)), none, none] [] σ := by
  refine zj_aload_n zd_Walls_stack_0 rfl ?_
  refine zj_getR rfl (by decide) rfl zu_Walls (k := 4) (by decide) rfl zl_Walls_20 zd_Walls_stack_1 (o' := 33) rfl ?_
  refine zj_iload_n zd_Walls_stack_4 rfl ?_
  exact zj_callVi (As := [.inl (x2)]) hm hdp rfl (by decide) rfl zl_Walls_171 zq_City_isColumn zd_Walls_stack_5 rfl (Nat.le_of_ble_eq_true rfl) (fun r σ1 h => (k r σ1 h))
theorem zb_Walls_stack_8 {Γ : zG} {σ : zS} {x1 x2 y0 : Int32}  (kt : y0 = 0 → z_J Γ zm_Walls_stack 26 [none, none, none, none, none] [] σ) (kf : ¬ y0 = 0 → z_J Γ zm_Walls_stack 11 [some (.inr (0)), some (.inl (x1)), some (.inl (x2)), none, none] [] σ) : z_J Γ zm_Walls_stack 8 [some (.inr (0)), some (.inl (x1)), some (.inl (x2)), none, none] [.inl (y0)] σ := by
  exact zj_if_eq zd_Walls_stack_8 (by decide) (fun h => (zj_weak (L' := [none, none, none, none, none]) trivial (kt h))) (fun h => (kf h))
theorem zb_Walls_stack_11 {Γ : zG} {σ : zS} {x1 x2 : Int32}  (kt : (x1 &&& (-((nI 1) <<< ((σ.1 33 0) &&& 31)))) = 0 → z_J Γ zm_Walls_stack 28 [some (.inr (0)), some (.inl (x1)), some (.inl (x2)), none, none] [] σ) (kf : ¬ (x1 &&& (-((nI 1) <<< ((σ.1 33 0) &&& 31)))) = 0 → z_J Γ zm_Walls_stack 26 [none, none, none, none, none] [] σ) : z_J Γ zm_Walls_stack 11 [some (.inr (0)), some (.inl (x1)), some (.inl (x2)), none, none] [] σ := by
  refine zj_iload_n zd_Walls_stack_11 rfl ?_
  refine zj_iconst (v := nI 1) zd_Walls_stack_12 (by decide) ?_
  refine zj_aload_n zd_Walls_stack_13 rfl ?_
  refine zj_getR rfl (by decide) rfl zu_Walls (k := 4) (by decide) rfl zl_Walls_20 zd_Walls_stack_14 (o' := 33) rfl ?_
  refine zj_getI rfl (by decide) rfl zu_City (k := 0) (by decide) rfl zl_Walls_210 zd_Walls_stack_17 ?_
  refine zj_ishl zd_Walls_stack_20 ?_
  refine zj_ineg zd_Walls_stack_21 ?_
  refine zj_iand zd_Walls_stack_22 ?_
  exact zj_if_eq zd_Walls_stack_23 (by decide) (fun h => (kt h)) (fun h => (zj_weak (L' := [none, none, none, none, none]) trivial (kf h)))
theorem zb_Walls_stack_26 {Γ : zG} {σ : zS}  (e : z_end Γ (some ((-1))) σ) : z_J Γ zm_Walls_stack 26 [none, none, none, none, none] [] σ := by
  refine zj_iconst (v := (-1)) zd_Walls_stack_26 (by decide) ?_
  exact zj_ireturn rfl zd_Walls_stack_27 e
theorem zb_Walls_stack_28 {Γ : zG} {σ : zS} {x1 x2 : Int32} (hdp : 0 < z_dep Γ) (kt : (z_bc x1) < (nI 1) → z_J Γ zm_Walls_stack 43 [none, none, none, none, none] [] σ) (kf : ¬ (z_bc x1) < (nI 1) → z_J Γ zm_Walls_stack 38 [some (.inr (0)), some (.inl (x1)), some (.inl (x2)), some (.inl (z_bc x1)), none] [] σ) : z_J Γ zm_Walls_stack 28 [some (.inr (0)), some (.inl (x1)), some (.inl (x2)), none, none] [] σ := by
  refine zj_iload_n zd_Walls_stack_28 rfl ?_
  refine zj_bitc zl_Walls_273 hdp (Nat.le_of_ble_eq_true rfl) zd_Walls_stack_29 ?_
  refine zj_istore_n (L' := [some (.inr (0)), some (.inl (x1)), some (.inl (x2)), some (.inl (z_bc x1)), none]) zd_Walls_stack_32 (by decide) rfl ?_
  refine zj_iload_n zd_Walls_stack_33 rfl ?_
  refine zj_iconst (v := nI 1) zd_Walls_stack_34 (by decide) ?_
  exact zj_icmp_lt zd_Walls_stack_35 (by decide) (fun h => (zj_weak (L' := [none, none, none, none, none]) trivial (kt h))) (fun h => (kf h))
theorem zb_Walls_stack_38 {Γ : zG} {σ : zS} {x1 x2 x3 : Int32}  (kt : x3 ≤ (nI 4) → z_J Γ zm_Walls_stack 46 [some (.inr (0)), some (.inl (x1)), some (.inl (x2)), some (.inl (x3)), none] [] σ) (kf : ¬ x3 ≤ (nI 4) → z_J Γ zm_Walls_stack 43 [none, none, none, none, none] [] σ) : z_J Γ zm_Walls_stack 38 [some (.inr (0)), some (.inl (x1)), some (.inl (x2)), some (.inl (x3)), none] [] σ := by
  refine zj_iload_n zd_Walls_stack_38 rfl ?_
  refine zj_iconst (v := nI 4) zd_Walls_stack_39 (by decide) ?_
  exact zj_icmp_le zd_Walls_stack_40 (by decide) (fun h => (kt h)) (fun h => (zj_weak (L' := [none, none, none, none, none]) trivial (kf h)))
theorem zb_Walls_stack_43 {Γ : zG} {σ : zS}  (e : z_end Γ (some ((-2))) σ) : z_J Γ zm_Walls_stack 43 [none, none, none, none, none] [] σ := by
  refine zj_bipush (v := (-2)) zd_Walls_stack_43 (by decide) ?_
  exact zj_ireturn rfl zd_Walls_stack_45 e
theorem zb_Walls_stack_46 {Γ : zG} {σ : zS} {x1 x2 x3 : Int32} {dc : Nat} {P : zS → Prop}  (hm : z_Cv dc zm_City_copyFrom [.inr (43), .inr (33)] σ P) (hdp : dc < z_dep Γ) (k : ∀ σ1, P σ1 → z_J Γ zm_Walls_stack 57 [some (.inr (0)), some (.inl (x1)), some (.inl (x2)), some (.inl (x3)), none] [] σ1) : z_J Γ zm_Walls_stack 46 [some (.inr (0)), some (.inl (x1)), some (.inl (x2)), some (.inl (x3)), none] [] σ := by
  refine zj_aload_n zd_Walls_stack_46 rfl ?_
  refine zj_getR rfl (by decide) rfl zu_Walls (k := 5) (by decide) rfl zl_Walls_24 zd_Walls_stack_47 (o' := 43) rfl ?_
  refine zj_aload_n zd_Walls_stack_50 rfl ?_
  refine zj_getR rfl (by decide) rfl zu_Walls (k := 4) (by decide) rfl zl_Walls_20 zd_Walls_stack_51 (o' := 33) rfl ?_
  exact zj_callVv (As := [.inr (33)]) hm hdp rfl (by decide) rfl zl_Walls_103 zq_City_copyFrom zd_Walls_stack_54 rfl (Nat.le_of_ble_eq_true rfl) (fun σ1 h => (k σ1 h))
theorem zb_Walls_stack_57 {Γ : zG} {σ : zS} {x1 x2 x3 : Int32} {dc : Nat} {P : Int32 → zS → Prop}  (m1 : z_oR (σ.2 0 6)) (hm : z_Ci dc zm_Orders_countThose [.inr (31), .inr (43), .inr (σ.2 0 6), .inl (x1), .inl (x2)] σ P) (hdp : dc < z_dep Γ) (k : ∀ r σ1, P r σ1 → z_J Γ zm_Walls_stack 74 [some (.inr (0)), none, none, some (.inl (x3)), none] [.inl (r)] σ1) : z_J Γ zm_Walls_stack 57 [some (.inr (0)), some (.inl (x1)), some (.inl (x2)), some (.inl (x3)), none] [] σ := by
  refine zj_aload_n zd_Walls_stack_57 rfl ?_
  refine zj_getR rfl (by decide) rfl zu_Walls (k := 15) (by decide) rfl zl_Walls_80 zd_Walls_stack_58 (o' := 31) rfl ?_
  refine zj_aload_n zd_Walls_stack_61 rfl ?_
  refine zj_getR rfl (by decide) rfl zu_Walls (k := 5) (by decide) rfl zl_Walls_24 zd_Walls_stack_62 (o' := 43) rfl ?_
  refine zj_aload_n zd_Walls_stack_65 rfl ?_
  refine zj_getM rfl (by decide) rfl zu_Walls (k := 6) (by decide) rfl zl_Walls_30 zd_Walls_stack_66 (zk_Rl m1) ?_
  refine zj_iload_n zd_Walls_stack_69 rfl ?_
  refine zj_iload_n zd_Walls_stack_70 rfl ?_
  exact zj_callVi (As := [.inr (43), .inr (σ.2 0 6), .inl (x1), .inl (x2)]) hm hdp rfl (by decide) rfl zl_Walls_316 zq_Orders_countThose zd_Walls_stack_71 rfl (Nat.le_of_ble_eq_true rfl) (fun r σ1 h => (zj_weak (L' := [some (.inr (0)), none, none, some (.inl (x3)), none]) ⟨rfl, ⟨rfl, trivial⟩⟩ (k r σ1 h)))
theorem zb_Walls_stack_74 {Γ : zG} {σ : zS} {x3 y0 : Int32}  (kt : ¬ y0 = 0 → z_J Γ zm_Walls_stack 93 [none, none, none, some (.inl (x3)), some (.inl (y0))] [.inr (32), .inr (0)] σ) (kf : y0 = 0 → z_J Γ zm_Walls_stack 89 [none, none, none, none, some (.inl (y0))] [.inr (32), .inr (0)] σ) : z_J Γ zm_Walls_stack 74 [some (.inr (0)), none, none, some (.inl (x3)), none] [.inl (y0)] σ := by
  refine zj_istore (L' := [some (.inr (0)), none, none, some (.inl (x3)), some (.inl (y0))]) zd_Walls_stack_74 (by decide) rfl ?_
  refine zj_aload_n zd_Walls_stack_76 rfl ?_
  refine zj_aload_n zd_Walls_stack_77 rfl ?_
  refine zj_getR rfl (by decide) rfl zu_Walls (k := 15) (by decide) rfl zl_Walls_80 zd_Walls_stack_78 (o' := 31) rfl ?_
  refine zj_getR rfl (by decide) rfl zu_Orders (k := 0) (by decide) rfl zl_Walls_319 zd_Walls_stack_81 (o' := 32) rfl ?_
  refine zj_iload zd_Walls_stack_84 rfl ?_
  exact zj_if_ne zd_Walls_stack_86 (by decide) (fun h => (zj_weak (L' := [none, none, none, some (.inl (x3)), some (.inl (y0))]) ⟨rfl, ⟨rfl, trivial⟩⟩ (kt h))) (fun h => (zj_weak (L' := [none, none, none, none, some (.inl (y0))]) ⟨rfl, trivial⟩ (kf h)))
theorem zb_Walls_stack_89 {Γ : zG} {σ : zS} {x4 : Int32}  (k : z_J Γ zm_Walls_stack 94 [none, none, none, none, some (.inl (x4))] [.inl (nI 0), .inr (32), .inr (0)] σ) : z_J Γ zm_Walls_stack 89 [none, none, none, none, some (.inl (x4))] [.inr (32), .inr (0)] σ := by
  refine zj_iconst (v := nI 0) zd_Walls_stack_89 (by decide) ?_
  exact zj_goto zd_Walls_stack_90 (by decide) k
theorem zb_Walls_stack_93 {Γ : zG} {σ : zS} {x3 x4 : Int32}  (k : z_J Γ zm_Walls_stack 94 [none, none, none, none, some (.inl (x4))] [.inl (x3), .inr (32), .inr (0)] σ) : z_J Γ zm_Walls_stack 93 [none, none, none, some (.inl (x3)), some (.inl (x4))] [.inr (32), .inr (0)] σ := by
  refine zj_iload_n zd_Walls_stack_93 rfl ?_
  exact (zj_weak (L' := [none, none, none, none, some (.inl (x4))]) ⟨rfl, trivial⟩ k)
theorem zb_Walls_stack_94 {Γ : zG} {σ : zS} {x4 y0 : Int32} {dc : Nat} {P : zS → Prop}  (hm : z_Cv dc zm_Walls_tellRow [.inr (0), .inr (32), .inl (y0)] σ P) (hdp : dc < z_dep Γ) (k : ∀ σ1, P σ1 → z_J Γ zm_Walls_stack 97 [none, none, none, none, some (.inl (x4))] [] σ1) : z_J Γ zm_Walls_stack 94 [none, none, none, none, some (.inl (x4))] [.inl (y0), .inr (32), .inr (0)] σ := by
  exact zj_callVv (As := [.inr (32), .inl (y0)]) hm hdp rfl (by decide) rfl zl_Walls_322 zq_Walls_tellRow zd_Walls_stack_94 rfl (Nat.le_of_ble_eq_true rfl) (fun σ1 h => (k σ1 h))
theorem zb_Walls_stack_97 {Γ : zG} {σ : zS} {x4 : Int32}  (e : z_end Γ (some (x4)) σ) : z_J Γ zm_Walls_stack 97 [none, none, none, none, some (.inl (x4))] [] σ := by
  refine zj_iload zd_Walls_stack_97 rfl ?_
  exact zj_ireturn rfl zd_Walls_stack_99 e
theorem zd_Walls_play_0 : decode zm_Walls_play.2.1 0 = .ok (.iload_n 1, 1) := by decide +kernel
theorem zd_Walls_play_1 : decode zm_Walls_play.2.1 1 = .ok (.iconst 1, 1) := by decide +kernel
theorem zd_Walls_play_2 : decode zm_Walls_play.2.1 2 = .ok (.if_icmp .lt 8, 3) := by decide +kernel
theorem zd_Walls_play_5 : decode zm_Walls_play.2.1 5 = .ok (.iload_n 1, 1) := by decide +kernel
theorem zd_Walls_play_6 : decode zm_Walls_play.2.1 6 = .ok (.iconst 4, 1) := by decide +kernel
theorem zd_Walls_play_7 : decode zm_Walls_play.2.1 7 = .ok (.if_icmp .le 5, 3) := by decide +kernel
theorem zd_Walls_play_10 : decode zm_Walls_play.2.1 10 = .ok (.iconst (-1), 1) := by decide +kernel
theorem zd_Walls_play_11 : decode zm_Walls_play.2.1 11 = .ok (.ireturn, 1) := by decide +kernel
theorem zd_Walls_play_12 : decode zm_Walls_play.2.1 12 = .ok (.aload_n 0, 1) := by decide +kernel
theorem zd_Walls_play_13 : decode zm_Walls_play.2.1 13 = .ok (.getfield 20, 3) := by decide +kernel
theorem zd_Walls_play_16 : decode zm_Walls_play.2.1 16 = .ok (.iconst 0, 1) := by decide +kernel
theorem zd_Walls_play_17 : decode zm_Walls_play.2.1 17 = .ok (.invokevirtual 270, 3) := by decide +kernel
theorem zd_Walls_play_20 : decode zm_Walls_play.2.1 20 = .ok (.invokestatic 273, 3) := by decide +kernel
theorem zd_Walls_play_23 : decode zm_Walls_play.2.1 23 = .ok (.iconst 4, 1) := by decide +kernel
theorem zd_Walls_play_24 : decode zm_Walls_play.2.1 24 = .ok (.if_icmp .le 6, 3) := by decide +kernel
theorem zd_Walls_play_27 : decode zm_Walls_play.2.1 27 = .ok (.bipush (-3), 2) := by decide +kernel
theorem zd_Walls_play_29 : decode zm_Walls_play.2.1 29 = .ok (.ireturn, 1) := by decide +kernel
theorem zd_Walls_play_30 : decode zm_Walls_play.2.1 30 = .ok (.aload_n 0, 1) := by decide +kernel
theorem zd_Walls_play_31 : decode zm_Walls_play.2.1 31 = .ok (.getfield 24, 3) := by decide +kernel
theorem zd_Walls_play_34 : decode zm_Walls_play.2.1 34 = .ok (.aload_n 0, 1) := by decide +kernel
theorem zd_Walls_play_35 : decode zm_Walls_play.2.1 35 = .ok (.getfield 20, 3) := by decide +kernel
theorem zd_Walls_play_38 : decode zm_Walls_play.2.1 38 = .ok (.invokevirtual 103, 3) := by decide +kernel
theorem zd_Walls_play_41 : decode zm_Walls_play.2.1 41 = .ok (.aload_n 0, 1) := by decide +kernel
theorem zd_Walls_play_42 : decode zm_Walls_play.2.1 42 = .ok (.getfield 73, 3) := by decide +kernel
theorem zd_Walls_play_45 : decode zm_Walls_play.2.1 45 = .ok (.aload_n 0, 1) := by decide +kernel
theorem zd_Walls_play_46 : decode zm_Walls_play.2.1 46 = .ok (.getfield 24, 3) := by decide +kernel
theorem zd_Walls_play_49 : decode zm_Walls_play.2.1 49 = .ok (.aload_n 0, 1) := by decide +kernel
theorem zd_Walls_play_50 : decode zm_Walls_play.2.1 50 = .ok (.getfield 30, 3) := by decide +kernel
theorem zd_Walls_play_53 : decode zm_Walls_play.2.1 53 = .ok (.iload_n 1, 1) := by decide +kernel
theorem zd_Walls_play_54 : decode zm_Walls_play.2.1 54 = .ok (.invokevirtual 325, 3) := by decide +kernel
theorem zd_Walls_play_57 : decode zm_Walls_play.2.1 57 = .ok (.istore_n 2, 1) := by decide +kernel
theorem zd_Walls_play_58 : decode zm_Walls_play.2.1 58 = .ok (.aload_n 0, 1) := by decide +kernel
theorem zd_Walls_play_59 : decode zm_Walls_play.2.1 59 = .ok (.aload_n 0, 1) := by decide +kernel
theorem zd_Walls_play_60 : decode zm_Walls_play.2.1 60 = .ok (.getfield 73, 3) := by decide +kernel
theorem zd_Walls_play_63 : decode zm_Walls_play.2.1 63 = .ok (.getfield 329, 3) := by decide +kernel
theorem zd_Walls_play_66 : decode zm_Walls_play.2.1 66 = .ok (.invokevirtual 242, 3) := by decide +kernel
theorem zd_Walls_play_69 : decode zm_Walls_play.2.1 69 = .ok (.iload_n 2, 1) := by decide +kernel
theorem zd_Walls_play_70 : decode zm_Walls_play.2.1 70 = .ok (.ireturn, 1) := by decide +kernel
theorem zb_Walls_play_0 {Γ : zG} {σ : zS} {x1 : Int32}  (kt : x1 < (nI 1) → z_J Γ zm_Walls_play 10 [none, none, none] [] σ) (kf : ¬ x1 < (nI 1) → z_J Γ zm_Walls_play 5 [some (.inr (0)), some (.inl (x1)), none] [] σ) : z_J Γ zm_Walls_play 0 [some (.inr (0)), some (.inl (x1)), none] [] σ := by
  refine zj_iload_n zd_Walls_play_0 rfl ?_
  refine zj_iconst (v := nI 1) zd_Walls_play_1 (by decide) ?_
  exact zj_icmp_lt zd_Walls_play_2 (by decide) (fun h => (zj_weak (L' := [none, none, none]) trivial (kt h))) (fun h => (kf h))
theorem zb_Walls_play_5 {Γ : zG} {σ : zS} {x1 : Int32}  (kt : x1 ≤ (nI 4) → z_J Γ zm_Walls_play 12 [some (.inr (0)), some (.inl (x1)), none] [] σ) (kf : ¬ x1 ≤ (nI 4) → z_J Γ zm_Walls_play 10 [none, none, none] [] σ) : z_J Γ zm_Walls_play 5 [some (.inr (0)), some (.inl (x1)), none] [] σ := by
  refine zj_iload_n zd_Walls_play_5 rfl ?_
  refine zj_iconst (v := nI 4) zd_Walls_play_6 (by decide) ?_
  exact zj_icmp_le zd_Walls_play_7 (by decide) (fun h => (kt h)) (fun h => (zj_weak (L' := [none, none, none]) trivial (kf h)))
theorem zb_Walls_play_10 {Γ : zG} {σ : zS}  (e : z_end Γ (some ((-1))) σ) : z_J Γ zm_Walls_play 10 [none, none, none] [] σ := by
  refine zj_iconst (v := (-1)) zd_Walls_play_10 (by decide) ?_
  exact zj_ireturn rfl zd_Walls_play_11 e
theorem zb_Walls_play_12 {Γ : zG} {σ : zS} {x1 : Int32} {dc : Nat} {P : Int32 → zS → Prop}  (hm : z_Ci dc zm_City_bitsWhere [.inr (33), .inl (nI 0)] σ P) (hdp : dc < z_dep Γ) (k : ∀ r σ1, P r σ1 → z_J Γ zm_Walls_play 20 [some (.inr (0)), some (.inl (x1)), none] [.inl (r)] σ1) : z_J Γ zm_Walls_play 12 [some (.inr (0)), some (.inl (x1)), none] [] σ := by
  refine zj_aload_n zd_Walls_play_12 rfl ?_
  refine zj_getR rfl (by decide) rfl zu_Walls (k := 4) (by decide) rfl zl_Walls_20 zd_Walls_play_13 (o' := 33) rfl ?_
  refine zj_iconst (v := nI 0) zd_Walls_play_16 (by decide) ?_
  exact zj_callVi (As := [.inl (nI 0)]) hm hdp rfl (by decide) rfl zl_Walls_270 zq_City_bitsWhere zd_Walls_play_17 rfl (Nat.le_of_ble_eq_true rfl) (fun r σ1 h => (k r σ1 h))
theorem zb_Walls_play_20 {Γ : zG} {σ : zS} {x1 y0 : Int32} (hdp : 0 < z_dep Γ) (kt : (z_bc y0) ≤ (nI 4) → z_J Γ zm_Walls_play 30 [some (.inr (0)), some (.inl (x1)), none] [] σ) (kf : ¬ (z_bc y0) ≤ (nI 4) → z_J Γ zm_Walls_play 27 [none, none, none] [] σ) : z_J Γ zm_Walls_play 20 [some (.inr (0)), some (.inl (x1)), none] [.inl (y0)] σ := by
  refine zj_bitc zl_Walls_273 hdp (Nat.le_of_ble_eq_true rfl) zd_Walls_play_20 ?_
  refine zj_iconst (v := nI 4) zd_Walls_play_23 (by decide) ?_
  exact zj_icmp_le zd_Walls_play_24 (by decide) (fun h => (kt h)) (fun h => (zj_weak (L' := [none, none, none]) trivial (kf h)))
theorem zb_Walls_play_27 {Γ : zG} {σ : zS}  (e : z_end Γ (some ((-3))) σ) : z_J Γ zm_Walls_play 27 [none, none, none] [] σ := by
  refine zj_bipush (v := (-3)) zd_Walls_play_27 (by decide) ?_
  exact zj_ireturn rfl zd_Walls_play_29 e
theorem zb_Walls_play_30 {Γ : zG} {σ : zS} {x1 : Int32} {dc : Nat} {P : zS → Prop}  (hm : z_Cv dc zm_City_copyFrom [.inr (43), .inr (33)] σ P) (hdp : dc < z_dep Γ) (k : ∀ σ1, P σ1 → z_J Γ zm_Walls_play 41 [some (.inr (0)), some (.inl (x1)), none] [] σ1) : z_J Γ zm_Walls_play 30 [some (.inr (0)), some (.inl (x1)), none] [] σ := by
  refine zj_aload_n zd_Walls_play_30 rfl ?_
  refine zj_getR rfl (by decide) rfl zu_Walls (k := 5) (by decide) rfl zl_Walls_24 zd_Walls_play_31 (o' := 43) rfl ?_
  refine zj_aload_n zd_Walls_play_34 rfl ?_
  refine zj_getR rfl (by decide) rfl zu_Walls (k := 4) (by decide) rfl zl_Walls_20 zd_Walls_play_35 (o' := 33) rfl ?_
  exact zj_callVv (As := [.inr (33)]) hm hdp rfl (by decide) rfl zl_Walls_103 zq_City_copyFrom zd_Walls_play_38 rfl (Nat.le_of_ble_eq_true rfl) (fun σ1 h => (k σ1 h))
theorem zb_Walls_play_41 {Γ : zG} {σ : zS} {x1 : Int32} {dc : Nat} {P : Int32 → zS → Prop}  (m1 : z_oR (σ.2 0 6)) (hm : z_Ci dc zm_Duel_outcome [.inr (30), .inr (43), .inr (σ.2 0 6), .inl (x1)] σ P) (hdp : dc < z_dep Γ) (k : ∀ r σ1, P r σ1 → z_J Γ zm_Walls_play 57 [some (.inr (0)), none, none] [.inl (r)] σ1) : z_J Γ zm_Walls_play 41 [some (.inr (0)), some (.inl (x1)), none] [] σ := by
  refine zj_aload_n zd_Walls_play_41 rfl ?_
  refine zj_getR rfl (by decide) rfl zu_Walls (k := 14) (by decide) rfl zl_Walls_73 zd_Walls_play_42 (o' := 30) rfl ?_
  refine zj_aload_n zd_Walls_play_45 rfl ?_
  refine zj_getR rfl (by decide) rfl zu_Walls (k := 5) (by decide) rfl zl_Walls_24 zd_Walls_play_46 (o' := 43) rfl ?_
  refine zj_aload_n zd_Walls_play_49 rfl ?_
  refine zj_getM rfl (by decide) rfl zu_Walls (k := 6) (by decide) rfl zl_Walls_30 zd_Walls_play_50 (zk_Rl m1) ?_
  refine zj_iload_n zd_Walls_play_53 rfl ?_
  exact zj_callVi (As := [.inr (43), .inr (σ.2 0 6), .inl (x1)]) hm hdp rfl (by decide) rfl zl_Walls_325 zq_Duel_outcome zd_Walls_play_54 rfl (Nat.le_of_ble_eq_true rfl) (fun r σ1 h => (zj_weak (L' := [some (.inr (0)), none, none]) ⟨rfl, trivial⟩ (k r σ1 h)))
theorem zb_Walls_play_57 {Γ : zG} {σ : zS} {y0 : Int32} {dc : Nat} {P : zS → Prop}  (hm : z_Cv dc zm_Walls_tell [.inr (0), .inl (σ.1 30 0)] σ P) (hdp : dc < z_dep Γ) (k : ∀ σ1, P σ1 → z_J Γ zm_Walls_play 69 [none, none, some (.inl (y0))] [] σ1) : z_J Γ zm_Walls_play 57 [some (.inr (0)), none, none] [.inl (y0)] σ := by
  refine zj_istore_n (L' := [some (.inr (0)), none, some (.inl (y0))]) zd_Walls_play_57 (by decide) rfl ?_
  refine zj_aload_n zd_Walls_play_58 rfl ?_
  refine zj_aload_n zd_Walls_play_59 rfl ?_
  refine zj_getR rfl (by decide) rfl zu_Walls (k := 14) (by decide) rfl zl_Walls_73 zd_Walls_play_60 (o' := 30) rfl ?_
  refine zj_getI rfl (by decide) rfl zu_Duel (k := 0) (by decide) rfl zl_Walls_329 zd_Walls_play_63 ?_
  exact zj_callVv (As := [.inl (σ.1 30 0)]) hm hdp rfl (by decide) rfl zl_Walls_242 zq_Walls_tell zd_Walls_play_66 rfl (Nat.le_of_ble_eq_true rfl) (fun σ1 h => (zj_weak (L' := [none, none, some (.inl (y0))]) ⟨rfl, trivial⟩ (k σ1 h)))
theorem zb_Walls_play_69 {Γ : zG} {σ : zS} {x2 : Int32}  (e : z_end Γ (some (x2)) σ) : z_J Γ zm_Walls_play 69 [none, none, some (.inl (x2))] [] σ := by
  refine zj_iload_n zd_Walls_play_69 rfl ?_
  exact zj_ireturn rfl zd_Walls_play_70 e
theorem zd_Walls_law_0 : decode zm_Walls_law.2.1 0 = .ok (.aload_n 0, 1) := by decide +kernel
theorem zd_Walls_law_1 : decode zm_Walls_law.2.1 1 = .ok (.invokevirtual 133, 3) := by decide +kernel
theorem zd_Walls_law_4 : decode zm_Walls_law.2.1 4 = .ok (.istore_n 1, 1) := by decide +kernel
theorem zd_Walls_law_5 : decode zm_Walls_law.2.1 5 = .ok (.iload_n 1, 1) := by decide +kernel
theorem zd_Walls_law_6 : decode zm_Walls_law.2.1 6 = .ok (.iconst (-1), 1) := by decide +kernel
theorem zd_Walls_law_7 : decode zm_Walls_law.2.1 7 = .ok (.if_icmp .eq 9, 3) := by decide +kernel
theorem zd_Walls_law_10 : decode zm_Walls_law.2.1 10 = .ok (.sipush (-10000), 3) := by decide +kernel
theorem zd_Walls_law_13 : decode zm_Walls_law.2.1 13 = .ok (.iload_n 1, 1) := by decide +kernel
theorem zd_Walls_law_14 : decode zm_Walls_law.2.1 14 = .ok (.isub, 1) := by decide +kernel
theorem zd_Walls_law_15 : decode zm_Walls_law.2.1 15 = .ok (.ireturn, 1) := by decide +kernel
theorem zd_Walls_law_16 : decode zm_Walls_law.2.1 16 = .ok (.iconst 0, 1) := by decide +kernel
theorem zd_Walls_law_17 : decode zm_Walls_law.2.1 17 = .ok (.istore_n 2, 1) := by decide +kernel
theorem zd_Walls_law_18 : decode zm_Walls_law.2.1 18 = .ok (.iconst 0, 1) := by decide +kernel
theorem zd_Walls_law_19 : decode zm_Walls_law.2.1 19 = .ok (.istore_n 3, 1) := by decide +kernel
theorem zd_Walls_law_20 : decode zm_Walls_law.2.1 20 = .ok (.iload_n 3, 1) := by decide +kernel
theorem zd_Walls_law_21 : decode zm_Walls_law.2.1 21 = .ok (.aload_n 0, 1) := by decide +kernel
theorem zd_Walls_law_22 : decode zm_Walls_law.2.1 22 = .ok (.getfield 20, 3) := by decide +kernel
theorem zd_Walls_law_25 : decode zm_Walls_law.2.1 25 = .ok (.getfield 117, 3) := by decide +kernel
theorem zd_Walls_law_28 : decode zm_Walls_law.2.1 28 = .ok (.if_icmp .ge 64, 3) := by decide +kernel
theorem zd_Walls_law_31 : decode zm_Walls_law.2.1 31 = .ok (.iconst 0, 1) := by decide +kernel
theorem zd_Walls_law_32 : decode zm_Walls_law.2.1 32 = .ok (.istore 4, 2) := by decide +kernel
theorem zd_Walls_law_34 : decode zm_Walls_law.2.1 34 = .ok (.iload 4, 2) := by decide +kernel
theorem zd_Walls_law_36 : decode zm_Walls_law.2.1 36 = .ok (.aload_n 0, 1) := by decide +kernel
theorem zd_Walls_law_37 : decode zm_Walls_law.2.1 37 = .ok (.getfield 20, 3) := by decide +kernel
theorem zd_Walls_law_40 : decode zm_Walls_law.2.1 40 = .ok (.getfield 179, 3) := by decide +kernel
theorem zd_Walls_law_43 : decode zm_Walls_law.2.1 43 = .ok (.iload_n 3, 1) := by decide +kernel
theorem zd_Walls_law_44 : decode zm_Walls_law.2.1 44 = .ok (.iaload, 1) := by decide +kernel
theorem zd_Walls_law_45 : decode zm_Walls_law.2.1 45 = .ok (.if_icmp .ge 41, 3) := by decide +kernel
theorem zd_Walls_law_48 : decode zm_Walls_law.2.1 48 = .ok (.iload_n 2, 1) := by decide +kernel
theorem zd_Walls_law_49 : decode zm_Walls_law.2.1 49 = .ok (.aload_n 0, 1) := by decide +kernel
theorem zd_Walls_law_50 : decode zm_Walls_law.2.1 50 = .ok (.getfield 20, 3) := by decide +kernel
theorem zd_Walls_law_53 : decode zm_Walls_law.2.1 53 = .ok (.iload_n 3, 1) := by decide +kernel
theorem zd_Walls_law_54 : decode zm_Walls_law.2.1 54 = .ok (.iload 4, 2) := by decide +kernel
theorem zd_Walls_law_56 : decode zm_Walls_law.2.1 56 = .ok (.aload_n 0, 1) := by decide +kernel
theorem zd_Walls_law_57 : decode zm_Walls_law.2.1 57 = .ok (.getfield 34, 3) := by decide +kernel
theorem zd_Walls_law_60 : decode zm_Walls_law.2.1 60 = .ok (.invokevirtual 165, 3) := by decide +kernel
theorem zd_Walls_law_63 : decode zm_Walls_law.2.1 63 = .ok (.aload_n 0, 1) := by decide +kernel
theorem zd_Walls_law_64 : decode zm_Walls_law.2.1 64 = .ok (.getfield 20, 3) := by decide +kernel
theorem zd_Walls_law_67 : decode zm_Walls_law.2.1 67 = .ok (.iload_n 3, 1) := by decide +kernel
theorem zd_Walls_law_68 : decode zm_Walls_law.2.1 68 = .ok (.iload 4, 2) := by decide +kernel
theorem zd_Walls_law_70 : decode zm_Walls_law.2.1 70 = .ok (.aload_n 0, 1) := by decide +kernel
theorem zd_Walls_law_71 : decode zm_Walls_law.2.1 71 = .ok (.getfield 30, 3) := by decide +kernel
theorem zd_Walls_law_74 : decode zm_Walls_law.2.1 74 = .ok (.invokevirtual 165, 3) := by decide +kernel
theorem zd_Walls_law_77 : decode zm_Walls_law.2.1 77 = .ok (.isub, 1) := by decide +kernel
theorem zd_Walls_law_78 : decode zm_Walls_law.2.1 78 = .ok (.iadd, 1) := by decide +kernel
theorem zd_Walls_law_79 : decode zm_Walls_law.2.1 79 = .ok (.istore_n 2, 1) := by decide +kernel
theorem zd_Walls_law_80 : decode zm_Walls_law.2.1 80 = .ok (.iinc 4 1, 3) := by decide +kernel
theorem zd_Walls_law_83 : decode zm_Walls_law.2.1 83 = .ok (.goto (-49), 3) := by decide +kernel
theorem zd_Walls_law_86 : decode zm_Walls_law.2.1 86 = .ok (.iinc 3 1, 3) := by decide +kernel
theorem zd_Walls_law_89 : decode zm_Walls_law.2.1 89 = .ok (.goto (-69), 3) := by decide +kernel
theorem zd_Walls_law_92 : decode zm_Walls_law.2.1 92 = .ok (.aload_n 0, 1) := by decide +kernel
theorem zd_Walls_law_93 : decode zm_Walls_law.2.1 93 = .ok (.aload_n 0, 1) := by decide +kernel
theorem zd_Walls_law_94 : decode zm_Walls_law.2.1 94 = .ok (.getfield 20, 3) := by decide +kernel
theorem zd_Walls_law_97 : decode zm_Walls_law.2.1 97 = .ok (.aload_n 0, 1) := by decide +kernel
theorem zd_Walls_law_98 : decode zm_Walls_law.2.1 98 = .ok (.getfield 30, 3) := by decide +kernel
theorem zd_Walls_law_101 : decode zm_Walls_law.2.1 101 = .ok (.invokestatic 113, 3) := by decide +kernel
theorem zd_Walls_law_104 : decode zm_Walls_law.2.1 104 = .ok (.iload_n 2, 1) := by decide +kernel
theorem zd_Walls_law_105 : decode zm_Walls_law.2.1 105 = .ok (.invokevirtual 257, 3) := by decide +kernel
theorem zd_Walls_law_108 : decode zm_Walls_law.2.1 108 = .ok (.aload_n 0, 1) := by decide +kernel
theorem zd_Walls_law_109 : decode zm_Walls_law.2.1 109 = .ok (.getfield 20, 3) := by decide +kernel
theorem zd_Walls_law_112 : decode zm_Walls_law.2.1 112 = .ok (.aload_n 0, 1) := by decide +kernel
theorem zd_Walls_law_113 : decode zm_Walls_law.2.1 113 = .ok (.getfield 34, 3) := by decide +kernel
theorem zd_Walls_law_116 : decode zm_Walls_law.2.1 116 = .ok (.invokestatic 113, 3) := by decide +kernel
theorem zd_Walls_law_119 : decode zm_Walls_law.2.1 119 = .ok (.ireturn, 1) := by decide +kernel
theorem zb_Walls_law_0 {Γ : zG} {σ : zS} {dc : Nat} {P : Int32 → zS → Prop}  (hm : z_Ci dc zm_Walls_readAnother [.inr (0)] σ P) (hdp : dc < z_dep Γ) (k : ∀ r σ1, P r σ1 → z_J Γ zm_Walls_law 4 [some (.inr (0)), none, none, none, none] [.inl (r)] σ1) : z_J Γ zm_Walls_law 0 [some (.inr (0)), none, none, none, none] [] σ := by
  refine zj_aload_n zd_Walls_law_0 rfl ?_
  exact zj_callVi (As := []) hm hdp rfl (by decide) rfl zl_Walls_133 zq_Walls_readAnother zd_Walls_law_1 rfl (Nat.le_of_ble_eq_true rfl) (fun r σ1 h => (k r σ1 h))
theorem zb_Walls_law_4 {Γ : zG} {σ : zS} {y0 : Int32}  (kt : y0 = (-1) → z_J Γ zm_Walls_law 16 [some (.inr (0)), none, none, none, none] [] σ) (kf : ¬ y0 = (-1) → z_J Γ zm_Walls_law 10 [none, some (.inl (y0)), none, none, none] [] σ) : z_J Γ zm_Walls_law 4 [some (.inr (0)), none, none, none, none] [.inl (y0)] σ := by
  refine zj_istore_n (L' := [some (.inr (0)), some (.inl (y0)), none, none, none]) zd_Walls_law_4 (by decide) rfl ?_
  refine zj_iload_n zd_Walls_law_5 rfl ?_
  refine zj_iconst (v := (-1)) zd_Walls_law_6 (by decide) ?_
  exact zj_icmp_eq zd_Walls_law_7 (by decide) (fun h => (zj_weak (L' := [some (.inr (0)), none, none, none, none]) ⟨rfl, trivial⟩ (kt h))) (fun h => (zj_weak (L' := [none, some (.inl (y0)), none, none, none]) ⟨rfl, trivial⟩ (kf h)))
theorem zb_Walls_law_10 {Γ : zG} {σ : zS} {x1 : Int32}  (e : z_end Γ (some ((-10000) - x1)) σ) : z_J Γ zm_Walls_law 10 [none, some (.inl (x1)), none, none, none] [] σ := by
  refine zj_sipush (v := (-10000)) zd_Walls_law_10 (by decide) ?_
  refine zj_iload_n zd_Walls_law_13 rfl ?_
  refine zj_isub zd_Walls_law_14 ?_
  exact zj_ireturn rfl zd_Walls_law_15 e
theorem zb_Walls_law_16 {Γ : zG} {σ : zS}  (k : z_J Γ zm_Walls_law 20 [some (.inr (0)), none, some (.inl (nI 0)), some (.inl (nI 0)), none] [] σ) : z_J Γ zm_Walls_law 16 [some (.inr (0)), none, none, none, none] [] σ := by
  refine zj_iconst (v := nI 0) zd_Walls_law_16 (by decide) ?_
  refine zj_istore_n (L' := [some (.inr (0)), none, some (.inl (nI 0)), none, none]) zd_Walls_law_17 (by decide) rfl ?_
  refine zj_iconst (v := nI 0) zd_Walls_law_18 (by decide) ?_
  refine zj_istore_n (L' := [some (.inr (0)), none, some (.inl (nI 0)), some (.inl (nI 0)), none]) zd_Walls_law_19 (by decide) rfl ?_
  exact k
theorem zb_Walls_law_20 {Γ : zG} {σ : zS} {x2 x3 : Int32}  (kt : (σ.1 33 6) ≤ x3 → z_J Γ zm_Walls_law 92 [some (.inr (0)), none, some (.inl (x2)), none, none] [] σ) (kf : ¬ (σ.1 33 6) ≤ x3 → z_J Γ zm_Walls_law 31 [some (.inr (0)), none, some (.inl (x2)), some (.inl (x3)), none] [] σ) : z_J Γ zm_Walls_law 20 [some (.inr (0)), none, some (.inl (x2)), some (.inl (x3)), none] [] σ := by
  refine zj_iload_n zd_Walls_law_20 rfl ?_
  refine zj_aload_n zd_Walls_law_21 rfl ?_
  refine zj_getR rfl (by decide) rfl zu_Walls (k := 4) (by decide) rfl zl_Walls_20 zd_Walls_law_22 (o' := 33) rfl ?_
  refine zj_getI rfl (by decide) rfl zu_City (k := 6) (by decide) rfl zl_Walls_117 zd_Walls_law_25 ?_
  exact zj_icmp_ge zd_Walls_law_28 (by decide) (fun h => (zj_weak (L' := [some (.inr (0)), none, some (.inl (x2)), none, none]) ⟨rfl, ⟨rfl, trivial⟩⟩ (kt h))) (fun h => (kf h))
theorem zb_Walls_law_31 {Γ : zG} {σ : zS} {x2 x3 : Int32}  (k : z_J Γ zm_Walls_law 34 [some (.inr (0)), none, some (.inl (x2)), some (.inl (x3)), some (.inl (nI 0))] [] σ) : z_J Γ zm_Walls_law 31 [some (.inr (0)), none, some (.inl (x2)), some (.inl (x3)), none] [] σ := by
  refine zj_iconst (v := nI 0) zd_Walls_law_31 (by decide) ?_
  refine zj_istore (L' := [some (.inr (0)), none, some (.inl (x2)), some (.inl (x3)), some (.inl (nI 0))]) zd_Walls_law_32 (by decide) rfl ?_
  exact k
theorem zb_Walls_law_34 {Γ : zG} {σ : zS} {x2 x3 x4 : Int32} {k1 : Nat}  (b1 : z_ix x3 6 k1) (kt : (σ.1 39 k1) ≤ x4 → z_J Γ zm_Walls_law 86 [some (.inr (0)), none, some (.inl (x2)), some (.inl (x3)), none] [] σ) (kf : ¬ (σ.1 39 k1) ≤ x4 → z_J Γ zm_Walls_law 48 [some (.inr (0)), none, some (.inl (x2)), some (.inl (x3)), some (.inl (x4))] [] σ) : z_J Γ zm_Walls_law 34 [some (.inr (0)), none, some (.inl (x2)), some (.inl (x3)), some (.inl (x4))] [] σ := by
  refine zj_iload zd_Walls_law_34 rfl ?_
  refine zj_aload_n zd_Walls_law_36 rfl ?_
  refine zj_getR rfl (by decide) rfl zu_Walls (k := 4) (by decide) rfl zl_Walls_20 zd_Walls_law_37 (o' := 33) rfl ?_
  refine zj_getR rfl (by decide) rfl zu_City (k := 7) (by decide) rfl zl_Walls_179 zd_Walls_law_40 (o' := 39) rfl ?_
  refine zj_iload_n zd_Walls_law_43 rfl ?_
  refine zj_iaload rfl (by decide) b1 zd_Walls_law_44 ?_
  exact zj_icmp_ge zd_Walls_law_45 (by decide) (fun h => (zj_weak (L' := [some (.inr (0)), none, some (.inl (x2)), some (.inl (x3)), none]) ⟨rfl, ⟨rfl, ⟨rfl, trivial⟩⟩⟩ (kt h))) (fun h => (kf h))
theorem zb_Walls_law_48 {Γ : zG} {σ : zS} {x2 x3 x4 : Int32} {dc : Nat} {P : Int32 → zS → Prop}  (m1 : z_oR (σ.2 0 7)) (hm : z_Ci dc zm_City_bearsAt [.inr (33), .inl (x3), .inl (x4), .inr (σ.2 0 7)] σ P) (hdp : dc < z_dep Γ) (k : ∀ r σ1, P r σ1 → z_J Γ zm_Walls_law 63 [some (.inr (0)), none, none, some (.inl (x3)), some (.inl (x4))] [.inl (r), .inl (x2)] σ1) : z_J Γ zm_Walls_law 48 [some (.inr (0)), none, some (.inl (x2)), some (.inl (x3)), some (.inl (x4))] [] σ := by
  refine zj_iload_n zd_Walls_law_48 rfl ?_
  refine zj_aload_n zd_Walls_law_49 rfl ?_
  refine zj_getR rfl (by decide) rfl zu_Walls (k := 4) (by decide) rfl zl_Walls_20 zd_Walls_law_50 (o' := 33) rfl ?_
  refine zj_iload_n zd_Walls_law_53 rfl ?_
  refine zj_iload zd_Walls_law_54 rfl ?_
  refine zj_aload_n zd_Walls_law_56 rfl ?_
  refine zj_getM rfl (by decide) rfl zu_Walls (k := 7) (by decide) rfl zl_Walls_34 zd_Walls_law_57 (zk_Rl m1) ?_
  exact zj_callVi (As := [.inl (x3), .inl (x4), .inr (σ.2 0 7)]) hm hdp rfl (by decide) rfl zl_Walls_165 zq_City_bearsAt zd_Walls_law_60 rfl (Nat.le_of_ble_eq_true rfl) (fun r σ1 h => (zj_weak (L' := [some (.inr (0)), none, none, some (.inl (x3)), some (.inl (x4))]) ⟨rfl, ⟨rfl, ⟨rfl, trivial⟩⟩⟩ (k r σ1 h)))
theorem zb_Walls_law_63 {Γ : zG} {σ : zS} {x3 x4 y0 y1 : Int32} {dc : Nat} {P : Int32 → zS → Prop}  (m1 : z_oR (σ.2 0 6)) (hm : z_Ci dc zm_City_bearsAt [.inr (33), .inl (x3), .inl (x4), .inr (σ.2 0 6)] σ P) (hdp : dc < z_dep Γ) (k : ∀ r σ1, P r σ1 → z_J Γ zm_Walls_law 77 [some (.inr (0)), none, none, some (.inl (x3)), some (.inl (x4))] [.inl (r), .inl (y0), .inl (y1)] σ1) : z_J Γ zm_Walls_law 63 [some (.inr (0)), none, none, some (.inl (x3)), some (.inl (x4))] [.inl (y0), .inl (y1)] σ := by
  refine zj_aload_n zd_Walls_law_63 rfl ?_
  refine zj_getR rfl (by decide) rfl zu_Walls (k := 4) (by decide) rfl zl_Walls_20 zd_Walls_law_64 (o' := 33) rfl ?_
  refine zj_iload_n zd_Walls_law_67 rfl ?_
  refine zj_iload zd_Walls_law_68 rfl ?_
  refine zj_aload_n zd_Walls_law_70 rfl ?_
  refine zj_getM rfl (by decide) rfl zu_Walls (k := 6) (by decide) rfl zl_Walls_30 zd_Walls_law_71 (zk_Rl m1) ?_
  exact zj_callVi (As := [.inl (x3), .inl (x4), .inr (σ.2 0 6)]) hm hdp rfl (by decide) rfl zl_Walls_165 zq_City_bearsAt zd_Walls_law_74 rfl (Nat.le_of_ble_eq_true rfl) (fun r σ1 h => (k r σ1 h))
theorem zb_Walls_law_77 {Γ : zG} {σ : zS} {x3 x4 y0 y1 y2 : Int32}  (k : z_J Γ zm_Walls_law 34 [some (.inr (0)), none, some (.inl (y2 + (y1 - y0))), some (.inl (x3)), some (.inl (x4 + nI 1))] [] σ) : z_J Γ zm_Walls_law 77 [some (.inr (0)), none, none, some (.inl (x3)), some (.inl (x4))] [.inl (y0), .inl (y1), .inl (y2)] σ := by
  refine zj_isub zd_Walls_law_77 ?_
  refine zj_iadd zd_Walls_law_78 ?_
  refine zj_istore_n (L' := [some (.inr (0)), none, some (.inl (y2 + (y1 - y0))), some (.inl (x3)), some (.inl (x4))]) zd_Walls_law_79 (by decide) rfl ?_
  refine zj_iinc (v := nI 1) (L' := [some (.inr (0)), none, some (.inl (y2 + (y1 - y0))), some (.inl (x3)), some (.inl (x4 + nI 1))]) zd_Walls_law_80 rfl (by decide) (by decide) rfl ?_
  exact zj_goto zd_Walls_law_83 (by decide) k
theorem zb_Walls_law_86 {Γ : zG} {σ : zS} {x2 x3 : Int32}  (k : z_J Γ zm_Walls_law 20 [some (.inr (0)), none, some (.inl (x2)), some (.inl (x3 + nI 1)), none] [] σ) : z_J Γ zm_Walls_law 86 [some (.inr (0)), none, some (.inl (x2)), some (.inl (x3)), none] [] σ := by
  refine zj_iinc (v := nI 1) (L' := [some (.inr (0)), none, some (.inl (x2)), some (.inl (x3 + nI 1)), none]) zd_Walls_law_86 rfl (by decide) (by decide) rfl ?_
  exact zj_goto zd_Walls_law_89 (by decide) k
theorem zb_Walls_law_92 {Γ : zG} {σ : zS} {x2 : Int32} {dc : Nat} {P : Int32 → zS → Prop}  (m1 : z_oR (σ.2 0 6)) (hm : z_Ci dc zm_Walls_columnsThatHold [.inr (33), .inr (σ.2 0 6)] σ P) (hdp : dc < z_dep Γ) (k : ∀ r σ1, P r σ1 → z_J Γ zm_Walls_law 104 [some (.inr (0)), none, some (.inl (x2)), none, none] [.inl (r), .inr (0)] σ1) : z_J Γ zm_Walls_law 92 [some (.inr (0)), none, some (.inl (x2)), none, none] [] σ := by
  refine zj_aload_n zd_Walls_law_92 rfl ?_
  refine zj_aload_n zd_Walls_law_93 rfl ?_
  refine zj_getR rfl (by decide) rfl zu_Walls (k := 4) (by decide) rfl zl_Walls_20 zd_Walls_law_94 (o' := 33) rfl ?_
  refine zj_aload_n zd_Walls_law_97 rfl ?_
  refine zj_getM rfl (by decide) rfl zu_Walls (k := 6) (by decide) rfl zl_Walls_30 zd_Walls_law_98 (zk_Rl m1) ?_
  exact zj_callSi (As := [.inr (33), .inr (σ.2 0 6)]) hm hdp zl_Walls_113 zq_Walls_columnsThatHold zd_Walls_law_101 rfl (Nat.le_of_ble_eq_true rfl) (fun r σ1 h => (k r σ1 h))
theorem zb_Walls_law_104 {Γ : zG} {σ : zS} {x2 y0 : Int32} {dc : Nat} {P : zS → Prop}  (hm : z_Cv dc zm_Walls_tellTwo [.inr (0), .inl (y0), .inl (x2)] σ P) (hdp : dc < z_dep Γ) (k : ∀ σ1, P σ1 → z_J Γ zm_Walls_law 108 [some (.inr (0)), none, none, none, none] [] σ1) : z_J Γ zm_Walls_law 104 [some (.inr (0)), none, some (.inl (x2)), none, none] [.inl (y0), .inr (0)] σ := by
  refine zj_iload_n zd_Walls_law_104 rfl ?_
  exact zj_callVv (As := [.inl (y0), .inl (x2)]) hm hdp rfl (by decide) rfl zl_Walls_257 zq_Walls_tellTwo zd_Walls_law_105 rfl (Nat.le_of_ble_eq_true rfl) (fun σ1 h => (zj_weak (L' := [some (.inr (0)), none, none, none, none]) ⟨rfl, trivial⟩ (k σ1 h)))
theorem zb_Walls_law_108 {Γ : zG} {σ : zS} {dc : Nat} {P : Int32 → zS → Prop}  (m1 : z_oR (σ.2 0 7)) (hm : z_Ci dc zm_Walls_columnsThatHold [.inr (33), .inr (σ.2 0 7)] σ P) (hdp : dc < z_dep Γ) (k : ∀ r σ1, P r σ1 → z_J Γ zm_Walls_law 119 [none, none, none, none, none] [.inl (r)] σ1) : z_J Γ zm_Walls_law 108 [some (.inr (0)), none, none, none, none] [] σ := by
  refine zj_aload_n zd_Walls_law_108 rfl ?_
  refine zj_getR rfl (by decide) rfl zu_Walls (k := 4) (by decide) rfl zl_Walls_20 zd_Walls_law_109 (o' := 33) rfl ?_
  refine zj_aload_n zd_Walls_law_112 rfl ?_
  refine zj_getM rfl (by decide) rfl zu_Walls (k := 7) (by decide) rfl zl_Walls_34 zd_Walls_law_113 (zk_Rl m1) ?_
  exact zj_callSi (As := [.inr (33), .inr (σ.2 0 7)]) hm hdp zl_Walls_113 zq_Walls_columnsThatHold zd_Walls_law_116 rfl (Nat.le_of_ble_eq_true rfl) (fun r σ1 h => (zj_weak (L' := [none, none, none, none, none]) trivial (k r σ1 h)))
theorem zb_Walls_law_119 {Γ : zG} {σ : zS} {y0 : Int32}  (e : z_end Γ (some (y0)) σ) : z_J Γ zm_Walls_law 119 [none, none, none, none, none] [.inl (y0)] σ := by
  exact zj_ireturn rfl zd_Walls_law_119 e
theorem zd_Walls_seen_0 : decode zm_Walls_seen.2.1 0 = .ok (.aload_n 0, 1) := by decide +kernel
theorem zd_Walls_seen_1 : decode zm_Walls_seen.2.1 1 = .ok (.getfield 20, 3) := by decide +kernel
theorem zd_Walls_seen_4 : decode zm_Walls_seen.2.1 4 = .ok (.iload_n 1, 1) := by decide +kernel
theorem zd_Walls_seen_5 : decode zm_Walls_seen.2.1 5 = .ok (.invokevirtual 171, 3) := by decide +kernel
theorem zd_Walls_seen_8 : decode zm_Walls_seen.2.1 8 = .ok (.ifCond .eq 10, 3) := by decide +kernel
theorem zd_Walls_seen_11 : decode zm_Walls_seen.2.1 11 = .ok (.iload_n 2, 1) := by decide +kernel
theorem zd_Walls_seen_12 : decode zm_Walls_seen.2.1 12 = .ok (.invokestatic 284, 3) := by decide +kernel
theorem zd_Walls_seen_15 : decode zm_Walls_seen.2.1 15 = .ok (.ifCond .ne 5, 3) := by decide +kernel
theorem zd_Walls_seen_18 : decode zm_Walls_seen.2.1 18 = .ok (.iconst (-1), 1) := by decide +kernel
theorem zd_Walls_seen_19 : decode zm_Walls_seen.2.1 19 = .ok (.ireturn, 1) := by decide +kernel
theorem zd_Walls_seen_20 : decode zm_Walls_seen.2.1 20 = .ok (.aload_n 0, 1) := by decide +kernel
theorem zd_Walls_seen_21 : decode zm_Walls_seen.2.1 21 = .ok (.getfield 60, 3) := by decide +kernel
theorem zd_Walls_seen_24 : decode zm_Walls_seen.2.1 24 = .ok (.iload_n 1, 1) := by decide +kernel
theorem zd_Walls_seen_25 : decode zm_Walls_seen.2.1 25 = .ok (.iload_n 2, 1) := by decide +kernel
theorem zd_Walls_seen_26 : decode zm_Walls_seen.2.1 26 = .ok (.iastore, 1) := by decide +kernel
theorem zd_Walls_seen_27 : decode zm_Walls_seen.2.1 27 = .ok (.aload_n 0, 1) := by decide +kernel
theorem zd_Walls_seen_28 : decode zm_Walls_seen.2.1 28 = .ok (.invokevirtual 332, 3) := by decide +kernel
theorem zd_Walls_seen_31 : decode zm_Walls_seen.2.1 31 = .ok (.invokestatic 273, 3) := by decide +kernel
theorem zd_Walls_seen_34 : decode zm_Walls_seen.2.1 34 = .ok (.ireturn, 1) := by decide +kernel
theorem zb_Walls_seen_0 {Γ : zG} {σ : zS} {x1 x2 : Int32} {dc : Nat} {P : Int32 → zS → Prop}  (hm : z_Ci dc zm_City_isColumn [.inr (33), .inl (x1)] σ P) (hdp : dc < z_dep Γ) (k : ∀ r σ1, P r σ1 → z_J Γ zm_Walls_seen 8 [some (.inr (0)), some (.inl (x1)), some (.inl (x2))] [.inl (r)] σ1) : z_J Γ zm_Walls_seen 0 [some (.inr (0)), some (.inl (x1)), some (.inl (x2))] [] σ := by
  refine zj_aload_n zd_Walls_seen_0 rfl ?_
  refine zj_getR rfl (by decide) rfl zu_Walls (k := 4) (by decide) rfl zl_Walls_20 zd_Walls_seen_1 (o' := 33) rfl ?_
  refine zj_iload_n zd_Walls_seen_4 rfl ?_
  exact zj_callVi (As := [.inl (x1)]) hm hdp rfl (by decide) rfl zl_Walls_171 zq_City_isColumn zd_Walls_seen_5 rfl (Nat.le_of_ble_eq_true rfl) (fun r σ1 h => (k r σ1 h))
theorem zb_Walls_seen_8 {Γ : zG} {σ : zS} {x1 x2 y0 : Int32}  (kt : y0 = 0 → z_J Γ zm_Walls_seen 18 [none, none, none] [] σ) (kf : ¬ y0 = 0 → z_J Γ zm_Walls_seen 11 [some (.inr (0)), some (.inl (x1)), some (.inl (x2))] [] σ) : z_J Γ zm_Walls_seen 8 [some (.inr (0)), some (.inl (x1)), some (.inl (x2))] [.inl (y0)] σ := by
  exact zj_if_eq zd_Walls_seen_8 (by decide) (fun h => (zj_weak (L' := [none, none, none]) trivial (kt h))) (fun h => (kf h))
theorem zb_Walls_seen_11 {Γ : zG} {σ : zS} {x1 x2 : Int32} {dc : Nat} {P : Int32 → zS → Prop}  (hm : z_Ci dc zm_Walls_isHeight [.inl (x2)] σ P) (hdp : dc < z_dep Γ) (k : ∀ r σ1, P r σ1 → z_J Γ zm_Walls_seen 15 [some (.inr (0)), some (.inl (x1)), some (.inl (x2))] [.inl (r)] σ1) : z_J Γ zm_Walls_seen 11 [some (.inr (0)), some (.inl (x1)), some (.inl (x2))] [] σ := by
  refine zj_iload_n zd_Walls_seen_11 rfl ?_
  exact zj_callSi (As := [.inl (x2)]) hm hdp zl_Walls_284 zq_Walls_isHeight zd_Walls_seen_12 rfl (Nat.le_of_ble_eq_true rfl) (fun r σ1 h => (k r σ1 h))
theorem zb_Walls_seen_15 {Γ : zG} {σ : zS} {x1 x2 y0 : Int32}  (kt : ¬ y0 = 0 → z_J Γ zm_Walls_seen 20 [some (.inr (0)), some (.inl (x1)), some (.inl (x2))] [] σ) (kf : y0 = 0 → z_J Γ zm_Walls_seen 18 [none, none, none] [] σ) : z_J Γ zm_Walls_seen 15 [some (.inr (0)), some (.inl (x1)), some (.inl (x2))] [.inl (y0)] σ := by
  exact zj_if_ne zd_Walls_seen_15 (by decide) (fun h => (kt h)) (fun h => (zj_weak (L' := [none, none, none]) trivial (kf h)))
theorem zb_Walls_seen_18 {Γ : zG} {σ : zS}  (e : z_end Γ (some ((-1))) σ) : z_J Γ zm_Walls_seen 18 [none, none, none] [] σ := by
  refine zj_iconst (v := (-1)) zd_Walls_seen_18 (by decide) ?_
  exact zj_ireturn rfl zd_Walls_seen_19 e
theorem zb_Walls_seen_20 {Γ : zG} {σ : zS} {x1 x2 : Int32} {k1 : Nat} {dc : Nat} {P : Int32 → zS → Prop}  (b1 : z_ix x1 6 k1) (hm : z_Ci dc zm_Walls_seenBits [.inr (0)] (z_pI σ 7 k1 x2) P) (hdp : dc < z_dep Γ) (k : ∀ r σ1, P r σ1 → z_J Γ zm_Walls_seen 31 [none, none, none] [.inl (r)] σ1) : z_J Γ zm_Walls_seen 20 [some (.inr (0)), some (.inl (x1)), some (.inl (x2))] [] σ := by
  refine zj_aload_n zd_Walls_seen_20 rfl ?_
  refine zj_getR rfl (by decide) rfl zu_Walls (k := 12) (by decide) rfl zl_Walls_60 zd_Walls_seen_21 (o' := 7) rfl ?_
  refine zj_iload_n zd_Walls_seen_24 rfl ?_
  refine zj_iload_n zd_Walls_seen_25 rfl ?_
  refine zj_iastore rfl (by decide) b1 zd_Walls_seen_26 ?_
  refine zj_aload_n zd_Walls_seen_27 rfl ?_
  exact zj_callVi (As := []) hm hdp rfl (by decide) rfl zl_Walls_332 zq_Walls_seenBits zd_Walls_seen_28 rfl (Nat.le_of_ble_eq_true rfl) (fun r σ1 h => (zj_weak (L' := [none, none, none]) trivial (k r σ1 h)))
theorem zb_Walls_seen_31 {Γ : zG} {σ : zS} {y0 : Int32} (hdp : 0 < z_dep Γ) (e : z_end Γ (some (z_bc y0)) σ) : z_J Γ zm_Walls_seen 31 [none, none, none] [.inl (y0)] σ := by
  refine zj_bitc zl_Walls_273 hdp (Nat.le_of_ble_eq_true rfl) zd_Walls_seen_31 ?_
  exact zj_ireturn rfl zd_Walls_seen_34 e
theorem zd_Walls_seenBits_0 : decode zm_Walls_seenBits.2.1 0 = .ok (.iconst 0, 1) := by decide +kernel
theorem zd_Walls_seenBits_1 : decode zm_Walls_seenBits.2.1 1 = .ok (.istore_n 1, 1) := by decide +kernel
theorem zd_Walls_seenBits_2 : decode zm_Walls_seenBits.2.1 2 = .ok (.iconst 0, 1) := by decide +kernel
theorem zd_Walls_seenBits_3 : decode zm_Walls_seenBits.2.1 3 = .ok (.istore_n 2, 1) := by decide +kernel
theorem zd_Walls_seenBits_4 : decode zm_Walls_seenBits.2.1 4 = .ok (.iload_n 2, 1) := by decide +kernel
theorem zd_Walls_seenBits_5 : decode zm_Walls_seenBits.2.1 5 = .ok (.aload_n 0, 1) := by decide +kernel
theorem zd_Walls_seenBits_6 : decode zm_Walls_seenBits.2.1 6 = .ok (.getfield 20, 3) := by decide +kernel
theorem zd_Walls_seenBits_9 : decode zm_Walls_seenBits.2.1 9 = .ok (.getfield 117, 3) := by decide +kernel
theorem zd_Walls_seenBits_12 : decode zm_Walls_seenBits.2.1 12 = .ok (.if_icmp .ge 25, 3) := by decide +kernel
theorem zd_Walls_seenBits_15 : decode zm_Walls_seenBits.2.1 15 = .ok (.aload_n 0, 1) := by decide +kernel
theorem zd_Walls_seenBits_16 : decode zm_Walls_seenBits.2.1 16 = .ok (.getfield 60, 3) := by decide +kernel
theorem zd_Walls_seenBits_19 : decode zm_Walls_seenBits.2.1 19 = .ok (.iload_n 2, 1) := by decide +kernel
theorem zd_Walls_seenBits_20 : decode zm_Walls_seenBits.2.1 20 = .ok (.iaload, 1) := by decide +kernel
theorem zd_Walls_seenBits_21 : decode zm_Walls_seenBits.2.1 21 = .ok (.iconst (-1), 1) := by decide +kernel
theorem zd_Walls_seenBits_22 : decode zm_Walls_seenBits.2.1 22 = .ok (.if_icmp .eq 9, 3) := by decide +kernel
theorem zd_Walls_seenBits_25 : decode zm_Walls_seenBits.2.1 25 = .ok (.iload_n 1, 1) := by decide +kernel
theorem zd_Walls_seenBits_26 : decode zm_Walls_seenBits.2.1 26 = .ok (.iconst 1, 1) := by decide +kernel
theorem zd_Walls_seenBits_27 : decode zm_Walls_seenBits.2.1 27 = .ok (.iload_n 2, 1) := by decide +kernel
theorem zd_Walls_seenBits_28 : decode zm_Walls_seenBits.2.1 28 = .ok (.ishl, 1) := by decide +kernel
theorem zd_Walls_seenBits_29 : decode zm_Walls_seenBits.2.1 29 = .ok (.ior, 1) := by decide +kernel
theorem zd_Walls_seenBits_30 : decode zm_Walls_seenBits.2.1 30 = .ok (.istore_n 1, 1) := by decide +kernel
theorem zd_Walls_seenBits_31 : decode zm_Walls_seenBits.2.1 31 = .ok (.iinc 2 1, 3) := by decide +kernel
theorem zd_Walls_seenBits_34 : decode zm_Walls_seenBits.2.1 34 = .ok (.goto (-30), 3) := by decide +kernel
theorem zd_Walls_seenBits_37 : decode zm_Walls_seenBits.2.1 37 = .ok (.iload_n 1, 1) := by decide +kernel
theorem zd_Walls_seenBits_38 : decode zm_Walls_seenBits.2.1 38 = .ok (.ireturn, 1) := by decide +kernel
theorem zb_Walls_seenBits_0 {Γ : zG} {σ : zS}  (k : z_J Γ zm_Walls_seenBits 4 [some (.inr (0)), some (.inl (nI 0)), some (.inl (nI 0))] [] σ) : z_J Γ zm_Walls_seenBits 0 [some (.inr (0)), none, none] [] σ := by
  refine zj_iconst (v := nI 0) zd_Walls_seenBits_0 (by decide) ?_
  refine zj_istore_n (L' := [some (.inr (0)), some (.inl (nI 0)), none]) zd_Walls_seenBits_1 (by decide) rfl ?_
  refine zj_iconst (v := nI 0) zd_Walls_seenBits_2 (by decide) ?_
  refine zj_istore_n (L' := [some (.inr (0)), some (.inl (nI 0)), some (.inl (nI 0))]) zd_Walls_seenBits_3 (by decide) rfl ?_
  exact k
theorem zb_Walls_seenBits_4 {Γ : zG} {σ : zS} {x1 x2 : Int32}  (kt : (σ.1 33 6) ≤ x2 → z_J Γ zm_Walls_seenBits 37 [none, some (.inl (x1)), none] [] σ) (kf : ¬ (σ.1 33 6) ≤ x2 → z_J Γ zm_Walls_seenBits 15 [some (.inr (0)), some (.inl (x1)), some (.inl (x2))] [] σ) : z_J Γ zm_Walls_seenBits 4 [some (.inr (0)), some (.inl (x1)), some (.inl (x2))] [] σ := by
  refine zj_iload_n zd_Walls_seenBits_4 rfl ?_
  refine zj_aload_n zd_Walls_seenBits_5 rfl ?_
  refine zj_getR rfl (by decide) rfl zu_Walls (k := 4) (by decide) rfl zl_Walls_20 zd_Walls_seenBits_6 (o' := 33) rfl ?_
  refine zj_getI rfl (by decide) rfl zu_City (k := 6) (by decide) rfl zl_Walls_117 zd_Walls_seenBits_9 ?_
  exact zj_icmp_ge zd_Walls_seenBits_12 (by decide) (fun h => (zj_weak (L' := [none, some (.inl (x1)), none]) ⟨rfl, trivial⟩ (kt h))) (fun h => (kf h))
theorem zb_Walls_seenBits_15 {Γ : zG} {σ : zS} {x1 x2 : Int32} {k1 : Nat}  (b1 : z_ix x2 6 k1) (kt : (σ.1 7 k1) = (-1) → z_J Γ zm_Walls_seenBits 31 [some (.inr (0)), some (.inl (x1)), some (.inl (x2))] [] σ) (kf : ¬ (σ.1 7 k1) = (-1) → z_J Γ zm_Walls_seenBits 25 [some (.inr (0)), some (.inl (x1)), some (.inl (x2))] [] σ) : z_J Γ zm_Walls_seenBits 15 [some (.inr (0)), some (.inl (x1)), some (.inl (x2))] [] σ := by
  refine zj_aload_n zd_Walls_seenBits_15 rfl ?_
  refine zj_getR rfl (by decide) rfl zu_Walls (k := 12) (by decide) rfl zl_Walls_60 zd_Walls_seenBits_16 (o' := 7) rfl ?_
  refine zj_iload_n zd_Walls_seenBits_19 rfl ?_
  refine zj_iaload rfl (by decide) b1 zd_Walls_seenBits_20 ?_
  refine zj_iconst (v := (-1)) zd_Walls_seenBits_21 (by decide) ?_
  exact zj_icmp_eq zd_Walls_seenBits_22 (by decide) (fun h => (kt h)) (fun h => (kf h))
theorem zb_Walls_seenBits_25 {Γ : zG} {σ : zS} {x1 x2 : Int32}  (k : z_J Γ zm_Walls_seenBits 31 [some (.inr (0)), some (.inl (x1 ||| ((nI 1) <<< (x2 &&& 31)))), some (.inl (x2))] [] σ) : z_J Γ zm_Walls_seenBits 25 [some (.inr (0)), some (.inl (x1)), some (.inl (x2))] [] σ := by
  refine zj_iload_n zd_Walls_seenBits_25 rfl ?_
  refine zj_iconst (v := nI 1) zd_Walls_seenBits_26 (by decide) ?_
  refine zj_iload_n zd_Walls_seenBits_27 rfl ?_
  refine zj_ishl zd_Walls_seenBits_28 ?_
  refine zj_ior zd_Walls_seenBits_29 ?_
  refine zj_istore_n (L' := [some (.inr (0)), some (.inl (x1 ||| ((nI 1) <<< (x2 &&& 31)))), some (.inl (x2))]) zd_Walls_seenBits_30 (by decide) rfl ?_
  exact k
theorem zb_Walls_seenBits_31 {Γ : zG} {σ : zS} {x1 x2 : Int32}  (k : z_J Γ zm_Walls_seenBits 4 [some (.inr (0)), some (.inl (x1)), some (.inl (x2 + nI 1))] [] σ) : z_J Γ zm_Walls_seenBits 31 [some (.inr (0)), some (.inl (x1)), some (.inl (x2))] [] σ := by
  refine zj_iinc (v := nI 1) (L' := [some (.inr (0)), some (.inl (x1)), some (.inl (x2 + nI 1))]) zd_Walls_seenBits_31 rfl (by decide) (by decide) rfl ?_
  exact zj_goto zd_Walls_seenBits_34 (by decide) k
theorem zb_Walls_seenBits_37 {Γ : zG} {σ : zS} {x1 : Int32}  (e : z_end Γ (some (x1)) σ) : z_J Γ zm_Walls_seenBits 37 [none, some (.inl (x1)), none] [] σ := by
  refine zj_iload_n zd_Walls_seenBits_37 rfl ?_
  exact zj_ireturn rfl zd_Walls_seenBits_38 e
theorem zd_Walls_forget_0 : decode zm_Walls_forget.2.1 0 = .ok (.aload_n 0, 1) := by decide +kernel
theorem zd_Walls_forget_1 : decode zm_Walls_forget.2.1 1 = .ok (.invokevirtual 332, 3) := by decide +kernel
theorem zd_Walls_forget_4 : decode zm_Walls_forget.2.1 4 = .ok (.invokestatic 273, 3) := by decide +kernel
theorem zd_Walls_forget_7 : decode zm_Walls_forget.2.1 7 = .ok (.istore_n 1, 1) := by decide +kernel
theorem zd_Walls_forget_8 : decode zm_Walls_forget.2.1 8 = .ok (.aload_n 0, 1) := by decide +kernel
theorem zd_Walls_forget_9 : decode zm_Walls_forget.2.1 9 = .ok (.getfield 60, 3) := by decide +kernel
theorem zd_Walls_forget_12 : decode zm_Walls_forget.2.1 12 = .ok (.iconst (-1), 1) := by decide +kernel
theorem zd_Walls_forget_13 : decode zm_Walls_forget.2.1 13 = .ok (.invokestatic 120, 3) := by decide +kernel
theorem zd_Walls_forget_16 : decode zm_Walls_forget.2.1 16 = .ok (.iload_n 1, 1) := by decide +kernel
theorem zd_Walls_forget_17 : decode zm_Walls_forget.2.1 17 = .ok (.ireturn, 1) := by decide +kernel
theorem zb_Walls_forget_0 {Γ : zG} {σ : zS} {dc : Nat} {P : Int32 → zS → Prop}  (hm : z_Ci dc zm_Walls_seenBits [.inr (0)] σ P) (hdp : dc < z_dep Γ) (k : ∀ r σ1, P r σ1 → z_J Γ zm_Walls_forget 4 [some (.inr (0)), none] [.inl (r)] σ1) : z_J Γ zm_Walls_forget 0 [some (.inr (0)), none] [] σ := by
  refine zj_aload_n zd_Walls_forget_0 rfl ?_
  exact zj_callVi (As := []) hm hdp rfl (by decide) rfl zl_Walls_332 zq_Walls_seenBits zd_Walls_forget_1 rfl (Nat.le_of_ble_eq_true rfl) (fun r σ1 h => (k r σ1 h))
theorem zb_Walls_forget_4 {Γ : zG} {σ : zS} {y0 : Int32} (hdp : 0 < z_dep Γ) (k : z_J Γ zm_Walls_forget 16 [none, some (.inl (z_bc y0))] [] (z_pA σ 7 (z_fil 6 (-1) (σ.1 7)))) : z_J Γ zm_Walls_forget 4 [some (.inr (0)), none] [.inl (y0)] σ := by
  refine zj_bitc zl_Walls_273 hdp (Nat.le_of_ble_eq_true rfl) zd_Walls_forget_4 ?_
  refine zj_istore_n (L' := [some (.inr (0)), some (.inl (z_bc y0))]) zd_Walls_forget_7 (by decide) rfl ?_
  refine zj_aload_n zd_Walls_forget_8 rfl ?_
  refine zj_getR rfl (by decide) rfl zu_Walls (k := 12) (by decide) rfl zl_Walls_60 zd_Walls_forget_9 (o' := 7) rfl ?_
  refine zj_iconst (v := (-1)) zd_Walls_forget_12 (by decide) ?_
  refine zj_fill zl_Walls_120 rfl (by decide) hdp (Nat.le_of_ble_eq_true rfl) zd_Walls_forget_13 ?_
  exact (zj_weak (L' := [none, some (.inl (z_bc y0))]) ⟨rfl, trivial⟩ k)
theorem zb_Walls_forget_16 {Γ : zG} {σ : zS} {x1 : Int32}  (e : z_end Γ (some (x1)) σ) : z_J Γ zm_Walls_forget 16 [none, some (.inl (x1))] [] σ := by
  refine zj_iload_n zd_Walls_forget_16 rfl ?_
  exact zj_ireturn rfl zd_Walls_forget_17 e
theorem zd_Walls_out_0 : decode zm_Walls_out.2.1 0 = .ok (.aload_n 0, 1) := by decide +kernel
theorem zd_Walls_out_1 : decode zm_Walls_out.2.1 1 = .ok (.getfield 20, 3) := by decide +kernel
theorem zd_Walls_out_4 : decode zm_Walls_out.2.1 4 = .ok (.iload_n 1, 1) := by decide +kernel
theorem zd_Walls_out_5 : decode zm_Walls_out.2.1 5 = .ok (.invokevirtual 171, 3) := by decide +kernel
theorem zd_Walls_out_8 : decode zm_Walls_out.2.1 8 = .ok (.ifCond .ne 5, 3) := by decide +kernel
theorem zd_Walls_out_11 : decode zm_Walls_out.2.1 11 = .ok (.iconst (-1), 1) := by decide +kernel
theorem zd_Walls_out_12 : decode zm_Walls_out.2.1 12 = .ok (.ireturn, 1) := by decide +kernel
theorem zd_Walls_out_13 : decode zm_Walls_out.2.1 13 = .ok (.aload_n 0, 1) := by decide +kernel
theorem zd_Walls_out_14 : decode zm_Walls_out.2.1 14 = .ok (.getfield 60, 3) := by decide +kernel
theorem zd_Walls_out_17 : decode zm_Walls_out.2.1 17 = .ok (.iload_n 1, 1) := by decide +kernel
theorem zd_Walls_out_18 : decode zm_Walls_out.2.1 18 = .ok (.iaload, 1) := by decide +kernel
theorem zd_Walls_out_19 : decode zm_Walls_out.2.1 19 = .ok (.iconst (-1), 1) := by decide +kernel
theorem zd_Walls_out_20 : decode zm_Walls_out.2.1 20 = .ok (.if_icmp .ne 6, 3) := by decide +kernel
theorem zd_Walls_out_23 : decode zm_Walls_out.2.1 23 = .ok (.bipush (-2), 2) := by decide +kernel
theorem zd_Walls_out_25 : decode zm_Walls_out.2.1 25 = .ok (.ireturn, 1) := by decide +kernel
theorem zd_Walls_out_26 : decode zm_Walls_out.2.1 26 = .ok (.iconst 0, 1) := by decide +kernel
theorem zd_Walls_out_27 : decode zm_Walls_out.2.1 27 = .ok (.istore_n 2, 1) := by decide +kernel
theorem zd_Walls_out_28 : decode zm_Walls_out.2.1 28 = .ok (.iconst (-1), 1) := by decide +kernel
theorem zd_Walls_out_29 : decode zm_Walls_out.2.1 29 = .ok (.istore_n 3, 1) := by decide +kernel
theorem zd_Walls_out_30 : decode zm_Walls_out.2.1 30 = .ok (.iconst 0, 1) := by decide +kernel
theorem zd_Walls_out_31 : decode zm_Walls_out.2.1 31 = .ok (.istore 4, 2) := by decide +kernel
theorem zd_Walls_out_33 : decode zm_Walls_out.2.1 33 = .ok (.iconst 0, 1) := by decide +kernel
theorem zd_Walls_out_34 : decode zm_Walls_out.2.1 34 = .ok (.istore 5, 2) := by decide +kernel
theorem zd_Walls_out_36 : decode zm_Walls_out.2.1 36 = .ok (.iload 5, 2) := by decide +kernel
theorem zd_Walls_out_38 : decode zm_Walls_out.2.1 38 = .ok (.iconst 1, 1) := by decide +kernel
theorem zd_Walls_out_39 : decode zm_Walls_out.2.1 39 = .ok (.aload_n 0, 1) := by decide +kernel
theorem zd_Walls_out_40 : decode zm_Walls_out.2.1 40 = .ok (.getfield 20, 3) := by decide +kernel
theorem zd_Walls_out_43 : decode zm_Walls_out.2.1 43 = .ok (.getfield 179, 3) := by decide +kernel
theorem zd_Walls_out_46 : decode zm_Walls_out.2.1 46 = .ok (.iload_n 1, 1) := by decide +kernel
theorem zd_Walls_out_47 : decode zm_Walls_out.2.1 47 = .ok (.iaload, 1) := by decide +kernel
theorem zd_Walls_out_48 : decode zm_Walls_out.2.1 48 = .ok (.ishl, 1) := by decide +kernel
theorem zd_Walls_out_49 : decode zm_Walls_out.2.1 49 = .ok (.if_icmp .ge 78, 3) := by decide +kernel
theorem zd_Walls_out_52 : decode zm_Walls_out.2.1 52 = .ok (.aload_n 0, 1) := by decide +kernel
theorem zd_Walls_out_53 : decode zm_Walls_out.2.1 53 = .ok (.getfield 20, 3) := by decide +kernel
theorem zd_Walls_out_56 : decode zm_Walls_out.2.1 56 = .ok (.iload_n 1, 1) := by decide +kernel
theorem zd_Walls_out_57 : decode zm_Walls_out.2.1 57 = .ok (.iload 5, 2) := by decide +kernel
theorem zd_Walls_out_59 : decode zm_Walls_out.2.1 59 = .ok (.invokevirtual 335, 3) := by decide +kernel
theorem zd_Walls_out_62 : decode zm_Walls_out.2.1 62 = .ok (.aload_n 0, 1) := by decide +kernel
theorem zd_Walls_out_63 : decode zm_Walls_out.2.1 63 = .ok (.getfield 60, 3) := by decide +kernel
theorem zd_Walls_out_66 : decode zm_Walls_out.2.1 66 = .ok (.iload_n 1, 1) := by decide +kernel
theorem zd_Walls_out_67 : decode zm_Walls_out.2.1 67 = .ok (.iaload, 1) := by decide +kernel
theorem zd_Walls_out_68 : decode zm_Walls_out.2.1 68 = .ok (.if_icmp .eq 6, 3) := by decide +kernel
theorem zd_Walls_out_71 : decode zm_Walls_out.2.1 71 = .ok (.goto 50, 3) := by decide +kernel
theorem zd_Walls_out_74 : decode zm_Walls_out.2.1 74 = .ok (.aload_n 0, 1) := by decide +kernel
theorem zd_Walls_out_75 : decode zm_Walls_out.2.1 75 = .ok (.getfield 20, 3) := by decide +kernel
theorem zd_Walls_out_78 : decode zm_Walls_out.2.1 78 = .ok (.iload_n 1, 1) := by decide +kernel
theorem zd_Walls_out_79 : decode zm_Walls_out.2.1 79 = .ok (.iload 5, 2) := by decide +kernel
theorem zd_Walls_out_81 : decode zm_Walls_out.2.1 81 = .ok (.invokevirtual 338, 3) := by decide +kernel
theorem zd_Walls_out_84 : decode zm_Walls_out.2.1 84 = .ok (.istore 6, 2) := by decide +kernel
theorem zd_Walls_out_86 : decode zm_Walls_out.2.1 86 = .ok (.iload_n 2, 1) := by decide +kernel
theorem zd_Walls_out_87 : decode zm_Walls_out.2.1 87 = .ok (.ifCond .ne 8, 3) := by decide +kernel
theorem zd_Walls_out_90 : decode zm_Walls_out.2.1 90 = .ok (.iload 6, 2) := by decide +kernel
theorem zd_Walls_out_92 : decode zm_Walls_out.2.1 92 = .ok (.goto 9, 3) := by decide +kernel
theorem zd_Walls_out_95 : decode zm_Walls_out.2.1 95 = .ok (.iload_n 3, 1) := by decide +kernel
theorem zd_Walls_out_96 : decode zm_Walls_out.2.1 96 = .ok (.iload 6, 2) := by decide +kernel
theorem zd_Walls_out_98 : decode zm_Walls_out.2.1 98 = .ok (.invokestatic 341, 3) := by decide +kernel
theorem zd_Walls_out_101 : decode zm_Walls_out.2.1 101 = .ok (.istore_n 3, 1) := by decide +kernel
theorem zd_Walls_out_102 : decode zm_Walls_out.2.1 102 = .ok (.iload_n 2, 1) := by decide +kernel
theorem zd_Walls_out_103 : decode zm_Walls_out.2.1 103 = .ok (.ifCond .ne 8, 3) := by decide +kernel
theorem zd_Walls_out_106 : decode zm_Walls_out.2.1 106 = .ok (.iload 6, 2) := by decide +kernel
theorem zd_Walls_out_108 : decode zm_Walls_out.2.1 108 = .ok (.goto 8, 3) := by decide +kernel
theorem zd_Walls_out_111 : decode zm_Walls_out.2.1 111 = .ok (.iload 4, 2) := by decide +kernel
theorem zd_Walls_out_113 : decode zm_Walls_out.2.1 113 = .ok (.iload 6, 2) := by decide +kernel
theorem zd_Walls_out_115 : decode zm_Walls_out.2.1 115 = .ok (.iand, 1) := by decide +kernel
theorem zd_Walls_out_116 : decode zm_Walls_out.2.1 116 = .ok (.istore 4, 2) := by decide +kernel
theorem zd_Walls_out_118 : decode zm_Walls_out.2.1 118 = .ok (.iinc 2 1, 3) := by decide +kernel
theorem zd_Walls_out_121 : decode zm_Walls_out.2.1 121 = .ok (.iinc 5 1, 3) := by decide +kernel
theorem zd_Walls_out_124 : decode zm_Walls_out.2.1 124 = .ok (.goto (-88), 3) := by decide +kernel
theorem zd_Walls_out_127 : decode zm_Walls_out.2.1 127 = .ok (.aload_n 0, 1) := by decide +kernel
theorem zd_Walls_out_128 : decode zm_Walls_out.2.1 128 = .ok (.iload_n 3, 1) := by decide +kernel
theorem zd_Walls_out_129 : decode zm_Walls_out.2.1 129 = .ok (.iload 4, 2) := by decide +kernel
theorem zd_Walls_out_131 : decode zm_Walls_out.2.1 131 = .ok (.invokevirtual 257, 3) := by decide +kernel
theorem zd_Walls_out_134 : decode zm_Walls_out.2.1 134 = .ok (.iload_n 2, 1) := by decide +kernel
theorem zd_Walls_out_135 : decode zm_Walls_out.2.1 135 = .ok (.ireturn, 1) := by decide +kernel
theorem zb_Walls_out_0 {Γ : zG} {σ : zS} {x1 : Int32} {dc : Nat} {P : Int32 → zS → Prop}  (hm : z_Ci dc zm_City_isColumn [.inr (33), .inl (x1)] σ P) (hdp : dc < z_dep Γ) (k : ∀ r σ1, P r σ1 → z_J Γ zm_Walls_out 8 [some (.inr (0)), some (.inl (x1)), none, none, none, none, none] [.inl (r)] σ1) : z_J Γ zm_Walls_out 0 [some (.inr (0)), some (.inl (x1)), none, none, none, none, none] [] σ := by
  refine zj_aload_n zd_Walls_out_0 rfl ?_
  refine zj_getR rfl (by decide) rfl zu_Walls (k := 4) (by decide) rfl zl_Walls_20 zd_Walls_out_1 (o' := 33) rfl ?_
  refine zj_iload_n zd_Walls_out_4 rfl ?_
  exact zj_callVi (As := [.inl (x1)]) hm hdp rfl (by decide) rfl zl_Walls_171 zq_City_isColumn zd_Walls_out_5 rfl (Nat.le_of_ble_eq_true rfl) (fun r σ1 h => (k r σ1 h))
theorem zb_Walls_out_8 {Γ : zG} {σ : zS} {x1 y0 : Int32}  (kt : ¬ y0 = 0 → z_J Γ zm_Walls_out 13 [some (.inr (0)), some (.inl (x1)), none, none, none, none, none] [] σ) (kf : y0 = 0 → z_J Γ zm_Walls_out 11 [none, none, none, none, none, none, none] [] σ) : z_J Γ zm_Walls_out 8 [some (.inr (0)), some (.inl (x1)), none, none, none, none, none] [.inl (y0)] σ := by
  exact zj_if_ne zd_Walls_out_8 (by decide) (fun h => (kt h)) (fun h => (zj_weak (L' := [none, none, none, none, none, none, none]) trivial (kf h)))
theorem zb_Walls_out_11 {Γ : zG} {σ : zS}  (e : z_end Γ (some ((-1))) σ) : z_J Γ zm_Walls_out 11 [none, none, none, none, none, none, none] [] σ := by
  refine zj_iconst (v := (-1)) zd_Walls_out_11 (by decide) ?_
  exact zj_ireturn rfl zd_Walls_out_12 e
theorem zb_Walls_out_13 {Γ : zG} {σ : zS} {x1 : Int32} {k1 : Nat}  (b1 : z_ix x1 6 k1) (kt : ¬ (σ.1 7 k1) = (-1) → z_J Γ zm_Walls_out 26 [some (.inr (0)), some (.inl (x1)), none, none, none, none, none] [] σ) (kf : (σ.1 7 k1) = (-1) → z_J Γ zm_Walls_out 23 [none, none, none, none, none, none, none] [] σ) : z_J Γ zm_Walls_out 13 [some (.inr (0)), some (.inl (x1)), none, none, none, none, none] [] σ := by
  refine zj_aload_n zd_Walls_out_13 rfl ?_
  refine zj_getR rfl (by decide) rfl zu_Walls (k := 12) (by decide) rfl zl_Walls_60 zd_Walls_out_14 (o' := 7) rfl ?_
  refine zj_iload_n zd_Walls_out_17 rfl ?_
  refine zj_iaload rfl (by decide) b1 zd_Walls_out_18 ?_
  refine zj_iconst (v := (-1)) zd_Walls_out_19 (by decide) ?_
  exact zj_icmp_ne zd_Walls_out_20 (by decide) (fun h => (kt h)) (fun h => (zj_weak (L' := [none, none, none, none, none, none, none]) trivial (kf h)))
theorem zb_Walls_out_23 {Γ : zG} {σ : zS}  (e : z_end Γ (some ((-2))) σ) : z_J Γ zm_Walls_out 23 [none, none, none, none, none, none, none] [] σ := by
  refine zj_bipush (v := (-2)) zd_Walls_out_23 (by decide) ?_
  exact zj_ireturn rfl zd_Walls_out_25 e
theorem zb_Walls_out_26 {Γ : zG} {σ : zS} {x1 : Int32}  (k : z_J Γ zm_Walls_out 36 [some (.inr (0)), some (.inl (x1)), some (.inl (nI 0)), some (.inl ((-1))), some (.inl (nI 0)), some (.inl (nI 0)), none] [] σ) : z_J Γ zm_Walls_out 26 [some (.inr (0)), some (.inl (x1)), none, none, none, none, none] [] σ := by
  refine zj_iconst (v := nI 0) zd_Walls_out_26 (by decide) ?_
  refine zj_istore_n (L' := [some (.inr (0)), some (.inl (x1)), some (.inl (nI 0)), none, none, none, none]) zd_Walls_out_27 (by decide) rfl ?_
  refine zj_iconst (v := (-1)) zd_Walls_out_28 (by decide) ?_
  refine zj_istore_n (L' := [some (.inr (0)), some (.inl (x1)), some (.inl (nI 0)), some (.inl ((-1))), none, none, none]) zd_Walls_out_29 (by decide) rfl ?_
  refine zj_iconst (v := nI 0) zd_Walls_out_30 (by decide) ?_
  refine zj_istore (L' := [some (.inr (0)), some (.inl (x1)), some (.inl (nI 0)), some (.inl ((-1))), some (.inl (nI 0)), none, none]) zd_Walls_out_31 (by decide) rfl ?_
  refine zj_iconst (v := nI 0) zd_Walls_out_33 (by decide) ?_
  refine zj_istore (L' := [some (.inr (0)), some (.inl (x1)), some (.inl (nI 0)), some (.inl ((-1))), some (.inl (nI 0)), some (.inl (nI 0)), none]) zd_Walls_out_34 (by decide) rfl ?_
  exact k
theorem zb_Walls_out_36 {Γ : zG} {σ : zS} {x1 x2 x3 x4 x5 : Int32} {k1 : Nat}  (b1 : z_ix x1 6 k1) (kt : ((nI 1) <<< ((σ.1 39 k1) &&& 31)) ≤ x5 → z_J Γ zm_Walls_out 127 [some (.inr (0)), none, some (.inl (x2)), some (.inl (x3)), some (.inl (x4)), none, none] [] σ) (kf : ¬ ((nI 1) <<< ((σ.1 39 k1) &&& 31)) ≤ x5 → z_J Γ zm_Walls_out 52 [some (.inr (0)), some (.inl (x1)), some (.inl (x2)), some (.inl (x3)), some (.inl (x4)), some (.inl (x5)), none] [] σ) : z_J Γ zm_Walls_out 36 [some (.inr (0)), some (.inl (x1)), some (.inl (x2)), some (.inl (x3)), some (.inl (x4)), some (.inl (x5)), none] [] σ := by
  refine zj_iload zd_Walls_out_36 rfl ?_
  refine zj_iconst (v := nI 1) zd_Walls_out_38 (by decide) ?_
  refine zj_aload_n zd_Walls_out_39 rfl ?_
  refine zj_getR rfl (by decide) rfl zu_Walls (k := 4) (by decide) rfl zl_Walls_20 zd_Walls_out_40 (o' := 33) rfl ?_
  refine zj_getR rfl (by decide) rfl zu_City (k := 7) (by decide) rfl zl_Walls_179 zd_Walls_out_43 (o' := 39) rfl ?_
  refine zj_iload_n zd_Walls_out_46 rfl ?_
  refine zj_iaload rfl (by decide) b1 zd_Walls_out_47 ?_
  refine zj_ishl zd_Walls_out_48 ?_
  exact zj_icmp_ge zd_Walls_out_49 (by decide) (fun h => (zj_weak (L' := [some (.inr (0)), none, some (.inl (x2)), some (.inl (x3)), some (.inl (x4)), none, none]) ⟨rfl, ⟨rfl, ⟨rfl, ⟨rfl, trivial⟩⟩⟩⟩ (kt h))) (fun h => (kf h))
theorem zb_Walls_out_52 {Γ : zG} {σ : zS} {x1 x2 x3 x4 x5 : Int32} {dc : Nat} {P : Int32 → zS → Prop}  (hm : z_Ci dc zm_City_heightWithout [.inr (33), .inl (x1), .inl (x5)] σ P) (hdp : dc < z_dep Γ) (k : ∀ r σ1, P r σ1 → z_J Γ zm_Walls_out 62 [some (.inr (0)), some (.inl (x1)), some (.inl (x2)), some (.inl (x3)), some (.inl (x4)), some (.inl (x5)), none] [.inl (r)] σ1) : z_J Γ zm_Walls_out 52 [some (.inr (0)), some (.inl (x1)), some (.inl (x2)), some (.inl (x3)), some (.inl (x4)), some (.inl (x5)), none] [] σ := by
  refine zj_aload_n zd_Walls_out_52 rfl ?_
  refine zj_getR rfl (by decide) rfl zu_Walls (k := 4) (by decide) rfl zl_Walls_20 zd_Walls_out_53 (o' := 33) rfl ?_
  refine zj_iload_n zd_Walls_out_56 rfl ?_
  refine zj_iload zd_Walls_out_57 rfl ?_
  exact zj_callVi (As := [.inl (x1), .inl (x5)]) hm hdp rfl (by decide) rfl zl_Walls_335 zq_City_heightWithout zd_Walls_out_59 rfl (Nat.le_of_ble_eq_true rfl) (fun r σ1 h => (k r σ1 h))
theorem zb_Walls_out_62 {Γ : zG} {σ : zS} {x1 x2 x3 x4 x5 y0 : Int32} {k1 : Nat}  (b1 : z_ix x1 6 k1) (kt : y0 = (σ.1 7 k1) → z_J Γ zm_Walls_out 74 [some (.inr (0)), some (.inl (x1)), some (.inl (x2)), some (.inl (x3)), some (.inl (x4)), some (.inl (x5)), none] [] σ) (kf : ¬ y0 = (σ.1 7 k1) → z_J Γ zm_Walls_out 71 [some (.inr (0)), some (.inl (x1)), some (.inl (x2)), some (.inl (x3)), some (.inl (x4)), some (.inl (x5)), none] [] σ) : z_J Γ zm_Walls_out 62 [some (.inr (0)), some (.inl (x1)), some (.inl (x2)), some (.inl (x3)), some (.inl (x4)), some (.inl (x5)), none] [.inl (y0)] σ := by
  refine zj_aload_n zd_Walls_out_62 rfl ?_
  refine zj_getR rfl (by decide) rfl zu_Walls (k := 12) (by decide) rfl zl_Walls_60 zd_Walls_out_63 (o' := 7) rfl ?_
  refine zj_iload_n zd_Walls_out_66 rfl ?_
  refine zj_iaload rfl (by decide) b1 zd_Walls_out_67 ?_
  exact zj_icmp_eq zd_Walls_out_68 (by decide) (fun h => (kt h)) (fun h => (kf h))
theorem zb_Walls_out_71 {Γ : zG} {σ : zS} {x1 x2 x3 x4 x5 : Int32}  (k : z_J Γ zm_Walls_out 121 [some (.inr (0)), some (.inl (x1)), some (.inl (x2)), some (.inl (x3)), some (.inl (x4)), some (.inl (x5)), none] [] σ) : z_J Γ zm_Walls_out 71 [some (.inr (0)), some (.inl (x1)), some (.inl (x2)), some (.inl (x3)), some (.inl (x4)), some (.inl (x5)), none] [] σ := by
  exact zj_goto zd_Walls_out_71 (by decide) k
theorem zb_Walls_out_74 {Γ : zG} {σ : zS} {x1 x2 x3 x4 x5 : Int32} {dc : Nat} {P : Int32 → zS → Prop}  (hm : z_Ci dc zm_City_bitsChosen [.inr (33), .inl (x1), .inl (x5)] σ P) (hdp : dc < z_dep Γ) (k : ∀ r σ1, P r σ1 → z_J Γ zm_Walls_out 84 [some (.inr (0)), some (.inl (x1)), some (.inl (x2)), some (.inl (x3)), some (.inl (x4)), some (.inl (x5)), none] [.inl (r)] σ1) : z_J Γ zm_Walls_out 74 [some (.inr (0)), some (.inl (x1)), some (.inl (x2)), some (.inl (x3)), some (.inl (x4)), some (.inl (x5)), none] [] σ := by
  refine zj_aload_n zd_Walls_out_74 rfl ?_
  refine zj_getR rfl (by decide) rfl zu_Walls (k := 4) (by decide) rfl zl_Walls_20 zd_Walls_out_75 (o' := 33) rfl ?_
  refine zj_iload_n zd_Walls_out_78 rfl ?_
  refine zj_iload zd_Walls_out_79 rfl ?_
  exact zj_callVi (As := [.inl (x1), .inl (x5)]) hm hdp rfl (by decide) rfl zl_Walls_338 zq_City_bitsChosen zd_Walls_out_81 rfl (Nat.le_of_ble_eq_true rfl) (fun r σ1 h => (k r σ1 h))
theorem zb_Walls_out_84 {Γ : zG} {σ : zS} {x1 x2 x3 x4 x5 y0 : Int32}  (kt : ¬ x2 = 0 → z_J Γ zm_Walls_out 95 [some (.inr (0)), some (.inl (x1)), some (.inl (x2)), some (.inl (x3)), some (.inl (x4)), some (.inl (x5)), some (.inl (y0))] [] σ) (kf : x2 = 0 → z_J Γ zm_Walls_out 90 [some (.inr (0)), some (.inl (x1)), some (.inl (x2)), none, some (.inl (x4)), some (.inl (x5)), some (.inl (y0))] [] σ) : z_J Γ zm_Walls_out 84 [some (.inr (0)), some (.inl (x1)), some (.inl (x2)), some (.inl (x3)), some (.inl (x4)), some (.inl (x5)), none] [.inl (y0)] σ := by
  refine zj_istore (L' := [some (.inr (0)), some (.inl (x1)), some (.inl (x2)), some (.inl (x3)), some (.inl (x4)), some (.inl (x5)), some (.inl (y0))]) zd_Walls_out_84 (by decide) rfl ?_
  refine zj_iload_n zd_Walls_out_86 rfl ?_
  exact zj_if_ne zd_Walls_out_87 (by decide) (fun h => (kt h)) (fun h => (zj_weak (L' := [some (.inr (0)), some (.inl (x1)), some (.inl (x2)), none, some (.inl (x4)), some (.inl (x5)), some (.inl (y0))]) ⟨rfl, ⟨rfl, ⟨rfl, ⟨rfl, ⟨rfl, ⟨rfl, trivial⟩⟩⟩⟩⟩⟩ (kf h)))
theorem zb_Walls_out_90 {Γ : zG} {σ : zS} {x1 x2 x4 x5 x6 : Int32}  (k : z_J Γ zm_Walls_out 101 [some (.inr (0)), some (.inl (x1)), some (.inl (x2)), none, some (.inl (x4)), some (.inl (x5)), some (.inl (x6))] [.inl (x6)] σ) : z_J Γ zm_Walls_out 90 [some (.inr (0)), some (.inl (x1)), some (.inl (x2)), none, some (.inl (x4)), some (.inl (x5)), some (.inl (x6))] [] σ := by
  refine zj_iload zd_Walls_out_90 rfl ?_
  exact zj_goto zd_Walls_out_92 (by decide) k
theorem zb_Walls_out_95 {Γ : zG} {σ : zS} {x1 x2 x3 x4 x5 x6 : Int32} (hdp : 0 < z_dep Γ) (k : z_J Γ zm_Walls_out 101 [some (.inr (0)), some (.inl (x1)), some (.inl (x2)), none, some (.inl (x4)), some (.inl (x5)), some (.inl (x6))] [.inl (z_min x3 x6)] σ) : z_J Γ zm_Walls_out 95 [some (.inr (0)), some (.inl (x1)), some (.inl (x2)), some (.inl (x3)), some (.inl (x4)), some (.inl (x5)), some (.inl (x6))] [] σ := by
  refine zj_iload_n zd_Walls_out_95 rfl ?_
  refine zj_iload zd_Walls_out_96 rfl ?_
  refine zj_mmin zl_Walls_341 zx_min_s zx_Math zx_min_c hdp (Nat.le_of_ble_eq_true rfl) zd_Walls_out_98 ?_
  exact (zj_weak (L' := [some (.inr (0)), some (.inl (x1)), some (.inl (x2)), none, some (.inl (x4)), some (.inl (x5)), some (.inl (x6))]) ⟨rfl, ⟨rfl, ⟨rfl, ⟨rfl, ⟨rfl, ⟨rfl, trivial⟩⟩⟩⟩⟩⟩ k)
theorem zb_Walls_out_101 {Γ : zG} {σ : zS} {x1 x2 x4 x5 x6 y0 : Int32}  (kt : ¬ x2 = 0 → z_J Γ zm_Walls_out 111 [some (.inr (0)), some (.inl (x1)), some (.inl (x2)), some (.inl (y0)), some (.inl (x4)), some (.inl (x5)), some (.inl (x6))] [] σ) (kf : x2 = 0 → z_J Γ zm_Walls_out 106 [some (.inr (0)), some (.inl (x1)), some (.inl (x2)), some (.inl (y0)), none, some (.inl (x5)), some (.inl (x6))] [] σ) : z_J Γ zm_Walls_out 101 [some (.inr (0)), some (.inl (x1)), some (.inl (x2)), none, some (.inl (x4)), some (.inl (x5)), some (.inl (x6))] [.inl (y0)] σ := by
  refine zj_istore_n (L' := [some (.inr (0)), some (.inl (x1)), some (.inl (x2)), some (.inl (y0)), some (.inl (x4)), some (.inl (x5)), some (.inl (x6))]) zd_Walls_out_101 (by decide) rfl ?_
  refine zj_iload_n zd_Walls_out_102 rfl ?_
  exact zj_if_ne zd_Walls_out_103 (by decide) (fun h => (kt h)) (fun h => (zj_weak (L' := [some (.inr (0)), some (.inl (x1)), some (.inl (x2)), some (.inl (y0)), none, some (.inl (x5)), some (.inl (x6))]) ⟨rfl, ⟨rfl, ⟨rfl, ⟨rfl, ⟨rfl, ⟨rfl, trivial⟩⟩⟩⟩⟩⟩ (kf h)))
theorem zb_Walls_out_106 {Γ : zG} {σ : zS} {x1 x2 x3 x5 x6 : Int32}  (k : z_J Γ zm_Walls_out 116 [some (.inr (0)), some (.inl (x1)), some (.inl (x2)), some (.inl (x3)), none, some (.inl (x5)), none] [.inl (x6)] σ) : z_J Γ zm_Walls_out 106 [some (.inr (0)), some (.inl (x1)), some (.inl (x2)), some (.inl (x3)), none, some (.inl (x5)), some (.inl (x6))] [] σ := by
  refine zj_iload zd_Walls_out_106 rfl ?_
  exact zj_goto zd_Walls_out_108 (by decide) (zj_weak (L' := [some (.inr (0)), some (.inl (x1)), some (.inl (x2)), some (.inl (x3)), none, some (.inl (x5)), none]) ⟨rfl, ⟨rfl, ⟨rfl, ⟨rfl, ⟨rfl, trivial⟩⟩⟩⟩⟩ k)
theorem zb_Walls_out_111 {Γ : zG} {σ : zS} {x1 x2 x3 x4 x5 x6 : Int32}  (k : z_J Γ zm_Walls_out 116 [some (.inr (0)), some (.inl (x1)), some (.inl (x2)), some (.inl (x3)), none, some (.inl (x5)), none] [.inl (x4 &&& x6)] σ) : z_J Γ zm_Walls_out 111 [some (.inr (0)), some (.inl (x1)), some (.inl (x2)), some (.inl (x3)), some (.inl (x4)), some (.inl (x5)), some (.inl (x6))] [] σ := by
  refine zj_iload zd_Walls_out_111 rfl ?_
  refine zj_iload zd_Walls_out_113 rfl ?_
  refine zj_iand zd_Walls_out_115 ?_
  exact (zj_weak (L' := [some (.inr (0)), some (.inl (x1)), some (.inl (x2)), some (.inl (x3)), none, some (.inl (x5)), none]) ⟨rfl, ⟨rfl, ⟨rfl, ⟨rfl, ⟨rfl, trivial⟩⟩⟩⟩⟩ k)
theorem zb_Walls_out_116 {Γ : zG} {σ : zS} {x1 x2 x3 x5 y0 : Int32}  (k : z_J Γ zm_Walls_out 121 [some (.inr (0)), some (.inl (x1)), some (.inl (x2 + nI 1)), some (.inl (x3)), some (.inl (y0)), some (.inl (x5)), none] [] σ) : z_J Γ zm_Walls_out 116 [some (.inr (0)), some (.inl (x1)), some (.inl (x2)), some (.inl (x3)), none, some (.inl (x5)), none] [.inl (y0)] σ := by
  refine zj_istore (L' := [some (.inr (0)), some (.inl (x1)), some (.inl (x2)), some (.inl (x3)), some (.inl (y0)), some (.inl (x5)), none]) zd_Walls_out_116 (by decide) rfl ?_
  refine zj_iinc (v := nI 1) (L' := [some (.inr (0)), some (.inl (x1)), some (.inl (x2 + nI 1)), some (.inl (x3)), some (.inl (y0)), some (.inl (x5)), none]) zd_Walls_out_118 rfl (by decide) (by decide) rfl ?_
  exact k
theorem zb_Walls_out_121 {Γ : zG} {σ : zS} {x1 x2 x3 x4 x5 : Int32}  (k : z_J Γ zm_Walls_out 36 [some (.inr (0)), some (.inl (x1)), some (.inl (x2)), some (.inl (x3)), some (.inl (x4)), some (.inl (x5 + nI 1)), none] [] σ) : z_J Γ zm_Walls_out 121 [some (.inr (0)), some (.inl (x1)), some (.inl (x2)), some (.inl (x3)), some (.inl (x4)), some (.inl (x5)), none] [] σ := by
  refine zj_iinc (v := nI 1) (L' := [some (.inr (0)), some (.inl (x1)), some (.inl (x2)), some (.inl (x3)), some (.inl (x4)), some (.inl (x5 + nI 1)), none]) zd_Walls_out_121 rfl (by decide) (by decide) rfl ?_
  exact zj_goto zd_Walls_out_124 (by decide) k
theorem zb_Walls_out_127 {Γ : zG} {σ : zS} {x2 x3 x4 : Int32} {dc : Nat} {P : zS → Prop}  (hm : z_Cv dc zm_Walls_tellTwo [.inr (0), .inl (x3), .inl (x4)] σ P) (hdp : dc < z_dep Γ) (k : ∀ σ1, P σ1 → z_J Γ zm_Walls_out 134 [none, none, some (.inl (x2)), none, none, none, none] [] σ1) : z_J Γ zm_Walls_out 127 [some (.inr (0)), none, some (.inl (x2)), some (.inl (x3)), some (.inl (x4)), none, none] [] σ := by
  refine zj_aload_n zd_Walls_out_127 rfl ?_
  refine zj_iload_n zd_Walls_out_128 rfl ?_
  refine zj_iload zd_Walls_out_129 rfl ?_
  exact zj_callVv (As := [.inl (x3), .inl (x4)]) hm hdp rfl (by decide) rfl zl_Walls_257 zq_Walls_tellTwo zd_Walls_out_131 rfl (Nat.le_of_ble_eq_true rfl) (fun σ1 h => (zj_weak (L' := [none, none, some (.inl (x2)), none, none, none, none]) ⟨rfl, trivial⟩ (k σ1 h)))
theorem zb_Walls_out_134 {Γ : zG} {σ : zS} {x2 : Int32}  (e : z_end Γ (some (x2)) σ) : z_J Γ zm_Walls_out 134 [none, none, some (.inl (x2)), none, none, none, none] [] σ := by
  refine zj_iload_n zd_Walls_out_134 rfl ?_
  exact zj_ireturn rfl zd_Walls_out_135 e
theorem zd_Walls_look_0 : decode zm_Walls_look.2.1 0 = .ok (.iconst (-1), 1) := by decide +kernel
theorem zd_Walls_look_1 : decode zm_Walls_look.2.1 1 = .ok (.istore_n 1, 1) := by decide +kernel
theorem zd_Walls_look_2 : decode zm_Walls_look.2.1 2 = .ok (.iconst 0, 1) := by decide +kernel
theorem zd_Walls_look_3 : decode zm_Walls_look.2.1 3 = .ok (.istore_n 2, 1) := by decide +kernel
theorem zd_Walls_look_4 : decode zm_Walls_look.2.1 4 = .ok (.iconst 0, 1) := by decide +kernel
theorem zd_Walls_look_5 : decode zm_Walls_look.2.1 5 = .ok (.istore_n 3, 1) := by decide +kernel
theorem zd_Walls_look_6 : decode zm_Walls_look.2.1 6 = .ok (.iload_n 3, 1) := by decide +kernel
theorem zd_Walls_look_7 : decode zm_Walls_look.2.1 7 = .ok (.aload_n 0, 1) := by decide +kernel
theorem zd_Walls_look_8 : decode zm_Walls_look.2.1 8 = .ok (.getfield 20, 3) := by decide +kernel
theorem zd_Walls_look_11 : decode zm_Walls_look.2.1 11 = .ok (.getfield 117, 3) := by decide +kernel
theorem zd_Walls_look_14 : decode zm_Walls_look.2.1 14 = .ok (.if_icmp .ge 37, 3) := by decide +kernel
theorem zd_Walls_look_17 : decode zm_Walls_look.2.1 17 = .ok (.aload_n 0, 1) := by decide +kernel
theorem zd_Walls_look_18 : decode zm_Walls_look.2.1 18 = .ok (.iload_n 3, 1) := by decide +kernel
theorem zd_Walls_look_19 : decode zm_Walls_look.2.1 19 = .ok (.invokevirtual 346, 3) := by decide +kernel
theorem zd_Walls_look_22 : decode zm_Walls_look.2.1 22 = .ok (.istore 4, 2) := by decide +kernel
theorem zd_Walls_look_24 : decode zm_Walls_look.2.1 24 = .ok (.aload_n 0, 1) := by decide +kernel
theorem zd_Walls_look_25 : decode zm_Walls_look.2.1 25 = .ok (.getfield 60, 3) := by decide +kernel
theorem zd_Walls_look_28 : decode zm_Walls_look.2.1 28 = .ok (.iload_n 3, 1) := by decide +kernel
theorem zd_Walls_look_29 : decode zm_Walls_look.2.1 29 = .ok (.iaload, 1) := by decide +kernel
theorem zd_Walls_look_30 : decode zm_Walls_look.2.1 30 = .ok (.iconst (-1), 1) := by decide +kernel
theorem zd_Walls_look_31 : decode zm_Walls_look.2.1 31 = .ok (.if_icmp .ne 14, 3) := by decide +kernel
theorem zd_Walls_look_34 : decode zm_Walls_look.2.1 34 = .ok (.iload 4, 2) := by decide +kernel
theorem zd_Walls_look_36 : decode zm_Walls_look.2.1 36 = .ok (.iload_n 2, 1) := by decide +kernel
theorem zd_Walls_look_37 : decode zm_Walls_look.2.1 37 = .ok (.if_icmp .le 8, 3) := by decide +kernel
theorem zd_Walls_look_40 : decode zm_Walls_look.2.1 40 = .ok (.iload_n 3, 1) := by decide +kernel
theorem zd_Walls_look_41 : decode zm_Walls_look.2.1 41 = .ok (.istore_n 1, 1) := by decide +kernel
theorem zd_Walls_look_42 : decode zm_Walls_look.2.1 42 = .ok (.iload 4, 2) := by decide +kernel
theorem zd_Walls_look_44 : decode zm_Walls_look.2.1 44 = .ok (.istore_n 2, 1) := by decide +kernel
theorem zd_Walls_look_45 : decode zm_Walls_look.2.1 45 = .ok (.iinc 3 1, 3) := by decide +kernel
theorem zd_Walls_look_48 : decode zm_Walls_look.2.1 48 = .ok (.goto (-42), 3) := by decide +kernel
theorem zd_Walls_look_51 : decode zm_Walls_look.2.1 51 = .ok (.iload_n 1, 1) := by decide +kernel
theorem zd_Walls_look_52 : decode zm_Walls_look.2.1 52 = .ok (.iconst (-1), 1) := by decide +kernel
theorem zd_Walls_look_53 : decode zm_Walls_look.2.1 53 = .ok (.if_icmp .ne 6, 3) := by decide +kernel
theorem zd_Walls_look_56 : decode zm_Walls_look.2.1 56 = .ok (.bipush (-2), 2) := by decide +kernel
theorem zd_Walls_look_58 : decode zm_Walls_look.2.1 58 = .ok (.ireturn, 1) := by decide +kernel
theorem zd_Walls_look_59 : decode zm_Walls_look.2.1 59 = .ok (.aload_n 0, 1) := by decide +kernel
theorem zd_Walls_look_60 : decode zm_Walls_look.2.1 60 = .ok (.iload_n 2, 1) := by decide +kernel
theorem zd_Walls_look_61 : decode zm_Walls_look.2.1 61 = .ok (.invokevirtual 242, 3) := by decide +kernel
theorem zd_Walls_look_64 : decode zm_Walls_look.2.1 64 = .ok (.iload_n 1, 1) := by decide +kernel
theorem zd_Walls_look_65 : decode zm_Walls_look.2.1 65 = .ok (.ireturn, 1) := by decide +kernel
theorem zb_Walls_look_0 {Γ : zG} {σ : zS}  (k : z_J Γ zm_Walls_look 6 [some (.inr (0)), some (.inl ((-1))), some (.inl (nI 0)), some (.inl (nI 0)), none] [] σ) : z_J Γ zm_Walls_look 0 [some (.inr (0)), none, none, none, none] [] σ := by
  refine zj_iconst (v := (-1)) zd_Walls_look_0 (by decide) ?_
  refine zj_istore_n (L' := [some (.inr (0)), some (.inl ((-1))), none, none, none]) zd_Walls_look_1 (by decide) rfl ?_
  refine zj_iconst (v := nI 0) zd_Walls_look_2 (by decide) ?_
  refine zj_istore_n (L' := [some (.inr (0)), some (.inl ((-1))), some (.inl (nI 0)), none, none]) zd_Walls_look_3 (by decide) rfl ?_
  refine zj_iconst (v := nI 0) zd_Walls_look_4 (by decide) ?_
  refine zj_istore_n (L' := [some (.inr (0)), some (.inl ((-1))), some (.inl (nI 0)), some (.inl (nI 0)), none]) zd_Walls_look_5 (by decide) rfl ?_
  exact k
theorem zb_Walls_look_6 {Γ : zG} {σ : zS} {x1 x2 x3 : Int32}  (kt : (σ.1 33 6) ≤ x3 → z_J Γ zm_Walls_look 51 [some (.inr (0)), some (.inl (x1)), some (.inl (x2)), none, none] [] σ) (kf : ¬ (σ.1 33 6) ≤ x3 → z_J Γ zm_Walls_look 17 [some (.inr (0)), some (.inl (x1)), some (.inl (x2)), some (.inl (x3)), none] [] σ) : z_J Γ zm_Walls_look 6 [some (.inr (0)), some (.inl (x1)), some (.inl (x2)), some (.inl (x3)), none] [] σ := by
  refine zj_iload_n zd_Walls_look_6 rfl ?_
  refine zj_aload_n zd_Walls_look_7 rfl ?_
  refine zj_getR rfl (by decide) rfl zu_Walls (k := 4) (by decide) rfl zl_Walls_20 zd_Walls_look_8 (o' := 33) rfl ?_
  refine zj_getI rfl (by decide) rfl zu_City (k := 6) (by decide) rfl zl_Walls_117 zd_Walls_look_11 ?_
  exact zj_icmp_ge zd_Walls_look_14 (by decide) (fun h => (zj_weak (L' := [some (.inr (0)), some (.inl (x1)), some (.inl (x2)), none, none]) ⟨rfl, ⟨rfl, ⟨rfl, trivial⟩⟩⟩ (kt h))) (fun h => (kf h))
theorem zb_Walls_look_17 {Γ : zG} {σ : zS} {x1 x2 x3 : Int32} {dc : Nat} {P : Int32 → zS → Prop}  (hm : z_Ci dc zm_Walls_heightsShown [.inr (0), .inl (x3)] σ P) (hdp : dc < z_dep Γ) (k : ∀ r σ1, P r σ1 → z_J Γ zm_Walls_look 22 [some (.inr (0)), some (.inl (x1)), some (.inl (x2)), some (.inl (x3)), none] [.inl (r)] σ1) : z_J Γ zm_Walls_look 17 [some (.inr (0)), some (.inl (x1)), some (.inl (x2)), some (.inl (x3)), none] [] σ := by
  refine zj_aload_n zd_Walls_look_17 rfl ?_
  refine zj_iload_n zd_Walls_look_18 rfl ?_
  exact zj_callVi (As := [.inl (x3)]) hm hdp rfl (by decide) rfl zl_Walls_346 zq_Walls_heightsShown zd_Walls_look_19 rfl (Nat.le_of_ble_eq_true rfl) (fun r σ1 h => (k r σ1 h))
theorem zb_Walls_look_22 {Γ : zG} {σ : zS} {x1 x2 x3 y0 : Int32} {k1 : Nat}  (b1 : z_ix x3 6 k1) (kt : ¬ (σ.1 7 k1) = (-1) → z_J Γ zm_Walls_look 45 [some (.inr (0)), some (.inl (x1)), some (.inl (x2)), some (.inl (x3)), none] [] σ) (kf : (σ.1 7 k1) = (-1) → z_J Γ zm_Walls_look 34 [some (.inr (0)), some (.inl (x1)), some (.inl (x2)), some (.inl (x3)), some (.inl (y0))] [] σ) : z_J Γ zm_Walls_look 22 [some (.inr (0)), some (.inl (x1)), some (.inl (x2)), some (.inl (x3)), none] [.inl (y0)] σ := by
  refine zj_istore (L' := [some (.inr (0)), some (.inl (x1)), some (.inl (x2)), some (.inl (x3)), some (.inl (y0))]) zd_Walls_look_22 (by decide) rfl ?_
  refine zj_aload_n zd_Walls_look_24 rfl ?_
  refine zj_getR rfl (by decide) rfl zu_Walls (k := 12) (by decide) rfl zl_Walls_60 zd_Walls_look_25 (o' := 7) rfl ?_
  refine zj_iload_n zd_Walls_look_28 rfl ?_
  refine zj_iaload rfl (by decide) b1 zd_Walls_look_29 ?_
  refine zj_iconst (v := (-1)) zd_Walls_look_30 (by decide) ?_
  exact zj_icmp_ne zd_Walls_look_31 (by decide) (fun h => (zj_weak (L' := [some (.inr (0)), some (.inl (x1)), some (.inl (x2)), some (.inl (x3)), none]) ⟨rfl, ⟨rfl, ⟨rfl, ⟨rfl, trivial⟩⟩⟩⟩ (kt h))) (fun h => (kf h))
theorem zb_Walls_look_34 {Γ : zG} {σ : zS} {x1 x2 x3 x4 : Int32}  (kt : x4 ≤ x2 → z_J Γ zm_Walls_look 45 [some (.inr (0)), some (.inl (x1)), some (.inl (x2)), some (.inl (x3)), none] [] σ) (kf : ¬ x4 ≤ x2 → z_J Γ zm_Walls_look 40 [some (.inr (0)), none, none, some (.inl (x3)), some (.inl (x4))] [] σ) : z_J Γ zm_Walls_look 34 [some (.inr (0)), some (.inl (x1)), some (.inl (x2)), some (.inl (x3)), some (.inl (x4))] [] σ := by
  refine zj_iload zd_Walls_look_34 rfl ?_
  refine zj_iload_n zd_Walls_look_36 rfl ?_
  exact zj_icmp_le zd_Walls_look_37 (by decide) (fun h => (zj_weak (L' := [some (.inr (0)), some (.inl (x1)), some (.inl (x2)), some (.inl (x3)), none]) ⟨rfl, ⟨rfl, ⟨rfl, ⟨rfl, trivial⟩⟩⟩⟩ (kt h))) (fun h => (zj_weak (L' := [some (.inr (0)), none, none, some (.inl (x3)), some (.inl (x4))]) ⟨rfl, ⟨rfl, ⟨rfl, trivial⟩⟩⟩ (kf h)))
theorem zb_Walls_look_40 {Γ : zG} {σ : zS} {x3 x4 : Int32}  (k : z_J Γ zm_Walls_look 45 [some (.inr (0)), some (.inl (x3)), some (.inl (x4)), some (.inl (x3)), none] [] σ) : z_J Γ zm_Walls_look 40 [some (.inr (0)), none, none, some (.inl (x3)), some (.inl (x4))] [] σ := by
  refine zj_iload_n zd_Walls_look_40 rfl ?_
  refine zj_istore_n (L' := [some (.inr (0)), some (.inl (x3)), none, some (.inl (x3)), some (.inl (x4))]) zd_Walls_look_41 (by decide) rfl ?_
  refine zj_iload zd_Walls_look_42 rfl ?_
  refine zj_istore_n (L' := [some (.inr (0)), some (.inl (x3)), some (.inl (x4)), some (.inl (x3)), some (.inl (x4))]) zd_Walls_look_44 (by decide) rfl ?_
  exact (zj_weak (L' := [some (.inr (0)), some (.inl (x3)), some (.inl (x4)), some (.inl (x3)), none]) ⟨rfl, ⟨rfl, ⟨rfl, ⟨rfl, trivial⟩⟩⟩⟩ k)
theorem zb_Walls_look_45 {Γ : zG} {σ : zS} {x1 x2 x3 : Int32}  (k : z_J Γ zm_Walls_look 6 [some (.inr (0)), some (.inl (x1)), some (.inl (x2)), some (.inl (x3 + nI 1)), none] [] σ) : z_J Γ zm_Walls_look 45 [some (.inr (0)), some (.inl (x1)), some (.inl (x2)), some (.inl (x3)), none] [] σ := by
  refine zj_iinc (v := nI 1) (L' := [some (.inr (0)), some (.inl (x1)), some (.inl (x2)), some (.inl (x3 + nI 1)), none]) zd_Walls_look_45 rfl (by decide) (by decide) rfl ?_
  exact zj_goto zd_Walls_look_48 (by decide) k
theorem zb_Walls_look_51 {Γ : zG} {σ : zS} {x1 x2 : Int32}  (kt : ¬ x1 = (-1) → z_J Γ zm_Walls_look 59 [some (.inr (0)), some (.inl (x1)), some (.inl (x2)), none, none] [] σ) (kf : x1 = (-1) → z_J Γ zm_Walls_look 56 [none, none, none, none, none] [] σ) : z_J Γ zm_Walls_look 51 [some (.inr (0)), some (.inl (x1)), some (.inl (x2)), none, none] [] σ := by
  refine zj_iload_n zd_Walls_look_51 rfl ?_
  refine zj_iconst (v := (-1)) zd_Walls_look_52 (by decide) ?_
  exact zj_icmp_ne zd_Walls_look_53 (by decide) (fun h => (kt h)) (fun h => (zj_weak (L' := [none, none, none, none, none]) trivial (kf h)))
theorem zb_Walls_look_56 {Γ : zG} {σ : zS}  (e : z_end Γ (some ((-2))) σ) : z_J Γ zm_Walls_look 56 [none, none, none, none, none] [] σ := by
  refine zj_bipush (v := (-2)) zd_Walls_look_56 (by decide) ?_
  exact zj_ireturn rfl zd_Walls_look_58 e
theorem zb_Walls_look_59 {Γ : zG} {σ : zS} {x1 x2 : Int32} {dc : Nat} {P : zS → Prop}  (hm : z_Cv dc zm_Walls_tell [.inr (0), .inl (x2)] σ P) (hdp : dc < z_dep Γ) (k : ∀ σ1, P σ1 → z_J Γ zm_Walls_look 64 [none, some (.inl (x1)), none, none, none] [] σ1) : z_J Γ zm_Walls_look 59 [some (.inr (0)), some (.inl (x1)), some (.inl (x2)), none, none] [] σ := by
  refine zj_aload_n zd_Walls_look_59 rfl ?_
  refine zj_iload_n zd_Walls_look_60 rfl ?_
  exact zj_callVv (As := [.inl (x2)]) hm hdp rfl (by decide) rfl zl_Walls_242 zq_Walls_tell zd_Walls_look_61 rfl (Nat.le_of_ble_eq_true rfl) (fun σ1 h => (zj_weak (L' := [none, some (.inl (x1)), none, none, none]) ⟨rfl, trivial⟩ (k σ1 h)))
theorem zb_Walls_look_64 {Γ : zG} {σ : zS} {x1 : Int32}  (e : z_end Γ (some (x1)) σ) : z_J Γ zm_Walls_look 64 [none, some (.inl (x1)), none, none, none] [] σ := by
  refine zj_iload_n zd_Walls_look_64 rfl ?_
  exact zj_ireturn rfl zd_Walls_look_65 e
theorem zd_Walls_rests_0 : decode zm_Walls_rests.2.1 0 = .ok (.iload_n 1, 1) := by decide +kernel
theorem zd_Walls_rests_1 : decode zm_Walls_rests.2.1 1 = .ok (.ifCond .lt 19, 3) := by decide +kernel
theorem zd_Walls_rests_4 : decode zm_Walls_rests.2.1 4 = .ok (.iload_n 1, 1) := by decide +kernel
theorem zd_Walls_rests_5 : decode zm_Walls_rests.2.1 5 = .ok (.bipush 9, 2) := by decide +kernel
theorem zd_Walls_rests_7 : decode zm_Walls_rests.2.1 7 = .ok (.if_icmp .gt 13, 3) := by decide +kernel
theorem zd_Walls_rests_10 : decode zm_Walls_rests.2.1 10 = .ok (.iload_n 2, 1) := by decide +kernel
theorem zd_Walls_rests_11 : decode zm_Walls_rests.2.1 11 = .ok (.ifCond .lt 9, 3) := by decide +kernel
theorem zd_Walls_rests_14 : decode zm_Walls_rests.2.1 14 = .ok (.iload_n 2, 1) := by decide +kernel
theorem zd_Walls_rests_15 : decode zm_Walls_rests.2.1 15 = .ok (.bipush 9, 2) := by decide +kernel
theorem zd_Walls_rests_17 : decode zm_Walls_rests.2.1 17 = .ok (.if_icmp .le 5, 3) := by decide +kernel
theorem zd_Walls_rests_20 : decode zm_Walls_rests.2.1 20 = .ok (.iconst (-1), 1) := by decide +kernel
theorem zd_Walls_rests_21 : decode zm_Walls_rests.2.1 21 = .ok (.ireturn, 1) := by decide +kernel
theorem zd_Walls_rests_22 : decode zm_Walls_rests.2.1 22 = .ok (.iconst 0, 1) := by decide +kernel
theorem zd_Walls_rests_23 : decode zm_Walls_rests.2.1 23 = .ok (.istore_n 3, 1) := by decide +kernel
theorem zd_Walls_rests_24 : decode zm_Walls_rests.2.1 24 = .ok (.aload_n 0, 1) := by decide +kernel
theorem zd_Walls_rests_25 : decode zm_Walls_rests.2.1 25 = .ok (.iconst 0, 1) := by decide +kernel
theorem zd_Walls_rests_26 : decode zm_Walls_rests.2.1 26 = .ok (.putfield 349, 3) := by decide +kernel
theorem zd_Walls_rests_29 : decode zm_Walls_rests.2.1 29 = .ok (.iconst 0, 1) := by decide +kernel
theorem zd_Walls_rests_30 : decode zm_Walls_rests.2.1 30 = .ok (.istore 4, 2) := by decide +kernel
theorem zd_Walls_rests_32 : decode zm_Walls_rests.2.1 32 = .ok (.iload 4, 2) := by decide +kernel
theorem zd_Walls_rests_34 : decode zm_Walls_rests.2.1 34 = .ok (.bipush 9, 2) := by decide +kernel
theorem zd_Walls_rests_36 : decode zm_Walls_rests.2.1 36 = .ok (.if_icmp .gt 67, 3) := by decide +kernel
theorem zd_Walls_rests_39 : decode zm_Walls_rests.2.1 39 = .ok (.iconst 0, 1) := by decide +kernel
theorem zd_Walls_rests_40 : decode zm_Walls_rests.2.1 40 = .ok (.istore 5, 2) := by decide +kernel
theorem zd_Walls_rests_42 : decode zm_Walls_rests.2.1 42 = .ok (.iload 5, 2) := by decide +kernel
theorem zd_Walls_rests_44 : decode zm_Walls_rests.2.1 44 = .ok (.bipush 9, 2) := by decide +kernel
theorem zd_Walls_rests_46 : decode zm_Walls_rests.2.1 46 = .ok (.if_icmp .gt 51, 3) := by decide +kernel
theorem zd_Walls_rests_49 : decode zm_Walls_rests.2.1 49 = .ok (.iload 4, 2) := by decide +kernel
theorem zd_Walls_rests_51 : decode zm_Walls_rests.2.1 51 = .ok (.iload 5, 2) := by decide +kernel
theorem zd_Walls_rests_53 : decode zm_Walls_rests.2.1 53 = .ok (.iload_n 1, 1) := by decide +kernel
theorem zd_Walls_rests_54 : decode zm_Walls_rests.2.1 54 = .ok (.iload_n 2, 1) := by decide +kernel
theorem zd_Walls_rests_55 : decode zm_Walls_rests.2.1 55 = .ok (.invokestatic 352, 3) := by decide +kernel
theorem zd_Walls_rests_58 : decode zm_Walls_rests.2.1 58 = .ok (.ifCond .eq 33, 3) := by decide +kernel
theorem zd_Walls_rests_61 : decode zm_Walls_rests.2.1 61 = .ok (.iload 5, 2) := by decide +kernel
theorem zd_Walls_rests_63 : decode zm_Walls_rests.2.1 63 = .ok (.iload 4, 2) := by decide +kernel
theorem zd_Walls_rests_65 : decode zm_Walls_rests.2.1 65 = .ok (.iload_n 1, 1) := by decide +kernel
theorem zd_Walls_rests_66 : decode zm_Walls_rests.2.1 66 = .ok (.iload_n 2, 1) := by decide +kernel
theorem zd_Walls_rests_67 : decode zm_Walls_rests.2.1 67 = .ok (.invokestatic 352, 3) := by decide +kernel
theorem zd_Walls_rests_70 : decode zm_Walls_rests.2.1 70 = .ok (.ifCond .ne 6, 3) := by decide +kernel
theorem zd_Walls_rests_73 : decode zm_Walls_rests.2.1 73 = .ok (.goto 18, 3) := by decide +kernel
theorem zd_Walls_rests_76 : decode zm_Walls_rests.2.1 76 = .ok (.iload_n 3, 1) := by decide +kernel
theorem zd_Walls_rests_77 : decode zm_Walls_rests.2.1 77 = .ok (.ifCond .ne 11, 3) := by decide +kernel
theorem zd_Walls_rests_80 : decode zm_Walls_rests.2.1 80 = .ok (.aload_n 0, 1) := by decide +kernel
theorem zd_Walls_rests_81 : decode zm_Walls_rests.2.1 81 = .ok (.iload 4, 2) := by decide +kernel
theorem zd_Walls_rests_83 : decode zm_Walls_rests.2.1 83 = .ok (.iload 5, 2) := by decide +kernel
theorem zd_Walls_rests_85 : decode zm_Walls_rests.2.1 85 = .ok (.invokevirtual 257, 3) := by decide +kernel
theorem zd_Walls_rests_88 : decode zm_Walls_rests.2.1 88 = .ok (.iinc 3 1, 3) := by decide +kernel
theorem zd_Walls_rests_91 : decode zm_Walls_rests.2.1 91 = .ok (.iinc 5 1, 3) := by decide +kernel
theorem zd_Walls_rests_94 : decode zm_Walls_rests.2.1 94 = .ok (.goto (-52), 3) := by decide +kernel
theorem zd_Walls_rests_97 : decode zm_Walls_rests.2.1 97 = .ok (.iinc 4 1, 3) := by decide +kernel
theorem zd_Walls_rests_100 : decode zm_Walls_rests.2.1 100 = .ok (.goto (-68), 3) := by decide +kernel
theorem zd_Walls_rests_103 : decode zm_Walls_rests.2.1 103 = .ok (.iload_n 3, 1) := by decide +kernel
theorem zd_Walls_rests_104 : decode zm_Walls_rests.2.1 104 = .ok (.ireturn, 1) := by decide +kernel
theorem zb_Walls_rests_0 {Γ : zG} {σ : zS} {x1 x2 : Int32}  (kt : x1 < 0 → z_J Γ zm_Walls_rests 20 [none, none, none, none, none, none] [] σ) (kf : ¬ x1 < 0 → z_J Γ zm_Walls_rests 4 [some (.inr (0)), some (.inl (x1)), some (.inl (x2)), none, none, none] [] σ) : z_J Γ zm_Walls_rests 0 [some (.inr (0)), some (.inl (x1)), some (.inl (x2)), none, none, none] [] σ := by
  refine zj_iload_n zd_Walls_rests_0 rfl ?_
  exact zj_if_lt zd_Walls_rests_1 (by decide) (fun h => (zj_weak (L' := [none, none, none, none, none, none]) trivial (kt h))) (fun h => (kf h))
theorem zb_Walls_rests_4 {Γ : zG} {σ : zS} {x1 x2 : Int32}  (kt : (nI 9) < x1 → z_J Γ zm_Walls_rests 20 [none, none, none, none, none, none] [] σ) (kf : ¬ (nI 9) < x1 → z_J Γ zm_Walls_rests 10 [some (.inr (0)), some (.inl (x1)), some (.inl (x2)), none, none, none] [] σ) : z_J Γ zm_Walls_rests 4 [some (.inr (0)), some (.inl (x1)), some (.inl (x2)), none, none, none] [] σ := by
  refine zj_iload_n zd_Walls_rests_4 rfl ?_
  refine zj_bipush (v := nI 9) zd_Walls_rests_5 (by decide) ?_
  exact zj_icmp_gt zd_Walls_rests_7 (by decide) (fun h => (zj_weak (L' := [none, none, none, none, none, none]) trivial (kt h))) (fun h => (kf h))
theorem zb_Walls_rests_10 {Γ : zG} {σ : zS} {x1 x2 : Int32}  (kt : x2 < 0 → z_J Γ zm_Walls_rests 20 [none, none, none, none, none, none] [] σ) (kf : ¬ x2 < 0 → z_J Γ zm_Walls_rests 14 [some (.inr (0)), some (.inl (x1)), some (.inl (x2)), none, none, none] [] σ) : z_J Γ zm_Walls_rests 10 [some (.inr (0)), some (.inl (x1)), some (.inl (x2)), none, none, none] [] σ := by
  refine zj_iload_n zd_Walls_rests_10 rfl ?_
  exact zj_if_lt zd_Walls_rests_11 (by decide) (fun h => (zj_weak (L' := [none, none, none, none, none, none]) trivial (kt h))) (fun h => (kf h))
theorem zb_Walls_rests_14 {Γ : zG} {σ : zS} {x1 x2 : Int32}  (kt : x2 ≤ (nI 9) → z_J Γ zm_Walls_rests 22 [some (.inr (0)), some (.inl (x1)), some (.inl (x2)), none, none, none] [] σ) (kf : ¬ x2 ≤ (nI 9) → z_J Γ zm_Walls_rests 20 [none, none, none, none, none, none] [] σ) : z_J Γ zm_Walls_rests 14 [some (.inr (0)), some (.inl (x1)), some (.inl (x2)), none, none, none] [] σ := by
  refine zj_iload_n zd_Walls_rests_14 rfl ?_
  refine zj_bipush (v := nI 9) zd_Walls_rests_15 (by decide) ?_
  exact zj_icmp_le zd_Walls_rests_17 (by decide) (fun h => (kt h)) (fun h => (zj_weak (L' := [none, none, none, none, none, none]) trivial (kf h)))
theorem zb_Walls_rests_20 {Γ : zG} {σ : zS}  (e : z_end Γ (some ((-1))) σ) : z_J Γ zm_Walls_rests 20 [none, none, none, none, none, none] [] σ := by
  refine zj_iconst (v := (-1)) zd_Walls_rests_20 (by decide) ?_
  exact zj_ireturn rfl zd_Walls_rests_21 e
theorem zb_Walls_rests_22 {Γ : zG} {σ : zS} {x1 x2 : Int32}  (k : z_J Γ zm_Walls_rests 32 [some (.inr (0)), some (.inl (x1)), some (.inl (x2)), some (.inl (nI 0)), some (.inl (nI 0)), none] [] (z_pI σ 0 3 (nI 0))) : z_J Γ zm_Walls_rests 22 [some (.inr (0)), some (.inl (x1)), some (.inl (x2)), none, none, none] [] σ := by
  refine zj_iconst (v := nI 0) zd_Walls_rests_22 (by decide) ?_
  refine zj_istore_n (L' := [some (.inr (0)), some (.inl (x1)), some (.inl (x2)), some (.inl (nI 0)), none, none]) zd_Walls_rests_23 (by decide) rfl ?_
  refine zj_aload_n zd_Walls_rests_24 rfl ?_
  refine zj_iconst (v := nI 0) zd_Walls_rests_25 (by decide) ?_
  refine zj_putI rfl (by decide) rfl zu_Walls zy_Walls_ok zn_Walls (k := 3) (by decide) rfl rfl zl_Walls_349 rfl rfl zd_Walls_rests_26 ?_
  refine zj_iconst (v := nI 0) zd_Walls_rests_29 (by decide) ?_
  refine zj_istore (L' := [some (.inr (0)), some (.inl (x1)), some (.inl (x2)), some (.inl (nI 0)), some (.inl (nI 0)), none]) zd_Walls_rests_30 (by decide) rfl ?_
  exact k
theorem zb_Walls_rests_32 {Γ : zG} {σ : zS} {x1 x2 x3 x4 : Int32}  (kt : (nI 9) < x4 → z_J Γ zm_Walls_rests 103 [none, none, none, some (.inl (x3)), none, none] [] σ) (kf : ¬ (nI 9) < x4 → z_J Γ zm_Walls_rests 39 [some (.inr (0)), some (.inl (x1)), some (.inl (x2)), some (.inl (x3)), some (.inl (x4)), none] [] σ) : z_J Γ zm_Walls_rests 32 [some (.inr (0)), some (.inl (x1)), some (.inl (x2)), some (.inl (x3)), some (.inl (x4)), none] [] σ := by
  refine zj_iload zd_Walls_rests_32 rfl ?_
  refine zj_bipush (v := nI 9) zd_Walls_rests_34 (by decide) ?_
  exact zj_icmp_gt zd_Walls_rests_36 (by decide) (fun h => (zj_weak (L' := [none, none, none, some (.inl (x3)), none, none]) ⟨rfl, trivial⟩ (kt h))) (fun h => (kf h))
theorem zb_Walls_rests_39 {Γ : zG} {σ : zS} {x1 x2 x3 x4 : Int32}  (k : z_J Γ zm_Walls_rests 42 [some (.inr (0)), some (.inl (x1)), some (.inl (x2)), some (.inl (x3)), some (.inl (x4)), some (.inl (nI 0))] [] σ) : z_J Γ zm_Walls_rests 39 [some (.inr (0)), some (.inl (x1)), some (.inl (x2)), some (.inl (x3)), some (.inl (x4)), none] [] σ := by
  refine zj_iconst (v := nI 0) zd_Walls_rests_39 (by decide) ?_
  refine zj_istore (L' := [some (.inr (0)), some (.inl (x1)), some (.inl (x2)), some (.inl (x3)), some (.inl (x4)), some (.inl (nI 0))]) zd_Walls_rests_40 (by decide) rfl ?_
  exact k
theorem zb_Walls_rests_42 {Γ : zG} {σ : zS} {x1 x2 x3 x4 x5 : Int32}  (kt : (nI 9) < x5 → z_J Γ zm_Walls_rests 97 [some (.inr (0)), some (.inl (x1)), some (.inl (x2)), some (.inl (x3)), some (.inl (x4)), none] [] σ) (kf : ¬ (nI 9) < x5 → z_J Γ zm_Walls_rests 49 [some (.inr (0)), some (.inl (x1)), some (.inl (x2)), some (.inl (x3)), some (.inl (x4)), some (.inl (x5))] [] σ) : z_J Γ zm_Walls_rests 42 [some (.inr (0)), some (.inl (x1)), some (.inl (x2)), some (.inl (x3)), some (.inl (x4)), some (.inl (x5))] [] σ := by
  refine zj_iload zd_Walls_rests_42 rfl ?_
  refine zj_bipush (v := nI 9) zd_Walls_rests_44 (by decide) ?_
  exact zj_icmp_gt zd_Walls_rests_46 (by decide) (fun h => (zj_weak (L' := [some (.inr (0)), some (.inl (x1)), some (.inl (x2)), some (.inl (x3)), some (.inl (x4)), none]) ⟨rfl, ⟨rfl, ⟨rfl, ⟨rfl, ⟨rfl, trivial⟩⟩⟩⟩⟩ (kt h))) (fun h => (kf h))
theorem zb_Walls_rests_49 {Γ : zG} {σ : zS} {x1 x2 x3 x4 x5 : Int32} {dc : Nat} {P : Int32 → zS → Prop}  (hm : z_Ci dc zm_Walls_isBestAgainst [.inl (x4), .inl (x5), .inl (x1), .inl (x2)] σ P) (hdp : dc < z_dep Γ) (k : ∀ r σ1, P r σ1 → z_J Γ zm_Walls_rests 58 [some (.inr (0)), some (.inl (x1)), some (.inl (x2)), some (.inl (x3)), some (.inl (x4)), some (.inl (x5))] [.inl (r)] σ1) : z_J Γ zm_Walls_rests 49 [some (.inr (0)), some (.inl (x1)), some (.inl (x2)), some (.inl (x3)), some (.inl (x4)), some (.inl (x5))] [] σ := by
  refine zj_iload zd_Walls_rests_49 rfl ?_
  refine zj_iload zd_Walls_rests_51 rfl ?_
  refine zj_iload_n zd_Walls_rests_53 rfl ?_
  refine zj_iload_n zd_Walls_rests_54 rfl ?_
  exact zj_callSi (As := [.inl (x4), .inl (x5), .inl (x1), .inl (x2)]) hm hdp zl_Walls_352 zq_Walls_isBestAgainst zd_Walls_rests_55 rfl (Nat.le_of_ble_eq_true rfl) (fun r σ1 h => (k r σ1 h))
theorem zb_Walls_rests_58 {Γ : zG} {σ : zS} {x1 x2 x3 x4 x5 y0 : Int32}  (kt : y0 = 0 → z_J Γ zm_Walls_rests 91 [some (.inr (0)), some (.inl (x1)), some (.inl (x2)), some (.inl (x3)), some (.inl (x4)), some (.inl (x5))] [] σ) (kf : ¬ y0 = 0 → z_J Γ zm_Walls_rests 61 [some (.inr (0)), some (.inl (x1)), some (.inl (x2)), some (.inl (x3)), some (.inl (x4)), some (.inl (x5))] [] σ) : z_J Γ zm_Walls_rests 58 [some (.inr (0)), some (.inl (x1)), some (.inl (x2)), some (.inl (x3)), some (.inl (x4)), some (.inl (x5))] [.inl (y0)] σ := by
  exact zj_if_eq zd_Walls_rests_58 (by decide) (fun h => (kt h)) (fun h => (kf h))
theorem zb_Walls_rests_61 {Γ : zG} {σ : zS} {x1 x2 x3 x4 x5 : Int32} {dc : Nat} {P : Int32 → zS → Prop}  (hm : z_Ci dc zm_Walls_isBestAgainst [.inl (x5), .inl (x4), .inl (x1), .inl (x2)] σ P) (hdp : dc < z_dep Γ) (k : ∀ r σ1, P r σ1 → z_J Γ zm_Walls_rests 70 [some (.inr (0)), some (.inl (x1)), some (.inl (x2)), some (.inl (x3)), some (.inl (x4)), some (.inl (x5))] [.inl (r)] σ1) : z_J Γ zm_Walls_rests 61 [some (.inr (0)), some (.inl (x1)), some (.inl (x2)), some (.inl (x3)), some (.inl (x4)), some (.inl (x5))] [] σ := by
  refine zj_iload zd_Walls_rests_61 rfl ?_
  refine zj_iload zd_Walls_rests_63 rfl ?_
  refine zj_iload_n zd_Walls_rests_65 rfl ?_
  refine zj_iload_n zd_Walls_rests_66 rfl ?_
  exact zj_callSi (As := [.inl (x5), .inl (x4), .inl (x1), .inl (x2)]) hm hdp zl_Walls_352 zq_Walls_isBestAgainst zd_Walls_rests_67 rfl (Nat.le_of_ble_eq_true rfl) (fun r σ1 h => (k r σ1 h))
theorem zb_Walls_rests_70 {Γ : zG} {σ : zS} {x1 x2 x3 x4 x5 y0 : Int32}  (kt : ¬ y0 = 0 → z_J Γ zm_Walls_rests 76 [some (.inr (0)), some (.inl (x1)), some (.inl (x2)), some (.inl (x3)), some (.inl (x4)), some (.inl (x5))] [] σ) (kf : y0 = 0 → z_J Γ zm_Walls_rests 73 [some (.inr (0)), some (.inl (x1)), some (.inl (x2)), some (.inl (x3)), some (.inl (x4)), some (.inl (x5))] [] σ) : z_J Γ zm_Walls_rests 70 [some (.inr (0)), some (.inl (x1)), some (.inl (x2)), some (.inl (x3)), some (.inl (x4)), some (.inl (x5))] [.inl (y0)] σ := by
  exact zj_if_ne zd_Walls_rests_70 (by decide) (fun h => (kt h)) (fun h => (kf h))
theorem zb_Walls_rests_73 {Γ : zG} {σ : zS} {x1 x2 x3 x4 x5 : Int32}  (k : z_J Γ zm_Walls_rests 91 [some (.inr (0)), some (.inl (x1)), some (.inl (x2)), some (.inl (x3)), some (.inl (x4)), some (.inl (x5))] [] σ) : z_J Γ zm_Walls_rests 73 [some (.inr (0)), some (.inl (x1)), some (.inl (x2)), some (.inl (x3)), some (.inl (x4)), some (.inl (x5))] [] σ := by
  exact zj_goto zd_Walls_rests_73 (by decide) k
theorem zb_Walls_rests_76 {Γ : zG} {σ : zS} {x1 x2 x3 x4 x5 : Int32}  (kt : ¬ x3 = 0 → z_J Γ zm_Walls_rests 88 [some (.inr (0)), some (.inl (x1)), some (.inl (x2)), some (.inl (x3)), some (.inl (x4)), some (.inl (x5))] [] σ) (kf : x3 = 0 → z_J Γ zm_Walls_rests 80 [some (.inr (0)), some (.inl (x1)), some (.inl (x2)), some (.inl (x3)), some (.inl (x4)), some (.inl (x5))] [] σ) : z_J Γ zm_Walls_rests 76 [some (.inr (0)), some (.inl (x1)), some (.inl (x2)), some (.inl (x3)), some (.inl (x4)), some (.inl (x5))] [] σ := by
  refine zj_iload_n zd_Walls_rests_76 rfl ?_
  exact zj_if_ne zd_Walls_rests_77 (by decide) (fun h => (kt h)) (fun h => (kf h))
theorem zb_Walls_rests_80 {Γ : zG} {σ : zS} {x1 x2 x3 x4 x5 : Int32} {dc : Nat} {P : zS → Prop}  (hm : z_Cv dc zm_Walls_tellTwo [.inr (0), .inl (x4), .inl (x5)] σ P) (hdp : dc < z_dep Γ) (k : ∀ σ1, P σ1 → z_J Γ zm_Walls_rests 88 [some (.inr (0)), some (.inl (x1)), some (.inl (x2)), some (.inl (x3)), some (.inl (x4)), some (.inl (x5))] [] σ1) : z_J Γ zm_Walls_rests 80 [some (.inr (0)), some (.inl (x1)), some (.inl (x2)), some (.inl (x3)), some (.inl (x4)), some (.inl (x5))] [] σ := by
  refine zj_aload_n zd_Walls_rests_80 rfl ?_
  refine zj_iload zd_Walls_rests_81 rfl ?_
  refine zj_iload zd_Walls_rests_83 rfl ?_
  exact zj_callVv (As := [.inl (x4), .inl (x5)]) hm hdp rfl (by decide) rfl zl_Walls_257 zq_Walls_tellTwo zd_Walls_rests_85 rfl (Nat.le_of_ble_eq_true rfl) (fun σ1 h => (k σ1 h))
theorem zb_Walls_rests_88 {Γ : zG} {σ : zS} {x1 x2 x3 x4 x5 : Int32}  (k : z_J Γ zm_Walls_rests 91 [some (.inr (0)), some (.inl (x1)), some (.inl (x2)), some (.inl (x3 + nI 1)), some (.inl (x4)), some (.inl (x5))] [] σ) : z_J Γ zm_Walls_rests 88 [some (.inr (0)), some (.inl (x1)), some (.inl (x2)), some (.inl (x3)), some (.inl (x4)), some (.inl (x5))] [] σ := by
  refine zj_iinc (v := nI 1) (L' := [some (.inr (0)), some (.inl (x1)), some (.inl (x2)), some (.inl (x3 + nI 1)), some (.inl (x4)), some (.inl (x5))]) zd_Walls_rests_88 rfl (by decide) (by decide) rfl ?_
  exact k
theorem zb_Walls_rests_91 {Γ : zG} {σ : zS} {x1 x2 x3 x4 x5 : Int32}  (k : z_J Γ zm_Walls_rests 42 [some (.inr (0)), some (.inl (x1)), some (.inl (x2)), some (.inl (x3)), some (.inl (x4)), some (.inl (x5 + nI 1))] [] σ) : z_J Γ zm_Walls_rests 91 [some (.inr (0)), some (.inl (x1)), some (.inl (x2)), some (.inl (x3)), some (.inl (x4)), some (.inl (x5))] [] σ := by
  refine zj_iinc (v := nI 1) (L' := [some (.inr (0)), some (.inl (x1)), some (.inl (x2)), some (.inl (x3)), some (.inl (x4)), some (.inl (x5 + nI 1))]) zd_Walls_rests_91 rfl (by decide) (by decide) rfl ?_
  exact zj_goto zd_Walls_rests_94 (by decide) k
theorem zb_Walls_rests_97 {Γ : zG} {σ : zS} {x1 x2 x3 x4 : Int32}  (k : z_J Γ zm_Walls_rests 32 [some (.inr (0)), some (.inl (x1)), some (.inl (x2)), some (.inl (x3)), some (.inl (x4 + nI 1)), none] [] σ) : z_J Γ zm_Walls_rests 97 [some (.inr (0)), some (.inl (x1)), some (.inl (x2)), some (.inl (x3)), some (.inl (x4)), none] [] σ := by
  refine zj_iinc (v := nI 1) (L' := [some (.inr (0)), some (.inl (x1)), some (.inl (x2)), some (.inl (x3)), some (.inl (x4 + nI 1)), none]) zd_Walls_rests_97 rfl (by decide) (by decide) rfl ?_
  exact zj_goto zd_Walls_rests_100 (by decide) k
theorem zb_Walls_rests_103 {Γ : zG} {σ : zS} {x3 : Int32}  (e : z_end Γ (some (x3)) σ) : z_J Γ zm_Walls_rests 103 [none, none, none, some (.inl (x3)), none, none] [] σ := by
  refine zj_iload_n zd_Walls_rests_103 rfl ?_
  exact zj_ireturn rfl zd_Walls_rests_104 e
theorem zd_Walls_isBestAgainst_0 : decode zm_Walls_isBestAgainst.2.1 0 = .ok (.iload_n 0, 1) := by decide +kernel
theorem zd_Walls_isBestAgainst_1 : decode zm_Walls_isBestAgainst.2.1 1 = .ok (.iload_n 1, 1) := by decide +kernel
theorem zd_Walls_isBestAgainst_2 : decode zm_Walls_isBestAgainst.2.1 2 = .ok (.iload_n 2, 1) := by decide +kernel
theorem zd_Walls_isBestAgainst_3 : decode zm_Walls_isBestAgainst.2.1 3 = .ok (.iload_n 3, 1) := by decide +kernel
theorem zd_Walls_isBestAgainst_4 : decode zm_Walls_isBestAgainst.2.1 4 = .ok (.invokestatic 429, 3) := by decide +kernel
theorem zd_Walls_isBestAgainst_7 : decode zm_Walls_isBestAgainst.2.1 7 = .ok (.istore 4, 2) := by decide +kernel
theorem zd_Walls_isBestAgainst_9 : decode zm_Walls_isBestAgainst.2.1 9 = .ok (.iconst 0, 1) := by decide +kernel
theorem zd_Walls_isBestAgainst_10 : decode zm_Walls_isBestAgainst.2.1 10 = .ok (.istore 5, 2) := by decide +kernel
theorem zd_Walls_isBestAgainst_12 : decode zm_Walls_isBestAgainst.2.1 12 = .ok (.iload 5, 2) := by decide +kernel
theorem zd_Walls_isBestAgainst_14 : decode zm_Walls_isBestAgainst.2.1 14 = .ok (.bipush 9, 2) := by decide +kernel
theorem zd_Walls_isBestAgainst_16 : decode zm_Walls_isBestAgainst.2.1 16 = .ok (.if_icmp .gt 24, 3) := by decide +kernel
theorem zd_Walls_isBestAgainst_19 : decode zm_Walls_isBestAgainst.2.1 19 = .ok (.iload 5, 2) := by decide +kernel
theorem zd_Walls_isBestAgainst_21 : decode zm_Walls_isBestAgainst.2.1 21 = .ok (.iload_n 1, 1) := by decide +kernel
theorem zd_Walls_isBestAgainst_22 : decode zm_Walls_isBestAgainst.2.1 22 = .ok (.iload_n 2, 1) := by decide +kernel
theorem zd_Walls_isBestAgainst_23 : decode zm_Walls_isBestAgainst.2.1 23 = .ok (.iload_n 3, 1) := by decide +kernel
theorem zd_Walls_isBestAgainst_24 : decode zm_Walls_isBestAgainst.2.1 24 = .ok (.invokestatic 429, 3) := by decide +kernel
theorem zd_Walls_isBestAgainst_27 : decode zm_Walls_isBestAgainst.2.1 27 = .ok (.iload 4, 2) := by decide +kernel
theorem zd_Walls_isBestAgainst_29 : decode zm_Walls_isBestAgainst.2.1 29 = .ok (.if_icmp .le 5, 3) := by decide +kernel
theorem zd_Walls_isBestAgainst_32 : decode zm_Walls_isBestAgainst.2.1 32 = .ok (.iconst 0, 1) := by decide +kernel
theorem zd_Walls_isBestAgainst_33 : decode zm_Walls_isBestAgainst.2.1 33 = .ok (.ireturn, 1) := by decide +kernel
theorem zd_Walls_isBestAgainst_34 : decode zm_Walls_isBestAgainst.2.1 34 = .ok (.iinc 5 1, 3) := by decide +kernel
theorem zd_Walls_isBestAgainst_37 : decode zm_Walls_isBestAgainst.2.1 37 = .ok (.goto (-25), 3) := by decide +kernel
theorem zd_Walls_isBestAgainst_40 : decode zm_Walls_isBestAgainst.2.1 40 = .ok (.iconst 1, 1) := by decide +kernel
theorem zd_Walls_isBestAgainst_41 : decode zm_Walls_isBestAgainst.2.1 41 = .ok (.ireturn, 1) := by decide +kernel
theorem zb_Walls_isBestAgainst_0 {Γ : zG} {σ : zS} {x0 x1 x2 x3 : Int32} {dc : Nat} {P : Int32 → zS → Prop}  (hm : z_Ci dc zm_Walls_gain [.inl (x0), .inl (x1), .inl (x2), .inl (x3)] σ P) (hdp : dc < z_dep Γ) (k : ∀ r σ1, P r σ1 → z_J Γ zm_Walls_isBestAgainst 7 [none, some (.inl (x1)), some (.inl (x2)), some (.inl (x3)), none, none] [.inl (r)] σ1) : z_J Γ zm_Walls_isBestAgainst 0 [some (.inl (x0)), some (.inl (x1)), some (.inl (x2)), some (.inl (x3)), none, none] [] σ := by
  refine zj_iload_n zd_Walls_isBestAgainst_0 rfl ?_
  refine zj_iload_n zd_Walls_isBestAgainst_1 rfl ?_
  refine zj_iload_n zd_Walls_isBestAgainst_2 rfl ?_
  refine zj_iload_n zd_Walls_isBestAgainst_3 rfl ?_
  exact zj_callSi (As := [.inl (x0), .inl (x1), .inl (x2), .inl (x3)]) hm hdp zl_Walls_429 zq_Walls_gain zd_Walls_isBestAgainst_4 rfl (Nat.le_of_ble_eq_true rfl) (fun r σ1 h => (zj_weak (L' := [none, some (.inl (x1)), some (.inl (x2)), some (.inl (x3)), none, none]) ⟨rfl, ⟨rfl, ⟨rfl, trivial⟩⟩⟩ (k r σ1 h)))
theorem zb_Walls_isBestAgainst_7 {Γ : zG} {σ : zS} {x1 x2 x3 y0 : Int32}  (k : z_J Γ zm_Walls_isBestAgainst 12 [none, some (.inl (x1)), some (.inl (x2)), some (.inl (x3)), some (.inl (y0)), some (.inl (nI 0))] [] σ) : z_J Γ zm_Walls_isBestAgainst 7 [none, some (.inl (x1)), some (.inl (x2)), some (.inl (x3)), none, none] [.inl (y0)] σ := by
  refine zj_istore (L' := [none, some (.inl (x1)), some (.inl (x2)), some (.inl (x3)), some (.inl (y0)), none]) zd_Walls_isBestAgainst_7 (by decide) rfl ?_
  refine zj_iconst (v := nI 0) zd_Walls_isBestAgainst_9 (by decide) ?_
  refine zj_istore (L' := [none, some (.inl (x1)), some (.inl (x2)), some (.inl (x3)), some (.inl (y0)), some (.inl (nI 0))]) zd_Walls_isBestAgainst_10 (by decide) rfl ?_
  exact k
theorem zb_Walls_isBestAgainst_12 {Γ : zG} {σ : zS} {x1 x2 x3 x4 x5 : Int32}  (kt : (nI 9) < x5 → z_J Γ zm_Walls_isBestAgainst 40 [none, none, none, none, none, none] [] σ) (kf : ¬ (nI 9) < x5 → z_J Γ zm_Walls_isBestAgainst 19 [none, some (.inl (x1)), some (.inl (x2)), some (.inl (x3)), some (.inl (x4)), some (.inl (x5))] [] σ) : z_J Γ zm_Walls_isBestAgainst 12 [none, some (.inl (x1)), some (.inl (x2)), some (.inl (x3)), some (.inl (x4)), some (.inl (x5))] [] σ := by
  refine zj_iload zd_Walls_isBestAgainst_12 rfl ?_
  refine zj_bipush (v := nI 9) zd_Walls_isBestAgainst_14 (by decide) ?_
  exact zj_icmp_gt zd_Walls_isBestAgainst_16 (by decide) (fun h => (zj_weak (L' := [none, none, none, none, none, none]) trivial (kt h))) (fun h => (kf h))
theorem zb_Walls_isBestAgainst_19 {Γ : zG} {σ : zS} {x1 x2 x3 x4 x5 : Int32} {dc : Nat} {P : Int32 → zS → Prop}  (hm : z_Ci dc zm_Walls_gain [.inl (x5), .inl (x1), .inl (x2), .inl (x3)] σ P) (hdp : dc < z_dep Γ) (k : ∀ r σ1, P r σ1 → z_J Γ zm_Walls_isBestAgainst 27 [none, some (.inl (x1)), some (.inl (x2)), some (.inl (x3)), some (.inl (x4)), some (.inl (x5))] [.inl (r)] σ1) : z_J Γ zm_Walls_isBestAgainst 19 [none, some (.inl (x1)), some (.inl (x2)), some (.inl (x3)), some (.inl (x4)), some (.inl (x5))] [] σ := by
  refine zj_iload zd_Walls_isBestAgainst_19 rfl ?_
  refine zj_iload_n zd_Walls_isBestAgainst_21 rfl ?_
  refine zj_iload_n zd_Walls_isBestAgainst_22 rfl ?_
  refine zj_iload_n zd_Walls_isBestAgainst_23 rfl ?_
  exact zj_callSi (As := [.inl (x5), .inl (x1), .inl (x2), .inl (x3)]) hm hdp zl_Walls_429 zq_Walls_gain zd_Walls_isBestAgainst_24 rfl (Nat.le_of_ble_eq_true rfl) (fun r σ1 h => (k r σ1 h))
theorem zb_Walls_isBestAgainst_27 {Γ : zG} {σ : zS} {x1 x2 x3 x4 x5 y0 : Int32}  (kt : y0 ≤ x4 → z_J Γ zm_Walls_isBestAgainst 34 [none, some (.inl (x1)), some (.inl (x2)), some (.inl (x3)), some (.inl (x4)), some (.inl (x5))] [] σ) (kf : ¬ y0 ≤ x4 → z_J Γ zm_Walls_isBestAgainst 32 [none, none, none, none, none, none] [] σ) : z_J Γ zm_Walls_isBestAgainst 27 [none, some (.inl (x1)), some (.inl (x2)), some (.inl (x3)), some (.inl (x4)), some (.inl (x5))] [.inl (y0)] σ := by
  refine zj_iload zd_Walls_isBestAgainst_27 rfl ?_
  exact zj_icmp_le zd_Walls_isBestAgainst_29 (by decide) (fun h => (kt h)) (fun h => (zj_weak (L' := [none, none, none, none, none, none]) trivial (kf h)))
theorem zb_Walls_isBestAgainst_32 {Γ : zG} {σ : zS}  (e : z_end Γ (some (nI 0)) σ) : z_J Γ zm_Walls_isBestAgainst 32 [none, none, none, none, none, none] [] σ := by
  refine zj_iconst (v := nI 0) zd_Walls_isBestAgainst_32 (by decide) ?_
  exact zj_zreturn rfl (Or.inl (by decide)) zd_Walls_isBestAgainst_33 e
theorem zb_Walls_isBestAgainst_34 {Γ : zG} {σ : zS} {x1 x2 x3 x4 x5 : Int32}  (k : z_J Γ zm_Walls_isBestAgainst 12 [none, some (.inl (x1)), some (.inl (x2)), some (.inl (x3)), some (.inl (x4)), some (.inl (x5 + nI 1))] [] σ) : z_J Γ zm_Walls_isBestAgainst 34 [none, some (.inl (x1)), some (.inl (x2)), some (.inl (x3)), some (.inl (x4)), some (.inl (x5))] [] σ := by
  refine zj_iinc (v := nI 1) (L' := [none, some (.inl (x1)), some (.inl (x2)), some (.inl (x3)), some (.inl (x4)), some (.inl (x5 + nI 1))]) zd_Walls_isBestAgainst_34 rfl (by decide) (by decide) rfl ?_
  exact zj_goto zd_Walls_isBestAgainst_37 (by decide) k
theorem zb_Walls_isBestAgainst_40 {Γ : zG} {σ : zS}  (e : z_end Γ (some (nI 1)) σ) : z_J Γ zm_Walls_isBestAgainst 40 [none, none, none, none, none, none] [] σ := by
  refine zj_iconst (v := nI 1) zd_Walls_isBestAgainst_40 (by decide) ?_
  exact zj_zreturn rfl (Or.inr (by decide)) zd_Walls_isBestAgainst_41 e
theorem zd_Walls_gain_0 : decode zm_Walls_gain.2.1 0 = .ok (.iload_n 0, 1) := by decide +kernel
theorem zd_Walls_gain_1 : decode zm_Walls_gain.2.1 1 = .ok (.iload_n 1, 1) := by decide +kernel
theorem zd_Walls_gain_2 : decode zm_Walls_gain.2.1 2 = .ok (.if_icmp .le 7, 3) := by decide +kernel
theorem zd_Walls_gain_5 : decode zm_Walls_gain.2.1 5 = .ok (.iload_n 2, 1) := by decide +kernel
theorem zd_Walls_gain_6 : decode zm_Walls_gain.2.1 6 = .ok (.goto 15, 3) := by decide +kernel
theorem zd_Walls_gain_9 : decode zm_Walls_gain.2.1 9 = .ok (.iload_n 0, 1) := by decide +kernel
theorem zd_Walls_gain_10 : decode zm_Walls_gain.2.1 10 = .ok (.iload_n 1, 1) := by decide +kernel
theorem zd_Walls_gain_11 : decode zm_Walls_gain.2.1 11 = .ok (.if_icmp .ne 9, 3) := by decide +kernel
theorem zd_Walls_gain_14 : decode zm_Walls_gain.2.1 14 = .ok (.iload_n 2, 1) := by decide +kernel
theorem zd_Walls_gain_15 : decode zm_Walls_gain.2.1 15 = .ok (.iconst 2, 1) := by decide +kernel
theorem zd_Walls_gain_16 : decode zm_Walls_gain.2.1 16 = .ok (.idiv, 1) := by decide +kernel
theorem zd_Walls_gain_17 : decode zm_Walls_gain.2.1 17 = .ok (.goto 4, 3) := by decide +kernel
theorem zd_Walls_gain_20 : decode zm_Walls_gain.2.1 20 = .ok (.iconst 0, 1) := by decide +kernel
theorem zd_Walls_gain_21 : decode zm_Walls_gain.2.1 21 = .ok (.istore 4, 2) := by decide +kernel
theorem zd_Walls_gain_23 : decode zm_Walls_gain.2.1 23 = .ok (.iload 4, 2) := by decide +kernel
theorem zd_Walls_gain_25 : decode zm_Walls_gain.2.1 25 = .ok (.iload_n 3, 1) := by decide +kernel
theorem zd_Walls_gain_26 : decode zm_Walls_gain.2.1 26 = .ok (.iload_n 0, 1) := by decide +kernel
theorem zd_Walls_gain_27 : decode zm_Walls_gain.2.1 27 = .ok (.imul, 1) := by decide +kernel
theorem zd_Walls_gain_28 : decode zm_Walls_gain.2.1 28 = .ok (.isub, 1) := by decide +kernel
theorem zd_Walls_gain_29 : decode zm_Walls_gain.2.1 29 = .ok (.ireturn, 1) := by decide +kernel
theorem zb_Walls_gain_0 {Γ : zG} {σ : zS} {x0 x1 x2 x3 : Int32}  (kt : x0 ≤ x1 → z_J Γ zm_Walls_gain 9 [some (.inl (x0)), some (.inl (x1)), some (.inl (x2)), some (.inl (x3)), none] [] σ) (kf : ¬ x0 ≤ x1 → z_J Γ zm_Walls_gain 5 [some (.inl (x0)), none, some (.inl (x2)), some (.inl (x3)), none] [] σ) : z_J Γ zm_Walls_gain 0 [some (.inl (x0)), some (.inl (x1)), some (.inl (x2)), some (.inl (x3)), none] [] σ := by
  refine zj_iload_n zd_Walls_gain_0 rfl ?_
  refine zj_iload_n zd_Walls_gain_1 rfl ?_
  exact zj_icmp_le zd_Walls_gain_2 (by decide) (fun h => (kt h)) (fun h => (zj_weak (L' := [some (.inl (x0)), none, some (.inl (x2)), some (.inl (x3)), none]) ⟨rfl, ⟨rfl, ⟨rfl, trivial⟩⟩⟩ (kf h)))
theorem zb_Walls_gain_5 {Γ : zG} {σ : zS} {x0 x2 x3 : Int32}  (k : z_J Γ zm_Walls_gain 21 [some (.inl (x0)), none, none, some (.inl (x3)), none] [.inl (x2)] σ) : z_J Γ zm_Walls_gain 5 [some (.inl (x0)), none, some (.inl (x2)), some (.inl (x3)), none] [] σ := by
  refine zj_iload_n zd_Walls_gain_5 rfl ?_
  exact zj_goto zd_Walls_gain_6 (by decide) (zj_weak (L' := [some (.inl (x0)), none, none, some (.inl (x3)), none]) ⟨rfl, ⟨rfl, trivial⟩⟩ k)
theorem zb_Walls_gain_9 {Γ : zG} {σ : zS} {x0 x1 x2 x3 : Int32}  (kt : ¬ x0 = x1 → z_J Γ zm_Walls_gain 20 [some (.inl (x0)), none, none, some (.inl (x3)), none] [] σ) (kf : x0 = x1 → z_J Γ zm_Walls_gain 14 [some (.inl (x0)), none, some (.inl (x2)), some (.inl (x3)), none] [] σ) : z_J Γ zm_Walls_gain 9 [some (.inl (x0)), some (.inl (x1)), some (.inl (x2)), some (.inl (x3)), none] [] σ := by
  refine zj_iload_n zd_Walls_gain_9 rfl ?_
  refine zj_iload_n zd_Walls_gain_10 rfl ?_
  exact zj_icmp_ne zd_Walls_gain_11 (by decide) (fun h => (zj_weak (L' := [some (.inl (x0)), none, none, some (.inl (x3)), none]) ⟨rfl, ⟨rfl, trivial⟩⟩ (kt h))) (fun h => (zj_weak (L' := [some (.inl (x0)), none, some (.inl (x2)), some (.inl (x3)), none]) ⟨rfl, ⟨rfl, ⟨rfl, trivial⟩⟩⟩ (kf h)))
theorem zb_Walls_gain_14 {Γ : zG} {σ : zS} {x0 x2 x3 : Int32}  (k : z_J Γ zm_Walls_gain 21 [some (.inl (x0)), none, none, some (.inl (x3)), none] [.inl (x2 / (nI 2))] σ) : z_J Γ zm_Walls_gain 14 [some (.inl (x0)), none, some (.inl (x2)), some (.inl (x3)), none] [] σ := by
  refine zj_iload_n zd_Walls_gain_14 rfl ?_
  refine zj_iconst (v := nI 2) zd_Walls_gain_15 (by decide) ?_
  refine zj_idiv zd_Walls_gain_16 (by decide) ?_
  exact zj_goto zd_Walls_gain_17 (by decide) (zj_weak (L' := [some (.inl (x0)), none, none, some (.inl (x3)), none]) ⟨rfl, ⟨rfl, trivial⟩⟩ k)
theorem zb_Walls_gain_20 {Γ : zG} {σ : zS} {x0 x3 : Int32}  (k : z_J Γ zm_Walls_gain 21 [some (.inl (x0)), none, none, some (.inl (x3)), none] [.inl (nI 0)] σ) : z_J Γ zm_Walls_gain 20 [some (.inl (x0)), none, none, some (.inl (x3)), none] [] σ := by
  refine zj_iconst (v := nI 0) zd_Walls_gain_20 (by decide) ?_
  exact k
theorem zb_Walls_gain_21 {Γ : zG} {σ : zS} {x0 x3 y0 : Int32}  (e : z_end Γ (some (y0 - (x3 * x0))) σ) : z_J Γ zm_Walls_gain 21 [some (.inl (x0)), none, none, some (.inl (x3)), none] [.inl (y0)] σ := by
  refine zj_istore (L' := [some (.inl (x0)), none, none, some (.inl (x3)), some (.inl (y0))]) zd_Walls_gain_21 (by decide) rfl ?_
  refine zj_iload zd_Walls_gain_23 rfl ?_
  refine zj_iload_n zd_Walls_gain_25 rfl ?_
  refine zj_iload_n zd_Walls_gain_26 rfl ?_
  refine zj_imul zd_Walls_gain_27 ?_
  refine zj_isub zd_Walls_gain_28 ?_
  exact zj_ireturn rfl zd_Walls_gain_29 e
theorem zd_Walls_years_0 : decode zm_Walls_years.2.1 0 = .ok (.aload_n 0, 1) := by decide +kernel
theorem zd_Walls_years_1 : decode zm_Walls_years.2.1 1 = .ok (.getfield 20, 3) := by decide +kernel
theorem zd_Walls_years_4 : decode zm_Walls_years.2.1 4 = .ok (.getfield 210, 3) := by decide +kernel
theorem zd_Walls_years_7 : decode zm_Walls_years.2.1 7 = .ok (.ifCond .ne 6, 3) := by decide +kernel
theorem zd_Walls_years_10 : decode zm_Walls_years.2.1 10 = .ok (.bipush (-2), 2) := by decide +kernel
theorem zd_Walls_years_12 : decode zm_Walls_years.2.1 12 = .ok (.ireturn, 1) := by decide +kernel
theorem zd_Walls_years_13 : decode zm_Walls_years.2.1 13 = .ok (.iload_n 2, 1) := by decide +kernel
theorem zd_Walls_years_14 : decode zm_Walls_years.2.1 14 = .ok (.iconst 1, 1) := by decide +kernel
theorem zd_Walls_years_15 : decode zm_Walls_years.2.1 15 = .ok (.if_icmp .lt 9, 3) := by decide +kernel
theorem zd_Walls_years_18 : decode zm_Walls_years.2.1 18 = .ok (.iload_n 2, 1) := by decide +kernel
theorem zd_Walls_years_19 : decode zm_Walls_years.2.1 19 = .ok (.bipush 60, 2) := by decide +kernel
theorem zd_Walls_years_21 : decode zm_Walls_years.2.1 21 = .ok (.if_icmp .le 5, 3) := by decide +kernel
theorem zd_Walls_years_24 : decode zm_Walls_years.2.1 24 = .ok (.iconst (-1), 1) := by decide +kernel
theorem zd_Walls_years_25 : decode zm_Walls_years.2.1 25 = .ok (.ireturn, 1) := by decide +kernel
theorem zd_Walls_years_26 : decode zm_Walls_years.2.1 26 = .ok (.aload_n 0, 1) := by decide +kernel
theorem zd_Walls_years_27 : decode zm_Walls_years.2.1 27 = .ok (.getfield 24, 3) := by decide +kernel
theorem zd_Walls_years_30 : decode zm_Walls_years.2.1 30 = .ok (.aload_n 0, 1) := by decide +kernel
theorem zd_Walls_years_31 : decode zm_Walls_years.2.1 31 = .ok (.getfield 20, 3) := by decide +kernel
theorem zd_Walls_years_34 : decode zm_Walls_years.2.1 34 = .ok (.invokevirtual 103, 3) := by decide +kernel
theorem zd_Walls_years_37 : decode zm_Walls_years.2.1 37 = .ok (.iload_n 1, 1) := by decide +kernel
theorem zd_Walls_years_38 : decode zm_Walls_years.2.1 38 = .ok (.istore_n 3, 1) := by decide +kernel
theorem zd_Walls_years_39 : decode zm_Walls_years.2.1 39 = .ok (.iconst 0, 1) := by decide +kernel
theorem zd_Walls_years_40 : decode zm_Walls_years.2.1 40 = .ok (.istore 4, 2) := by decide +kernel
theorem zd_Walls_years_42 : decode zm_Walls_years.2.1 42 = .ok (.iconst 0, 1) := by decide +kernel
theorem zd_Walls_years_43 : decode zm_Walls_years.2.1 43 = .ok (.istore 5, 2) := by decide +kernel
theorem zd_Walls_years_45 : decode zm_Walls_years.2.1 45 = .ok (.bipush 99, 2) := by decide +kernel
theorem zd_Walls_years_47 : decode zm_Walls_years.2.1 47 = .ok (.istore 6, 2) := by decide +kernel
theorem zd_Walls_years_49 : decode zm_Walls_years.2.1 49 = .ok (.iconst 0, 1) := by decide +kernel
theorem zd_Walls_years_50 : decode zm_Walls_years.2.1 50 = .ok (.istore 7, 2) := by decide +kernel
theorem zd_Walls_years_52 : decode zm_Walls_years.2.1 52 = .ok (.iload 7, 2) := by decide +kernel
theorem zd_Walls_years_54 : decode zm_Walls_years.2.1 54 = .ok (.iload_n 2, 1) := by decide +kernel
theorem zd_Walls_years_55 : decode zm_Walls_years.2.1 55 = .ok (.if_icmp .ge 113, 3) := by decide +kernel
theorem zd_Walls_years_58 : decode zm_Walls_years.2.1 58 = .ok (.iload_n 3, 1) := by decide +kernel
theorem zd_Walls_years_59 : decode zm_Walls_years.2.1 59 = .ok (.invokestatic 356, 3) := by decide +kernel
theorem zd_Walls_years_62 : decode zm_Walls_years.2.1 62 = .ok (.istore_n 3, 1) := by decide +kernel
theorem zd_Walls_years_63 : decode zm_Walls_years.2.1 63 = .ok (.aload_n 0, 1) := by decide +kernel
theorem zd_Walls_years_64 : decode zm_Walls_years.2.1 64 = .ok (.getfield 24, 3) := by decide +kernel
theorem zd_Walls_years_67 : decode zm_Walls_years.2.1 67 = .ok (.iload_n 3, 1) := by decide +kernel
theorem zd_Walls_years_68 : decode zm_Walls_years.2.1 68 = .ok (.aload_n 0, 1) := by decide +kernel
theorem zd_Walls_years_69 : decode zm_Walls_years.2.1 69 = .ok (.getfield 24, 3) := by decide +kernel
theorem zd_Walls_years_72 : decode zm_Walls_years.2.1 72 = .ok (.getfield 117, 3) := by decide +kernel
theorem zd_Walls_years_75 : decode zm_Walls_years.2.1 75 = .ok (.invokestatic 359, 3) := by decide +kernel
theorem zd_Walls_years_78 : decode zm_Walls_years.2.1 78 = .ok (.iconst 1, 1) := by decide +kernel
theorem zd_Walls_years_79 : decode zm_Walls_years.2.1 79 = .ok (.invokevirtual 236, 3) := by decide +kernel
theorem zd_Walls_years_82 : decode zm_Walls_years.2.1 82 = .ok (.ifCond .lt 6, 3) := by decide +kernel
theorem zd_Walls_years_85 : decode zm_Walls_years.2.1 85 = .ok (.iinc 5 1, 3) := by decide +kernel
theorem zd_Walls_years_88 : decode zm_Walls_years.2.1 88 = .ok (.iload_n 3, 1) := by decide +kernel
theorem zd_Walls_years_89 : decode zm_Walls_years.2.1 89 = .ok (.invokestatic 356, 3) := by decide +kernel
theorem zd_Walls_years_92 : decode zm_Walls_years.2.1 92 = .ok (.istore_n 3, 1) := by decide +kernel
theorem zd_Walls_years_93 : decode zm_Walls_years.2.1 93 = .ok (.iload_n 3, 1) := by decide +kernel
theorem zd_Walls_years_94 : decode zm_Walls_years.2.1 94 = .ok (.aload_n 0, 1) := by decide +kernel
theorem zd_Walls_years_95 : decode zm_Walls_years.2.1 95 = .ok (.getfield 24, 3) := by decide +kernel
theorem zd_Walls_years_98 : decode zm_Walls_years.2.1 98 = .ok (.getfield 210, 3) := by decide +kernel
theorem zd_Walls_years_101 : decode zm_Walls_years.2.1 101 = .ok (.invokestatic 359, 3) := by decide +kernel
theorem zd_Walls_years_104 : decode zm_Walls_years.2.1 104 = .ok (.istore 8, 2) := by decide +kernel
theorem zd_Walls_years_106 : decode zm_Walls_years.2.1 106 = .ok (.iload_n 3, 1) := by decide +kernel
theorem zd_Walls_years_107 : decode zm_Walls_years.2.1 107 = .ok (.invokestatic 356, 3) := by decide +kernel
theorem zd_Walls_years_110 : decode zm_Walls_years.2.1 110 = .ok (.istore_n 3, 1) := by decide +kernel
theorem zd_Walls_years_111 : decode zm_Walls_years.2.1 111 = .ok (.aload_n 0, 1) := by decide +kernel
theorem zd_Walls_years_112 : decode zm_Walls_years.2.1 112 = .ok (.getfield 24, 3) := by decide +kernel
theorem zd_Walls_years_115 : decode zm_Walls_years.2.1 115 = .ok (.iload 8, 2) := by decide +kernel
theorem zd_Walls_years_117 : decode zm_Walls_years.2.1 117 = .ok (.iload_n 3, 1) := by decide +kernel
theorem zd_Walls_years_118 : decode zm_Walls_years.2.1 118 = .ok (.aload_n 0, 1) := by decide +kernel
theorem zd_Walls_years_119 : decode zm_Walls_years.2.1 119 = .ok (.getfield 24, 3) := by decide +kernel
theorem zd_Walls_years_122 : decode zm_Walls_years.2.1 122 = .ok (.getfield 117, 3) := by decide +kernel
theorem zd_Walls_years_125 : decode zm_Walls_years.2.1 125 = .ok (.invokestatic 359, 3) := by decide +kernel
theorem zd_Walls_years_128 : decode zm_Walls_years.2.1 128 = .ok (.aload_n 0, 1) := by decide +kernel
theorem zd_Walls_years_129 : decode zm_Walls_years.2.1 129 = .ok (.getfield 30, 3) := by decide +kernel
theorem zd_Walls_years_132 : decode zm_Walls_years.2.1 132 = .ok (.invokevirtual 224, 3) := by decide +kernel
theorem zd_Walls_years_135 : decode zm_Walls_years.2.1 135 = .ok (.ifCond .lt 6, 3) := by decide +kernel
theorem zd_Walls_years_138 : decode zm_Walls_years.2.1 138 = .ok (.iinc 4 1, 3) := by decide +kernel
theorem zd_Walls_years_141 : decode zm_Walls_years.2.1 141 = .ok (.aload_n 0, 1) := by decide +kernel
theorem zd_Walls_years_142 : decode zm_Walls_years.2.1 142 = .ok (.getfield 24, 3) := by decide +kernel
theorem zd_Walls_years_145 : decode zm_Walls_years.2.1 145 = .ok (.invokevirtual 362, 3) := by decide +kernel
theorem zd_Walls_years_148 : decode zm_Walls_years.2.1 148 = .ok (.iload 6, 2) := by decide +kernel
theorem zd_Walls_years_150 : decode zm_Walls_years.2.1 150 = .ok (.aload_n 0, 1) := by decide +kernel
theorem zd_Walls_years_151 : decode zm_Walls_years.2.1 151 = .ok (.getfield 24, 3) := by decide +kernel
theorem zd_Walls_years_154 : decode zm_Walls_years.2.1 154 = .ok (.invokevirtual 287, 3) := by decide +kernel
theorem zd_Walls_years_157 : decode zm_Walls_years.2.1 157 = .ok (.invokestatic 341, 3) := by decide +kernel
theorem zd_Walls_years_160 : decode zm_Walls_years.2.1 160 = .ok (.istore 6, 2) := by decide +kernel
theorem zd_Walls_years_162 : decode zm_Walls_years.2.1 162 = .ok (.iinc 7 1, 3) := by decide +kernel
theorem zd_Walls_years_165 : decode zm_Walls_years.2.1 165 = .ok (.goto (-113), 3) := by decide +kernel
theorem zd_Walls_years_168 : decode zm_Walls_years.2.1 168 = .ok (.aload_n 0, 1) := by decide +kernel
theorem zd_Walls_years_169 : decode zm_Walls_years.2.1 169 = .ok (.iload 5, 2) := by decide +kernel
theorem zd_Walls_years_171 : decode zm_Walls_years.2.1 171 = .ok (.iload 6, 2) := by decide +kernel
theorem zd_Walls_years_173 : decode zm_Walls_years.2.1 173 = .ok (.invokevirtual 257, 3) := by decide +kernel
theorem zd_Walls_years_176 : decode zm_Walls_years.2.1 176 = .ok (.iload 4, 2) := by decide +kernel
theorem zd_Walls_years_178 : decode zm_Walls_years.2.1 178 = .ok (.ireturn, 1) := by decide +kernel
theorem zb_Walls_years_0 {Γ : zG} {σ : zS} {x1 x2 : Int32}  (kt : ¬ (σ.1 33 0) = 0 → z_J Γ zm_Walls_years 13 [some (.inr (0)), some (.inl (x1)), some (.inl (x2)), none, none, none, none, none, none] [] σ) (kf : (σ.1 33 0) = 0 → z_J Γ zm_Walls_years 10 [none, none, none, none, none, none, none, none, none] [] σ) : z_J Γ zm_Walls_years 0 [some (.inr (0)), some (.inl (x1)), some (.inl (x2)), none, none, none, none, none, none] [] σ := by
  refine zj_aload_n zd_Walls_years_0 rfl ?_
  refine zj_getR rfl (by decide) rfl zu_Walls (k := 4) (by decide) rfl zl_Walls_20 zd_Walls_years_1 (o' := 33) rfl ?_
  refine zj_getI rfl (by decide) rfl zu_City (k := 0) (by decide) rfl zl_Walls_210 zd_Walls_years_4 ?_
  exact zj_if_ne zd_Walls_years_7 (by decide) (fun h => (kt h)) (fun h => (zj_weak (L' := [none, none, none, none, none, none, none, none, none]) trivial (kf h)))
theorem zb_Walls_years_10 {Γ : zG} {σ : zS}  (e : z_end Γ (some ((-2))) σ) : z_J Γ zm_Walls_years 10 [none, none, none, none, none, none, none, none, none] [] σ := by
  refine zj_bipush (v := (-2)) zd_Walls_years_10 (by decide) ?_
  exact zj_ireturn rfl zd_Walls_years_12 e
theorem zb_Walls_years_13 {Γ : zG} {σ : zS} {x1 x2 : Int32}  (kt : x2 < (nI 1) → z_J Γ zm_Walls_years 24 [none, none, none, none, none, none, none, none, none] [] σ) (kf : ¬ x2 < (nI 1) → z_J Γ zm_Walls_years 18 [some (.inr (0)), some (.inl (x1)), some (.inl (x2)), none, none, none, none, none, none] [] σ) : z_J Γ zm_Walls_years 13 [some (.inr (0)), some (.inl (x1)), some (.inl (x2)), none, none, none, none, none, none] [] σ := by
  refine zj_iload_n zd_Walls_years_13 rfl ?_
  refine zj_iconst (v := nI 1) zd_Walls_years_14 (by decide) ?_
  exact zj_icmp_lt zd_Walls_years_15 (by decide) (fun h => (zj_weak (L' := [none, none, none, none, none, none, none, none, none]) trivial (kt h))) (fun h => (kf h))
theorem zb_Walls_years_18 {Γ : zG} {σ : zS} {x1 x2 : Int32}  (kt : x2 ≤ (nI 60) → z_J Γ zm_Walls_years 26 [some (.inr (0)), some (.inl (x1)), some (.inl (x2)), none, none, none, none, none, none] [] σ) (kf : ¬ x2 ≤ (nI 60) → z_J Γ zm_Walls_years 24 [none, none, none, none, none, none, none, none, none] [] σ) : z_J Γ zm_Walls_years 18 [some (.inr (0)), some (.inl (x1)), some (.inl (x2)), none, none, none, none, none, none] [] σ := by
  refine zj_iload_n zd_Walls_years_18 rfl ?_
  refine zj_bipush (v := nI 60) zd_Walls_years_19 (by decide) ?_
  exact zj_icmp_le zd_Walls_years_21 (by decide) (fun h => (kt h)) (fun h => (zj_weak (L' := [none, none, none, none, none, none, none, none, none]) trivial (kf h)))
theorem zb_Walls_years_24 {Γ : zG} {σ : zS}  (e : z_end Γ (some ((-1))) σ) : z_J Γ zm_Walls_years 24 [none, none, none, none, none, none, none, none, none] [] σ := by
  refine zj_iconst (v := (-1)) zd_Walls_years_24 (by decide) ?_
  exact zj_ireturn rfl zd_Walls_years_25 e
theorem zb_Walls_years_26 {Γ : zG} {σ : zS} {x1 x2 : Int32} {dc : Nat} {P : zS → Prop}  (hm : z_Cv dc zm_City_copyFrom [.inr (43), .inr (33)] σ P) (hdp : dc < z_dep Γ) (k : ∀ σ1, P σ1 → z_J Γ zm_Walls_years 37 [some (.inr (0)), some (.inl (x1)), some (.inl (x2)), none, none, none, none, none, none] [] σ1) : z_J Γ zm_Walls_years 26 [some (.inr (0)), some (.inl (x1)), some (.inl (x2)), none, none, none, none, none, none] [] σ := by
  refine zj_aload_n zd_Walls_years_26 rfl ?_
  refine zj_getR rfl (by decide) rfl zu_Walls (k := 5) (by decide) rfl zl_Walls_24 zd_Walls_years_27 (o' := 43) rfl ?_
  refine zj_aload_n zd_Walls_years_30 rfl ?_
  refine zj_getR rfl (by decide) rfl zu_Walls (k := 4) (by decide) rfl zl_Walls_20 zd_Walls_years_31 (o' := 33) rfl ?_
  exact zj_callVv (As := [.inr (33)]) hm hdp rfl (by decide) rfl zl_Walls_103 zq_City_copyFrom zd_Walls_years_34 rfl (Nat.le_of_ble_eq_true rfl) (fun σ1 h => (k σ1 h))
theorem zb_Walls_years_37 {Γ : zG} {σ : zS} {x1 x2 : Int32}  (k : z_J Γ zm_Walls_years 52 [some (.inr (0)), none, some (.inl (x2)), some (.inl (x1)), some (.inl (nI 0)), some (.inl (nI 0)), some (.inl (nI 99)), some (.inl (nI 0)), none] [] σ) : z_J Γ zm_Walls_years 37 [some (.inr (0)), some (.inl (x1)), some (.inl (x2)), none, none, none, none, none, none] [] σ := by
  refine zj_iload_n zd_Walls_years_37 rfl ?_
  refine zj_istore_n (L' := [some (.inr (0)), some (.inl (x1)), some (.inl (x2)), some (.inl (x1)), none, none, none, none, none]) zd_Walls_years_38 (by decide) rfl ?_
  refine zj_iconst (v := nI 0) zd_Walls_years_39 (by decide) ?_
  refine zj_istore (L' := [some (.inr (0)), some (.inl (x1)), some (.inl (x2)), some (.inl (x1)), some (.inl (nI 0)), none, none, none, none]) zd_Walls_years_40 (by decide) rfl ?_
  refine zj_iconst (v := nI 0) zd_Walls_years_42 (by decide) ?_
  refine zj_istore (L' := [some (.inr (0)), some (.inl (x1)), some (.inl (x2)), some (.inl (x1)), some (.inl (nI 0)), some (.inl (nI 0)), none, none, none]) zd_Walls_years_43 (by decide) rfl ?_
  refine zj_bipush (v := nI 99) zd_Walls_years_45 (by decide) ?_
  refine zj_istore (L' := [some (.inr (0)), some (.inl (x1)), some (.inl (x2)), some (.inl (x1)), some (.inl (nI 0)), some (.inl (nI 0)), some (.inl (nI 99)), none, none]) zd_Walls_years_47 (by decide) rfl ?_
  refine zj_iconst (v := nI 0) zd_Walls_years_49 (by decide) ?_
  refine zj_istore (L' := [some (.inr (0)), some (.inl (x1)), some (.inl (x2)), some (.inl (x1)), some (.inl (nI 0)), some (.inl (nI 0)), some (.inl (nI 99)), some (.inl (nI 0)), none]) zd_Walls_years_50 (by decide) rfl ?_
  exact (zj_weak (L' := [some (.inr (0)), none, some (.inl (x2)), some (.inl (x1)), some (.inl (nI 0)), some (.inl (nI 0)), some (.inl (nI 99)), some (.inl (nI 0)), none]) ⟨rfl, ⟨rfl, ⟨rfl, ⟨rfl, ⟨rfl, ⟨rfl, ⟨rfl, trivial⟩⟩⟩⟩⟩⟩⟩ k)
theorem zb_Walls_years_52 {Γ : zG} {σ : zS} {x2 x3 x4 x5 x6 x7 : Int32}  (kt : x2 ≤ x7 → z_J Γ zm_Walls_years 168 [some (.inr (0)), none, none, none, some (.inl (x4)), some (.inl (x5)), some (.inl (x6)), none, none] [] σ) (kf : ¬ x2 ≤ x7 → z_J Γ zm_Walls_years 58 [some (.inr (0)), none, some (.inl (x2)), some (.inl (x3)), some (.inl (x4)), some (.inl (x5)), some (.inl (x6)), some (.inl (x7)), none] [] σ) : z_J Γ zm_Walls_years 52 [some (.inr (0)), none, some (.inl (x2)), some (.inl (x3)), some (.inl (x4)), some (.inl (x5)), some (.inl (x6)), some (.inl (x7)), none] [] σ := by
  refine zj_iload zd_Walls_years_52 rfl ?_
  refine zj_iload_n zd_Walls_years_54 rfl ?_
  exact zj_icmp_ge zd_Walls_years_55 (by decide) (fun h => (zj_weak (L' := [some (.inr (0)), none, none, none, some (.inl (x4)), some (.inl (x5)), some (.inl (x6)), none, none]) ⟨rfl, ⟨rfl, ⟨rfl, ⟨rfl, trivial⟩⟩⟩⟩ (kt h))) (fun h => (kf h))
theorem zb_Walls_years_58 {Γ : zG} {σ : zS} {x2 x3 x4 x5 x6 x7 : Int32} {dc : Nat} {P : Int32 → zS → Prop}  (hm : z_Ci dc zm_Walls_nextDraw [.inl (x3)] σ P) (hdp : dc < z_dep Γ) (k : ∀ r σ1, P r σ1 → z_J Γ zm_Walls_years 62 [some (.inr (0)), none, some (.inl (x2)), none, some (.inl (x4)), some (.inl (x5)), some (.inl (x6)), some (.inl (x7)), none] [.inl (r)] σ1) : z_J Γ zm_Walls_years 58 [some (.inr (0)), none, some (.inl (x2)), some (.inl (x3)), some (.inl (x4)), some (.inl (x5)), some (.inl (x6)), some (.inl (x7)), none] [] σ := by
  refine zj_iload_n zd_Walls_years_58 rfl ?_
  exact zj_callSi (As := [.inl (x3)]) hm hdp zl_Walls_356 zq_Walls_nextDraw zd_Walls_years_59 rfl (Nat.le_of_ble_eq_true rfl) (fun r σ1 h => (zj_weak (L' := [some (.inr (0)), none, some (.inl (x2)), none, some (.inl (x4)), some (.inl (x5)), some (.inl (x6)), some (.inl (x7)), none]) ⟨rfl, ⟨rfl, ⟨rfl, ⟨rfl, ⟨rfl, ⟨rfl, trivial⟩⟩⟩⟩⟩⟩ (k r σ1 h)))
theorem zb_Walls_years_62 {Γ : zG} {σ : zS} {x2 x4 x5 x6 x7 y0 : Int32} {dc : Nat} {P : Int32 → zS → Prop}  (hm : z_Ci dc zm_Walls_drawn [.inl (y0), .inl (σ.1 43 6)] σ P) (hdp : dc < z_dep Γ) (k : ∀ r σ1, P r σ1 → z_J Γ zm_Walls_years 78 [some (.inr (0)), none, some (.inl (x2)), some (.inl (y0)), some (.inl (x4)), some (.inl (x5)), some (.inl (x6)), some (.inl (x7)), none] [.inl (r), .inr (43)] σ1) : z_J Γ zm_Walls_years 62 [some (.inr (0)), none, some (.inl (x2)), none, some (.inl (x4)), some (.inl (x5)), some (.inl (x6)), some (.inl (x7)), none] [.inl (y0)] σ := by
  refine zj_istore_n (L' := [some (.inr (0)), none, some (.inl (x2)), some (.inl (y0)), some (.inl (x4)), some (.inl (x5)), some (.inl (x6)), some (.inl (x7)), none]) zd_Walls_years_62 (by decide) rfl ?_
  refine zj_aload_n zd_Walls_years_63 rfl ?_
  refine zj_getR rfl (by decide) rfl zu_Walls (k := 5) (by decide) rfl zl_Walls_24 zd_Walls_years_64 (o' := 43) rfl ?_
  refine zj_iload_n zd_Walls_years_67 rfl ?_
  refine zj_aload_n zd_Walls_years_68 rfl ?_
  refine zj_getR rfl (by decide) rfl zu_Walls (k := 5) (by decide) rfl zl_Walls_24 zd_Walls_years_69 (o' := 43) rfl ?_
  refine zj_getI rfl (by decide) rfl zu_City (k := 6) (by decide) rfl zl_Walls_117 zd_Walls_years_72 ?_
  exact zj_callSi (As := [.inl (y0), .inl (σ.1 43 6)]) hm hdp zl_Walls_359 zq_Walls_drawn zd_Walls_years_75 rfl (Nat.le_of_ble_eq_true rfl) (fun r σ1 h => (k r σ1 h))
theorem zb_Walls_years_78 {Γ : zG} {σ : zS} {x2 x3 x4 x5 x6 x7 y0 : Int32} {dc : Nat} {P : Int32 → zS → Prop}  (hm : z_Ci dc zm_City_shoot [.inr (43), .inl (y0), .inl (nI 1)] σ P) (hdp : dc < z_dep Γ) (k : ∀ r σ1, P r σ1 → z_J Γ zm_Walls_years 82 [some (.inr (0)), none, some (.inl (x2)), some (.inl (x3)), some (.inl (x4)), some (.inl (x5)), some (.inl (x6)), some (.inl (x7)), none] [.inl (r)] σ1) : z_J Γ zm_Walls_years 78 [some (.inr (0)), none, some (.inl (x2)), some (.inl (x3)), some (.inl (x4)), some (.inl (x5)), some (.inl (x6)), some (.inl (x7)), none] [.inl (y0), .inr (43)] σ := by
  refine zj_iconst (v := nI 1) zd_Walls_years_78 (by decide) ?_
  exact zj_callVi (As := [.inl (y0), .inl (nI 1)]) hm hdp rfl (by decide) rfl zl_Walls_236 zq_City_shoot zd_Walls_years_79 rfl (Nat.le_of_ble_eq_true rfl) (fun r σ1 h => (k r σ1 h))
theorem zb_Walls_years_82 {Γ : zG} {σ : zS} {x2 x3 x4 x5 x6 x7 y0 : Int32}  (kt : y0 < 0 → z_J Γ zm_Walls_years 88 [some (.inr (0)), none, some (.inl (x2)), some (.inl (x3)), some (.inl (x4)), some (.inl (x5)), some (.inl (x6)), some (.inl (x7)), none] [] σ) (kf : ¬ y0 < 0 → z_J Γ zm_Walls_years 85 [some (.inr (0)), none, some (.inl (x2)), some (.inl (x3)), some (.inl (x4)), some (.inl (x5)), some (.inl (x6)), some (.inl (x7)), none] [] σ) : z_J Γ zm_Walls_years 82 [some (.inr (0)), none, some (.inl (x2)), some (.inl (x3)), some (.inl (x4)), some (.inl (x5)), some (.inl (x6)), some (.inl (x7)), none] [.inl (y0)] σ := by
  exact zj_if_lt zd_Walls_years_82 (by decide) (fun h => (kt h)) (fun h => (kf h))
theorem zb_Walls_years_85 {Γ : zG} {σ : zS} {x2 x3 x4 x5 x6 x7 : Int32}  (k : z_J Γ zm_Walls_years 88 [some (.inr (0)), none, some (.inl (x2)), some (.inl (x3)), some (.inl (x4)), some (.inl (x5 + nI 1)), some (.inl (x6)), some (.inl (x7)), none] [] σ) : z_J Γ zm_Walls_years 85 [some (.inr (0)), none, some (.inl (x2)), some (.inl (x3)), some (.inl (x4)), some (.inl (x5)), some (.inl (x6)), some (.inl (x7)), none] [] σ := by
  refine zj_iinc (v := nI 1) (L' := [some (.inr (0)), none, some (.inl (x2)), some (.inl (x3)), some (.inl (x4)), some (.inl (x5 + nI 1)), some (.inl (x6)), some (.inl (x7)), none]) zd_Walls_years_85 rfl (by decide) (by decide) rfl ?_
  exact k
theorem zb_Walls_years_88 {Γ : zG} {σ : zS} {x2 x3 x4 x5 x6 x7 : Int32} {dc : Nat} {P : Int32 → zS → Prop}  (hm : z_Ci dc zm_Walls_nextDraw [.inl (x3)] σ P) (hdp : dc < z_dep Γ) (k : ∀ r σ1, P r σ1 → z_J Γ zm_Walls_years 92 [some (.inr (0)), none, some (.inl (x2)), none, some (.inl (x4)), some (.inl (x5)), some (.inl (x6)), some (.inl (x7)), none] [.inl (r)] σ1) : z_J Γ zm_Walls_years 88 [some (.inr (0)), none, some (.inl (x2)), some (.inl (x3)), some (.inl (x4)), some (.inl (x5)), some (.inl (x6)), some (.inl (x7)), none] [] σ := by
  refine zj_iload_n zd_Walls_years_88 rfl ?_
  exact zj_callSi (As := [.inl (x3)]) hm hdp zl_Walls_356 zq_Walls_nextDraw zd_Walls_years_89 rfl (Nat.le_of_ble_eq_true rfl) (fun r σ1 h => (zj_weak (L' := [some (.inr (0)), none, some (.inl (x2)), none, some (.inl (x4)), some (.inl (x5)), some (.inl (x6)), some (.inl (x7)), none]) ⟨rfl, ⟨rfl, ⟨rfl, ⟨rfl, ⟨rfl, ⟨rfl, trivial⟩⟩⟩⟩⟩⟩ (k r σ1 h)))
theorem zb_Walls_years_92 {Γ : zG} {σ : zS} {x2 x4 x5 x6 x7 y0 : Int32} {dc : Nat} {P : Int32 → zS → Prop}  (hm : z_Ci dc zm_Walls_drawn [.inl (y0), .inl (σ.1 43 0)] σ P) (hdp : dc < z_dep Γ) (k : ∀ r σ1, P r σ1 → z_J Γ zm_Walls_years 104 [some (.inr (0)), none, some (.inl (x2)), some (.inl (y0)), some (.inl (x4)), some (.inl (x5)), some (.inl (x6)), some (.inl (x7)), none] [.inl (r)] σ1) : z_J Γ zm_Walls_years 92 [some (.inr (0)), none, some (.inl (x2)), none, some (.inl (x4)), some (.inl (x5)), some (.inl (x6)), some (.inl (x7)), none] [.inl (y0)] σ := by
  refine zj_istore_n (L' := [some (.inr (0)), none, some (.inl (x2)), some (.inl (y0)), some (.inl (x4)), some (.inl (x5)), some (.inl (x6)), some (.inl (x7)), none]) zd_Walls_years_92 (by decide) rfl ?_
  refine zj_iload_n zd_Walls_years_93 rfl ?_
  refine zj_aload_n zd_Walls_years_94 rfl ?_
  refine zj_getR rfl (by decide) rfl zu_Walls (k := 5) (by decide) rfl zl_Walls_24 zd_Walls_years_95 (o' := 43) rfl ?_
  refine zj_getI rfl (by decide) rfl zu_City (k := 0) (by decide) rfl zl_Walls_210 zd_Walls_years_98 ?_
  exact zj_callSi (As := [.inl (y0), .inl (σ.1 43 0)]) hm hdp zl_Walls_359 zq_Walls_drawn zd_Walls_years_101 rfl (Nat.le_of_ble_eq_true rfl) (fun r σ1 h => (k r σ1 h))
theorem zb_Walls_years_104 {Γ : zG} {σ : zS} {x2 x3 x4 x5 x6 x7 y0 : Int32} {dc : Nat} {P : Int32 → zS → Prop}  (hm : z_Ci dc zm_Walls_nextDraw [.inl (x3)] σ P) (hdp : dc < z_dep Γ) (k : ∀ r σ1, P r σ1 → z_J Γ zm_Walls_years 110 [some (.inr (0)), none, some (.inl (x2)), none, some (.inl (x4)), some (.inl (x5)), some (.inl (x6)), some (.inl (x7)), some (.inl (y0))] [.inl (r)] σ1) : z_J Γ zm_Walls_years 104 [some (.inr (0)), none, some (.inl (x2)), some (.inl (x3)), some (.inl (x4)), some (.inl (x5)), some (.inl (x6)), some (.inl (x7)), none] [.inl (y0)] σ := by
  refine zj_istore (L' := [some (.inr (0)), none, some (.inl (x2)), some (.inl (x3)), some (.inl (x4)), some (.inl (x5)), some (.inl (x6)), some (.inl (x7)), some (.inl (y0))]) zd_Walls_years_104 (by decide) rfl ?_
  refine zj_iload_n zd_Walls_years_106 rfl ?_
  exact zj_callSi (As := [.inl (x3)]) hm hdp zl_Walls_356 zq_Walls_nextDraw zd_Walls_years_107 rfl (Nat.le_of_ble_eq_true rfl) (fun r σ1 h => (zj_weak (L' := [some (.inr (0)), none, some (.inl (x2)), none, some (.inl (x4)), some (.inl (x5)), some (.inl (x6)), some (.inl (x7)), some (.inl (y0))]) ⟨rfl, ⟨rfl, ⟨rfl, ⟨rfl, ⟨rfl, ⟨rfl, ⟨rfl, trivial⟩⟩⟩⟩⟩⟩⟩ (k r σ1 h)))
theorem zb_Walls_years_110 {Γ : zG} {σ : zS} {x2 x4 x5 x6 x7 x8 y0 : Int32} {dc : Nat} {P : Int32 → zS → Prop}  (hm : z_Ci dc zm_Walls_drawn [.inl (y0), .inl (σ.1 43 6)] σ P) (hdp : dc < z_dep Γ) (k : ∀ r σ1, P r σ1 → z_J Γ zm_Walls_years 128 [some (.inr (0)), none, some (.inl (x2)), some (.inl (y0)), some (.inl (x4)), some (.inl (x5)), some (.inl (x6)), some (.inl (x7)), none] [.inl (r), .inl (x8), .inr (43)] σ1) : z_J Γ zm_Walls_years 110 [some (.inr (0)), none, some (.inl (x2)), none, some (.inl (x4)), some (.inl (x5)), some (.inl (x6)), some (.inl (x7)), some (.inl (x8))] [.inl (y0)] σ := by
  refine zj_istore_n (L' := [some (.inr (0)), none, some (.inl (x2)), some (.inl (y0)), some (.inl (x4)), some (.inl (x5)), some (.inl (x6)), some (.inl (x7)), some (.inl (x8))]) zd_Walls_years_110 (by decide) rfl ?_
  refine zj_aload_n zd_Walls_years_111 rfl ?_
  refine zj_getR rfl (by decide) rfl zu_Walls (k := 5) (by decide) rfl zl_Walls_24 zd_Walls_years_112 (o' := 43) rfl ?_
  refine zj_iload zd_Walls_years_115 rfl ?_
  refine zj_iload_n zd_Walls_years_117 rfl ?_
  refine zj_aload_n zd_Walls_years_118 rfl ?_
  refine zj_getR rfl (by decide) rfl zu_Walls (k := 5) (by decide) rfl zl_Walls_24 zd_Walls_years_119 (o' := 43) rfl ?_
  refine zj_getI rfl (by decide) rfl zu_City (k := 6) (by decide) rfl zl_Walls_117 zd_Walls_years_122 ?_
  exact zj_callSi (As := [.inl (y0), .inl (σ.1 43 6)]) hm hdp zl_Walls_359 zq_Walls_drawn zd_Walls_years_125 rfl (Nat.le_of_ble_eq_true rfl) (fun r σ1 h => (zj_weak (L' := [some (.inr (0)), none, some (.inl (x2)), some (.inl (y0)), some (.inl (x4)), some (.inl (x5)), some (.inl (x6)), some (.inl (x7)), none]) ⟨rfl, ⟨rfl, ⟨rfl, ⟨rfl, ⟨rfl, ⟨rfl, ⟨rfl, trivial⟩⟩⟩⟩⟩⟩⟩ (k r σ1 h)))
theorem zb_Walls_years_128 {Γ : zG} {σ : zS} {x2 x3 x4 x5 x6 x7 y0 y1 : Int32} {dc : Nat} {P : Int32 → zS → Prop}  (m1 : z_oR (σ.2 0 6)) (hm : z_Ci dc zm_City_layOn [.inr (43), .inl (y1), .inl (y0), .inr (σ.2 0 6)] σ P) (hdp : dc < z_dep Γ) (k : ∀ r σ1, P r σ1 → z_J Γ zm_Walls_years 135 [some (.inr (0)), none, some (.inl (x2)), some (.inl (x3)), some (.inl (x4)), some (.inl (x5)), some (.inl (x6)), some (.inl (x7)), none] [.inl (r)] σ1) : z_J Γ zm_Walls_years 128 [some (.inr (0)), none, some (.inl (x2)), some (.inl (x3)), some (.inl (x4)), some (.inl (x5)), some (.inl (x6)), some (.inl (x7)), none] [.inl (y0), .inl (y1), .inr (43)] σ := by
  refine zj_aload_n zd_Walls_years_128 rfl ?_
  refine zj_getM rfl (by decide) rfl zu_Walls (k := 6) (by decide) rfl zl_Walls_30 zd_Walls_years_129 (zk_Rl m1) ?_
  exact zj_callVi (As := [.inl (y1), .inl (y0), .inr (σ.2 0 6)]) hm hdp rfl (by decide) rfl zl_Walls_224 zq_City_layOn zd_Walls_years_132 rfl (Nat.le_of_ble_eq_true rfl) (fun r σ1 h => (k r σ1 h))
theorem zb_Walls_years_135 {Γ : zG} {σ : zS} {x2 x3 x4 x5 x6 x7 y0 : Int32}  (kt : y0 < 0 → z_J Γ zm_Walls_years 141 [some (.inr (0)), none, some (.inl (x2)), some (.inl (x3)), some (.inl (x4)), some (.inl (x5)), some (.inl (x6)), some (.inl (x7)), none] [] σ) (kf : ¬ y0 < 0 → z_J Γ zm_Walls_years 138 [some (.inr (0)), none, some (.inl (x2)), some (.inl (x3)), some (.inl (x4)), some (.inl (x5)), some (.inl (x6)), some (.inl (x7)), none] [] σ) : z_J Γ zm_Walls_years 135 [some (.inr (0)), none, some (.inl (x2)), some (.inl (x3)), some (.inl (x4)), some (.inl (x5)), some (.inl (x6)), some (.inl (x7)), none] [.inl (y0)] σ := by
  exact zj_if_lt zd_Walls_years_135 (by decide) (fun h => (kt h)) (fun h => (kf h))
theorem zb_Walls_years_138 {Γ : zG} {σ : zS} {x2 x3 x4 x5 x6 x7 : Int32}  (k : z_J Γ zm_Walls_years 141 [some (.inr (0)), none, some (.inl (x2)), some (.inl (x3)), some (.inl (x4 + nI 1)), some (.inl (x5)), some (.inl (x6)), some (.inl (x7)), none] [] σ) : z_J Γ zm_Walls_years 138 [some (.inr (0)), none, some (.inl (x2)), some (.inl (x3)), some (.inl (x4)), some (.inl (x5)), some (.inl (x6)), some (.inl (x7)), none] [] σ := by
  refine zj_iinc (v := nI 1) (L' := [some (.inr (0)), none, some (.inl (x2)), some (.inl (x3)), some (.inl (x4 + nI 1)), some (.inl (x5)), some (.inl (x6)), some (.inl (x7)), none]) zd_Walls_years_138 rfl (by decide) (by decide) rfl ?_
  exact k
theorem zb_Walls_years_141 {Γ : zG} {σ : zS} {x2 x3 x4 x5 x6 x7 : Int32} {dc : Nat} {P : zS → Prop}  (hm : z_Cv dc zm_City_passDay [.inr (43)] σ P) (hdp : dc < z_dep Γ) (k : ∀ σ1, P σ1 → z_J Γ zm_Walls_years 148 [some (.inr (0)), none, some (.inl (x2)), some (.inl (x3)), some (.inl (x4)), some (.inl (x5)), some (.inl (x6)), some (.inl (x7)), none] [] σ1) : z_J Γ zm_Walls_years 141 [some (.inr (0)), none, some (.inl (x2)), some (.inl (x3)), some (.inl (x4)), some (.inl (x5)), some (.inl (x6)), some (.inl (x7)), none] [] σ := by
  refine zj_aload_n zd_Walls_years_141 rfl ?_
  refine zj_getR rfl (by decide) rfl zu_Walls (k := 5) (by decide) rfl zl_Walls_24 zd_Walls_years_142 (o' := 43) rfl ?_
  exact zj_callVv (As := []) hm hdp rfl (by decide) rfl zl_Walls_362 zq_City_passDay zd_Walls_years_145 rfl (Nat.le_of_ble_eq_true rfl) (fun σ1 h => (k σ1 h))
theorem zb_Walls_years_148 {Γ : zG} {σ : zS} {x2 x3 x4 x5 x6 x7 : Int32} {dc : Nat} {P : Int32 → zS → Prop}  (hm : z_Ci dc zm_City_leastHeight [.inr (43)] σ P) (hdp : dc < z_dep Γ) (k : ∀ r σ1, P r σ1 → z_J Γ zm_Walls_years 157 [some (.inr (0)), none, some (.inl (x2)), some (.inl (x3)), some (.inl (x4)), some (.inl (x5)), none, some (.inl (x7)), none] [.inl (r), .inl (x6)] σ1) : z_J Γ zm_Walls_years 148 [some (.inr (0)), none, some (.inl (x2)), some (.inl (x3)), some (.inl (x4)), some (.inl (x5)), some (.inl (x6)), some (.inl (x7)), none] [] σ := by
  refine zj_iload zd_Walls_years_148 rfl ?_
  refine zj_aload_n zd_Walls_years_150 rfl ?_
  refine zj_getR rfl (by decide) rfl zu_Walls (k := 5) (by decide) rfl zl_Walls_24 zd_Walls_years_151 (o' := 43) rfl ?_
  exact zj_callVi (As := []) hm hdp rfl (by decide) rfl zl_Walls_287 zq_City_leastHeight zd_Walls_years_154 rfl (Nat.le_of_ble_eq_true rfl) (fun r σ1 h => (zj_weak (L' := [some (.inr (0)), none, some (.inl (x2)), some (.inl (x3)), some (.inl (x4)), some (.inl (x5)), none, some (.inl (x7)), none]) ⟨rfl, ⟨rfl, ⟨rfl, ⟨rfl, ⟨rfl, ⟨rfl, trivial⟩⟩⟩⟩⟩⟩ (k r σ1 h)))
theorem zb_Walls_years_157 {Γ : zG} {σ : zS} {x2 x3 x4 x5 x7 y0 y1 : Int32} (hdp : 0 < z_dep Γ) (k : z_J Γ zm_Walls_years 52 [some (.inr (0)), none, some (.inl (x2)), some (.inl (x3)), some (.inl (x4)), some (.inl (x5)), some (.inl (z_min y1 y0)), some (.inl (x7 + nI 1)), none] [] σ) : z_J Γ zm_Walls_years 157 [some (.inr (0)), none, some (.inl (x2)), some (.inl (x3)), some (.inl (x4)), some (.inl (x5)), none, some (.inl (x7)), none] [.inl (y0), .inl (y1)] σ := by
  refine zj_mmin zl_Walls_341 zx_min_s zx_Math zx_min_c hdp (Nat.le_of_ble_eq_true rfl) zd_Walls_years_157 ?_
  refine zj_istore (L' := [some (.inr (0)), none, some (.inl (x2)), some (.inl (x3)), some (.inl (x4)), some (.inl (x5)), some (.inl (z_min y1 y0)), some (.inl (x7)), none]) zd_Walls_years_160 (by decide) rfl ?_
  refine zj_iinc (v := nI 1) (L' := [some (.inr (0)), none, some (.inl (x2)), some (.inl (x3)), some (.inl (x4)), some (.inl (x5)), some (.inl (z_min y1 y0)), some (.inl (x7 + nI 1)), none]) zd_Walls_years_162 rfl (by decide) (by decide) rfl ?_
  exact zj_goto zd_Walls_years_165 (by decide) k
theorem zb_Walls_years_168 {Γ : zG} {σ : zS} {x4 x5 x6 : Int32} {dc : Nat} {P : zS → Prop}  (hm : z_Cv dc zm_Walls_tellTwo [.inr (0), .inl (x5), .inl (x6)] σ P) (hdp : dc < z_dep Γ) (k : ∀ σ1, P σ1 → z_J Γ zm_Walls_years 176 [none, none, none, none, some (.inl (x4)), none, none, none, none] [] σ1) : z_J Γ zm_Walls_years 168 [some (.inr (0)), none, none, none, some (.inl (x4)), some (.inl (x5)), some (.inl (x6)), none, none] [] σ := by
  refine zj_aload_n zd_Walls_years_168 rfl ?_
  refine zj_iload zd_Walls_years_169 rfl ?_
  refine zj_iload zd_Walls_years_171 rfl ?_
  exact zj_callVv (As := [.inl (x5), .inl (x6)]) hm hdp rfl (by decide) rfl zl_Walls_257 zq_Walls_tellTwo zd_Walls_years_173 rfl (Nat.le_of_ble_eq_true rfl) (fun σ1 h => (zj_weak (L' := [none, none, none, none, some (.inl (x4)), none, none, none, none]) ⟨rfl, trivial⟩ (k σ1 h)))
theorem zb_Walls_years_176 {Γ : zG} {σ : zS} {x4 : Int32}  (e : z_end Γ (some (x4)) σ) : z_J Γ zm_Walls_years 176 [none, none, none, none, some (.inl (x4)), none, none, none, none] [] σ := by
  refine zj_iload zd_Walls_years_176 rfl ?_
  exact zj_ireturn rfl zd_Walls_years_178 e
theorem zd_Walls_nextDraw_0 : decode zm_Walls_nextDraw.2.1 0 = .ok (.iload_n 0, 1) := by decide +kernel
theorem zd_Walls_nextDraw_1 : decode zm_Walls_nextDraw.2.1 1 = .ok (.ldc_w 433, 3) := by decide +kernel
theorem zd_Walls_nextDraw_4 : decode zm_Walls_nextDraw.2.1 4 = .ok (.imul, 1) := by decide +kernel
theorem zd_Walls_nextDraw_5 : decode zm_Walls_nextDraw.2.1 5 = .ok (.sipush 12345, 3) := by decide +kernel
theorem zd_Walls_nextDraw_8 : decode zm_Walls_nextDraw.2.1 8 = .ok (.iadd, 1) := by decide +kernel
theorem zd_Walls_nextDraw_9 : decode zm_Walls_nextDraw.2.1 9 = .ok (.ireturn, 1) := by decide +kernel
theorem zb_Walls_nextDraw_0 {Γ : zG} {σ : zS} {x0 : Int32}  (e : z_end Γ (some ((x0 * (1103515245 : Int32)) + (nI 12345))) σ) : z_J Γ zm_Walls_nextDraw 0 [some (.inl (x0))] [] σ := by
  refine zj_iload_n zd_Walls_nextDraw_0 rfl ?_
  refine zj_ldcw (v := 1103515245) zl_Walls_433 zd_Walls_nextDraw_1 ?_
  refine zj_imul zd_Walls_nextDraw_4 ?_
  refine zj_sipush (v := nI 12345) zd_Walls_nextDraw_5 (by decide) ?_
  refine zj_iadd zd_Walls_nextDraw_8 ?_
  exact zj_ireturn rfl zd_Walls_nextDraw_9 e
theorem zd_Walls_drawn_0 : decode zm_Walls_drawn.2.1 0 = .ok (.iload_n 1, 1) := by decide +kernel
theorem zd_Walls_drawn_1 : decode zm_Walls_drawn.2.1 1 = .ok (.ifCond .le 12, 3) := by decide +kernel
theorem zd_Walls_drawn_4 : decode zm_Walls_drawn.2.1 4 = .ok (.iload_n 0, 1) := by decide +kernel
theorem zd_Walls_drawn_5 : decode zm_Walls_drawn.2.1 5 = .ok (.bipush 16, 2) := by decide +kernel
theorem zd_Walls_drawn_7 : decode zm_Walls_drawn.2.1 7 = .ok (.iushr, 1) := by decide +kernel
theorem zd_Walls_drawn_8 : decode zm_Walls_drawn.2.1 8 = .ok (.iload_n 1, 1) := by decide +kernel
theorem zd_Walls_drawn_9 : decode zm_Walls_drawn.2.1 9 = .ok (.irem, 1) := by decide +kernel
theorem zd_Walls_drawn_10 : decode zm_Walls_drawn.2.1 10 = .ok (.goto 4, 3) := by decide +kernel
theorem zd_Walls_drawn_13 : decode zm_Walls_drawn.2.1 13 = .ok (.iconst 0, 1) := by decide +kernel
theorem zd_Walls_drawn_14 : decode zm_Walls_drawn.2.1 14 = .ok (.ireturn, 1) := by decide +kernel
theorem zb_Walls_drawn_0 {Γ : zG} {σ : zS} {x0 x1 : Int32}  (kt : x1 ≤ 0 → z_J Γ zm_Walls_drawn 13 [none, none] [] σ) (kf : ¬ x1 ≤ 0 → z_J Γ zm_Walls_drawn 4 [some (.inl (x0)), some (.inl (x1))] [] σ) : z_J Γ zm_Walls_drawn 0 [some (.inl (x0)), some (.inl (x1))] [] σ := by
  refine zj_iload_n zd_Walls_drawn_0 rfl ?_
  exact zj_if_le zd_Walls_drawn_1 (by decide) (fun h => (zj_weak (L' := [none, none]) trivial (kt h))) (fun h => (kf h))
theorem zb_Walls_drawn_4 {Γ : zG} {σ : zS} {x0 x1 : Int32}  (d1 : ¬ x1 = 0) (k : z_J Γ zm_Walls_drawn 14 [none, none] [.inl ((z_ushr x0 (nI 16)) - (z_ushr x0 (nI 16)) / x1 * x1)] σ) : z_J Γ zm_Walls_drawn 4 [some (.inl (x0)), some (.inl (x1))] [] σ := by
  refine zj_iload_n zd_Walls_drawn_4 rfl ?_
  refine zj_bipush (v := nI 16) zd_Walls_drawn_5 (by decide) ?_
  refine zj_iushr zd_Walls_drawn_7 ?_
  refine zj_iload_n zd_Walls_drawn_8 rfl ?_
  refine zj_irem zd_Walls_drawn_9 d1 ?_
  exact zj_goto zd_Walls_drawn_10 (by decide) (zj_weak (L' := [none, none]) trivial k)
theorem zb_Walls_drawn_13 {Γ : zG} {σ : zS}  (k : z_J Γ zm_Walls_drawn 14 [none, none] [.inl (nI 0)] σ) : z_J Γ zm_Walls_drawn 13 [none, none] [] σ := by
  refine zj_iconst (v := nI 0) zd_Walls_drawn_13 (by decide) ?_
  exact k
theorem zb_Walls_drawn_14 {Γ : zG} {σ : zS} {y0 : Int32}  (e : z_end Γ (some (y0)) σ) : z_J Γ zm_Walls_drawn 14 [none, none] [.inl (y0)] σ := by
  exact zj_ireturn rfl zd_Walls_drawn_14 e
theorem zd_Walls_keep_0 : decode zm_Walls_keep.2.1 0 = .ok (.iload_n 1, 1) := by decide +kernel
theorem zd_Walls_keep_1 : decode zm_Walls_keep.2.1 1 = .ok (.ifCond .lt 8, 3) := by decide +kernel
theorem zd_Walls_keep_4 : decode zm_Walls_keep.2.1 4 = .ok (.iload_n 1, 1) := by decide +kernel
theorem zd_Walls_keep_5 : decode zm_Walls_keep.2.1 5 = .ok (.iconst 2, 1) := by decide +kernel
theorem zd_Walls_keep_6 : decode zm_Walls_keep.2.1 6 = .ok (.if_icmp .lt 5, 3) := by decide +kernel
theorem zd_Walls_keep_9 : decode zm_Walls_keep.2.1 9 = .ok (.iconst 0, 1) := by decide +kernel
theorem zd_Walls_keep_10 : decode zm_Walls_keep.2.1 10 = .ok (.ireturn, 1) := by decide +kernel
theorem zd_Walls_keep_11 : decode zm_Walls_keep.2.1 11 = .ok (.aload_n 0, 1) := by decide +kernel
theorem zd_Walls_keep_12 : decode zm_Walls_keep.2.1 12 = .ok (.getfield 20, 3) := by decide +kernel
theorem zd_Walls_keep_15 : decode zm_Walls_keep.2.1 15 = .ok (.aload_n 0, 1) := by decide +kernel
theorem zd_Walls_keep_16 : decode zm_Walls_keep.2.1 16 = .ok (.getfield 53, 3) := by decide +kernel
theorem zd_Walls_keep_19 : decode zm_Walls_keep.2.1 19 = .ok (.iload_n 1, 1) := by decide +kernel
theorem zd_Walls_keep_20 : decode zm_Walls_keep.2.1 20 = .ok (.aaload, 1) := by decide +kernel
theorem zd_Walls_keep_21 : decode zm_Walls_keep.2.1 21 = .ok (.invokevirtual 365, 3) := by decide +kernel
theorem zd_Walls_keep_24 : decode zm_Walls_keep.2.1 24 = .ok (.aload_n 0, 1) := by decide +kernel
theorem zd_Walls_keep_25 : decode zm_Walls_keep.2.1 25 = .ok (.getfield 56, 3) := by decide +kernel
theorem zd_Walls_keep_28 : decode zm_Walls_keep.2.1 28 = .ok (.iload_n 1, 1) := by decide +kernel
theorem zd_Walls_keep_29 : decode zm_Walls_keep.2.1 29 = .ok (.iconst 1, 1) := by decide +kernel
theorem zd_Walls_keep_30 : decode zm_Walls_keep.2.1 30 = .ok (.bastore, 1) := by decide +kernel
theorem zd_Walls_keep_31 : decode zm_Walls_keep.2.1 31 = .ok (.iconst 1, 1) := by decide +kernel
theorem zd_Walls_keep_32 : decode zm_Walls_keep.2.1 32 = .ok (.ireturn, 1) := by decide +kernel
theorem zb_Walls_keep_0 {Γ : zG} {σ : zS} {x1 : Int32}  (kt : x1 < 0 → z_J Γ zm_Walls_keep 9 [none, none] [] σ) (kf : ¬ x1 < 0 → z_J Γ zm_Walls_keep 4 [some (.inr (0)), some (.inl (x1))] [] σ) : z_J Γ zm_Walls_keep 0 [some (.inr (0)), some (.inl (x1))] [] σ := by
  refine zj_iload_n zd_Walls_keep_0 rfl ?_
  exact zj_if_lt zd_Walls_keep_1 (by decide) (fun h => (zj_weak (L' := [none, none]) trivial (kt h))) (fun h => (kf h))
theorem zb_Walls_keep_4 {Γ : zG} {σ : zS} {x1 : Int32}  (kt : x1 < (nI 2) → z_J Γ zm_Walls_keep 11 [some (.inr (0)), some (.inl (x1))] [] σ) (kf : ¬ x1 < (nI 2) → z_J Γ zm_Walls_keep 9 [none, none] [] σ) : z_J Γ zm_Walls_keep 4 [some (.inr (0)), some (.inl (x1))] [] σ := by
  refine zj_iload_n zd_Walls_keep_4 rfl ?_
  refine zj_iconst (v := nI 2) zd_Walls_keep_5 (by decide) ?_
  exact zj_icmp_lt zd_Walls_keep_6 (by decide) (fun h => (kt h)) (fun h => (zj_weak (L' := [none, none]) trivial (kf h)))
theorem zb_Walls_keep_9 {Γ : zG} {σ : zS}  (e : z_end Γ (some (nI 0)) σ) : z_J Γ zm_Walls_keep 9 [none, none] [] σ := by
  refine zj_iconst (v := nI 0) zd_Walls_keep_9 (by decide) ?_
  exact zj_zreturn rfl (Or.inl (by decide)) zd_Walls_keep_10 e
theorem zb_Walls_keep_11 {Γ : zG} {σ : zS} {x1 : Int32} {k1 : Nat} {dc : Nat} {P : zS → Prop}  (b1 : z_ix x1 2 k1) (hm : z_Cv dc zm_City_writePage [.inr (33), .inr (3 + 1 + k1)] σ P) (hdp : dc < z_dep Γ) (k : ∀ σ1, P σ1 → z_J Γ zm_Walls_keep 24 [some (.inr (0)), some (.inl (x1))] [] σ1) : z_J Γ zm_Walls_keep 11 [some (.inr (0)), some (.inl (x1))] [] σ := by
  refine zj_aload_n zd_Walls_keep_11 rfl ?_
  refine zj_getR rfl (by decide) rfl zu_Walls (k := 4) (by decide) rfl zl_Walls_20 zd_Walls_keep_12 (o' := 33) rfl ?_
  refine zj_aload_n zd_Walls_keep_15 rfl ?_
  refine zj_getR rfl (by decide) rfl zu_Walls (k := 10) (by decide) rfl zl_Walls_53 zd_Walls_keep_16 (o' := 3) rfl ?_
  refine zj_iload_n zd_Walls_keep_19 rfl ?_
  refine zj_aaload rfl (by decide) b1 zd_Walls_keep_20 ?_
  exact zj_callVv (As := [.inr (3 + 1 + k1)]) hm hdp rfl (by decide) rfl zl_Walls_365 zq_City_writePage zd_Walls_keep_21 rfl (Nat.le_of_ble_eq_true rfl) (fun σ1 h => (k σ1 h))
theorem zb_Walls_keep_24 {Γ : zG} {σ : zS} {x1 : Int32} {k1 : Nat}  (b1 : z_ix x1 2 k1) (e : z_end Γ (some (nI 1)) (z_pI σ 6 k1 (vp_nar .boolean (nI 1)))) : z_J Γ zm_Walls_keep 24 [some (.inr (0)), some (.inl (x1))] [] σ := by
  refine zj_aload_n zd_Walls_keep_24 rfl ?_
  refine zj_getR rfl (by decide) rfl zu_Walls (k := 11) (by decide) rfl zl_Walls_56 zd_Walls_keep_25 (o' := 6) rfl ?_
  refine zj_iload_n zd_Walls_keep_28 rfl ?_
  refine zj_iconst (v := nI 1) zd_Walls_keep_29 (by decide) ?_
  refine zj_zastore rfl (by decide) b1 zd_Walls_keep_30 ?_
  refine zj_iconst (v := nI 1) zd_Walls_keep_31 (by decide) ?_
  exact zj_zreturn rfl (Or.inr (by decide)) zd_Walls_keep_32 e
theorem zd_Walls_again_0 : decode zm_Walls_again.2.1 0 = .ok (.iload_n 1, 1) := by decide +kernel
theorem zd_Walls_again_1 : decode zm_Walls_again.2.1 1 = .ok (.ifCond .lt 17, 3) := by decide +kernel
theorem zd_Walls_again_4 : decode zm_Walls_again.2.1 4 = .ok (.iload_n 1, 1) := by decide +kernel
theorem zd_Walls_again_5 : decode zm_Walls_again.2.1 5 = .ok (.iconst 2, 1) := by decide +kernel
theorem zd_Walls_again_6 : decode zm_Walls_again.2.1 6 = .ok (.if_icmp .ge 12, 3) := by decide +kernel
theorem zd_Walls_again_9 : decode zm_Walls_again.2.1 9 = .ok (.aload_n 0, 1) := by decide +kernel
theorem zd_Walls_again_10 : decode zm_Walls_again.2.1 10 = .ok (.getfield 56, 3) := by decide +kernel
theorem zd_Walls_again_13 : decode zm_Walls_again.2.1 13 = .ok (.iload_n 1, 1) := by decide +kernel
theorem zd_Walls_again_14 : decode zm_Walls_again.2.1 14 = .ok (.baload, 1) := by decide +kernel
theorem zd_Walls_again_15 : decode zm_Walls_again.2.1 15 = .ok (.ifCond .ne 5, 3) := by decide +kernel
theorem zd_Walls_again_18 : decode zm_Walls_again.2.1 18 = .ok (.iconst 0, 1) := by decide +kernel
theorem zd_Walls_again_19 : decode zm_Walls_again.2.1 19 = .ok (.ireturn, 1) := by decide +kernel
theorem zd_Walls_again_20 : decode zm_Walls_again.2.1 20 = .ok (.aload_n 0, 1) := by decide +kernel
theorem zd_Walls_again_21 : decode zm_Walls_again.2.1 21 = .ok (.getfield 20, 3) := by decide +kernel
theorem zd_Walls_again_24 : decode zm_Walls_again.2.1 24 = .ok (.aload_n 0, 1) := by decide +kernel
theorem zd_Walls_again_25 : decode zm_Walls_again.2.1 25 = .ok (.getfield 53, 3) := by decide +kernel
theorem zd_Walls_again_28 : decode zm_Walls_again.2.1 28 = .ok (.iload_n 1, 1) := by decide +kernel
theorem zd_Walls_again_29 : decode zm_Walls_again.2.1 29 = .ok (.aaload, 1) := by decide +kernel
theorem zd_Walls_again_30 : decode zm_Walls_again.2.1 30 = .ok (.invokevirtual 369, 3) := by decide +kernel
theorem zd_Walls_again_33 : decode zm_Walls_again.2.1 33 = .ok (.aload_n 0, 1) := by decide +kernel
theorem zd_Walls_again_34 : decode zm_Walls_again.2.1 34 = .ok (.getfield 47, 3) := by decide +kernel
theorem zd_Walls_again_37 : decode zm_Walls_again.2.1 37 = .ok (.invokevirtual 372, 3) := by decide +kernel
theorem zd_Walls_again_40 : decode zm_Walls_again.2.1 40 = .ok (.iconst 1, 1) := by decide +kernel
theorem zd_Walls_again_41 : decode zm_Walls_again.2.1 41 = .ok (.ireturn, 1) := by decide +kernel
theorem zb_Walls_again_0 {Γ : zG} {σ : zS} {x1 : Int32}  (kt : x1 < 0 → z_J Γ zm_Walls_again 18 [none, none] [] σ) (kf : ¬ x1 < 0 → z_J Γ zm_Walls_again 4 [some (.inr (0)), some (.inl (x1))] [] σ) : z_J Γ zm_Walls_again 0 [some (.inr (0)), some (.inl (x1))] [] σ := by
  refine zj_iload_n zd_Walls_again_0 rfl ?_
  exact zj_if_lt zd_Walls_again_1 (by decide) (fun h => (zj_weak (L' := [none, none]) trivial (kt h))) (fun h => (kf h))
theorem zb_Walls_again_4 {Γ : zG} {σ : zS} {x1 : Int32}  (kt : (nI 2) ≤ x1 → z_J Γ zm_Walls_again 18 [none, none] [] σ) (kf : ¬ (nI 2) ≤ x1 → z_J Γ zm_Walls_again 9 [some (.inr (0)), some (.inl (x1))] [] σ) : z_J Γ zm_Walls_again 4 [some (.inr (0)), some (.inl (x1))] [] σ := by
  refine zj_iload_n zd_Walls_again_4 rfl ?_
  refine zj_iconst (v := nI 2) zd_Walls_again_5 (by decide) ?_
  exact zj_icmp_ge zd_Walls_again_6 (by decide) (fun h => (zj_weak (L' := [none, none]) trivial (kt h))) (fun h => (kf h))
theorem zb_Walls_again_9 {Γ : zG} {σ : zS} {x1 : Int32} {k1 : Nat}  (b1 : z_ix x1 2 k1) (kt : ¬ (σ.1 6 k1) = 0 → z_J Γ zm_Walls_again 20 [some (.inr (0)), some (.inl (x1))] [] σ) (kf : (σ.1 6 k1) = 0 → z_J Γ zm_Walls_again 18 [none, none] [] σ) : z_J Γ zm_Walls_again 9 [some (.inr (0)), some (.inl (x1))] [] σ := by
  refine zj_aload_n zd_Walls_again_9 rfl ?_
  refine zj_getR rfl (by decide) rfl zu_Walls (k := 11) (by decide) rfl zl_Walls_56 zd_Walls_again_10 (o' := 6) rfl ?_
  refine zj_iload_n zd_Walls_again_13 rfl ?_
  refine zj_zaload rfl (by decide) b1 zd_Walls_again_14 ?_
  exact zj_if_ne zd_Walls_again_15 (by decide) (fun h => (kt h)) (fun h => (zj_weak (L' := [none, none]) trivial (kf h)))
theorem zb_Walls_again_18 {Γ : zG} {σ : zS}  (e : z_end Γ (some (nI 0)) σ) : z_J Γ zm_Walls_again 18 [none, none] [] σ := by
  refine zj_iconst (v := nI 0) zd_Walls_again_18 (by decide) ?_
  exact zj_zreturn rfl (Or.inl (by decide)) zd_Walls_again_19 e
theorem zb_Walls_again_20 {Γ : zG} {σ : zS} {x1 : Int32} {k1 : Nat} {dc : Nat} {P : zS → Prop}  (b1 : z_ix x1 2 k1) (hm : z_Cv dc zm_City_readPage [.inr (33), .inr (3 + 1 + k1)] σ P) (hdp : dc < z_dep Γ) (k : ∀ σ1, P σ1 → z_J Γ zm_Walls_again 33 [some (.inr (0)), none] [] σ1) : z_J Γ zm_Walls_again 20 [some (.inr (0)), some (.inl (x1))] [] σ := by
  refine zj_aload_n zd_Walls_again_20 rfl ?_
  refine zj_getR rfl (by decide) rfl zu_Walls (k := 4) (by decide) rfl zl_Walls_20 zd_Walls_again_21 (o' := 33) rfl ?_
  refine zj_aload_n zd_Walls_again_24 rfl ?_
  refine zj_getR rfl (by decide) rfl zu_Walls (k := 10) (by decide) rfl zl_Walls_53 zd_Walls_again_25 (o' := 3) rfl ?_
  refine zj_iload_n zd_Walls_again_28 rfl ?_
  refine zj_aaload rfl (by decide) b1 zd_Walls_again_29 ?_
  exact zj_callVv (As := [.inr (3 + 1 + k1)]) hm hdp rfl (by decide) rfl zl_Walls_369 zq_City_readPage zd_Walls_again_30 rfl (Nat.le_of_ble_eq_true rfl) (fun σ1 h => (zj_weak (L' := [some (.inr (0)), none]) ⟨rfl, trivial⟩ (k σ1 h)))
theorem zb_Walls_again_33 {Γ : zG} {σ : zS} {dc : Nat} {P : zS → Prop}  (hm : z_Cv dc zm_History_clear [.inr (11)] σ P) (hdp : dc < z_dep Γ) (k : ∀ σ1, P σ1 → z_J Γ zm_Walls_again 40 [none, none] [] σ1) : z_J Γ zm_Walls_again 33 [some (.inr (0)), none] [] σ := by
  refine zj_aload_n zd_Walls_again_33 rfl ?_
  refine zj_getR rfl (by decide) rfl zu_Walls (k := 9) (by decide) rfl zl_Walls_47 zd_Walls_again_34 (o' := 11) rfl ?_
  exact zj_callVv (As := []) hm hdp rfl (by decide) rfl zl_Walls_372 zq_History_clear zd_Walls_again_37 rfl (Nat.le_of_ble_eq_true rfl) (fun σ1 h => (zj_weak (L' := [none, none]) trivial (k σ1 h)))
theorem zb_Walls_again_40 {Γ : zG} {σ : zS}  (e : z_end Γ (some (nI 1)) σ) : z_J Γ zm_Walls_again 40 [none, none] [] σ := by
  refine zj_iconst (v := nI 1) zd_Walls_again_40 (by decide) ?_
  exact zj_zreturn rfl (Or.inr (by decide)) zd_Walls_again_41 e
theorem zd_Walls_count_0 : decode zm_Walls_count.2.1 0 = .ok (.iload_n 1, 1) := by decide +kernel
theorem zd_Walls_count_1 : decode zm_Walls_count.2.1 1 = .ok (.tableswitch 166 0 12 #[67, 75, 83, 91, 99, 108, 117, 126, 135, 143, 148, 156, 161], 67) := by decide +kernel
theorem zd_Walls_count_68 : decode zm_Walls_count.2.1 68 = .ok (.aload_n 0, 1) := by decide +kernel
theorem zd_Walls_count_69 : decode zm_Walls_count.2.1 69 = .ok (.getfield 20, 3) := by decide +kernel
theorem zd_Walls_count_72 : decode zm_Walls_count.2.1 72 = .ok (.getfield 210, 3) := by decide +kernel
theorem zd_Walls_count_75 : decode zm_Walls_count.2.1 75 = .ok (.ireturn, 1) := by decide +kernel
theorem zd_Walls_count_76 : decode zm_Walls_count.2.1 76 = .ok (.aload_n 0, 1) := by decide +kernel
theorem zd_Walls_count_77 : decode zm_Walls_count.2.1 77 = .ok (.getfield 20, 3) := by decide +kernel
theorem zd_Walls_count_80 : decode zm_Walls_count.2.1 80 = .ok (.getfield 117, 3) := by decide +kernel
theorem zd_Walls_count_83 : decode zm_Walls_count.2.1 83 = .ok (.ireturn, 1) := by decide +kernel
theorem zd_Walls_count_84 : decode zm_Walls_count.2.1 84 = .ok (.aload_n 0, 1) := by decide +kernel
theorem zd_Walls_count_85 : decode zm_Walls_count.2.1 85 = .ok (.getfield 20, 3) := by decide +kernel
theorem zd_Walls_count_88 : decode zm_Walls_count.2.1 88 = .ok (.getfield 375, 3) := by decide +kernel
theorem zd_Walls_count_91 : decode zm_Walls_count.2.1 91 = .ok (.ireturn, 1) := by decide +kernel
theorem zd_Walls_count_92 : decode zm_Walls_count.2.1 92 = .ok (.aload_n 0, 1) := by decide +kernel
theorem zd_Walls_count_93 : decode zm_Walls_count.2.1 93 = .ok (.getfield 20, 3) := by decide +kernel
theorem zd_Walls_count_96 : decode zm_Walls_count.2.1 96 = .ok (.getfield 299, 3) := by decide +kernel
theorem zd_Walls_count_99 : decode zm_Walls_count.2.1 99 = .ok (.ireturn, 1) := by decide +kernel
theorem zd_Walls_count_100 : decode zm_Walls_count.2.1 100 = .ok (.aload_n 0, 1) := by decide +kernel
theorem zd_Walls_count_101 : decode zm_Walls_count.2.1 101 = .ok (.getfield 20, 3) := by decide +kernel
theorem zd_Walls_count_104 : decode zm_Walls_count.2.1 104 = .ok (.iconst 0, 1) := by decide +kernel
theorem zd_Walls_count_105 : decode zm_Walls_count.2.1 105 = .ok (.invokevirtual 270, 3) := by decide +kernel
theorem zd_Walls_count_108 : decode zm_Walls_count.2.1 108 = .ok (.ireturn, 1) := by decide +kernel
theorem zd_Walls_count_109 : decode zm_Walls_count.2.1 109 = .ok (.aload_n 0, 1) := by decide +kernel
theorem zd_Walls_count_110 : decode zm_Walls_count.2.1 110 = .ok (.getfield 20, 3) := by decide +kernel
theorem zd_Walls_count_113 : decode zm_Walls_count.2.1 113 = .ok (.iconst 1, 1) := by decide +kernel
theorem zd_Walls_count_114 : decode zm_Walls_count.2.1 114 = .ok (.invokevirtual 270, 3) := by decide +kernel
theorem zd_Walls_count_117 : decode zm_Walls_count.2.1 117 = .ok (.ireturn, 1) := by decide +kernel
theorem zd_Walls_count_118 : decode zm_Walls_count.2.1 118 = .ok (.aload_n 0, 1) := by decide +kernel
theorem zd_Walls_count_119 : decode zm_Walls_count.2.1 119 = .ok (.getfield 20, 3) := by decide +kernel
theorem zd_Walls_count_122 : decode zm_Walls_count.2.1 122 = .ok (.iconst 2, 1) := by decide +kernel
theorem zd_Walls_count_123 : decode zm_Walls_count.2.1 123 = .ok (.invokevirtual 270, 3) := by decide +kernel
theorem zd_Walls_count_126 : decode zm_Walls_count.2.1 126 = .ok (.ireturn, 1) := by decide +kernel
theorem zd_Walls_count_127 : decode zm_Walls_count.2.1 127 = .ok (.aload_n 0, 1) := by decide +kernel
theorem zd_Walls_count_128 : decode zm_Walls_count.2.1 128 = .ok (.getfield 20, 3) := by decide +kernel
theorem zd_Walls_count_131 : decode zm_Walls_count.2.1 131 = .ok (.iconst 3, 1) := by decide +kernel
theorem zd_Walls_count_132 : decode zm_Walls_count.2.1 132 = .ok (.invokevirtual 270, 3) := by decide +kernel
theorem zd_Walls_count_135 : decode zm_Walls_count.2.1 135 = .ok (.ireturn, 1) := by decide +kernel
theorem zd_Walls_count_136 : decode zm_Walls_count.2.1 136 = .ok (.aload_n 0, 1) := by decide +kernel
theorem zd_Walls_count_137 : decode zm_Walls_count.2.1 137 = .ok (.getfield 20, 3) := by decide +kernel
theorem zd_Walls_count_140 : decode zm_Walls_count.2.1 140 = .ok (.invokevirtual 287, 3) := by decide +kernel
theorem zd_Walls_count_143 : decode zm_Walls_count.2.1 143 = .ok (.ireturn, 1) := by decide +kernel
theorem zd_Walls_count_144 : decode zm_Walls_count.2.1 144 = .ok (.aload_n 0, 1) := by decide +kernel
theorem zd_Walls_count_145 : decode zm_Walls_count.2.1 145 = .ok (.invokevirtual 332, 3) := by decide +kernel
theorem zd_Walls_count_148 : decode zm_Walls_count.2.1 148 = .ok (.ireturn, 1) := by decide +kernel
theorem zd_Walls_count_149 : decode zm_Walls_count.2.1 149 = .ok (.aload_n 0, 1) := by decide +kernel
theorem zd_Walls_count_150 : decode zm_Walls_count.2.1 150 = .ok (.getfield 47, 3) := by decide +kernel
theorem zd_Walls_count_153 : decode zm_Walls_count.2.1 153 = .ok (.getfield 278, 3) := by decide +kernel
theorem zd_Walls_count_156 : decode zm_Walls_count.2.1 156 = .ok (.ireturn, 1) := by decide +kernel
theorem zd_Walls_count_157 : decode zm_Walls_count.2.1 157 = .ok (.aload_n 0, 1) := by decide +kernel
theorem zd_Walls_count_158 : decode zm_Walls_count.2.1 158 = .ok (.getfield 349, 3) := by decide +kernel
theorem zd_Walls_count_161 : decode zm_Walls_count.2.1 161 = .ok (.ireturn, 1) := by decide +kernel
theorem zd_Walls_count_162 : decode zm_Walls_count.2.1 162 = .ok (.aload_n 0, 1) := by decide +kernel
theorem zd_Walls_count_163 : decode zm_Walls_count.2.1 163 = .ok (.getfield 84, 3) := by decide +kernel
theorem zd_Walls_count_166 : decode zm_Walls_count.2.1 166 = .ok (.ireturn, 1) := by decide +kernel
theorem zd_Walls_count_167 : decode zm_Walls_count.2.1 167 = .ok (.iconst (-1), 1) := by decide +kernel
theorem zd_Walls_count_168 : decode zm_Walls_count.2.1 168 = .ok (.ireturn, 1) := by decide +kernel
theorem zb_Walls_count_0 {Γ : zG} {σ : zS} {x1 : Int32}  (kd : x1.toInt < 0 ∨ 12 < x1.toInt → z_J Γ zm_Walls_count 167 [none, none] [] σ) (k0_ : x1 = nI 0 → z_J Γ zm_Walls_count 68 [some (.inr (0)), none] [] σ) (k1_ : x1 = nI 1 → z_J Γ zm_Walls_count 76 [some (.inr (0)), none] [] σ) (k2_ : x1 = nI 2 → z_J Γ zm_Walls_count 84 [some (.inr (0)), none] [] σ) (k3_ : x1 = nI 3 → z_J Γ zm_Walls_count 92 [some (.inr (0)), none] [] σ) (k4_ : x1 = nI 4 → z_J Γ zm_Walls_count 100 [some (.inr (0)), none] [] σ) (k5_ : x1 = nI 5 → z_J Γ zm_Walls_count 109 [some (.inr (0)), none] [] σ) (k6_ : x1 = nI 6 → z_J Γ zm_Walls_count 118 [some (.inr (0)), none] [] σ) (k7_ : x1 = nI 7 → z_J Γ zm_Walls_count 127 [some (.inr (0)), none] [] σ) (k8_ : x1 = nI 8 → z_J Γ zm_Walls_count 136 [some (.inr (0)), none] [] σ) (k9_ : x1 = nI 9 → z_J Γ zm_Walls_count 144 [some (.inr (0)), none] [] σ) (k10_ : x1 = nI 10 → z_J Γ zm_Walls_count 149 [some (.inr (0)), none] [] σ) (k11_ : x1 = nI 11 → z_J Γ zm_Walls_count 157 [some (.inr (0)), none] [] σ) (k12_ : x1 = nI 12 → z_J Γ zm_Walls_count 162 [some (.inr (0)), none] [] σ) : z_J Γ zm_Walls_count 0 [some (.inr (0)), some (.inl (x1))] [] σ := by
  refine zj_iload_n zd_Walls_count_0 rfl ?_
  rcases (show (x1.toInt < 0 ∨ 12 < x1.toInt) ∨ x1.toInt = 0 ∨ x1.toInt = 1 ∨ x1.toInt = 2 ∨ x1.toInt = 3 ∨ x1.toInt = 4 ∨ x1.toInt = 5 ∨ x1.toInt = 6 ∨ x1.toInt = 7 ∨ x1.toInt = 8 ∨ x1.toInt = 9 ∨ x1.toInt = 10 ∨ x1.toInt = 11 ∨ x1.toInt = 12 by omega) with h | h | h | h | h | h | h | h | h | h | h | h | h | h
  · exact zj_tblOut zd_Walls_count_1 h (by decide) (zj_weak (L' := [none, none]) trivial (kd h))
  · exact zj_tblIn zd_Walls_count_1 (by omega) (by omega) (by rw [h]; rfl) (by decide) (zj_weak (L' := [some (.inr (0)), none]) ⟨rfl, trivial⟩ (k0_ (Int32.toInt_inj.mp (by rw [h]; decide))))
  · exact zj_tblIn zd_Walls_count_1 (by omega) (by omega) (by rw [h]; rfl) (by decide) (zj_weak (L' := [some (.inr (0)), none]) ⟨rfl, trivial⟩ (k1_ (Int32.toInt_inj.mp (by rw [h]; decide))))
  · exact zj_tblIn zd_Walls_count_1 (by omega) (by omega) (by rw [h]; rfl) (by decide) (zj_weak (L' := [some (.inr (0)), none]) ⟨rfl, trivial⟩ (k2_ (Int32.toInt_inj.mp (by rw [h]; decide))))
  · exact zj_tblIn zd_Walls_count_1 (by omega) (by omega) (by rw [h]; rfl) (by decide) (zj_weak (L' := [some (.inr (0)), none]) ⟨rfl, trivial⟩ (k3_ (Int32.toInt_inj.mp (by rw [h]; decide))))
  · exact zj_tblIn zd_Walls_count_1 (by omega) (by omega) (by rw [h]; rfl) (by decide) (zj_weak (L' := [some (.inr (0)), none]) ⟨rfl, trivial⟩ (k4_ (Int32.toInt_inj.mp (by rw [h]; decide))))
  · exact zj_tblIn zd_Walls_count_1 (by omega) (by omega) (by rw [h]; rfl) (by decide) (zj_weak (L' := [some (.inr (0)), none]) ⟨rfl, trivial⟩ (k5_ (Int32.toInt_inj.mp (by rw [h]; decide))))
  · exact zj_tblIn zd_Walls_count_1 (by omega) (by omega) (by rw [h]; rfl) (by decide) (zj_weak (L' := [some (.inr (0)), none]) ⟨rfl, trivial⟩ (k6_ (Int32.toInt_inj.mp (by rw [h]; decide))))
  · exact zj_tblIn zd_Walls_count_1 (by omega) (by omega) (by rw [h]; rfl) (by decide) (zj_weak (L' := [some (.inr (0)), none]) ⟨rfl, trivial⟩ (k7_ (Int32.toInt_inj.mp (by rw [h]; decide))))
  · exact zj_tblIn zd_Walls_count_1 (by omega) (by omega) (by rw [h]; rfl) (by decide) (zj_weak (L' := [some (.inr (0)), none]) ⟨rfl, trivial⟩ (k8_ (Int32.toInt_inj.mp (by rw [h]; decide))))
  · exact zj_tblIn zd_Walls_count_1 (by omega) (by omega) (by rw [h]; rfl) (by decide) (zj_weak (L' := [some (.inr (0)), none]) ⟨rfl, trivial⟩ (k9_ (Int32.toInt_inj.mp (by rw [h]; decide))))
  · exact zj_tblIn zd_Walls_count_1 (by omega) (by omega) (by rw [h]; rfl) (by decide) (zj_weak (L' := [some (.inr (0)), none]) ⟨rfl, trivial⟩ (k10_ (Int32.toInt_inj.mp (by rw [h]; decide))))
  · exact zj_tblIn zd_Walls_count_1 (by omega) (by omega) (by rw [h]; rfl) (by decide) (zj_weak (L' := [some (.inr (0)), none]) ⟨rfl, trivial⟩ (k11_ (Int32.toInt_inj.mp (by rw [h]; decide))))
  · exact zj_tblIn zd_Walls_count_1 (by omega) (by omega) (by rw [h]; rfl) (by decide) (zj_weak (L' := [some (.inr (0)), none]) ⟨rfl, trivial⟩ (k12_ (Int32.toInt_inj.mp (by rw [h]; decide))))
theorem zb_Walls_count_68 {Γ : zG} {σ : zS}  (e : z_end Γ (some (σ.1 33 0)) σ) : z_J Γ zm_Walls_count 68 [some (.inr (0)), none] [] σ := by
  refine zj_aload_n zd_Walls_count_68 rfl ?_
  refine zj_getR rfl (by decide) rfl zu_Walls (k := 4) (by decide) rfl zl_Walls_20 zd_Walls_count_69 (o' := 33) rfl ?_
  refine zj_getI rfl (by decide) rfl zu_City (k := 0) (by decide) rfl zl_Walls_210 zd_Walls_count_72 ?_
  exact zj_ireturn rfl zd_Walls_count_75 e
theorem zb_Walls_count_76 {Γ : zG} {σ : zS}  (e : z_end Γ (some (σ.1 33 6)) σ) : z_J Γ zm_Walls_count 76 [some (.inr (0)), none] [] σ := by
  refine zj_aload_n zd_Walls_count_76 rfl ?_
  refine zj_getR rfl (by decide) rfl zu_Walls (k := 4) (by decide) rfl zl_Walls_20 zd_Walls_count_77 (o' := 33) rfl ?_
  refine zj_getI rfl (by decide) rfl zu_City (k := 6) (by decide) rfl zl_Walls_117 zd_Walls_count_80 ?_
  exact zj_ireturn rfl zd_Walls_count_83 e
theorem zb_Walls_count_84 {Γ : zG} {σ : zS}  (e : z_end Γ (some (σ.1 33 9)) σ) : z_J Γ zm_Walls_count 84 [some (.inr (0)), none] [] σ := by
  refine zj_aload_n zd_Walls_count_84 rfl ?_
  refine zj_getR rfl (by decide) rfl zu_Walls (k := 4) (by decide) rfl zl_Walls_20 zd_Walls_count_85 (o' := 33) rfl ?_
  refine zj_getI rfl (by decide) rfl zu_City (k := 9) (by decide) rfl zl_Walls_375 zd_Walls_count_88 ?_
  exact zj_ireturn rfl zd_Walls_count_91 e
theorem zb_Walls_count_92 {Γ : zG} {σ : zS}  (e : z_end Γ (some (σ.1 33 12)) σ) : z_J Γ zm_Walls_count 92 [some (.inr (0)), none] [] σ := by
  refine zj_aload_n zd_Walls_count_92 rfl ?_
  refine zj_getR rfl (by decide) rfl zu_Walls (k := 4) (by decide) rfl zl_Walls_20 zd_Walls_count_93 (o' := 33) rfl ?_
  refine zj_getI rfl (by decide) rfl zu_City (k := 12) (by decide) rfl zl_Walls_299 zd_Walls_count_96 ?_
  exact zj_ireturn rfl zd_Walls_count_99 e
theorem zb_Walls_count_100 {Γ : zG} {σ : zS} {dc : Nat} {P : Int32 → zS → Prop}  (hm : z_Ci dc zm_City_bitsWhere [.inr (33), .inl (nI 0)] σ P) (hdp : dc < z_dep Γ) (k : ∀ r σ1, P r σ1 → z_J Γ zm_Walls_count 108 [none, none] [.inl (r)] σ1) : z_J Γ zm_Walls_count 100 [some (.inr (0)), none] [] σ := by
  refine zj_aload_n zd_Walls_count_100 rfl ?_
  refine zj_getR rfl (by decide) rfl zu_Walls (k := 4) (by decide) rfl zl_Walls_20 zd_Walls_count_101 (o' := 33) rfl ?_
  refine zj_iconst (v := nI 0) zd_Walls_count_104 (by decide) ?_
  exact zj_callVi (As := [.inl (nI 0)]) hm hdp rfl (by decide) rfl zl_Walls_270 zq_City_bitsWhere zd_Walls_count_105 rfl (Nat.le_of_ble_eq_true rfl) (fun r σ1 h => (zj_weak (L' := [none, none]) trivial (k r σ1 h)))
theorem zb_Walls_count_108 {Γ : zG} {σ : zS} {y0 : Int32}  (e : z_end Γ (some (y0)) σ) : z_J Γ zm_Walls_count 108 [none, none] [.inl (y0)] σ := by
  exact zj_ireturn rfl zd_Walls_count_108 e
theorem zb_Walls_count_109 {Γ : zG} {σ : zS} {dc : Nat} {P : Int32 → zS → Prop}  (hm : z_Ci dc zm_City_bitsWhere [.inr (33), .inl (nI 1)] σ P) (hdp : dc < z_dep Γ) (k : ∀ r σ1, P r σ1 → z_J Γ zm_Walls_count 117 [none, none] [.inl (r)] σ1) : z_J Γ zm_Walls_count 109 [some (.inr (0)), none] [] σ := by
  refine zj_aload_n zd_Walls_count_109 rfl ?_
  refine zj_getR rfl (by decide) rfl zu_Walls (k := 4) (by decide) rfl zl_Walls_20 zd_Walls_count_110 (o' := 33) rfl ?_
  refine zj_iconst (v := nI 1) zd_Walls_count_113 (by decide) ?_
  exact zj_callVi (As := [.inl (nI 1)]) hm hdp rfl (by decide) rfl zl_Walls_270 zq_City_bitsWhere zd_Walls_count_114 rfl (Nat.le_of_ble_eq_true rfl) (fun r σ1 h => (zj_weak (L' := [none, none]) trivial (k r σ1 h)))
theorem zb_Walls_count_117 {Γ : zG} {σ : zS} {y0 : Int32}  (e : z_end Γ (some (y0)) σ) : z_J Γ zm_Walls_count 117 [none, none] [.inl (y0)] σ := by
  exact zj_ireturn rfl zd_Walls_count_117 e
theorem zb_Walls_count_118 {Γ : zG} {σ : zS} {dc : Nat} {P : Int32 → zS → Prop}  (hm : z_Ci dc zm_City_bitsWhere [.inr (33), .inl (nI 2)] σ P) (hdp : dc < z_dep Γ) (k : ∀ r σ1, P r σ1 → z_J Γ zm_Walls_count 126 [none, none] [.inl (r)] σ1) : z_J Γ zm_Walls_count 118 [some (.inr (0)), none] [] σ := by
  refine zj_aload_n zd_Walls_count_118 rfl ?_
  refine zj_getR rfl (by decide) rfl zu_Walls (k := 4) (by decide) rfl zl_Walls_20 zd_Walls_count_119 (o' := 33) rfl ?_
  refine zj_iconst (v := nI 2) zd_Walls_count_122 (by decide) ?_
  exact zj_callVi (As := [.inl (nI 2)]) hm hdp rfl (by decide) rfl zl_Walls_270 zq_City_bitsWhere zd_Walls_count_123 rfl (Nat.le_of_ble_eq_true rfl) (fun r σ1 h => (zj_weak (L' := [none, none]) trivial (k r σ1 h)))
theorem zb_Walls_count_126 {Γ : zG} {σ : zS} {y0 : Int32}  (e : z_end Γ (some (y0)) σ) : z_J Γ zm_Walls_count 126 [none, none] [.inl (y0)] σ := by
  exact zj_ireturn rfl zd_Walls_count_126 e
theorem zb_Walls_count_127 {Γ : zG} {σ : zS} {dc : Nat} {P : Int32 → zS → Prop}  (hm : z_Ci dc zm_City_bitsWhere [.inr (33), .inl (nI 3)] σ P) (hdp : dc < z_dep Γ) (k : ∀ r σ1, P r σ1 → z_J Γ zm_Walls_count 135 [none, none] [.inl (r)] σ1) : z_J Γ zm_Walls_count 127 [some (.inr (0)), none] [] σ := by
  refine zj_aload_n zd_Walls_count_127 rfl ?_
  refine zj_getR rfl (by decide) rfl zu_Walls (k := 4) (by decide) rfl zl_Walls_20 zd_Walls_count_128 (o' := 33) rfl ?_
  refine zj_iconst (v := nI 3) zd_Walls_count_131 (by decide) ?_
  exact zj_callVi (As := [.inl (nI 3)]) hm hdp rfl (by decide) rfl zl_Walls_270 zq_City_bitsWhere zd_Walls_count_132 rfl (Nat.le_of_ble_eq_true rfl) (fun r σ1 h => (zj_weak (L' := [none, none]) trivial (k r σ1 h)))
theorem zb_Walls_count_135 {Γ : zG} {σ : zS} {y0 : Int32}  (e : z_end Γ (some (y0)) σ) : z_J Γ zm_Walls_count 135 [none, none] [.inl (y0)] σ := by
  exact zj_ireturn rfl zd_Walls_count_135 e
theorem zb_Walls_count_136 {Γ : zG} {σ : zS} {dc : Nat} {P : Int32 → zS → Prop}  (hm : z_Ci dc zm_City_leastHeight [.inr (33)] σ P) (hdp : dc < z_dep Γ) (k : ∀ r σ1, P r σ1 → z_J Γ zm_Walls_count 143 [none, none] [.inl (r)] σ1) : z_J Γ zm_Walls_count 136 [some (.inr (0)), none] [] σ := by
  refine zj_aload_n zd_Walls_count_136 rfl ?_
  refine zj_getR rfl (by decide) rfl zu_Walls (k := 4) (by decide) rfl zl_Walls_20 zd_Walls_count_137 (o' := 33) rfl ?_
  exact zj_callVi (As := []) hm hdp rfl (by decide) rfl zl_Walls_287 zq_City_leastHeight zd_Walls_count_140 rfl (Nat.le_of_ble_eq_true rfl) (fun r σ1 h => (zj_weak (L' := [none, none]) trivial (k r σ1 h)))
theorem zb_Walls_count_143 {Γ : zG} {σ : zS} {y0 : Int32}  (e : z_end Γ (some (y0)) σ) : z_J Γ zm_Walls_count 143 [none, none] [.inl (y0)] σ := by
  exact zj_ireturn rfl zd_Walls_count_143 e
theorem zb_Walls_count_144 {Γ : zG} {σ : zS} {dc : Nat} {P : Int32 → zS → Prop}  (hm : z_Ci dc zm_Walls_seenBits [.inr (0)] σ P) (hdp : dc < z_dep Γ) (k : ∀ r σ1, P r σ1 → z_J Γ zm_Walls_count 148 [none, none] [.inl (r)] σ1) : z_J Γ zm_Walls_count 144 [some (.inr (0)), none] [] σ := by
  refine zj_aload_n zd_Walls_count_144 rfl ?_
  exact zj_callVi (As := []) hm hdp rfl (by decide) rfl zl_Walls_332 zq_Walls_seenBits zd_Walls_count_145 rfl (Nat.le_of_ble_eq_true rfl) (fun r σ1 h => (zj_weak (L' := [none, none]) trivial (k r σ1 h)))
theorem zb_Walls_count_148 {Γ : zG} {σ : zS} {y0 : Int32}  (e : z_end Γ (some (y0)) σ) : z_J Γ zm_Walls_count 148 [none, none] [.inl (y0)] σ := by
  exact zj_ireturn rfl zd_Walls_count_148 e
theorem zb_Walls_count_149 {Γ : zG} {σ : zS}  (e : z_end Γ (some (σ.1 11 2)) σ) : z_J Γ zm_Walls_count 149 [some (.inr (0)), none] [] σ := by
  refine zj_aload_n zd_Walls_count_149 rfl ?_
  refine zj_getR rfl (by decide) rfl zu_Walls (k := 9) (by decide) rfl zl_Walls_47 zd_Walls_count_150 (o' := 11) rfl ?_
  refine zj_getI rfl (by decide) rfl zu_History (k := 2) (by decide) rfl zl_Walls_278 zd_Walls_count_153 ?_
  exact zj_ireturn rfl zd_Walls_count_156 e
theorem zb_Walls_count_157 {Γ : zG} {σ : zS}  (e : z_end Γ (some (σ.1 0 3)) σ) : z_J Γ zm_Walls_count 157 [some (.inr (0)), none] [] σ := by
  refine zj_aload_n zd_Walls_count_157 rfl ?_
  refine zj_getI rfl (by decide) rfl zu_Walls (k := 3) (by decide) rfl zl_Walls_349 zd_Walls_count_158 ?_
  exact zj_ireturn rfl zd_Walls_count_161 e
theorem zb_Walls_count_162 {Γ : zG} {σ : zS}  (e : z_end Γ (some (σ.1 0 1)) σ) : z_J Γ zm_Walls_count 162 [some (.inr (0)), none] [] σ := by
  refine zj_aload_n zd_Walls_count_162 rfl ?_
  refine zj_getI rfl (by decide) rfl zu_Walls (k := 1) (by decide) rfl zl_Walls_84 zd_Walls_count_163 ?_
  exact zj_ireturn rfl zd_Walls_count_166 e
theorem zb_Walls_count_167 {Γ : zG} {σ : zS}  (e : z_end Γ (some ((-1))) σ) : z_J Γ zm_Walls_count 167 [none, none] [] σ := by
  refine zj_iconst (v := (-1)) zd_Walls_count_167 (by decide) ?_
  exact zj_ireturn rfl zd_Walls_count_168 e
