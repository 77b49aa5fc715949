theorem zd_Walls_book_0 : decode zm_Walls_book.2.1 0 = .ok (.aload_n 0, 1) := by decide +kernel
theorem zd_Walls_book_1 : decode zm_Walls_book.2.1 1 = .ok (.getfield 20, 3) := by decide +kernel
theorem zd_Walls_book_4 : decode zm_Walls_book.2.1 4 = .ok (.iload_n 1, 1) := by decide +kernel
theorem zd_Walls_book_5 : decode zm_Walls_book.2.1 5 = .ok (.invokevirtual 136, 3) := by decide +kernel
theorem zd_Walls_book_8 : decode zm_Walls_book.2.1 8 = .ok (.ifCond .ne 13, 3) := by decide +kernel
theorem zd_Walls_book_11 : decode zm_Walls_book.2.1 11 = .ok (.new 140, 3) := by decide +kernel
theorem zd_Walls_book_14 : decode zm_Walls_book.2.1 14 = .ok (.dup, 1) := by decide +kernel
theorem zd_Walls_book_15 : decode zm_Walls_book.2.1 15 = .ok (.ldc 142, 2) := by decide +kernel
theorem zd_Walls_book_17 : decode zm_Walls_book.2.1 17 = .ok (.invokespecial 144, 3) := by decide +kernel
theorem zd_Walls_book_20 : decode zm_Walls_book.2.1 20 = .ok (.athrow, 1) := by decide +kernel
theorem zd_Walls_book_21 : decode zm_Walls_book.2.1 21 = .ok (.iload_n 2, 1) := by decide +kernel
theorem zd_Walls_book_22 : decode zm_Walls_book.2.1 22 = .ok (.tableswitch 147 0 6 #[42, 52, 62, 72, 82, 91, 101], 42) := by decide +kernel
theorem zd_Walls_book_64 : decode zm_Walls_book.2.1 64 = .ok (.aload_n 0, 1) := by decide +kernel
theorem zd_Walls_book_65 : decode zm_Walls_book.2.1 65 = .ok (.getfield 20, 3) := by decide +kernel
theorem zd_Walls_book_68 : decode zm_Walls_book.2.1 68 = .ok (.getfield 147, 3) := by decide +kernel
theorem zd_Walls_book_71 : decode zm_Walls_book.2.1 71 = .ok (.iload_n 1, 1) := by decide +kernel
theorem zd_Walls_book_72 : decode zm_Walls_book.2.1 72 = .ok (.iaload, 1) := by decide +kernel
theorem zd_Walls_book_73 : decode zm_Walls_book.2.1 73 = .ok (.ireturn, 1) := by decide +kernel
theorem zd_Walls_book_74 : decode zm_Walls_book.2.1 74 = .ok (.aload_n 0, 1) := by decide +kernel
theorem zd_Walls_book_75 : decode zm_Walls_book.2.1 75 = .ok (.getfield 20, 3) := by decide +kernel
theorem zd_Walls_book_78 : decode zm_Walls_book.2.1 78 = .ok (.getfield 150, 3) := by decide +kernel
theorem zd_Walls_book_81 : decode zm_Walls_book.2.1 81 = .ok (.iload_n 1, 1) := by decide +kernel
theorem zd_Walls_book_82 : decode zm_Walls_book.2.1 82 = .ok (.iaload, 1) := by decide +kernel
theorem zd_Walls_book_83 : decode zm_Walls_book.2.1 83 = .ok (.ireturn, 1) := by decide +kernel
theorem zd_Walls_book_84 : decode zm_Walls_book.2.1 84 = .ok (.aload_n 0, 1) := by decide +kernel
theorem zd_Walls_book_85 : decode zm_Walls_book.2.1 85 = .ok (.getfield 20, 3) := by decide +kernel
theorem zd_Walls_book_88 : decode zm_Walls_book.2.1 88 = .ok (.getfield 153, 3) := by decide +kernel
theorem zd_Walls_book_91 : decode zm_Walls_book.2.1 91 = .ok (.iload_n 1, 1) := by decide +kernel
theorem zd_Walls_book_92 : decode zm_Walls_book.2.1 92 = .ok (.iaload, 1) := by decide +kernel
theorem zd_Walls_book_93 : decode zm_Walls_book.2.1 93 = .ok (.ireturn, 1) := by decide +kernel
theorem zd_Walls_book_94 : decode zm_Walls_book.2.1 94 = .ok (.aload_n 0, 1) := by decide +kernel
theorem zd_Walls_book_95 : decode zm_Walls_book.2.1 95 = .ok (.getfield 20, 3) := by decide +kernel
theorem zd_Walls_book_98 : decode zm_Walls_book.2.1 98 = .ok (.getfield 156, 3) := by decide +kernel
theorem zd_Walls_book_101 : decode zm_Walls_book.2.1 101 = .ok (.iload_n 1, 1) := by decide +kernel
theorem zd_Walls_book_102 : decode zm_Walls_book.2.1 102 = .ok (.iaload, 1) := by decide +kernel
theorem zd_Walls_book_103 : decode zm_Walls_book.2.1 103 = .ok (.ireturn, 1) := by decide +kernel
theorem zd_Walls_book_104 : decode zm_Walls_book.2.1 104 = .ok (.aload_n 0, 1) := by decide +kernel
theorem zd_Walls_book_105 : decode zm_Walls_book.2.1 105 = .ok (.getfield 20, 3) := by decide +kernel
theorem zd_Walls_book_108 : decode zm_Walls_book.2.1 108 = .ok (.iload_n 1, 1) := by decide +kernel
theorem zd_Walls_book_109 : decode zm_Walls_book.2.1 109 = .ok (.invokevirtual 159, 3) := by decide +kernel
theorem zd_Walls_book_112 : decode zm_Walls_book.2.1 112 = .ok (.ireturn, 1) := by decide +kernel
theorem zd_Walls_book_113 : decode zm_Walls_book.2.1 113 = .ok (.aload_n 0, 1) := by decide +kernel
theorem zd_Walls_book_114 : decode zm_Walls_book.2.1 114 = .ok (.getfield 20, 3) := by decide +kernel
theorem zd_Walls_book_117 : decode zm_Walls_book.2.1 117 = .ok (.getfield 162, 3) := by decide +kernel
theorem zd_Walls_book_120 : decode zm_Walls_book.2.1 120 = .ok (.iload_n 1, 1) := by decide +kernel
theorem zd_Walls_book_121 : decode zm_Walls_book.2.1 121 = .ok (.iaload, 1) := by decide +kernel
theorem zd_Walls_book_122 : decode zm_Walls_book.2.1 122 = .ok (.ireturn, 1) := by decide +kernel
theorem zd_Walls_book_123 : decode zm_Walls_book.2.1 123 = .ok (.aload_n 0, 1) := by decide +kernel
theorem zd_Walls_book_124 : decode zm_Walls_book.2.1 124 = .ok (.getfield 20, 3) := by decide +kernel
theorem zd_Walls_book_127 : decode zm_Walls_book.2.1 127 = .ok (.getfield 153, 3) := by decide +kernel
theorem zd_Walls_book_130 : decode zm_Walls_book.2.1 130 = .ok (.iload_n 1, 1) := by decide +kernel
theorem zd_Walls_book_131 : decode zm_Walls_book.2.1 131 = .ok (.iaload, 1) := by decide +kernel
theorem zd_Walls_book_132 : decode zm_Walls_book.2.1 132 = .ok (.iconst 1, 1) := by decide +kernel
theorem zd_Walls_book_133 : decode zm_Walls_book.2.1 133 = .ok (.if_icmp .ne 34, 3) := by decide +kernel
theorem zd_Walls_book_136 : decode zm_Walls_book.2.1 136 = .ok (.aload_n 0, 1) := by decide +kernel
theorem zd_Walls_book_137 : decode zm_Walls_book.2.1 137 = .ok (.getfield 20, 3) := by decide +kernel
theorem zd_Walls_book_140 : decode zm_Walls_book.2.1 140 = .ok (.aload_n 0, 1) := by decide +kernel
theorem zd_Walls_book_141 : decode zm_Walls_book.2.1 141 = .ok (.getfield 20, 3) := by decide +kernel
theorem zd_Walls_book_144 : decode zm_Walls_book.2.1 144 = .ok (.getfield 156, 3) := by decide +kernel
theorem zd_Walls_book_147 : decode zm_Walls_book.2.1 147 = .ok (.iload_n 1, 1) := by decide +kernel
theorem zd_Walls_book_148 : decode zm_Walls_book.2.1 148 = .ok (.iaload, 1) := by decide +kernel
theorem zd_Walls_book_149 : decode zm_Walls_book.2.1 149 = .ok (.aload_n 0, 1) := by decide +kernel
theorem zd_Walls_book_150 : decode zm_Walls_book.2.1 150 = .ok (.getfield 20, 3) := by decide +kernel
theorem zd_Walls_book_153 : decode zm_Walls_book.2.1 153 = .ok (.iload_n 1, 1) := by decide +kernel
theorem zd_Walls_book_154 : decode zm_Walls_book.2.1 154 = .ok (.invokevirtual 159, 3) := by decide +kernel
theorem zd_Walls_book_157 : decode zm_Walls_book.2.1 157 = .ok (.aload_n 0, 1) := by decide +kernel
theorem zd_Walls_book_158 : decode zm_Walls_book.2.1 158 = .ok (.getfield 30, 3) := by decide +kernel
theorem zd_Walls_book_161 : decode zm_Walls_book.2.1 161 = .ok (.invokevirtual 165, 3) := by decide +kernel
theorem zd_Walls_book_164 : decode zm_Walls_book.2.1 164 = .ok (.goto 4, 3) := by decide +kernel
theorem zd_Walls_book_167 : decode zm_Walls_book.2.1 167 = .ok (.iconst (-1), 1) := by decide +kernel
theorem zd_Walls_book_168 : decode zm_Walls_book.2.1 168 = .ok (.ireturn, 1) := by decide +kernel
theorem zd_Walls_book_169 : decode zm_Walls_book.2.1 169 = .ok (.new 140, 3) := by decide +kernel
theorem zd_Walls_book_172 : decode zm_Walls_book.2.1 172 = .ok (.dup, 1) := by decide +kernel
theorem zd_Walls_book_173 : decode zm_Walls_book.2.1 173 = .ok (.ldc 169, 2) := by decide +kernel
theorem zd_Walls_book_175 : decode zm_Walls_book.2.1 175 = .ok (.invokespecial 144, 3) := by decide +kernel
theorem zd_Walls_book_178 : decode zm_Walls_book.2.1 178 = .ok (.athrow, 1) := by decide +kernel
theorem zb_Walls_book_0 {Γ : zG} {σ : zS} {x1 x2 : Int32} {dc : Nat} {P : Int32 → zS → Prop}  (hm : z_Ci dc zm_City_isBook [.inr (33), .inl (x1)] σ P) (hdp : dc < z_dep Γ) (k : ∀ r σ1, P r σ1 → z_J Γ zm_Walls_book 8 [some (.inr (0)), some (.inl (x1)), some (.inl (x2))] [.inl (r)] σ1) : z_J Γ zm_Walls_book 0 [some (.inr (0)), some (.inl (x1)), some (.inl (x2))] [] σ := by
  refine zj_aload_n zd_Walls_book_0 rfl ?_
  refine zj_getR rfl (by decide) rfl zu_Walls (k := 4) (by decide) rfl zl_Walls_20 zd_Walls_book_1 (o' := 33) rfl ?_
  refine zj_iload_n zd_Walls_book_4 rfl ?_
  exact zj_callVi (As := [.inl (x1)]) hm hdp rfl (by decide) rfl zl_Walls_136 zq_City_isBook zd_Walls_book_5 rfl (Nat.le_of_ble_eq_true rfl) (fun r σ1 h => (k r σ1 h))
theorem zb_Walls_book_8 {Γ : zG} {σ : zS} {x1 x2 y0 : Int32}  (kt : ¬ y0 = 0 → z_J Γ zm_Walls_book 21 [some (.inr (0)), some (.inl (x1)), some (.inl (x2))] [] σ) (kf : y0 = 0 → z_J Γ zm_Walls_book 11 [none, none, none] [] σ) : z_J Γ zm_Walls_book 8 [some (.inr (0)), some (.inl (x1)), some (.inl (x2))] [.inl (y0)] σ := by
  exact zj_if_ne zd_Walls_book_8 (by decide) (fun h => (kt h)) (fun h => (zj_weak (L' := [none, none, none]) trivial (kf h)))
theorem zb_Walls_book_21 {Γ : zG} {σ : zS} {x1 x2 : Int32}  (kd : x2.toInt < 0 ∨ 6 < x2.toInt → z_J Γ zm_Walls_book 169 [none, none, none] [] σ) (k0_ : x2 = nI 0 → z_J Γ zm_Walls_book 64 [some (.inr (0)), some (.inl (x1)), none] [] σ) (k1_ : x2 = nI 1 → z_J Γ zm_Walls_book 74 [some (.inr (0)), some (.inl (x1)), none] [] σ) (k2_ : x2 = nI 2 → z_J Γ zm_Walls_book 84 [some (.inr (0)), some (.inl (x1)), none] [] σ) (k3_ : x2 = nI 3 → z_J Γ zm_Walls_book 94 [some (.inr (0)), some (.inl (x1)), none] [] σ) (k4_ : x2 = nI 4 → z_J Γ zm_Walls_book 104 [some (.inr (0)), some (.inl (x1)), none] [] σ) (k5_ : x2 = nI 5 → z_J Γ zm_Walls_book 113 [some (.inr (0)), some (.inl (x1)), none] [] σ) (k6_ : x2 = nI 6 → z_J Γ zm_Walls_book 123 [some (.inr (0)), some (.inl (x1)), none] [] σ) : z_J Γ zm_Walls_book 21 [some (.inr (0)), some (.inl (x1)), some (.inl (x2))] [] σ := by
  refine zj_iload_n zd_Walls_book_21 rfl ?_
  rcases (show (x2.toInt < 0 ∨ 6 < x2.toInt) ∨ x2.toInt = 0 ∨ x2.toInt = 1 ∨ x2.toInt = 2 ∨ x2.toInt = 3 ∨ x2.toInt = 4 ∨ x2.toInt = 5 ∨ x2.toInt = 6 by omega) with h | h | h | h | h | h | h | h
  · exact zj_tblOut zd_Walls_book_22 h (by decide) (zj_weak (L' := [none, none, none]) trivial (kd h))
  · exact zj_tblIn zd_Walls_book_22 (by omega) (by omega) (by rw [h]; rfl) (by decide) (zj_weak (L' := [some (.inr (0)), some (.inl (x1)), none]) ⟨rfl, ⟨rfl, trivial⟩⟩ (k0_ (Int32.toInt_inj.mp (by rw [h]; decide))))
  · exact zj_tblIn zd_Walls_book_22 (by omega) (by omega) (by rw [h]; rfl) (by decide) (zj_weak (L' := [some (.inr (0)), some (.inl (x1)), none]) ⟨rfl, ⟨rfl, trivial⟩⟩ (k1_ (Int32.toInt_inj.mp (by rw [h]; decide))))
  · exact zj_tblIn zd_Walls_book_22 (by omega) (by omega) (by rw [h]; rfl) (by decide) (zj_weak (L' := [some (.inr (0)), some (.inl (x1)), none]) ⟨rfl, ⟨rfl, trivial⟩⟩ (k2_ (Int32.toInt_inj.mp (by rw [h]; decide))))
  · exact zj_tblIn zd_Walls_book_22 (by omega) (by omega) (by rw [h]; rfl) (by decide) (zj_weak (L' := [some (.inr (0)), some (.inl (x1)), none]) ⟨rfl, ⟨rfl, trivial⟩⟩ (k3_ (Int32.toInt_inj.mp (by rw [h]; decide))))
  · exact zj_tblIn zd_Walls_book_22 (by omega) (by omega) (by rw [h]; rfl) (by decide) (zj_weak (L' := [some (.inr (0)), some (.inl (x1)), none]) ⟨rfl, ⟨rfl, trivial⟩⟩ (k4_ (Int32.toInt_inj.mp (by rw [h]; decide))))
  · exact zj_tblIn zd_Walls_book_22 (by omega) (by omega) (by rw [h]; rfl) (by decide) (zj_weak (L' := [some (.inr (0)), some (.inl (x1)), none]) ⟨rfl, ⟨rfl, trivial⟩⟩ (k5_ (Int32.toInt_inj.mp (by rw [h]; decide))))
  · exact zj_tblIn zd_Walls_book_22 (by omega) (by omega) (by rw [h]; rfl) (by decide) (zj_weak (L' := [some (.inr (0)), some (.inl (x1)), none]) ⟨rfl, ⟨rfl, trivial⟩⟩ (k6_ (Int32.toInt_inj.mp (by rw [h]; decide))))
theorem zb_Walls_book_64 {Γ : zG} {σ : zS} {x1 : Int32} {k1 : Nat}  (b1 : z_ix x1 12 k1) (e : z_end Γ (some (σ.1 34 k1)) σ) : z_J Γ zm_Walls_book 64 [some (.inr (0)), some (.inl (x1)), none] [] σ := by
  refine zj_aload_n zd_Walls_book_64 rfl ?_
  refine zj_getR rfl (by decide) rfl zu_Walls (k := 4) (by decide) rfl zl_Walls_20 zd_Walls_book_65 (o' := 33) rfl ?_
  refine zj_getR rfl (by decide) rfl zu_City (k := 1) (by decide) rfl zl_Walls_147 zd_Walls_book_68 (o' := 34) rfl ?_
  refine zj_iload_n zd_Walls_book_71 rfl ?_
  refine zj_iaload rfl (by decide) b1 zd_Walls_book_72 ?_
  exact zj_ireturn rfl zd_Walls_book_73 e
theorem zb_Walls_book_74 {Γ : zG} {σ : zS} {x1 : Int32} {k1 : Nat}  (b1 : z_ix x1 12 k1) (e : z_end Γ (some (σ.1 35 k1)) σ) : z_J Γ zm_Walls_book 74 [some (.inr (0)), some (.inl (x1)), none] [] σ := by
  refine zj_aload_n zd_Walls_book_74 rfl ?_
  refine zj_getR rfl (by decide) rfl zu_Walls (k := 4) (by decide) rfl zl_Walls_20 zd_Walls_book_75 (o' := 33) rfl ?_
  refine zj_getR rfl (by decide) rfl zu_City (k := 2) (by decide) rfl zl_Walls_150 zd_Walls_book_78 (o' := 35) rfl ?_
  refine zj_iload_n zd_Walls_book_81 rfl ?_
  refine zj_iaload rfl (by decide) b1 zd_Walls_book_82 ?_
  exact zj_ireturn rfl zd_Walls_book_83 e
theorem zb_Walls_book_84 {Γ : zG} {σ : zS} {x1 : Int32} {k1 : Nat}  (b1 : z_ix x1 12 k1) (e : z_end Γ (some (σ.1 36 k1)) σ) : z_J Γ zm_Walls_book 84 [some (.inr (0)), some (.inl (x1)), none] [] σ := by
  refine zj_aload_n zd_Walls_book_84 rfl ?_
  refine zj_getR rfl (by decide) rfl zu_Walls (k := 4) (by decide) rfl zl_Walls_20 zd_Walls_book_85 (o' := 33) rfl ?_
  refine zj_getR rfl (by decide) rfl zu_City (k := 3) (by decide) rfl zl_Walls_153 zd_Walls_book_88 (o' := 36) rfl ?_
  refine zj_iload_n zd_Walls_book_91 rfl ?_
  refine zj_iaload rfl (by decide) b1 zd_Walls_book_92 ?_
  exact zj_ireturn rfl zd_Walls_book_93 e
theorem zb_Walls_book_94 {Γ : zG} {σ : zS} {x1 : Int32} {k1 : Nat}  (b1 : z_ix x1 12 k1) (e : z_end Γ (some (σ.1 37 k1)) σ) : z_J Γ zm_Walls_book 94 [some (.inr (0)), some (.inl (x1)), none] [] σ := by
  refine zj_aload_n zd_Walls_book_94 rfl ?_
  refine zj_getR rfl (by decide) rfl zu_Walls (k := 4) (by decide) rfl zl_Walls_20 zd_Walls_book_95 (o' := 33) rfl ?_
  refine zj_getR rfl (by decide) rfl zu_City (k := 4) (by decide) rfl zl_Walls_156 zd_Walls_book_98 (o' := 37) rfl ?_
  refine zj_iload_n zd_Walls_book_101 rfl ?_
  refine zj_iaload rfl (by decide) b1 zd_Walls_book_102 ?_
  exact zj_ireturn rfl zd_Walls_book_103 e
theorem zb_Walls_book_104 {Γ : zG} {σ : zS} {x1 : Int32} {dc : Nat} {P : Int32 → zS → Prop}  (hm : z_Ci dc zm_City_placeOf [.inr (33), .inl (x1)] σ P) (hdp : dc < z_dep Γ) (k : ∀ r σ1, P r σ1 → z_J Γ zm_Walls_book 112 [none, none, none] [.inl (r)] σ1) : z_J Γ zm_Walls_book 104 [some (.inr (0)), some (.inl (x1)), none] [] σ := by
  refine zj_aload_n zd_Walls_book_104 rfl ?_
  refine zj_getR rfl (by decide) rfl zu_Walls (k := 4) (by decide) rfl zl_Walls_20 zd_Walls_book_105 (o' := 33) rfl ?_
  refine zj_iload_n zd_Walls_book_108 rfl ?_
  exact zj_callVi (As := [.inl (x1)]) hm hdp rfl (by decide) rfl zl_Walls_159 zq_City_placeOf zd_Walls_book_109 rfl (Nat.le_of_ble_eq_true rfl) (fun r σ1 h => (zj_weak (L' := [none, none, none]) trivial (k r σ1 h)))
theorem zb_Walls_book_112 {Γ : zG} {σ : zS} {y0 : Int32}  (e : z_end Γ (some (y0)) σ) : z_J Γ zm_Walls_book 112 [none, none, none] [.inl (y0)] σ := by
  exact zj_ireturn rfl zd_Walls_book_112 e
theorem zb_Walls_book_113 {Γ : zG} {σ : zS} {x1 : Int32} {k1 : Nat}  (b1 : z_ix x1 12 k1) (e : z_end Γ (some (σ.1 38 k1)) σ) : z_J Γ zm_Walls_book 113 [some (.inr (0)), some (.inl (x1)), none] [] σ := by
  refine zj_aload_n zd_Walls_book_113 rfl ?_
  refine zj_getR rfl (by decide) rfl zu_Walls (k := 4) (by decide) rfl zl_Walls_20 zd_Walls_book_114 (o' := 33) rfl ?_
  refine zj_getR rfl (by decide) rfl zu_City (k := 5) (by decide) rfl zl_Walls_162 zd_Walls_book_117 (o' := 38) rfl ?_
  refine zj_iload_n zd_Walls_book_120 rfl ?_
  refine zj_iaload rfl (by decide) b1 zd_Walls_book_121 ?_
  exact zj_ireturn rfl zd_Walls_book_122 e
theorem zb_Walls_book_123 {Γ : zG} {σ : zS} {x1 : Int32} {k1 : Nat}  (b1 : z_ix x1 12 k1) (kt : ¬ (σ.1 36 k1) = (nI 1) → z_J Γ zm_Walls_book 167 [none, none, none] [] σ) (kf : (σ.1 36 k1) = (nI 1) → z_J Γ zm_Walls_book 136 [some (.inr (0)), some (.inl (x1)), none] [] σ) : z_J Γ zm_Walls_book 123 [some (.inr (0)), some (.inl (x1)), none] [] σ := by
  refine zj_aload_n zd_Walls_book_123 rfl ?_
  refine zj_getR rfl (by decide) rfl zu_Walls (k := 4) (by decide) rfl zl_Walls_20 zd_Walls_book_124 (o' := 33) rfl ?_
  refine zj_getR rfl (by decide) rfl zu_City (k := 3) (by decide) rfl zl_Walls_153 zd_Walls_book_127 (o' := 36) rfl ?_
  refine zj_iload_n zd_Walls_book_130 rfl ?_
  refine zj_iaload rfl (by decide) b1 zd_Walls_book_131 ?_
  refine zj_iconst (v := nI 1) zd_Walls_book_132 (by decide) ?_
  exact zj_icmp_ne zd_Walls_book_133 (by decide) (fun h => (zj_weak (L' := [none, none, none]) trivial (kt h))) (fun h => (kf h))
theorem zb_Walls_book_136 {Γ : zG} {σ : zS} {x1 : Int32} {k1 : Nat} {dc : Nat} {P : Int32 → zS → Prop}  (b1 : z_ix x1 12 k1) (hm : z_Ci dc zm_City_placeOf [.inr (33), .inl (x1)] σ P) (hdp : dc < z_dep Γ) (k : ∀ r σ1, P r σ1 → z_J Γ zm_Walls_book 157 [some (.inr (0)), none, none] [.inl (r), .inl (σ.1 37 k1), .inr (33)] σ1) : z_J Γ zm_Walls_book 136 [some (.inr (0)), some (.inl (x1)), none] [] σ := by
  refine zj_aload_n zd_Walls_book_136 rfl ?_
  refine zj_getR rfl (by decide) rfl zu_Walls (k := 4) (by decide) rfl zl_Walls_20 zd_Walls_book_137 (o' := 33) rfl ?_
  refine zj_aload_n zd_Walls_book_140 rfl ?_
  refine zj_getR rfl (by decide) rfl zu_Walls (k := 4) (by decide) rfl zl_Walls_20 zd_Walls_book_141 (o' := 33) rfl ?_
  refine zj_getR rfl (by decide) rfl zu_City (k := 4) (by decide) rfl zl_Walls_156 zd_Walls_book_144 (o' := 37) rfl ?_
  refine zj_iload_n zd_Walls_book_147 rfl ?_
  refine zj_iaload rfl (by decide) b1 zd_Walls_book_148 ?_
  refine zj_aload_n zd_Walls_book_149 rfl ?_
  refine zj_getR rfl (by decide) rfl zu_Walls (k := 4) (by decide) rfl zl_Walls_20 zd_Walls_book_150 (o' := 33) rfl ?_
  refine zj_iload_n zd_Walls_book_153 rfl ?_
  exact zj_callVi (As := [.inl (x1)]) hm hdp rfl (by decide) rfl zl_Walls_159 zq_City_placeOf zd_Walls_book_154 rfl (Nat.le_of_ble_eq_true rfl) (fun r σ1 h => (zj_weak (L' := [some (.inr (0)), none, none]) ⟨rfl, trivial⟩ (k r σ1 h)))
theorem zb_Walls_book_157 {Γ : zG} {σ : zS} {y0 y1 : Int32} {dc : Nat} {P : Int32 → zS → Prop}  (m1 : z_oR (σ.2 0 6)) (hm : z_Ci dc zm_City_bearsAt [.inr (33), .inl (y1), .inl (y0), .inr (σ.2 0 6)] σ P) (hdp : dc < z_dep Γ) (k : ∀ r σ1, P r σ1 → z_J Γ zm_Walls_book 164 [none, none, none] [.inl (r)] σ1) : z_J Γ zm_Walls_book 157 [some (.inr (0)), none, none] [.inl (y0), .inl (y1), .inr (33)] σ := by
  refine zj_aload_n zd_Walls_book_157 rfl ?_
  refine zj_getM rfl (by decide) rfl zu_Walls (k := 6) (by decide) rfl zl_Walls_30 zd_Walls_book_158 (zk_Rl m1) ?_
  exact zj_callVi (As := [.inl (y1), .inl (y0), .inr (σ.2 0 6)]) hm hdp rfl (by decide) rfl zl_Walls_165 zq_City_bearsAt zd_Walls_book_161 rfl (Nat.le_of_ble_eq_true rfl) (fun r σ1 h => (zj_weak (L' := [none, none, none]) trivial (k r σ1 h)))
theorem zb_Walls_book_164 {Γ : zG} {σ : zS} {y0 : Int32}  (k : z_J Γ zm_Walls_book 168 [none, none, none] [.inl (y0)] σ) : z_J Γ zm_Walls_book 164 [none, none, none] [.inl (y0)] σ := by
  exact zj_goto zd_Walls_book_164 (by decide) k
theorem zb_Walls_book_167 {Γ : zG} {σ : zS}  (k : z_J Γ zm_Walls_book 168 [none, none, none] [.inl ((-1))] σ) : z_J Γ zm_Walls_book 167 [none, none, none] [] σ := by
  refine zj_iconst (v := (-1)) zd_Walls_book_167 (by decide) ?_
  exact k
theorem zb_Walls_book_168 {Γ : zG} {σ : zS} {y0 : Int32}  (e : z_end Γ (some (y0)) σ) : z_J Γ zm_Walls_book 168 [none, none, none] [.inl (y0)] σ := by
  exact zj_ireturn rfl zd_Walls_book_168 e
theorem zd_Walls_column_0 : decode zm_Walls_column.2.1 0 = .ok (.aload_n 0, 1) := by decide +kernel
theorem zd_Walls_column_1 : decode zm_Walls_column.2.1 1 = .ok (.getfield 20, 3) := by decide +kernel
theorem zd_Walls_column_4 : decode zm_Walls_column.2.1 4 = .ok (.iload_n 1, 1) := by decide +kernel
theorem zd_Walls_column_5 : decode zm_Walls_column.2.1 5 = .ok (.invokevirtual 171, 3) := by decide +kernel
theorem zd_Walls_column_8 : decode zm_Walls_column.2.1 8 = .ok (.ifCond .ne 13, 3) := by decide +kernel
theorem zd_Walls_column_11 : decode zm_Walls_column.2.1 11 = .ok (.new 140, 3) := by decide +kernel
theorem zd_Walls_column_14 : decode zm_Walls_column.2.1 14 = .ok (.dup, 1) := by decide +kernel
theorem zd_Walls_column_15 : decode zm_Walls_column.2.1 15 = .ok (.ldc 174, 2) := by decide +kernel
theorem zd_Walls_column_17 : decode zm_Walls_column.2.1 17 = .ok (.invokespecial 144, 3) := by decide +kernel
theorem zd_Walls_column_20 : decode zm_Walls_column.2.1 20 = .ok (.athrow, 1) := by decide +kernel
theorem zd_Walls_column_21 : decode zm_Walls_column.2.1 21 = .ok (.iload_n 2, 1) := by decide +kernel
theorem zd_Walls_column_22 : decode zm_Walls_column.2.1 22 = .ok (.tableswitch 92 0 4 #[34, 43, 53, 62, 83], 34) := by decide +kernel
theorem zd_Walls_column_56 : decode zm_Walls_column.2.1 56 = .ok (.aload_n 0, 1) := by decide +kernel
theorem zd_Walls_column_57 : decode zm_Walls_column.2.1 57 = .ok (.getfield 20, 3) := by decide +kernel
theorem zd_Walls_column_60 : decode zm_Walls_column.2.1 60 = .ok (.iload_n 1, 1) := by decide +kernel
theorem zd_Walls_column_61 : decode zm_Walls_column.2.1 61 = .ok (.invokevirtual 176, 3) := by decide +kernel
theorem zd_Walls_column_64 : decode zm_Walls_column.2.1 64 = .ok (.ireturn, 1) := by decide +kernel
theorem zd_Walls_column_65 : decode zm_Walls_column.2.1 65 = .ok (.aload_n 0, 1) := by decide +kernel
theorem zd_Walls_column_66 : decode zm_Walls_column.2.1 66 = .ok (.getfield 20, 3) := by decide +kernel
theorem zd_Walls_column_69 : decode zm_Walls_column.2.1 69 = .ok (.getfield 179, 3) := by decide +kernel
theorem zd_Walls_column_72 : decode zm_Walls_column.2.1 72 = .ok (.iload_n 1, 1) := by decide +kernel
theorem zd_Walls_column_73 : decode zm_Walls_column.2.1 73 = .ok (.iaload, 1) := by decide +kernel
theorem zd_Walls_column_74 : decode zm_Walls_column.2.1 74 = .ok (.ireturn, 1) := by decide +kernel
theorem zd_Walls_column_75 : decode zm_Walls_column.2.1 75 = .ok (.aload_n 0, 1) := by decide +kernel
theorem zd_Walls_column_76 : decode zm_Walls_column.2.1 76 = .ok (.getfield 20, 3) := by decide +kernel
theorem zd_Walls_column_79 : decode zm_Walls_column.2.1 79 = .ok (.iload_n 1, 1) := by decide +kernel
theorem zd_Walls_column_80 : decode zm_Walls_column.2.1 80 = .ok (.invokevirtual 182, 3) := by decide +kernel
theorem zd_Walls_column_83 : decode zm_Walls_column.2.1 83 = .ok (.ireturn, 1) := by decide +kernel
theorem zd_Walls_column_84 : decode zm_Walls_column.2.1 84 = .ok (.aload_n 0, 1) := by decide +kernel
theorem zd_Walls_column_85 : decode zm_Walls_column.2.1 85 = .ok (.getfield 20, 3) := by decide +kernel
theorem zd_Walls_column_88 : decode zm_Walls_column.2.1 88 = .ok (.iload_n 1, 1) := by decide +kernel
theorem zd_Walls_column_89 : decode zm_Walls_column.2.1 89 = .ok (.aload_n 0, 1) := by decide +kernel
theorem zd_Walls_column_90 : decode zm_Walls_column.2.1 90 = .ok (.getfield 30, 3) := by decide +kernel
theorem zd_Walls_column_93 : decode zm_Walls_column.2.1 93 = .ok (.invokevirtual 185, 3) := by decide +kernel
theorem zd_Walls_column_96 : decode zm_Walls_column.2.1 96 = .ok (.ifCond .eq 7, 3) := by decide +kernel
theorem zd_Walls_column_99 : decode zm_Walls_column.2.1 99 = .ok (.iconst 1, 1) := by decide +kernel
theorem zd_Walls_column_100 : decode zm_Walls_column.2.1 100 = .ok (.goto 4, 3) := by decide +kernel
theorem zd_Walls_column_103 : decode zm_Walls_column.2.1 103 = .ok (.iconst 0, 1) := by decide +kernel
theorem zd_Walls_column_104 : decode zm_Walls_column.2.1 104 = .ok (.ireturn, 1) := by decide +kernel
theorem zd_Walls_column_105 : decode zm_Walls_column.2.1 105 = .ok (.aload_n 0, 1) := by decide +kernel
theorem zd_Walls_column_106 : decode zm_Walls_column.2.1 106 = .ok (.getfield 20, 3) := by decide +kernel
theorem zd_Walls_column_109 : decode zm_Walls_column.2.1 109 = .ok (.iload_n 1, 1) := by decide +kernel
theorem zd_Walls_column_110 : decode zm_Walls_column.2.1 110 = .ok (.invokevirtual 189, 3) := by decide +kernel
theorem zd_Walls_column_113 : decode zm_Walls_column.2.1 113 = .ok (.ireturn, 1) := by decide +kernel
theorem zd_Walls_column_114 : decode zm_Walls_column.2.1 114 = .ok (.new 140, 3) := by decide +kernel
theorem zd_Walls_column_117 : decode zm_Walls_column.2.1 117 = .ok (.dup, 1) := by decide +kernel
theorem zd_Walls_column_118 : decode zm_Walls_column.2.1 118 = .ok (.ldc 192, 2) := by decide +kernel
theorem zd_Walls_column_120 : decode zm_Walls_column.2.1 120 = .ok (.invokespecial 144, 3) := by decide +kernel
theorem zd_Walls_column_123 : decode zm_Walls_column.2.1 123 = .ok (.athrow, 1) := by decide +kernel
theorem zb_Walls_column_0 {Γ : zG} {σ : zS} {x1 x2 : Int32} {dc : Nat} {P : Int32 → zS → Prop}  (hm : z_Ci dc zm_City_isColumn [.inr (33), .inl (x1)] σ P) (hdp : dc < z_dep Γ) (k : ∀ r σ1, P r σ1 → z_J Γ zm_Walls_column 8 [some (.inr (0)), some (.inl (x1)), some (.inl (x2))] [.inl (r)] σ1) : z_J Γ zm_Walls_column 0 [some (.inr (0)), some (.inl (x1)), some (.inl (x2))] [] σ := by
  refine zj_aload_n zd_Walls_column_0 rfl ?_
  refine zj_getR rfl (by decide) rfl zu_Walls (k := 4) (by decide) rfl zl_Walls_20 zd_Walls_column_1 (o' := 33) rfl ?_
  refine zj_iload_n zd_Walls_column_4 rfl ?_
  exact zj_callVi (As := [.inl (x1)]) hm hdp rfl (by decide) rfl zl_Walls_171 zq_City_isColumn zd_Walls_column_5 rfl (Nat.le_of_ble_eq_true rfl) (fun r σ1 h => (k r σ1 h))
theorem zb_Walls_column_8 {Γ : zG} {σ : zS} {x1 x2 y0 : Int32}  (kt : ¬ y0 = 0 → z_J Γ zm_Walls_column 21 [some (.inr (0)), some (.inl (x1)), some (.inl (x2))] [] σ) (kf : y0 = 0 → z_J Γ zm_Walls_column 11 [none, none, none] [] σ) : z_J Γ zm_Walls_column 8 [some (.inr (0)), some (.inl (x1)), some (.inl (x2))] [.inl (y0)] σ := by
  exact zj_if_ne zd_Walls_column_8 (by decide) (fun h => (kt h)) (fun h => (zj_weak (L' := [none, none, none]) trivial (kf h)))
theorem zb_Walls_column_21 {Γ : zG} {σ : zS} {x1 x2 : Int32}  (kd : x2.toInt < 0 ∨ 4 < x2.toInt → z_J Γ zm_Walls_column 114 [none, none, none] [] σ) (k0_ : x2 = nI 0 → z_J Γ zm_Walls_column 56 [some (.inr (0)), some (.inl (x1)), none] [] σ) (k1_ : x2 = nI 1 → z_J Γ zm_Walls_column 65 [some (.inr (0)), some (.inl (x1)), none] [] σ) (k2_ : x2 = nI 2 → z_J Γ zm_Walls_column 75 [some (.inr (0)), some (.inl (x1)), none] [] σ) (k3_ : x2 = nI 3 → z_J Γ zm_Walls_column 84 [some (.inr (0)), some (.inl (x1)), none] [] σ) (k4_ : x2 = nI 4 → z_J Γ zm_Walls_column 105 [some (.inr (0)), some (.inl (x1)), none] [] σ) : z_J Γ zm_Walls_column 21 [some (.inr (0)), some (.inl (x1)), some (.inl (x2))] [] σ := by
  refine zj_iload_n zd_Walls_column_21 rfl ?_
  rcases (show (x2.toInt < 0 ∨ 4 < x2.toInt) ∨ x2.toInt = 0 ∨ x2.toInt = 1 ∨ x2.toInt = 2 ∨ x2.toInt = 3 ∨ x2.toInt = 4 by omega) with h | h | h | h | h | h
  · exact zj_tblOut zd_Walls_column_22 h (by decide) (zj_weak (L' := [none, none, none]) trivial (kd h))
  · exact zj_tblIn zd_Walls_column_22 (by omega) (by omega) (by rw [h]; rfl) (by decide) (zj_weak (L' := [some (.inr (0)), some (.inl (x1)), none]) ⟨rfl, ⟨rfl, trivial⟩⟩ (k0_ (Int32.toInt_inj.mp (by rw [h]; decide))))
  · exact zj_tblIn zd_Walls_column_22 (by omega) (by omega) (by rw [h]; rfl) (by decide) (zj_weak (L' := [some (.inr (0)), some (.inl (x1)), none]) ⟨rfl, ⟨rfl, trivial⟩⟩ (k1_ (Int32.toInt_inj.mp (by rw [h]; decide))))
  · exact zj_tblIn zd_Walls_column_22 (by omega) (by omega) (by rw [h]; rfl) (by decide) (zj_weak (L' := [some (.inr (0)), some (.inl (x1)), none]) ⟨rfl, ⟨rfl, trivial⟩⟩ (k2_ (Int32.toInt_inj.mp (by rw [h]; decide))))
  · exact zj_tblIn zd_Walls_column_22 (by omega) (by omega) (by rw [h]; rfl) (by decide) (zj_weak (L' := [some (.inr (0)), some (.inl (x1)), none]) ⟨rfl, ⟨rfl, trivial⟩⟩ (k3_ (Int32.toInt_inj.mp (by rw [h]; decide))))
  · exact zj_tblIn zd_Walls_column_22 (by omega) (by omega) (by rw [h]; rfl) (by decide) (zj_weak (L' := [some (.inr (0)), some (.inl (x1)), none]) ⟨rfl, ⟨rfl, trivial⟩⟩ (k4_ (Int32.toInt_inj.mp (by rw [h]; decide))))
theorem zb_Walls_column_56 {Γ : zG} {σ : zS} {x1 : Int32} {dc : Nat} {P : Int32 → zS → Prop}  (hm : z_Ci dc zm_City_heightOf [.inr (33), .inl (x1)] σ P) (hdp : dc < z_dep Γ) (k : ∀ r σ1, P r σ1 → z_J Γ zm_Walls_column 64 [none, none, none] [.inl (r)] σ1) : z_J Γ zm_Walls_column 56 [some (.inr (0)), some (.inl (x1)), none] [] σ := by
  refine zj_aload_n zd_Walls_column_56 rfl ?_
  refine zj_getR rfl (by decide) rfl zu_Walls (k := 4) (by decide) rfl zl_Walls_20 zd_Walls_column_57 (o' := 33) rfl ?_
  refine zj_iload_n zd_Walls_column_60 rfl ?_
  exact zj_callVi (As := [.inl (x1)]) hm hdp rfl (by decide) rfl zl_Walls_176 zq_City_heightOf zd_Walls_column_61 rfl (Nat.le_of_ble_eq_true rfl) (fun r σ1 h => (zj_weak (L' := [none, none, none]) trivial (k r σ1 h)))
theorem zb_Walls_column_64 {Γ : zG} {σ : zS} {y0 : Int32}  (e : z_end Γ (some (y0)) σ) : z_J Γ zm_Walls_column 64 [none, none, none] [.inl (y0)] σ := by
  exact zj_ireturn rfl zd_Walls_column_64 e
theorem zb_Walls_column_65 {Γ : zG} {σ : zS} {x1 : Int32} {k1 : Nat}  (b1 : z_ix x1 6 k1) (e : z_end Γ (some (σ.1 39 k1)) σ) : z_J Γ zm_Walls_column 65 [some (.inr (0)), some (.inl (x1)), none] [] σ := by
  refine zj_aload_n zd_Walls_column_65 rfl ?_
  refine zj_getR rfl (by decide) rfl zu_Walls (k := 4) (by decide) rfl zl_Walls_20 zd_Walls_column_66 (o' := 33) rfl ?_
  refine zj_getR rfl (by decide) rfl zu_City (k := 7) (by decide) rfl zl_Walls_179 zd_Walls_column_69 (o' := 39) rfl ?_
  refine zj_iload_n zd_Walls_column_72 rfl ?_
  refine zj_iaload rfl (by decide) b1 zd_Walls_column_73 ?_
  exact zj_ireturn rfl zd_Walls_column_74 e
theorem zb_Walls_column_75 {Γ : zG} {σ : zS} {x1 : Int32} {dc : Nat} {P : Int32 → zS → Prop}  (hm : z_Ci dc zm_City_weightOf [.inr (33), .inl (x1)] σ P) (hdp : dc < z_dep Γ) (k : ∀ r σ1, P r σ1 → z_J Γ zm_Walls_column 83 [none, none, none] [.inl (r)] σ1) : z_J Γ zm_Walls_column 75 [some (.inr (0)), some (.inl (x1)), none] [] σ := by
  refine zj_aload_n zd_Walls_column_75 rfl ?_
  refine zj_getR rfl (by decide) rfl zu_Walls (k := 4) (by decide) rfl zl_Walls_20 zd_Walls_column_76 (o' := 33) rfl ?_
  refine zj_iload_n zd_Walls_column_79 rfl ?_
  exact zj_callVi (As := [.inl (x1)]) hm hdp rfl (by decide) rfl zl_Walls_182 zq_City_weightOf zd_Walls_column_80 rfl (Nat.le_of_ble_eq_true rfl) (fun r σ1 h => (zj_weak (L' := [none, none, none]) trivial (k r σ1 h)))
theorem zb_Walls_column_83 {Γ : zG} {σ : zS} {y0 : Int32}  (e : z_end Γ (some (y0)) σ) : z_J Γ zm_Walls_column 83 [none, none, none] [.inl (y0)] σ := by
  exact zj_ireturn rfl zd_Walls_column_83 e
theorem zb_Walls_column_84 {Γ : zG} {σ : zS} {x1 : Int32} {dc : Nat} {P : Int32 → zS → Prop}  (m1 : z_oR (σ.2 0 6)) (hm : z_Ci dc zm_City_holdsUp [.inr (33), .inl (x1), .inr (σ.2 0 6)] σ P) (hdp : dc < z_dep Γ) (k : ∀ r σ1, P r σ1 → z_J Γ zm_Walls_column 96 [none, none, none] [.inl (r)] σ1) : z_J Γ zm_Walls_column 84 [some (.inr (0)), some (.inl (x1)), none] [] σ := by
  refine zj_aload_n zd_Walls_column_84 rfl ?_
  refine zj_getR rfl (by decide) rfl zu_Walls (k := 4) (by decide) rfl zl_Walls_20 zd_Walls_column_85 (o' := 33) rfl ?_
  refine zj_iload_n zd_Walls_column_88 rfl ?_
  refine zj_aload_n zd_Walls_column_89 rfl ?_
  refine zj_getM rfl (by decide) rfl zu_Walls (k := 6) (by decide) rfl zl_Walls_30 zd_Walls_column_90 (zk_Rl m1) ?_
  exact zj_callVi (As := [.inl (x1), .inr (σ.2 0 6)]) hm hdp rfl (by decide) rfl zl_Walls_185 zq_City_holdsUp zd_Walls_column_93 rfl (Nat.le_of_ble_eq_true rfl) (fun r σ1 h => (zj_weak (L' := [none, none, none]) trivial (k r σ1 h)))
theorem zb_Walls_column_96 {Γ : zG} {σ : zS} {y0 : Int32}  (kt : y0 = 0 → z_J Γ zm_Walls_column 103 [none, none, none] [] σ) (kf : ¬ y0 = 0 → z_J Γ zm_Walls_column 99 [none, none, none] [] σ) : z_J Γ zm_Walls_column 96 [none, none, none] [.inl (y0)] σ := by
  exact zj_if_eq zd_Walls_column_96 (by decide) (fun h => (kt h)) (fun h => (kf h))
theorem zb_Walls_column_99 {Γ : zG} {σ : zS}  (k : z_J Γ zm_Walls_column 104 [none, none, none] [.inl (nI 1)] σ) : z_J Γ zm_Walls_column 99 [none, none, none] [] σ := by
  refine zj_iconst (v := nI 1) zd_Walls_column_99 (by decide) ?_
  exact zj_goto zd_Walls_column_100 (by decide) k
theorem zb_Walls_column_103 {Γ : zG} {σ : zS}  (k : z_J Γ zm_Walls_column 104 [none, none, none] [.inl (nI 0)] σ) : z_J Γ zm_Walls_column 103 [none, none, none] [] σ := by
  refine zj_iconst (v := nI 0) zd_Walls_column_103 (by decide) ?_
  exact k
theorem zb_Walls_column_104 {Γ : zG} {σ : zS} {y0 : Int32}  (e : z_end Γ (some (y0)) σ) : z_J Γ zm_Walls_column 104 [none, none, none] [.inl (y0)] σ := by
  exact zj_ireturn rfl zd_Walls_column_104 e
theorem zb_Walls_column_105 {Γ : zG} {σ : zS} {x1 : Int32} {dc : Nat} {P : Int32 → zS → Prop}  (hm : z_Ci dc zm_City_topOf [.inr (33), .inl (x1)] σ P) (hdp : dc < z_dep Γ) (k : ∀ r σ1, P r σ1 → z_J Γ zm_Walls_column 113 [none, none, none] [.inl (r)] σ1) : z_J Γ zm_Walls_column 105 [some (.inr (0)), some (.inl (x1)), none] [] σ := by
  refine zj_aload_n zd_Walls_column_105 rfl ?_
  refine zj_getR rfl (by decide) rfl zu_Walls (k := 4) (by decide) rfl zl_Walls_20 zd_Walls_column_106 (o' := 33) rfl ?_
  refine zj_iload_n zd_Walls_column_109 rfl ?_
  exact zj_callVi (As := [.inl (x1)]) hm hdp rfl (by decide) rfl zl_Walls_189 zq_City_topOf zd_Walls_column_110 rfl (Nat.le_of_ble_eq_true rfl) (fun r σ1 h => (zj_weak (L' := [none, none, none]) trivial (k r σ1 h)))
theorem zb_Walls_column_113 {Γ : zG} {σ : zS} {y0 : Int32}  (e : z_end Γ (some (y0)) σ) : z_J Γ zm_Walls_column 113 [none, none, none] [.inl (y0)] σ := by
  exact zj_ireturn rfl zd_Walls_column_113 e
theorem zd_Walls_reader_0 : decode zm_Walls_reader.2.1 0 = .ok (.aload_n 0, 1) := by decide +kernel
theorem zd_Walls_reader_1 : decode zm_Walls_reader.2.1 1 = .ok (.getfield 20, 3) := by decide +kernel
theorem zd_Walls_reader_4 : decode zm_Walls_reader.2.1 4 = .ok (.iload_n 1, 1) := by decide +kernel
theorem zd_Walls_reader_5 : decode zm_Walls_reader.2.1 5 = .ok (.invokevirtual 194, 3) := by decide +kernel
theorem zd_Walls_reader_8 : decode zm_Walls_reader.2.1 8 = .ok (.ifCond .ne 13, 3) := by decide +kernel
theorem zd_Walls_reader_11 : decode zm_Walls_reader.2.1 11 = .ok (.new 140, 3) := by decide +kernel
theorem zd_Walls_reader_14 : decode zm_Walls_reader.2.1 14 = .ok (.dup, 1) := by decide +kernel
theorem zd_Walls_reader_15 : decode zm_Walls_reader.2.1 15 = .ok (.ldc 197, 2) := by decide +kernel
theorem zd_Walls_reader_17 : decode zm_Walls_reader.2.1 17 = .ok (.invokespecial 144, 3) := by decide +kernel
theorem zd_Walls_reader_20 : decode zm_Walls_reader.2.1 20 = .ok (.athrow, 1) := by decide +kernel
theorem zd_Walls_reader_21 : decode zm_Walls_reader.2.1 21 = .ok (.iload_n 2, 1) := by decide +kernel
theorem zd_Walls_reader_22 : decode zm_Walls_reader.2.1 22 = .ok (.tableswitch 55 0 2 #[26, 36, 46], 26) := by decide +kernel
theorem zd_Walls_reader_48 : decode zm_Walls_reader.2.1 48 = .ok (.aload_n 0, 1) := by decide +kernel
theorem zd_Walls_reader_49 : decode zm_Walls_reader.2.1 49 = .ok (.getfield 20, 3) := by decide +kernel
theorem zd_Walls_reader_52 : decode zm_Walls_reader.2.1 52 = .ok (.getfield 199, 3) := by decide +kernel
theorem zd_Walls_reader_55 : decode zm_Walls_reader.2.1 55 = .ok (.iload_n 1, 1) := by decide +kernel
theorem zd_Walls_reader_56 : decode zm_Walls_reader.2.1 56 = .ok (.iaload, 1) := by decide +kernel
theorem zd_Walls_reader_57 : decode zm_Walls_reader.2.1 57 = .ok (.ireturn, 1) := by decide +kernel
theorem zd_Walls_reader_58 : decode zm_Walls_reader.2.1 58 = .ok (.aload_n 0, 1) := by decide +kernel
theorem zd_Walls_reader_59 : decode zm_Walls_reader.2.1 59 = .ok (.getfield 20, 3) := by decide +kernel
theorem zd_Walls_reader_62 : decode zm_Walls_reader.2.1 62 = .ok (.getfield 202, 3) := by decide +kernel
theorem zd_Walls_reader_65 : decode zm_Walls_reader.2.1 65 = .ok (.iload_n 1, 1) := by decide +kernel
theorem zd_Walls_reader_66 : decode zm_Walls_reader.2.1 66 = .ok (.iaload, 1) := by decide +kernel
theorem zd_Walls_reader_67 : decode zm_Walls_reader.2.1 67 = .ok (.ireturn, 1) := by decide +kernel
theorem zd_Walls_reader_68 : decode zm_Walls_reader.2.1 68 = .ok (.aload_n 0, 1) := by decide +kernel
theorem zd_Walls_reader_69 : decode zm_Walls_reader.2.1 69 = .ok (.getfield 20, 3) := by decide +kernel
theorem zd_Walls_reader_72 : decode zm_Walls_reader.2.1 72 = .ok (.iload_n 1, 1) := by decide +kernel
theorem zd_Walls_reader_73 : decode zm_Walls_reader.2.1 73 = .ok (.invokevirtual 205, 3) := by decide +kernel
theorem zd_Walls_reader_76 : decode zm_Walls_reader.2.1 76 = .ok (.ireturn, 1) := by decide +kernel
theorem zd_Walls_reader_77 : decode zm_Walls_reader.2.1 77 = .ok (.new 140, 3) := by decide +kernel
theorem zd_Walls_reader_80 : decode zm_Walls_reader.2.1 80 = .ok (.dup, 1) := by decide +kernel
theorem zd_Walls_reader_81 : decode zm_Walls_reader.2.1 81 = .ok (.ldc 208, 2) := by decide +kernel
theorem zd_Walls_reader_83 : decode zm_Walls_reader.2.1 83 = .ok (.invokespecial 144, 3) := by decide +kernel
theorem zd_Walls_reader_86 : decode zm_Walls_reader.2.1 86 = .ok (.athrow, 1) := by decide +kernel
theorem zb_Walls_reader_0 {Γ : zG} {σ : zS} {x1 x2 : Int32} {dc : Nat} {P : Int32 → zS → Prop}  (hm : z_Ci dc zm_City_isReader [.inr (33), .inl (x1)] σ P) (hdp : dc < z_dep Γ) (k : ∀ r σ1, P r σ1 → z_J Γ zm_Walls_reader 8 [some (.inr (0)), some (.inl (x1)), some (.inl (x2))] [.inl (r)] σ1) : z_J Γ zm_Walls_reader 0 [some (.inr (0)), some (.inl (x1)), some (.inl (x2))] [] σ := by
  refine zj_aload_n zd_Walls_reader_0 rfl ?_
  refine zj_getR rfl (by decide) rfl zu_Walls (k := 4) (by decide) rfl zl_Walls_20 zd_Walls_reader_1 (o' := 33) rfl ?_
  refine zj_iload_n zd_Walls_reader_4 rfl ?_
  exact zj_callVi (As := [.inl (x1)]) hm hdp rfl (by decide) rfl zl_Walls_194 zq_City_isReader zd_Walls_reader_5 rfl (Nat.le_of_ble_eq_true rfl) (fun r σ1 h => (k r σ1 h))
theorem zb_Walls_reader_8 {Γ : zG} {σ : zS} {x1 x2 y0 : Int32}  (kt : ¬ y0 = 0 → z_J Γ zm_Walls_reader 21 [some (.inr (0)), some (.inl (x1)), some (.inl (x2))] [] σ) (kf : y0 = 0 → z_J Γ zm_Walls_reader 11 [none, none, none] [] σ) : z_J Γ zm_Walls_reader 8 [some (.inr (0)), some (.inl (x1)), some (.inl (x2))] [.inl (y0)] σ := by
  exact zj_if_ne zd_Walls_reader_8 (by decide) (fun h => (kt h)) (fun h => (zj_weak (L' := [none, none, none]) trivial (kf h)))
theorem zb_Walls_reader_21 {Γ : zG} {σ : zS} {x1 x2 : Int32}  (kd : x2.toInt < 0 ∨ 2 < x2.toInt → z_J Γ zm_Walls_reader 77 [none, none, none] [] σ) (k0_ : x2 = nI 0 → z_J Γ zm_Walls_reader 48 [some (.inr (0)), some (.inl (x1)), none] [] σ) (k1_ : x2 = nI 1 → z_J Γ zm_Walls_reader 58 [some (.inr (0)), some (.inl (x1)), none] [] σ) (k2_ : x2 = nI 2 → z_J Γ zm_Walls_reader 68 [some (.inr (0)), some (.inl (x1)), none] [] σ) : z_J Γ zm_Walls_reader 21 [some (.inr (0)), some (.inl (x1)), some (.inl (x2))] [] σ := by
  refine zj_iload_n zd_Walls_reader_21 rfl ?_
  rcases (show (x2.toInt < 0 ∨ 2 < x2.toInt) ∨ x2.toInt = 0 ∨ x2.toInt = 1 ∨ x2.toInt = 2 by omega) with h | h | h | h
  · exact zj_tblOut zd_Walls_reader_22 h (by decide) (zj_weak (L' := [none, none, none]) trivial (kd h))
  · exact zj_tblIn zd_Walls_reader_22 (by omega) (by omega) (by rw [h]; rfl) (by decide) (zj_weak (L' := [some (.inr (0)), some (.inl (x1)), none]) ⟨rfl, ⟨rfl, trivial⟩⟩ (k0_ (Int32.toInt_inj.mp (by rw [h]; decide))))
  · exact zj_tblIn zd_Walls_reader_22 (by omega) (by omega) (by rw [h]; rfl) (by decide) (zj_weak (L' := [some (.inr (0)), some (.inl (x1)), none]) ⟨rfl, ⟨rfl, trivial⟩⟩ (k1_ (Int32.toInt_inj.mp (by rw [h]; decide))))
  · exact zj_tblIn zd_Walls_reader_22 (by omega) (by omega) (by rw [h]; rfl) (by decide) (zj_weak (L' := [some (.inr (0)), some (.inl (x1)), none]) ⟨rfl, ⟨rfl, trivial⟩⟩ (k2_ (Int32.toInt_inj.mp (by rw [h]; decide))))
theorem zb_Walls_reader_48 {Γ : zG} {σ : zS} {x1 : Int32} {k1 : Nat}  (b1 : z_ix x1 4 k1) (e : z_end Γ (some (σ.1 41 k1)) σ) : z_J Γ zm_Walls_reader 48 [some (.inr (0)), some (.inl (x1)), none] [] σ := by
  refine zj_aload_n zd_Walls_reader_48 rfl ?_
  refine zj_getR rfl (by decide) rfl zu_Walls (k := 4) (by decide) rfl zl_Walls_20 zd_Walls_reader_49 (o' := 33) rfl ?_
  refine zj_getR rfl (by decide) rfl zu_City (k := 10) (by decide) rfl zl_Walls_199 zd_Walls_reader_52 (o' := 41) rfl ?_
  refine zj_iload_n zd_Walls_reader_55 rfl ?_
  refine zj_iaload rfl (by decide) b1 zd_Walls_reader_56 ?_
  exact zj_ireturn rfl zd_Walls_reader_57 e
theorem zb_Walls_reader_58 {Γ : zG} {σ : zS} {x1 : Int32} {k1 : Nat}  (b1 : z_ix x1 4 k1) (e : z_end Γ (some (σ.1 42 k1)) σ) : z_J Γ zm_Walls_reader 58 [some (.inr (0)), some (.inl (x1)), none] [] σ := by
  refine zj_aload_n zd_Walls_reader_58 rfl ?_
  refine zj_getR rfl (by decide) rfl zu_Walls (k := 4) (by decide) rfl zl_Walls_20 zd_Walls_reader_59 (o' := 33) rfl ?_
  refine zj_getR rfl (by decide) rfl zu_City (k := 11) (by decide) rfl zl_Walls_202 zd_Walls_reader_62 (o' := 42) rfl ?_
  refine zj_iload_n zd_Walls_reader_65 rfl ?_
  refine zj_iaload rfl (by decide) b1 zd_Walls_reader_66 ?_
  exact zj_ireturn rfl zd_Walls_reader_67 e
theorem zb_Walls_reader_68 {Γ : zG} {σ : zS} {x1 : Int32} {dc : Nat} {P : Int32 → zS → Prop}  (hm : z_Ci dc zm_City_loansOf [.inr (33), .inl (x1)] σ P) (hdp : dc < z_dep Γ) (k : ∀ r σ1, P r σ1 → z_J Γ zm_Walls_reader 76 [none, none, none] [.inl (r)] σ1) : z_J Γ zm_Walls_reader 68 [some (.inr (0)), some (.inl (x1)), none] [] σ := by
  refine zj_aload_n zd_Walls_reader_68 rfl ?_
  refine zj_getR rfl (by decide) rfl zu_Walls (k := 4) (by decide) rfl zl_Walls_20 zd_Walls_reader_69 (o' := 33) rfl ?_
  refine zj_iload_n zd_Walls_reader_72 rfl ?_
  exact zj_callVi (As := [.inl (x1)]) hm hdp rfl (by decide) rfl zl_Walls_205 zq_City_loansOf zd_Walls_reader_73 rfl (Nat.le_of_ble_eq_true rfl) (fun r σ1 h => (zj_weak (L' := [none, none, none]) trivial (k r σ1 h)))
theorem zb_Walls_reader_76 {Γ : zG} {σ : zS} {y0 : Int32}  (e : z_end Γ (some (y0)) σ) : z_J Γ zm_Walls_reader 76 [none, none, none] [.inl (y0)] σ := by
  exact zj_ireturn rfl zd_Walls_reader_76 e
theorem zd_Walls_row_0 : decode zm_Walls_row.2.1 0 = .ok (.iload_n 1, 1) := by decide +kernel
theorem zd_Walls_row_1 : decode zm_Walls_row.2.1 1 = .ok (.ifCond .lt 11, 3) := by decide +kernel
theorem zd_Walls_row_4 : decode zm_Walls_row.2.1 4 = .ok (.iload_n 1, 1) := by decide +kernel
theorem zd_Walls_row_5 : decode zm_Walls_row.2.1 5 = .ok (.aload_n 0, 1) := by decide +kernel
theorem zd_Walls_row_6 : decode zm_Walls_row.2.1 6 = .ok (.getfield 349, 3) := by decide +kernel
theorem zd_Walls_row_9 : decode zm_Walls_row.2.1 9 = .ok (.if_icmp .lt 14, 3) := by decide +kernel
theorem zd_Walls_row_12 : decode zm_Walls_row.2.1 12 = .ok (.new 140, 3) := by decide +kernel
theorem zd_Walls_row_15 : decode zm_Walls_row.2.1 15 = .ok (.dup, 1) := by decide +kernel
theorem zd_Walls_row_16 : decode zm_Walls_row.2.1 16 = .ok (.ldc_w 378, 3) := by decide +kernel
theorem zd_Walls_row_19 : decode zm_Walls_row.2.1 19 = .ok (.invokespecial 144, 3) := by decide +kernel
theorem zd_Walls_row_22 : decode zm_Walls_row.2.1 22 = .ok (.athrow, 1) := by decide +kernel
theorem zd_Walls_row_23 : decode zm_Walls_row.2.1 23 = .ok (.aload_n 0, 1) := by decide +kernel
theorem zd_Walls_row_24 : decode zm_Walls_row.2.1 24 = .ok (.getfield 13, 3) := by decide +kernel
theorem zd_Walls_row_27 : decode zm_Walls_row.2.1 27 = .ok (.iload_n 1, 1) := by decide +kernel
theorem zd_Walls_row_28 : decode zm_Walls_row.2.1 28 = .ok (.iaload, 1) := by decide +kernel
theorem zd_Walls_row_29 : decode zm_Walls_row.2.1 29 = .ok (.ireturn, 1) := by decide +kernel
theorem zb_Walls_row_0 {Γ : zG} {σ : zS} {x1 : Int32}  (kt : x1 < 0 → z_J Γ zm_Walls_row 12 [none, none] [] σ) (kf : ¬ x1 < 0 → z_J Γ zm_Walls_row 4 [some (.inr (0)), some (.inl (x1))] [] σ) : z_J Γ zm_Walls_row 0 [some (.inr (0)), some (.inl (x1))] [] σ := by
  refine zj_iload_n zd_Walls_row_0 rfl ?_
  exact zj_if_lt zd_Walls_row_1 (by decide) (fun h => (zj_weak (L' := [none, none]) trivial (kt h))) (fun h => (kf h))
theorem zb_Walls_row_4 {Γ : zG} {σ : zS} {x1 : Int32}  (kt : x1 < (σ.1 0 3) → z_J Γ zm_Walls_row 23 [some (.inr (0)), some (.inl (x1))] [] σ) (kf : ¬ x1 < (σ.1 0 3) → z_J Γ zm_Walls_row 12 [none, none] [] σ) : z_J Γ zm_Walls_row 4 [some (.inr (0)), some (.inl (x1))] [] σ := by
  refine zj_iload_n zd_Walls_row_4 rfl ?_
  refine zj_aload_n zd_Walls_row_5 rfl ?_
  refine zj_getI rfl (by decide) rfl zu_Walls (k := 3) (by decide) rfl zl_Walls_349 zd_Walls_row_6 ?_
  exact zj_icmp_lt zd_Walls_row_9 (by decide) (fun h => (kt h)) (fun h => (zj_weak (L' := [none, none]) trivial (kf h)))
theorem zb_Walls_row_23 {Γ : zG} {σ : zS} {x1 : Int32} {k1 : Nat}  (b1 : z_ix x1 12 k1) (e : z_end Γ (some (σ.1 2 k1)) σ) : z_J Γ zm_Walls_row 23 [some (.inr (0)), some (.inl (x1))] [] σ := by
  refine zj_aload_n zd_Walls_row_23 rfl ?_
  refine zj_getR rfl (by decide) rfl zu_Walls (k := 2) (by decide) rfl zl_Walls_13 zd_Walls_row_24 (o' := 2) rfl ?_
  refine zj_iload_n zd_Walls_row_27 rfl ?_
  refine zj_iaload rfl (by decide) b1 zd_Walls_row_28 ?_
  exact zj_ireturn rfl zd_Walls_row_29 e
