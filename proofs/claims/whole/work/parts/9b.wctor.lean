theorem yM_19 : yN_19 ∈ yN_all := by simp [yN_all]
theorem yM_39 : yN_39 ∈ yN_all := by simp [yN_all]
theorem yM_46 : yN_46 ∈ yN_all := by simp [yN_all]
theorem yM_65 : yN_65 ∈ yN_all := by simp [yN_all]
theorem yM_72 : yN_72 ∈ yN_all := by simp [yN_all]
theorem yM_79 : yN_79 ∈ yN_all := by simp [yN_all]
theorem zd_Walls_init_0 : decode zm_Walls_init.2.1 0 = .ok (.aload_n 0, 1) := by decide +kernel
theorem zd_Walls_init_1 : decode zm_Walls_init.2.1 1 = .ok (.invokespecial 1, 3) := by decide +kernel
theorem zd_Walls_init_4 : decode zm_Walls_init.2.1 4 = .ok (.aload_n 0, 1) := by decide +kernel
theorem zd_Walls_init_5 : decode zm_Walls_init.2.1 5 = .ok (.bipush 80, 2) := by decide +kernel
theorem zd_Walls_init_7 : decode zm_Walls_init.2.1 7 = .ok (.newarray .char, 2) := by decide +kernel
theorem zd_Walls_init_9 : decode zm_Walls_init.2.1 9 = .ok (.putfield 9, 3) := by decide +kernel
theorem zd_Walls_init_12 : decode zm_Walls_init.2.1 12 = .ok (.aload_n 0, 1) := by decide +kernel
theorem zd_Walls_init_13 : decode zm_Walls_init.2.1 13 = .ok (.bipush 12, 2) := by decide +kernel
theorem zd_Walls_init_15 : decode zm_Walls_init.2.1 15 = .ok (.newarray .int, 2) := by decide +kernel
theorem zd_Walls_init_17 : decode zm_Walls_init.2.1 17 = .ok (.putfield 13, 3) := by decide +kernel
theorem zd_Walls_init_20 : decode zm_Walls_init.2.1 20 = .ok (.aload_n 0, 1) := by decide +kernel
theorem zd_Walls_init_21 : decode zm_Walls_init.2.1 21 = .ok (.new 17, 3) := by decide +kernel
theorem zd_Walls_init_24 : decode zm_Walls_init.2.1 24 = .ok (.dup, 1) := by decide +kernel
theorem zd_Walls_init_25 : decode zm_Walls_init.2.1 25 = .ok (.invokespecial 19, 3) := by decide +kernel
theorem zd_Walls_init_28 : decode zm_Walls_init.2.1 28 = .ok (.putfield 20, 3) := by decide +kernel
theorem zd_Walls_init_31 : decode zm_Walls_init.2.1 31 = .ok (.aload_n 0, 1) := by decide +kernel
theorem zd_Walls_init_32 : decode zm_Walls_init.2.1 32 = .ok (.new 17, 3) := by decide +kernel
theorem zd_Walls_init_35 : decode zm_Walls_init.2.1 35 = .ok (.dup, 1) := by decide +kernel
theorem zd_Walls_init_36 : decode zm_Walls_init.2.1 36 = .ok (.invokespecial 19, 3) := by decide +kernel
theorem zd_Walls_init_39 : decode zm_Walls_init.2.1 39 = .ok (.putfield 24, 3) := by decide +kernel
theorem zd_Walls_init_42 : decode zm_Walls_init.2.1 42 = .ok (.aload_n 0, 1) := by decide +kernel
theorem zd_Walls_init_43 : decode zm_Walls_init.2.1 43 = .ok (.new 27, 3) := by decide +kernel
theorem zd_Walls_init_46 : decode zm_Walls_init.2.1 46 = .ok (.dup, 1) := by decide +kernel
theorem zd_Walls_init_47 : decode zm_Walls_init.2.1 47 = .ok (.invokespecial 29, 3) := by decide +kernel
theorem zd_Walls_init_50 : decode zm_Walls_init.2.1 50 = .ok (.putfield 30, 3) := by decide +kernel
theorem zd_Walls_init_53 : decode zm_Walls_init.2.1 53 = .ok (.aload_n 0, 1) := by decide +kernel
theorem zd_Walls_init_54 : decode zm_Walls_init.2.1 54 = .ok (.new 27, 3) := by decide +kernel
theorem zd_Walls_init_57 : decode zm_Walls_init.2.1 57 = .ok (.dup, 1) := by decide +kernel
theorem zd_Walls_init_58 : decode zm_Walls_init.2.1 58 = .ok (.invokespecial 29, 3) := by decide +kernel
theorem zd_Walls_init_61 : decode zm_Walls_init.2.1 61 = .ok (.putfield 34, 3) := by decide +kernel
theorem zd_Walls_init_64 : decode zm_Walls_init.2.1 64 = .ok (.aload_n 0, 1) := by decide +kernel
theorem zd_Walls_init_65 : decode zm_Walls_init.2.1 65 = .ok (.new 37, 3) := by decide +kernel
theorem zd_Walls_init_68 : decode zm_Walls_init.2.1 68 = .ok (.dup, 1) := by decide +kernel
theorem zd_Walls_init_69 : decode zm_Walls_init.2.1 69 = .ok (.invokespecial 39, 3) := by decide +kernel
theorem zd_Walls_init_72 : decode zm_Walls_init.2.1 72 = .ok (.putfield 40, 3) := by decide +kernel
theorem zd_Walls_init_75 : decode zm_Walls_init.2.1 75 = .ok (.aload_n 0, 1) := by decide +kernel
theorem zd_Walls_init_76 : decode zm_Walls_init.2.1 76 = .ok (.new 44, 3) := by decide +kernel
theorem zd_Walls_init_79 : decode zm_Walls_init.2.1 79 = .ok (.dup, 1) := by decide +kernel
theorem zd_Walls_init_80 : decode zm_Walls_init.2.1 80 = .ok (.invokespecial 46, 3) := by decide +kernel
theorem zd_Walls_init_83 : decode zm_Walls_init.2.1 83 = .ok (.putfield 47, 3) := by decide +kernel
theorem zd_Walls_init_86 : decode zm_Walls_init.2.1 86 = .ok (.aload_n 0, 1) := by decide +kernel
theorem zd_Walls_init_87 : decode zm_Walls_init.2.1 87 = .ok (.iconst 2, 1) := by decide +kernel
theorem zd_Walls_init_88 : decode zm_Walls_init.2.1 88 = .ok (.bipush 71, 2) := by decide +kernel
theorem zd_Walls_init_90 : decode zm_Walls_init.2.1 90 = .ok (.multianewarray 51 2, 4) := by decide +kernel
theorem zd_Walls_init_94 : decode zm_Walls_init.2.1 94 = .ok (.putfield 53, 3) := by decide +kernel
theorem zd_Walls_init_97 : decode zm_Walls_init.2.1 97 = .ok (.aload_n 0, 1) := by decide +kernel
theorem zd_Walls_init_98 : decode zm_Walls_init.2.1 98 = .ok (.iconst 2, 1) := by decide +kernel
theorem zd_Walls_init_99 : decode zm_Walls_init.2.1 99 = .ok (.newarray .boolean, 2) := by decide +kernel
theorem zd_Walls_init_101 : decode zm_Walls_init.2.1 101 = .ok (.putfield 56, 3) := by decide +kernel
theorem zd_Walls_init_104 : decode zm_Walls_init.2.1 104 = .ok (.aload_n 0, 1) := by decide +kernel
theorem zd_Walls_init_105 : decode zm_Walls_init.2.1 105 = .ok (.bipush 6, 2) := by decide +kernel
theorem zd_Walls_init_107 : decode zm_Walls_init.2.1 107 = .ok (.newarray .int, 2) := by decide +kernel
theorem zd_Walls_init_109 : decode zm_Walls_init.2.1 109 = .ok (.dup, 1) := by decide +kernel
theorem zd_Walls_init_110 : decode zm_Walls_init.2.1 110 = .ok (.iconst 0, 1) := by decide +kernel
theorem zd_Walls_init_111 : decode zm_Walls_init.2.1 111 = .ok (.iconst (-1), 1) := by decide +kernel
theorem zd_Walls_init_112 : decode zm_Walls_init.2.1 112 = .ok (.iastore, 1) := by decide +kernel
theorem zd_Walls_init_113 : decode zm_Walls_init.2.1 113 = .ok (.dup, 1) := by decide +kernel
theorem zd_Walls_init_114 : decode zm_Walls_init.2.1 114 = .ok (.iconst 1, 1) := by decide +kernel
theorem zd_Walls_init_115 : decode zm_Walls_init.2.1 115 = .ok (.iconst (-1), 1) := by decide +kernel
theorem zd_Walls_init_116 : decode zm_Walls_init.2.1 116 = .ok (.iastore, 1) := by decide +kernel
theorem zd_Walls_init_117 : decode zm_Walls_init.2.1 117 = .ok (.dup, 1) := by decide +kernel
theorem zd_Walls_init_118 : decode zm_Walls_init.2.1 118 = .ok (.iconst 2, 1) := by decide +kernel
theorem zd_Walls_init_119 : decode zm_Walls_init.2.1 119 = .ok (.iconst (-1), 1) := by decide +kernel
theorem zd_Walls_init_120 : decode zm_Walls_init.2.1 120 = .ok (.iastore, 1) := by decide +kernel
theorem zd_Walls_init_121 : decode zm_Walls_init.2.1 121 = .ok (.dup, 1) := by decide +kernel
theorem zd_Walls_init_122 : decode zm_Walls_init.2.1 122 = .ok (.iconst 3, 1) := by decide +kernel
theorem zd_Walls_init_123 : decode zm_Walls_init.2.1 123 = .ok (.iconst (-1), 1) := by decide +kernel
theorem zd_Walls_init_124 : decode zm_Walls_init.2.1 124 = .ok (.iastore, 1) := by decide +kernel
theorem zd_Walls_init_125 : decode zm_Walls_init.2.1 125 = .ok (.dup, 1) := by decide +kernel
theorem zd_Walls_init_126 : decode zm_Walls_init.2.1 126 = .ok (.iconst 4, 1) := by decide +kernel
theorem zd_Walls_init_127 : decode zm_Walls_init.2.1 127 = .ok (.iconst (-1), 1) := by decide +kernel
theorem zd_Walls_init_128 : decode zm_Walls_init.2.1 128 = .ok (.iastore, 1) := by decide +kernel
theorem zd_Walls_init_129 : decode zm_Walls_init.2.1 129 = .ok (.dup, 1) := by decide +kernel
theorem zd_Walls_init_130 : decode zm_Walls_init.2.1 130 = .ok (.iconst 5, 1) := by decide +kernel
theorem zd_Walls_init_131 : decode zm_Walls_init.2.1 131 = .ok (.iconst (-1), 1) := by decide +kernel
theorem zd_Walls_init_132 : decode zm_Walls_init.2.1 132 = .ok (.iastore, 1) := by decide +kernel
theorem zd_Walls_init_133 : decode zm_Walls_init.2.1 133 = .ok (.putfield 60, 3) := by decide +kernel
theorem zd_Walls_init_136 : decode zm_Walls_init.2.1 136 = .ok (.aload_n 0, 1) := by decide +kernel
theorem zd_Walls_init_137 : decode zm_Walls_init.2.1 137 = .ok (.new 63, 3) := by decide +kernel
theorem zd_Walls_init_140 : decode zm_Walls_init.2.1 140 = .ok (.dup, 1) := by decide +kernel
theorem zd_Walls_init_141 : decode zm_Walls_init.2.1 141 = .ok (.invokespecial 65, 3) := by decide +kernel
theorem zd_Walls_init_144 : decode zm_Walls_init.2.1 144 = .ok (.putfield 66, 3) := by decide +kernel
theorem zd_Walls_init_147 : decode zm_Walls_init.2.1 147 = .ok (.aload_n 0, 1) := by decide +kernel
theorem zd_Walls_init_148 : decode zm_Walls_init.2.1 148 = .ok (.new 70, 3) := by decide +kernel
theorem zd_Walls_init_151 : decode zm_Walls_init.2.1 151 = .ok (.dup, 1) := by decide +kernel
theorem zd_Walls_init_152 : decode zm_Walls_init.2.1 152 = .ok (.invokespecial 72, 3) := by decide +kernel
theorem zd_Walls_init_155 : decode zm_Walls_init.2.1 155 = .ok (.putfield 73, 3) := by decide +kernel
theorem zd_Walls_init_158 : decode zm_Walls_init.2.1 158 = .ok (.aload_n 0, 1) := by decide +kernel
theorem zd_Walls_init_159 : decode zm_Walls_init.2.1 159 = .ok (.new 77, 3) := by decide +kernel
theorem zd_Walls_init_162 : decode zm_Walls_init.2.1 162 = .ok (.dup, 1) := by decide +kernel
theorem zd_Walls_init_163 : decode zm_Walls_init.2.1 163 = .ok (.invokespecial 79, 3) := by decide +kernel
theorem zd_Walls_init_166 : decode zm_Walls_init.2.1 166 = .ok (.putfield 80, 3) := by decide +kernel
theorem zd_Walls_init_169 : decode zm_Walls_init.2.1 169 = .ok (.return_, 1) := by decide +kernel
def yO_m1 : Nat → Int32 := upd (upd (upd (upd (upd (upd (fun _ => 0) 0 (-1)) 1 (-1)) 2 (-1)) 3 (-1)) 4 (-1)) 5 (-1)
theorem vp_store (cA : ClassId) (n k : Nat) (f : Nat → Int32) (x : Int32) : (vp_cell cA (n, .inl f)).setSlot k (.int x) = vp_cell cA (n, .inl (upd f k x)) := by
  rw [vp_cell_i, vp_cell_i, arrV_store]
  congr 1
  funext q
  by_cases h : q = k
  · subst h; simp [updV, upd]
  · simp [updV, upd, h]
section
variable {p : Program} {l : Launch} {e : Env} {R : Room} {s : State} {m : MethodId} {args : Array Value} {below : List Frame} {meth : Method} {c : Code} {Qf : State → Prop} {D : va_G} {cy : Nat → ClassId} {h0 ci d : Nat} {mi : zM} {pc : Nat} {st fs : List Value} {ws : va_W} {N M : Nat}
theorem yj_norm {N2 M2 pc2 : Nat} {fs2 : List Value} {nL : Nat} (h1 : N = N2) (h2 : M = M2) (h3 : pc = pc2) (h4 : fs = fs2) (k : yJ p l e R s m args below meth c Qf D h0 ci nL pc2 st fs2 ws N2 M2) : yJ p l e R s m args below meth c Qf D h0 ci nL pc st fs ws N M := by
  subst h1 h2 h3 h4
  exact k
/-- one number of the row that was made last -/
theorem y_st1 {cc : ByteArray} {a j n pc : Nat} {cA : ClassId} {f : Nat → Int32} {i : Int} {H : Heap} {locs : List Loc} {ls : Array Slot} {cells slots : Nat} (hx : p.tables.exec = Jvm.exec) (hb : c.code = cc) (ha : s.heap.size ≤ a) (hAr : ArrOfT s cA .int) (hj : j < n) (hn : n < 1000) (hc : H[a]? = some (vp_cell cA (n, .inl f))) (hi : Int32.ofInt i = nI j) (d0 : decode cc pc = .ok (.dup, 1)) (d1 : decode cc (pc + 1) = .ok (.iconst i, 1)) (d2 : decode cc (pc + 2) = .ok (.iconst (-1), 1)) (d3 : decode cc (pc + 3) = .ok (.iastore, 1))
    (kk : ∀ H1 : Heap, H1[a]? = some (vp_cell cA (n, .inl (upd f j (-1)))) → H1.size = H.size → (∀ q, q ≠ a → H1[q]? = H[q]?) → W p l e R s m args below meth c H1 locs cells slots Qf (F0 m (pc + 4) ls (.ref a :: st))) : W p l e R s m args below meth c H locs cells slots Qf (F0 m pc ls (.ref a :: st)) := by
  refine lv_dup hx hb d0 rfl ?_
  refine lv_iconst hx hb d1 hi ?_
  refine lv_iconst (v := -1) hx hb d2 (by decide) ?_
  refine W.iast hx hb hc (hAr n (fun j => .int (f j))) (fun q => by cases q) ?_ rfl rfl d3 (fun H1 e1 z1 o1 => ?_)
  · show ¬ (nI j < 0 ∨ (arrV _ _ _).slots.size ≤ _)
    rw [arrV_size]
    exact nI_in hj (by omega)
  · rw [vp_store, nI_clamp (by omega)] at e1
    exact y_drop (fun q hq => by rw [List.mem_singleton.mp hq]; exact ha) (kk H1 e1 z1 o1)
theorem yj_init6 (C : yCx p l e R s m args meth c D cy h0 ci d zm_Walls_init) (hc : N + 1 ≤ R.cells) (hs : M + 6 ≤ R.slots)
    (k : yJ p l e R s m args below meth c Qf D h0 ci 1 133 (.ref (s.heap.size + N) :: st) fs (ws ++ [(s.heap.size + N, .inl (cy 11, 6, .inl yO_m1))]) (N + 1) (M + 6)) : yJ p l e R s m args below meth c Qf D h0 ci 1 107 (.int (nI 6) :: st) fs ws N M := by
  intro H locs ls a1 a2 a3 a4 a5 a6 a7
  have hlt := C.2.2.2.2.2.2.2.2.2.1
  refine va_newaK (atype := .int) C.1 C.2.1 (C.2.2.2.2.2.1 _ yx_a11) rfl zd_Walls_init_107 rfl (nI_pos (by decide)) (nI_clamp (by decide)) (by decide) hc hs a1 (fun H1 cA e1 z1 o1 hAr hNm => ?_)
  have hra : s.vm.findClass "[I" = some (cy 11) := (C.2.2.2.2.2.2.2.2.1.2 2 _ rfl).2
  cases hNm.symm.trans hra
  have hAr : ArrOfT s (cy 11) .int := hAr
  have ha : s.heap.size ≤ s.heap.size + N := Nat.le_add_right _ _
  refine y_st1 (j := 0) (f := fun _ => 0) C.1 C.2.1 ha hAr (by decide) (by decide) e1 (by decide) zd_Walls_init_109 zd_Walls_init_110 zd_Walls_init_111 zd_Walls_init_112 (fun H2 e2 z2 o2 => ?_)
  refine y_st1 (j := 1) C.1 C.2.1 ha hAr (by decide) (by decide) e2 (by decide) zd_Walls_init_113 zd_Walls_init_114 zd_Walls_init_115 zd_Walls_init_116 (fun H3 e3 z3 o3 => ?_)
  refine y_st1 (j := 2) C.1 C.2.1 ha hAr (by decide) (by decide) e3 (by decide) zd_Walls_init_117 zd_Walls_init_118 zd_Walls_init_119 zd_Walls_init_120 (fun H4 e4 z4 o4 => ?_)
  refine y_st1 (j := 3) C.1 C.2.1 ha hAr (by decide) (by decide) e4 (by decide) zd_Walls_init_121 zd_Walls_init_122 zd_Walls_init_123 zd_Walls_init_124 (fun H5 e5 z5 o5 => ?_)
  refine y_st1 (j := 4) C.1 C.2.1 ha hAr (by decide) (by decide) e5 (by decide) zd_Walls_init_125 zd_Walls_init_126 zd_Walls_init_127 zd_Walls_init_128 (fun H6 e6 z6 o6 => ?_)
  refine y_st1 (j := 5) C.1 C.2.1 ha hAr (by decide) (by decide) e6 (by decide) zd_Walls_init_129 zd_Walls_init_130 zd_Walls_init_131 zd_Walls_init_132 (fun H7 e7 z7 o7 => ?_)
  have hold : ∀ q, q < s.heap.size + N → H7[q]? = H[q]? := fun q hq => by
    rw [o7 q (by omega), o6 q (by omega), o5 q (by omega), o4 q (by omega), o3 q (by omega), o2 q (by omega), o1 q hq]
  refine k H7 locs ls (by omega) (a2.stay (fun q hq => ?_)) ((a3.stay (fun q hq => hold _ (a4 q hq).2)).app (va_P1 e7)) (fun q hq => ?_) (fun q b1 b2 => ?_) a6 a7
  · rw [List.mem_singleton.mp hq]
    exact hold h0 (by omega)
  · rcases List.mem_append.mp hq with h | h
    · have := a4 q h; omega
    · rw [List.mem_singleton.mp h]; exact ⟨by show _ ≤ s.heap.size + N; omega, by show s.heap.size + N < _; omega⟩
  · rw [hold q (by omega)]; exact a5 q b1 b2
end

def yb_Walls : List Value := [.null, .int 0, .null, .int 0, .null, .null, .null, .null, .null, .null, .null, .null, .null, .null, .null, .null]
theorem yb_Walls_ok : ∀ j, j < 16 → defaultValue (zy_Walls j) = vp_V yb_Walls j := by decide +kernel
theorem yq_Walls : z_mb zm_Walls_init 0 := ⟨zx_Walls, zi_t (List.mem_of_getElem? (i := 23) (by decide +kernel)) (by decide +kernel), ⟨by decide +kernel, by decide +kernel, by decide +kernel⟩, by decide⟩
theorem yi_Walls : Cond.instanceMethod zm_Walls_init.1 ∈ zTB := zi_t (List.mem_of_getElem? (i := 22) (by decide +kernel)) (by decide +kernel)
theorem yn_Walls : Cond.instantiable zr_Walls 16 ∈ zTB := zi_t (List.mem_of_getElem? (i := 20) (by decide +kernel)) (by decide +kernel)
theorem yl_Walls_1 : Cond.methodLink zr_Walls 1 Lib.objectInit ∈ zTB := zi_t (List.mem_of_getElem? (i := 24) (by decide +kernel)) (by decide +kernel)
theorem yl_Walls_17 : Cond.classLink zr_Walls 17 zr_City ∈ zTB := zi_t (List.mem_of_getElem? (i := 27) (by decide +kernel)) (by decide +kernel)
theorem yl_Walls_27 : Cond.classLink zr_Walls 27 zr_Rule ∈ zTB := zi_t (List.mem_of_getElem? (i := 110) (by decide +kernel)) (by decide +kernel)
theorem yl_Walls_29 : Cond.methodLink zr_Walls 29 zm_Rule_init.1 ∈ zTB := zi_t (List.mem_of_getElem? (i := 112) (by decide +kernel)) (by decide +kernel)
theorem yl_Walls_37 : Cond.classLink zr_Walls 37 zr_Acts ∈ zTB := zi_t (List.mem_of_getElem? (i := 149) (by decide +kernel)) (by decide +kernel)
theorem yl_Walls_44 : Cond.classLink zr_Walls 44 zr_History ∈ zTB := zi_t (List.mem_of_getElem? (i := 174) (by decide +kernel)) (by decide +kernel)
theorem yl_Walls_51 : Cond.classLink zr_Walls 51 "[[I" ∈ zTB := zi_t (List.mem_of_getElem? (i := 193) (by decide +kernel)) (by decide +kernel)
theorem yl_Walls_63 : Cond.classLink zr_Walls 63 zr_Mason ∈ zTB := zi_t (List.mem_of_getElem? (i := 194) (by decide +kernel)) (by decide +kernel)
theorem yl_Walls_70 : Cond.classLink zr_Walls 70 zr_Duel ∈ zTB := zi_t (List.mem_of_getElem? (i := 220) (by decide +kernel)) (by decide +kernel)
theorem yl_Walls_77 : Cond.classLink zr_Walls 77 zr_Orders ∈ zTB := zi_t (List.mem_of_getElem? (i := 231) (by decide +kernel)) (by decide +kernel)
def yf_Walls (z : Nat) : List Value := [.ref z, .int 0, .ref (z + 1), .int 0, .ref (z + 2), .ref (z + 12), .ref (z + 22), .ref (z + 27), .ref (z + 32), .ref (z + 35), .ref (z + 50), .ref (z + 53), .ref (z + 54), .ref (z + 55), .ref (z + 59), .ref (z + 60)]
def yw_Walls (cy : Nat → ClassId) (z : Nat) : va_W := ((((((((((((([(z, .inl (cy 10, 80, .inl (fun _ => 0)))] ++ [(z + 1, .inl (cy 11, 12, .inl (fun _ => 0)))]) ++ ((z + 2, .inr (1, yf_City (z + 2 + 1))) :: yw_City cy (z + 2 + 1))) ++ ((z + 12, .inr (1, yf_City (z + 12 + 1))) :: yw_City cy (z + 12 + 1))) ++ ((z + 22, .inr (6, yf_Rule (z + 22 + 1))) :: yw_Rule cy (z + 22 + 1))) ++ ((z + 27, .inr (6, yf_Rule (z + 27 + 1))) :: yw_Rule cy (z + 27 + 1))) ++ ((z + 32, .inr (0, yf_Acts (z + 32 + 1))) :: yw_Acts cy (z + 32 + 1))) ++ ((z + 35, .inr (3, yf_History (z + 35 + 1))) :: yw_History cy (z + 35 + 1))) ++ ((z + 50, .inl (cy 13, 2, .inr (.inr (.inr (.inr (fun j => some (z + 50 + 1 + j))))))) :: (List.range 2).map (fun j => (z + 50 + 1 + j, .inl (cy 11, 71, .inl (fun _ => 0)))))) ++ [(z + 53, .inl (cy 12, 2, .inl (fun _ => 0)))]) ++ [(z + 54, .inl (cy 11, 6, .inl yO_m1))]) ++ ((z + 55, .inr (4, yf_Mason (z + 55 + 1))) :: yw_Mason cy (z + 55 + 1))) ++ ((z + 59, .inr (2, yf_Duel (z + 59 + 1))) :: yw_Duel cy (z + 59 + 1))) ++ ((z + 60, .inr (5, yf_Orders (z + 60 + 1))) :: yw_Orders cy (z + 60 + 1)))
set_option maxRecDepth 20000 in
theorem yc_Walls : yCt 5 zm_Walls_init 7 yb_Walls yf_Walls yw_Walls 62 1844 := by
  refine yCt_of (by decide) rfl rfl rfl (by decide) (fun p l e s m args below meth c Qf D cy h0 C => ?_)
  refine yj_aload0 C zd_Walls_init_0 ?_
  refine yj_obj C yl_Walls_1 (by decide) zd_Walls_init_1 ?_
  refine yj_aload0 C zd_Walls_init_4 ?_
  refine yj_bipush (v := nI 80) C zd_Walls_init_5 (by decide) ?_
  refine yj_newarr (ty := .char) (j := 1) (t := 10) (n := 80) C rfl yx_a10 rfl rfl rfl (by decide) (by decide) (Nat.le_of_ble_eq_true rfl) (Nat.le_of_ble_eq_true rfl) zd_Walls_init_7 ?_
  refine yj_put (k0 := 0) C rfl zu_Walls zy_Walls_ok zn_Walls (by decide) rfl rfl zl_Walls_9 rfl rfl zd_Walls_init_9 ?_
  refine yj_norm (N2 := 1) (M2 := 80) (pc2 := 12) (fs2 := [.ref s.heap.size, .int 0, .null, .int 0, .null, .null, .null, .null, .null, .null, .null, .null, .null, .null, .null, .null]) rfl rfl rfl rfl ?_
  refine yj_aload0 C zd_Walls_init_12 ?_
  refine yj_bipush (v := nI 12) C zd_Walls_init_13 (by decide) ?_
  refine yj_newarr (ty := .int) (j := 2) (t := 11) (n := 12) C rfl yx_a11 rfl rfl rfl (by decide) (by decide) (Nat.le_of_ble_eq_true rfl) (Nat.le_of_ble_eq_true rfl) zd_Walls_init_15 ?_
  refine yj_put (k0 := 2) C rfl zu_Walls zy_Walls_ok zn_Walls (by decide) rfl rfl zl_Walls_13 rfl rfl zd_Walls_init_17 ?_
  refine yj_norm (N2 := 2) (M2 := 92) (pc2 := 20) (fs2 := [.ref s.heap.size, .int 0, .ref (s.heap.size + 1), .int 0, .null, .null, .null, .null, .null, .null, .null, .null, .null, .null, .null, .null]) rfl rfl rfl rfl ?_
  refine yj_aload0 C zd_Walls_init_20 ?_
  refine yj_newN (T' := zt_City) (ty' := zy_City) C yc_City (by decide) rfl rfl rfl zu_City zy_City_ok yb_City_ok yl_Walls_17 yn_City yq_City yi_City yM_19 (Nat.le_of_ble_eq_true rfl) (Nat.le_of_ble_eq_true rfl) (Nat.le_of_ble_eq_true rfl) zd_Walls_init_21 zd_Walls_init_24 zd_Walls_init_25 ?_
  refine yj_put (k0 := 4) C rfl zu_Walls zy_Walls_ok zn_Walls (by decide) rfl rfl zl_Walls_20 rfl rfl zd_Walls_init_28 ?_
  refine yj_norm (N2 := 12) (M2 := 206) (pc2 := 31) (fs2 := [.ref s.heap.size, .int 0, .ref (s.heap.size + 1), .int 0, .ref (s.heap.size + 2), .null, .null, .null, .null, .null, .null, .null, .null, .null, .null, .null]) rfl rfl rfl rfl ?_
  refine yj_aload0 C zd_Walls_init_31 ?_
  refine yj_newN (T' := zt_City) (ty' := zy_City) C yc_City (by decide) rfl rfl rfl zu_City zy_City_ok yb_City_ok yl_Walls_17 yn_City yq_City yi_City yM_19 (Nat.le_of_ble_eq_true rfl) (Nat.le_of_ble_eq_true rfl) (Nat.le_of_ble_eq_true rfl) zd_Walls_init_32 zd_Walls_init_35 zd_Walls_init_36 ?_
  refine yj_put (k0 := 5) C rfl zu_Walls zy_Walls_ok zn_Walls (by decide) rfl rfl zl_Walls_24 rfl rfl zd_Walls_init_39 ?_
  refine yj_norm (N2 := 22) (M2 := 320) (pc2 := 42) (fs2 := [.ref s.heap.size, .int 0, .ref (s.heap.size + 1), .int 0, .ref (s.heap.size + 2), .ref (s.heap.size + 12), .null, .null, .null, .null, .null, .null, .null, .null, .null, .null]) rfl rfl rfl rfl ?_
  refine yj_aload0 C zd_Walls_init_42 ?_
  refine yj_newI (T' := zt_Rule) (ty' := zy_Rule) C yc_Rule (by decide) rfl rfl rfl zu_Rule zy_Rule_ok yb_Rule_ok yl_Walls_27 yn_Rule yq_Rule yi_Rule yl_Walls_29 (Nat.le_of_ble_eq_true rfl) (Nat.le_of_ble_eq_true rfl) (Nat.le_of_ble_eq_true rfl) zd_Walls_init_43 zd_Walls_init_46 zd_Walls_init_47 ?_
  refine yj_put (k0 := 6) C rfl zu_Walls zy_Walls_ok zn_Walls (by decide) rfl rfl zl_Walls_30 rfl rfl zd_Walls_init_50 ?_
  refine yj_norm (N2 := 27) (M2 := 454) (pc2 := 53) (fs2 := [.ref s.heap.size, .int 0, .ref (s.heap.size + 1), .int 0, .ref (s.heap.size + 2), .ref (s.heap.size + 12), .ref (s.heap.size + 22), .null, .null, .null, .null, .null, .null, .null, .null, .null]) rfl rfl rfl rfl ?_
  refine yj_aload0 C zd_Walls_init_53 ?_
  refine yj_newI (T' := zt_Rule) (ty' := zy_Rule) C yc_Rule (by decide) rfl rfl rfl zu_Rule zy_Rule_ok yb_Rule_ok yl_Walls_27 yn_Rule yq_Rule yi_Rule yl_Walls_29 (Nat.le_of_ble_eq_true rfl) (Nat.le_of_ble_eq_true rfl) (Nat.le_of_ble_eq_true rfl) zd_Walls_init_54 zd_Walls_init_57 zd_Walls_init_58 ?_
  refine yj_put (k0 := 7) C rfl zu_Walls zy_Walls_ok zn_Walls (by decide) rfl rfl zl_Walls_34 rfl rfl zd_Walls_init_61 ?_
  refine yj_norm (N2 := 32) (M2 := 588) (pc2 := 64) (fs2 := [.ref s.heap.size, .int 0, .ref (s.heap.size + 1), .int 0, .ref (s.heap.size + 2), .ref (s.heap.size + 12), .ref (s.heap.size + 22), .ref (s.heap.size + 27), .null, .null, .null, .null, .null, .null, .null, .null]) rfl rfl rfl rfl ?_
  refine yj_aload0 C zd_Walls_init_64 ?_
  refine yj_newN (T' := zt_Acts) (ty' := zy_Acts) C yc_Acts (by decide) rfl rfl rfl zu_Acts zy_Acts_ok yb_Acts_ok yl_Walls_37 yn_Acts yq_Acts yi_Acts yM_39 (Nat.le_of_ble_eq_true rfl) (Nat.le_of_ble_eq_true rfl) (Nat.le_of_ble_eq_true rfl) zd_Walls_init_65 zd_Walls_init_68 zd_Walls_init_69 ?_
  refine yj_put (k0 := 8) C rfl zu_Walls zy_Walls_ok zn_Walls (by decide) rfl rfl zl_Walls_40 rfl rfl zd_Walls_init_72 ?_
  refine yj_norm (N2 := 35) (M2 := 673) (pc2 := 75) (fs2 := [.ref s.heap.size, .int 0, .ref (s.heap.size + 1), .int 0, .ref (s.heap.size + 2), .ref (s.heap.size + 12), .ref (s.heap.size + 22), .ref (s.heap.size + 27), .ref (s.heap.size + 32), .null, .null, .null, .null, .null, .null, .null]) rfl rfl rfl rfl ?_
  refine yj_aload0 C zd_Walls_init_75 ?_
  refine yj_newN (T' := zt_History) (ty' := zy_History) C yc_History (by decide) rfl rfl rfl zu_History zy_History_ok yb_History_ok yl_Walls_44 yn_History yq_History yi_History yM_46 (Nat.le_of_ble_eq_true rfl) (Nat.le_of_ble_eq_true rfl) (Nat.le_of_ble_eq_true rfl) zd_Walls_init_76 zd_Walls_init_79 zd_Walls_init_80 ?_
  refine yj_put (k0 := 9) C rfl zu_Walls zy_Walls_ok zn_Walls (by decide) rfl rfl zl_Walls_47 rfl rfl zd_Walls_init_83 ?_
  refine yj_norm (N2 := 50) (M2 := 1612) (pc2 := 86) (fs2 := [.ref s.heap.size, .int 0, .ref (s.heap.size + 1), .int 0, .ref (s.heap.size + 2), .ref (s.heap.size + 12), .ref (s.heap.size + 22), .ref (s.heap.size + 27), .ref (s.heap.size + 32), .ref (s.heap.size + 35), .null, .null, .null, .null, .null, .null]) rfl rfl rfl rfl ?_
  refine yj_aload0 C zd_Walls_init_86 ?_
  refine yj_iconst (v := nI 2) C zd_Walls_init_87 (by decide) ?_
  refine yj_bipush (v := nI 71) C zd_Walls_init_88 (by decide) ?_
  refine yj_multi C yl_Walls_51 (by decide) (by decide) (Nat.le_of_ble_eq_true rfl) (Nat.le_of_ble_eq_true rfl) zd_Walls_init_90 ?_
  refine yj_put (k0 := 10) C rfl zu_Walls zy_Walls_ok zn_Walls (by decide) rfl rfl zl_Walls_53 rfl rfl zd_Walls_init_94 ?_
  refine yj_norm (N2 := 53) (M2 := 1756) (pc2 := 97) (fs2 := [.ref s.heap.size, .int 0, .ref (s.heap.size + 1), .int 0, .ref (s.heap.size + 2), .ref (s.heap.size + 12), .ref (s.heap.size + 22), .ref (s.heap.size + 27), .ref (s.heap.size + 32), .ref (s.heap.size + 35), .ref (s.heap.size + 50), .null, .null, .null, .null, .null]) rfl rfl rfl rfl ?_
  refine yj_aload0 C zd_Walls_init_97 ?_
  refine yj_iconst (v := nI 2) C zd_Walls_init_98 (by decide) ?_
  refine yj_newarr (ty := .boolean) (j := 3) (t := 12) (n := 2) C rfl yx_a12 rfl rfl rfl (by decide) (by decide) (Nat.le_of_ble_eq_true rfl) (Nat.le_of_ble_eq_true rfl) zd_Walls_init_99 ?_
  refine yj_put (k0 := 11) C rfl zu_Walls zy_Walls_ok zn_Walls (by decide) rfl rfl zl_Walls_56 rfl rfl zd_Walls_init_101 ?_
  refine yj_norm (N2 := 54) (M2 := 1758) (pc2 := 104) (fs2 := [.ref s.heap.size, .int 0, .ref (s.heap.size + 1), .int 0, .ref (s.heap.size + 2), .ref (s.heap.size + 12), .ref (s.heap.size + 22), .ref (s.heap.size + 27), .ref (s.heap.size + 32), .ref (s.heap.size + 35), .ref (s.heap.size + 50), .ref (s.heap.size + 53), .null, .null, .null, .null]) rfl rfl rfl rfl ?_
  refine yj_aload0 C zd_Walls_init_104 ?_
  refine yj_bipush (v := nI 6) C zd_Walls_init_105 (by decide) ?_
  refine yj_init6 C (Nat.le_of_ble_eq_true rfl) (Nat.le_of_ble_eq_true rfl) ?_
  refine yj_put (k0 := 12) C rfl zu_Walls zy_Walls_ok zn_Walls (by decide) rfl rfl zl_Walls_60 rfl rfl zd_Walls_init_133 ?_
  refine yj_norm (N2 := 55) (M2 := 1764) (pc2 := 136) (fs2 := [.ref s.heap.size, .int 0, .ref (s.heap.size + 1), .int 0, .ref (s.heap.size + 2), .ref (s.heap.size + 12), .ref (s.heap.size + 22), .ref (s.heap.size + 27), .ref (s.heap.size + 32), .ref (s.heap.size + 35), .ref (s.heap.size + 50), .ref (s.heap.size + 53), .ref (s.heap.size + 54), .null, .null, .null]) rfl rfl rfl rfl ?_
  refine yj_aload0 C zd_Walls_init_136 ?_
  refine yj_newN (T' := zt_Mason) (ty' := zy_Mason) C yc_Mason (by decide) rfl rfl rfl zu_Mason zy_Mason_ok yb_Mason_ok yl_Walls_63 yn_Mason yq_Mason yi_Mason yM_65 (Nat.le_of_ble_eq_true rfl) (Nat.le_of_ble_eq_true rfl) (Nat.le_of_ble_eq_true rfl) zd_Walls_init_137 zd_Walls_init_140 zd_Walls_init_141 ?_
  refine yj_put (k0 := 13) C rfl zu_Walls zy_Walls_ok zn_Walls (by decide) rfl rfl zl_Walls_66 rfl rfl zd_Walls_init_144 ?_
  refine yj_norm (N2 := 59) (M2 := 1837) (pc2 := 147) (fs2 := [.ref s.heap.size, .int 0, .ref (s.heap.size + 1), .int 0, .ref (s.heap.size + 2), .ref (s.heap.size + 12), .ref (s.heap.size + 22), .ref (s.heap.size + 27), .ref (s.heap.size + 32), .ref (s.heap.size + 35), .ref (s.heap.size + 50), .ref (s.heap.size + 53), .ref (s.heap.size + 54), .ref (s.heap.size + 55), .null, .null]) rfl rfl rfl rfl ?_
  refine yj_aload0 C zd_Walls_init_147 ?_
  refine yj_newN (T' := zt_Duel) (ty' := zy_Duel) C yc_Duel (by decide) rfl rfl rfl zu_Duel zy_Duel_ok yb_Duel_ok yl_Walls_70 yn_Duel yq_Duel yi_Duel yM_72 (Nat.le_of_ble_eq_true rfl) (Nat.le_of_ble_eq_true rfl) (Nat.le_of_ble_eq_true rfl) zd_Walls_init_148 zd_Walls_init_151 zd_Walls_init_152 ?_
  refine yj_put (k0 := 14) C rfl zu_Walls zy_Walls_ok zn_Walls (by decide) rfl rfl zl_Walls_73 rfl rfl zd_Walls_init_155 ?_
  refine yj_norm (N2 := 60) (M2 := 1838) (pc2 := 158) (fs2 := [.ref s.heap.size, .int 0, .ref (s.heap.size + 1), .int 0, .ref (s.heap.size + 2), .ref (s.heap.size + 12), .ref (s.heap.size + 22), .ref (s.heap.size + 27), .ref (s.heap.size + 32), .ref (s.heap.size + 35), .ref (s.heap.size + 50), .ref (s.heap.size + 53), .ref (s.heap.size + 54), .ref (s.heap.size + 55), .ref (s.heap.size + 59), .null]) rfl rfl rfl rfl ?_
  refine yj_aload0 C zd_Walls_init_158 ?_
  refine yj_newN (T' := zt_Orders) (ty' := zy_Orders) C yc_Orders (by decide) rfl rfl rfl zu_Orders zy_Orders_ok yb_Orders_ok yl_Walls_77 yn_Orders yq_Orders yi_Orders yM_79 (Nat.le_of_ble_eq_true rfl) (Nat.le_of_ble_eq_true rfl) (Nat.le_of_ble_eq_true rfl) zd_Walls_init_159 zd_Walls_init_162 zd_Walls_init_163 ?_
  refine yj_put (k0 := 15) C rfl zu_Walls zy_Walls_ok zn_Walls (by decide) rfl rfl zl_Walls_80 rfl rfl zd_Walls_init_166 ?_
  refine yj_norm (N2 := 62) (M2 := 1844) (pc2 := 169) (fs2 := [.ref s.heap.size, .int 0, .ref (s.heap.size + 1), .int 0, .ref (s.heap.size + 2), .ref (s.heap.size + 12), .ref (s.heap.size + 22), .ref (s.heap.size + 27), .ref (s.heap.size + 32), .ref (s.heap.size + 35), .ref (s.heap.size + 50), .ref (s.heap.size + 53), .ref (s.heap.size + 54), .ref (s.heap.size + 55), .ref (s.heap.size + 59), .ref (s.heap.size + 60)]) rfl rfl rfl rfl ?_
  exact yj_ret C zd_Walls_init_169
