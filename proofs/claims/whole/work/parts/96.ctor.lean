/-! constructors: what is made stands one behind another on the heap -/
/-- nest words of the constructors, and what is known of the row of rows -/
def yN_19 : Cond := .methodLinkNest zr_Walls 19 zm_City_init.1 "WallsOfBooks"
def yN_39 : Cond := .methodLinkNest zr_Walls 39 zm_Acts_init.1 "WallsOfBooks"
def yN_46 : Cond := .methodLinkNest zr_Walls 46 zm_History_init.1 "WallsOfBooks"
def yN_65 : Cond := .methodLinkNest zr_Walls 65 zm_Mason_init.1 "WallsOfBooks"
def yN_72 : Cond := .methodLinkNest zr_Walls 72 zm_Duel_init.1 "WallsOfBooks"
def yN_79 : Cond := .methodLinkNest zr_Walls 79 zm_Orders_init.1 "WallsOfBooks"
def yN_all : List Cond := [yN_19, yN_39, yN_46, yN_65, yN_72, yN_79]
def yV (cy : Nat → ClassId) (U : State) : Prop := (∀ w ∈ yN_all, va_Nw w U) ∧ ∃ k, U.vm.classes[cy 13]? = some k ∧ k.kind = .array (cy 11) (.array .int)
theorem yN_on : ∀ w ∈ yN_all, w.onTables = true := by
  have h : yN_all.all (fun w => w.onTables) = true := by decide +kernel
  exact fun w hw => List.all_eq_true.mp h w hw
theorem yV.warm {cy : Nat → ClassId} {s U : State} (hW : s.WarmedH U.vm) (h : yV cy s) : yV cy U := by
  refine ⟨fun w hw => ?_, ?_⟩
  · have h1 := h.1 w hw
    simp only [yN_all, List.mem_cons, List.not_mem_nil, or_false] at hw
    rcases hw with rfl | rfl | rfl | rfl | rfl | rfl <;> exact va_Nw.warmM hW h1
  · obtain ⟨k, h1, h2⟩ := h.2
    obtain ⟨k', h3, h4⟩ := hW.alike.2.2 _ _ h1
    exact ⟨k', h3, by rw [h4]; exact h2⟩
def yCx (p : Program) (l : Launch) (e : Env) (R : Room) (s : State) (m : MethodId) (args : Array Value) (meth : Method) (c : Code) (D : va_G) (cy : Nat → ClassId) (h0 ci d : Nat) (mi : zM) : Prop :=
  p.tables.exec = Jvm.exec ∧ c.code = mi.2.1 ∧ meth.sig.returnType = none ∧ c.maxLocals = mi.2.2.1 ∧ s.vm.findClass mi.1.cls = some m.cls ∧ (∀ w ∈ zTB, w.before args s = true) ∧ meth.locks = false ∧ meth.name = "<init>" ∧ va_K D zC (z_ty cy) s ∧ h0 < s.heap.size ∧ (d ≤ R.frames ∧ 40 * d ≤ R.locals ∧ 1 ≤ d) ∧ yV cy s
/-- from here on the constructor comes to its end; fs: its object's fields, ws: what it has made, N cells of M slots -/
def yJ (p : Program) (l : Launch) (e : Env) (R : Room) (s : State) (m : MethodId) (args : Array Value) (below : List Frame) (meth : Method) (c : Code) (Qf : State → Prop) (D : va_G) (h0 ci nL : Nat) (pc : Nat) (st : List Value) (fs : List Value) (ws : va_W) (N M : Nat) : Prop :=
  ∀ (H : Heap) (locs : List Loc) (ls : Array Slot), H.size = s.heap.size + N → va_P D zC [(h0, .inr (ci, fs))] H → va_P D zC ws H → (∀ q ∈ ws, s.heap.size ≤ q.1 ∧ q.1 < s.heap.size + N) → (∀ q, q < s.heap.size → q ≠ h0 → H[q]? = s.heap[q]?) → (∀ x ∈ locs, x.base = h0) → lv_has ls nL [(0, .ref h0)] →
    W p l e R s m args below meth c H locs N M Qf (F0 m pc ls st)
theorem va_P1 {D : va_G} {q : Nat × va_E} {H : Heap} (h : va_at D zC q H) : va_P D zC [q] H := fun k x hx => by
  have hz : k < 1 := (List.getElem?_eq_some_iff.mp hx).1
  rw [show k = 0 by omega] at hx
  cases hx
  exact h
theorem va_P.one {D : va_G} {q : Nat × va_E} {H : Heap} (h : va_P D zC [q] H) : va_at D zC q H := h 0 q rfl
theorem va_P.stay {D : va_G} {ws : va_W} {H H1 : Heap} (h : va_P D zC ws H) (hq : ∀ q ∈ ws, H1[q.1]? = H[q.1]?) : va_P D zC ws H1 := h.kept (fun k q hk => hq q (List.mem_of_getElem? hk))
section
variable {p : Program} {l : Launch} {e : Env} {R : Room} {s : State} {m : MethodId} {args : Array Value} {below : List Frame} {meth : Method} {c : Code} {Qf : State → Prop} {D : va_G} {cy : Nat → ClassId} {h0 ci d : Nat} {mi : zM} {pc : Nat} {st fs : List Value} {ws : va_W} {N M : Nat}
theorem y_drop {H : Heap} {locs extra : List Loc} {cells slots : Nat} {g : JFrame} (hf : ∀ q ∈ extra, s.heap.size ≤ q.base) (k : W p l e R s m args below meth c H locs cells slots Qf g) : W p l e R s m args below meth c H (locs ++ extra) cells slots Qf g := fun T hT X => k T hT (Stand.forget X hf)
theorem yj_aload0 (C : yCx p l e R s m args meth c D cy h0 ci d mi) (hd : decode mi.2.1 pc = .ok (.aload_n 0, 1)) (k : yJ p l e R s m args below meth c Qf D h0 ci mi.2.2.1 (pc + 1) (.ref h0 :: st) fs ws N M) : yJ p l e R s m args below meth c Qf D h0 ci mi.2.2.1 pc st fs ws N M := by
  intro H locs ls a1 a2 a3 a4 a5 a6 a7
  exact lv_aload_n C.1 C.2.1 hd rfl (lv_at a7 0 rfl) (k H locs ls a1 a2 a3 a4 a5 a6 a7)
theorem yj_iconst {n : Int} {v : Int32} (C : yCx p l e R s m args meth c D cy h0 ci d mi) (hd : decode mi.2.1 pc = .ok (.iconst n, 1)) (hv : Int32.ofInt n = v) (k : yJ p l e R s m args below meth c Qf D h0 ci mi.2.2.1 (pc + 1) (.int v :: st) fs ws N M) : yJ p l e R s m args below meth c Qf D h0 ci mi.2.2.1 pc st fs ws N M := by
  intro H locs ls a1 a2 a3 a4 a5 a6 a7
  exact lv_iconst C.1 C.2.1 hd hv (k H locs ls a1 a2 a3 a4 a5 a6 a7)
theorem yj_bipush {n : Int} {v : Int32} (C : yCx p l e R s m args meth c D cy h0 ci d mi) (hd : decode mi.2.1 pc = .ok (.bipush n, 2)) (hv : (Int8.ofInt n).toInt32 = v) (k : yJ p l e R s m args below meth c Qf D h0 ci mi.2.2.1 (pc + 2) (.int v :: st) fs ws N M) : yJ p l e R s m args below meth c Qf D h0 ci mi.2.2.1 pc st fs ws N M := by
  intro H locs ls a1 a2 a3 a4 a5 a6 a7
  exact lv_bipush C.1 C.2.1 hd hv (k H locs ls a1 a2 a3 a4 a5 a6 a7)
theorem yj_sipush {n : Int} {v : Int32} (C : yCx p l e R s m args meth c D cy h0 ci d mi) (hd : decode mi.2.1 pc = .ok (.sipush n, 3)) (hv : (Int16.ofInt n).toInt32 = v) (k : yJ p l e R s m args below meth c Qf D h0 ci mi.2.2.1 (pc + 3) (.int v :: st) fs ws N M) : yJ p l e R s m args below meth c Qf D h0 ci mi.2.2.1 pc st fs ws N M := by
  intro H locs ls a1 a2 a3 a4 a5 a6 a7
  exact lv_sipush C.1 C.2.1 hd hv (k H locs ls a1 a2 a3 a4 a5 a6 a7)
theorem yx_oi : Cond.instanceMethod Lib.objectInit ∈ zTB := zi_t (List.mem_of_getElem? (i := 25) (by decide +kernel)) (by decide +kernel)
theorem yx_oc : Cond.code Lib.objectInit ⟨#[0xb1]⟩ 1 none ∈ zTB := zi_t (List.mem_of_getElem? (i := 26) (by decide +kernel)) (by decide +kernel)
/-- the constructor of Object -/
theorem yj_obj {idx : Nat} (C : yCx p l e R s m args meth c D cy h0 ci d mi) (hl : Cond.methodLink mi.1.cls idx Lib.objectInit ∈ zTB) (hS8 : (st.map fun v => v.category).sum ≤ 8) (hd : decode mi.2.1 pc = .ok (.invokespecial idx, 3)) (k : yJ p l e R s m args below meth c Qf D h0 ci mi.2.2.1 (pc + 3) st fs ws N M) : yJ p l e R s m args below meth c Qf D h0 ci mi.2.2.1 pc (.ref h0 :: st) fs ws N M := by
  intro H locs ls a1 a2 a3 a4 a5 a6 a7
  obtain ⟨b1, b2, b3⟩ := C.2.2.2.2.2.2.2.2.2.2.1
  refine W.objInit C.1 C.2.1 C.2.2.2.2.1 (C.2.2.2.2.2.1 _ hl) (C.2.2.2.2.2.1 _ yx_oi) (C.2.2.2.2.2.1 _ yx_oc) rfl (by rw [C.2.2.2.1]; exact a7.1) rfl hd (by omega) (by show 2 * 0 + _ + 12 ≤ _; omega) (k H locs ls a1 a2 a3 a4 a5 a6 a7)
/-- a row is made -/
theorem yj_newarr {at_ : ArrayType} {ty : FieldType} {j t : Nat} {n : Nat} (C : yCx p l e R s m args meth c D cy h0 ci d mi) (hty : newarray.typeOf at_ = ty) (hw : Cond.arrayClass ty ∈ zTB) (ht : (z_ty cy)[j]? = some (cy t, ty)) (hp : va_RA s (cy t) ty = (s.vm.findClass ("[" ++ ty.toString) = some (cy t))) (hdv : defaultValue ty = .int 0) (hcb : componentBytes ty ≤ 4) (hn : n < 10000) (hc : N + 1 ≤ R.cells) (hs : M + n ≤ R.slots) (hd : decode mi.2.1 pc = .ok (.newarray at_, 2))
    (k : yJ p l e R s m args below meth c Qf D h0 ci mi.2.2.1 (pc + 2) (.ref (s.heap.size + N) :: st) fs (ws ++ [(s.heap.size + N, .inl (cy t, n, .inl (fun _ => 0)))]) (N + 1) (M + n)) : yJ p l e R s m args below meth c Qf D h0 ci mi.2.2.1 pc (.int (nI n) :: st) fs ws N M := by
  intro H locs ls a1 a2 a3 a4 a5 a6 a7
  subst hty
  have hbytes : n * componentBytes (newarray.typeOf at_) ≤ 536870912 := Nat.le_trans (Nat.mul_le_mul (Nat.le_of_lt hn) hcb) (by decide)
  refine va_newaK C.1 C.2.1 (C.2.2.2.2.2.1 _ hw) rfl hd rfl (nI_pos (by omega)) (nI_clamp (by omega)) hbytes hc hs a1 (fun H1 cA e1 z1 o1 hAr hNm => ?_)
  have hra := (C.2.2.2.2.2.2.2.2.1.2 j _ ht).2
  rw [hp] at hra
  cases hNm.symm.trans hra
  refine k H1 locs ls (by omega) (a2.stay (fun q hq => ?_)) ((a3.stay (fun q hq => o1 _ (a4 q hq).2)).app (va_P1 ?_)) (fun q hq => ?_) (fun q b1 b2 => ?_) a6 a7
  · rw [List.mem_singleton.mp hq]
    exact o1 h0 (by have := C.2.2.2.2.2.2.2.2.2.1; omega)
  · show H1[s.heap.size + N]? = some (vp_cell _ _)
    rw [e1, hdv]; rfl
  · rcases List.mem_append.mp hq with h | h
    · have := a4 q h; omega
    · rw [List.mem_singleton.mp h]; exact ⟨by show _ ≤ s.heap.size + N; omega, by show s.heap.size + N < _; omega⟩
  · rw [o1 q (by omega)]; exact a5 q b1 b2
/-- a field of the object that is made is set -/
theorem yj_put {n k0 idx : Nat} {v : Value} {T : u_T} {ty0 : Nat → FieldType} (C : yCx p l e R s m args meth c D cy h0 ci d mi) (hc : zC[ci]? = some (mi.1.cls, T, n)) (hu : ∀ w ∈ u_ws mi.1.cls T n, w ∈ zTB) (hty : ∀ k, k < n → parseFieldDescriptor (T k).2.2.1 = some (ty0 k)) (hnm : ∀ a, a < n → ∀ b, b < n → a ≠ b → (T a).2.1 ≠ (T b).2.1) (hk : k0 < n) (hfl : fs.length = n) (ho : (T k0).1 = mi.1.cls) (hl : Cond.fieldLink mi.1.cls idx (T k0).1 (T k0).2.1 (T k0).2.2.1 ∈ zTB) (hnr : narrow (ty0 k0) v = v) (hft : fits (ty0 k0) v = true) (hd : decode mi.2.1 pc = .ok (.putfield idx, 3))
    (k : yJ p l e R s m args below meth c Qf D h0 ci mi.2.2.1 (pc + 3) st (fs.set k0 v) ws N M) : yJ p l e R s m args below meth c Qf D h0 ci mi.2.2.1 pc (v :: .ref h0 :: st) fs ws N M := by
  intro H locs ls a1 a2 a3 a4 a5 a6 a7
  have hD : va_D (fun q => q = h0) [(h0, .inr (ci, fs))] := ⟨fun i j p q hi hj _ => by
    have b1 := (List.getElem?_eq_some_iff.mp hi).1
    have b2 := (List.getElem?_eq_some_iff.mp hj).1
    simp at b1 b2
    omega, fun k q hq => by
    have b1 := (List.getElem?_eq_some_iff.mp hq).1
    simp at b1
    subst b1
    cases hq
    rfl⟩
  have hS : va_S (fun q => q = h0) H H locs := ⟨Nat.le_refl _, fun _ _ _ => rfl, a6⟩
  have go : ∀ (H1 : Heap) (locs1 : List Loc), va_P D zC ([(h0, .inr (ci, fs))].set 0 (h0, .inr (ci, fs.set k0 v))) H1 → va_S (fun q => q = h0) H H1 locs1 → W p l e R s m args below meth c H1 locs1 N M Qf (F0 m (pc + 3) ls st) := fun H1 locs1 hP hS1 T hT X => by
    have h0lt := C.2.2.2.2.2.2.2.2.2.1
    have hz : H1.size = H.size := by
      have h1 := X.heapSize
      have h2 := hS1.1
      rw [hT] at h1
      omega
    refine k H1 locs1 ls (by omega) hP (a3.stay (fun q hq => hS1.2.1 _ (by have := a4 q hq; omega) (by have := a4 q hq; omega))) a4 (fun q b1 b2 => ?_) hS1.2.2 a7 T hT X
    rw [hS1.2.1 q (by omega) b2]
    exact a5 q b1 b2
  by_cases hfin : (T k0).2.2.2 = true
  · exact va_putF (H0 := H) (A := fun q => q = h0) (v := v) (ty := ty0 k0) C.1 C.2.1 C.2.2.2.2.2.1 hu ty0 hty hnm C.2.2.2.2.1 C.2.2.2.2.2.2.2.2.1 a2 hD hS 0 rfl hc k0 hk (C.2.2.2.2.2.1 _ hl) (fun _ h => h) hfin C.2.2.2.2.2.2.2.1 ho (hty k0 hk) hnr hft (by omega) hd (fun H1 locs1 hP1 hD1 hS1 => go H1 locs1 hP1 hS1)
  · rw [Bool.not_eq_true] at hfin
    exact va_put (H0 := H) (A := fun q => q = h0) (v := v) (ty := ty0 k0) C.1 C.2.1 C.2.2.2.2.2.1 hu ty0 hty hnm C.2.2.2.2.1 C.2.2.2.2.2.2.2.2.1 a2 hD hS 0 rfl hc k0 hk (C.2.2.2.2.2.1 _ hl) (fun _ h => h) hfin (hty k0 hk) hnr hft (by omega) hd (fun H1 locs1 hP1 hD1 hS1 => go H1 locs1 hP1 hS1)
/-- rows of a row are made -/
theorem yj_multi {idx n k1 : Nat} (C : yCx p l e R s m args meth c D cy h0 ci d mi) (hl : Cond.classLink mi.1.cls idx "[[I" ∈ zTB) (hn : n < 1000) (hk : k1 < 1000) (hc : N + (1 + n) ≤ R.cells) (hs : M + (n + n * k1) ≤ R.slots) (hd : decode mi.2.1 pc = .ok (.multianewarray idx 2, 4))
    (k : yJ p l e R s m args below meth c Qf D h0 ci mi.2.2.1 (pc + 4) (.ref (s.heap.size + N) :: st) fs (ws ++ ((s.heap.size + N, .inl (cy 13, n, .inr (.inr (.inr (.inr (fun j => some (s.heap.size + N + 1 + j))))))) :: (List.range n).map (fun j => (s.heap.size + N + 1 + j, .inl (cy 11, k1, .inl (fun _ => 0)))))) (N + 1 + n) (M + n + n * k1)) : yJ p l e R s m args below meth c Qf D h0 ci mi.2.2.1 pc (.int (nI k1) :: .int (nI n) :: st) fs ws N M := by
  intro H locs ls a1 a2 a3 a4 a5 a6 a7
  have h0lt := C.2.2.2.2.2.2.2.2.2.1
  have hK := C.2.2.2.2.2.2.2.2.1
  obtain ⟨kA, hA1, hA2⟩ := C.2.2.2.2.2.2.2.2.2.2.2.2
  have hA0 : s.vm.findClass "[[I" = some (cy 13) := (hK.2 4 _ rfl).2
  obtain ⟨-, kI, hI1, c0, hI2⟩ := (hK.2 2 _ rfl).1 0 (fun _ => .null)
  refine y_multi C.1 C.2.1 C.2.2.2.2.1 (C.2.2.2.2.2.1 _ hl) hA0 hA1 hA2 hI1 hI2 hn hk hc hs hd (fun H1 L z1 e1 r1 o1 hL => ?_)
  rw [a1] at z1 e1 r1 o1 hL ⊢
  refine y_drop (fun q hq => by rw [hL q hq]; omega) ?_
  refine k H1 locs ls (by omega) (a2.stay (fun q hq => ?_)) ((a3.stay (fun q hq => o1 _ (a4 q hq).2)).app (fun i q hq => ?_)) (fun q hq => ?_) (fun q b1 b2 => ?_) a6 a7
  · rw [List.mem_singleton.mp hq]
    exact o1 h0 (by omega)
  · cases i with
    | zero =>
      cases hq
      show H1[s.heap.size + N]? = some (vp_cell _ _)
      rw [e1, vp_cell_q]
      congr 1
      unfold yO arrV
      congr 2
      funext j
      show (if (j : Nat) < n then Value.ref (s.heap.size + N + 1 + j) else .null) = _
      rw [if_pos j.isLt]
      rfl
    | succ i =>
      rw [List.getElem?_cons_succ, List.getElem?_map] at hq
      rcases Nat.lt_or_ge i n with hi | hi
      · rw [List.getElem?_range hi] at hq
        cases hq
        exact r1 i hi
      · rw [List.getElem?_eq_none (by simpa using hi)] at hq
        cases hq
  · rcases List.mem_append.mp hq with h | h
    · have := a4 q h; omega
    · rcases List.mem_cons.mp h with rfl | h
      · exact ⟨by show _ ≤ s.heap.size + N; omega, by show s.heap.size + N < _; omega⟩
      · obtain ⟨j, hj, rfl⟩ := List.mem_map.mp h
        have hj := List.mem_range.mp hj
        exact ⟨by show _ ≤ s.heap.size + N + 1 + j; omega, by show s.heap.size + N + 1 + j < _; omega⟩
  · rw [o1 q (by omega)]; exact a5 q b1 b2
end
/-- the contract of a constructor -/
def yPc (D : va_G) (cy : Nat → ClassId) (h0 sz ci : Nat) (bl : List Value) : Array Value → State → Prop := va_Pc [.ref h0] (fun U => U.heap.size = sz ∧ h0 < sz ∧ va_P D zC [(h0, .inr (ci, bl))] U.heap ∧ va_K D zC (z_ty cy) U ∧ yV cy U)
def yQc (D : va_G) (h0 sz ci : Nat) (fs : List Value) (ws : va_W) (N : Nat) : Array Value → State → Outcome → State → Prop := fun _ st o t => o = .returned none ∧ t.heap.size = sz + N ∧ va_P D zC [(h0, .inr (ci, fs))] t.heap ∧ va_P D zC ws t.heap ∧ (∀ q ∈ ws, sz ≤ q.1 ∧ q.1 < sz + N) ∧ ∀ q, q < sz → q ≠ h0 → t.heap[q]? = st.heap[q]?
def yRc (d N M : Nat) : Room := { frames := d, cells := N, slots := M, locals := 40 * d }
def yCt (d : Nat) (mc : zM) (ci : Nat) (bl : List Value) (fs : Nat → List Value) (ws : (Nat → ClassId) → Nat → va_W) (N M : Nat) : Prop := ∀ (l : Launch) (D : va_G) (cy : Nat → ClassId) (h0 sz : Nat), Met l mc.1 (z_wm mc) (yRc d N M) (yPc D cy h0 sz ci bl) (yQc D h0 sz ci (fs sz) (ws cy sz) N) N M (fun q => q = h0 ∨ sz ≤ q)
theorem yCt_of {d : Nat} {mc : zM} {ci : Nat} {bl : List Value} {fs : Nat → List Value} {ws : (Nat → ClassId) → Nat → va_W} {N M : Nat} (hp : plainName mc.1.cls = true) (hi : mc.1.name = "<init>") (hr : mc.2.2.2 = none) (hL : mc.2.2.1 = 1) (hd : 1 ≤ d)
    (h : ∀ (p : Program) (l : Launch) (e : Env) (s : State) (m : MethodId) (args : Array Value) (below : List Frame) (meth : Method) (c : Code) (Qf : State → Prop) (D : va_G) (cy : Nat → ClassId) (h0 : Nat), yCx p l e (yRc d N M) s m args meth c D cy h0 ci d mc →
      yJ p l e (yRc d N M) s m args below meth c (MQ below (yQc D h0 s.heap.size ci (fs s.heap.size) (ws cy s.heap.size) N) args s N M (fun q => q = h0 ∨ s.heap.size ≤ q)) D h0 ci mc.2.2.1 0 [] bl [] 0 0) : yCt d mc ci bl fs ws N M := by
  intro l D cy h0 sz
  refine Met.ofW (cc := mc.2.1) (maxL := mc.2.2.1) (ret := mc.2.2.2) hp rfl ?_
  intro p e s m args below meth c s₁ B hml hv
  obtain ⟨rfl, hsz, hlt, hP, hK, hV⟩ := hv
  subst hsz
  have hts := atoms_spec (ws := z_wm mc) B.pre
  have hown := findClass_of_methodNamed B.named
  have hin : meth.name = "<init>" := by rw [(name_of_methodNamed B.named B.method).1]; exact hi
  have C : yCx p l e (yRc d N M) s m [Value.ref h0].toArray meth c D cy h0 ci d mc := ⟨B.exec, B.bytes, by rw [← hr]; exact B.returns, hml, hown, fun w hw => hts w (List.mem_cons_of_mem _ hw), B.notSynchronized, hin, hK, hlt, ⟨Nat.le_refl _, Nat.le_refl _, hd⟩, hV⟩
  have hl := lv_entry ([Value.ref h0]) (n := 1) (Nat.le_of_ble_eq_true rfl)
  rw [lg_entry_eq, hL]
  have key := h p l e s m _ below meth c (fun _ => True) D cy h0 C
  rw [hL] at key
  exact key s.heap [] _ rfl hP (fun k q hq => by simp at hq) (fun q hq => by cases hq) (fun _ _ _ => rfl) (fun x hx => by cases hx) hl
section
variable {p : Program} {l : Launch} {e : Env} {R : Room} {s : State} {m : MethodId} {args : Array Value} {below : List Frame} {meth : Method} {c : Code} {Qf : State → Prop} {D : va_G} {cy : Nat → ClassId} {h0 ci d : Nat} {mi : zM} {pc : Nat} {st fs : List Value} {ws : va_W} {N M : Nat}
theorem yj_ret (C : yCx p l e R s m args meth c D cy h0 ci d mi) (hd : decode mi.2.1 pc = .ok (.return_, 1)) : yJ p l e R s m args below meth c (MQ below (yQc D h0 s.heap.size ci fs ws N) args s N M (fun q => q = h0 ∨ s.heap.size ≤ q)) D h0 ci mi.2.2.1 pc [] fs ws N M := by
  intro H locs ls a1 a2 a3 a4 a5 a6 a7
  exact W.vret C.1 C.2.1 C.2.2.1 (fun t ht hW => ⟨rfl, by rw [ht]; exact a1, by rw [ht]; exact a2, by rw [ht]; exact a3, a4, fun q b1 b2 => by rw [ht]; exact a5 q b1 b2⟩) (fun q hq => Or.inl (a6 q hq)) hd C.2.2.2.2.2.2.1
end
