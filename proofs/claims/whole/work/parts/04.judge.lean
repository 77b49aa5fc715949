/-- the context of a walk: machine, launch, env, room, start, method, arguments, frames below, method record, code, cells and slots made, what is to come, world, array classes, addresses, own part of the heap, depth left, the method's own end -/
abbrev zG : Type := Program × Launch × Env × Room × State × MethodId × Array Value × List Frame × Method × Code × (Nat × Nat) × (State → Prop) × va_G × (Nat → ClassId) × (Nat → Nat) × (Nat → Prop) × Nat × (Option Int32 → zS → Prop)
def z_dep (Γ : zG) : Nat := Γ.2.2.2.2.2.2.2.2.2.2.2.2.2.2.2.2.1
def z_end (Γ : zG) : Option Int32 → zS → Prop := Γ.2.2.2.2.2.2.2.2.2.2.2.2.2.2.2.2.2
/-- links between nest mates -/
def zN_C : Cond := .methodLinkNest zr_City 81 zm_Walls_between.1 "WallsOfBooks"
def zN_R : Cond := .methodLinkNest zr_Rule 61 zm_Walls_isDigit.1 "WallsOfBooks"
def zN_A : Cond := .methodLinkNest zr_Acts 44 zm_Walls_isDigit.1 "WallsOfBooks"
def z_Nw (U : State) : Prop := va_Nw zN_C U ∧ va_Nw zN_R U ∧ va_Nw zN_A U
theorem z_Nw.warm {s U : State} (hW : s.WarmedH U.vm) (h : z_Nw s) : z_Nw U := ⟨va_Nw.warmM hW h.1, va_Nw.warmM hW h.2.1, va_Nw.warmM hW h.2.2⟩
def z_B (D : va_G) (cy : Nat → ClassId) (ad : Nat → Nat) (A : Nat → Prop) (u : zS) (t : State) : Prop := va_P D zC (z_ws cy ad u) t.heap ∧ va_K D zC (z_ty cy) t ∧ va_D A (z_ws cy ad u)
def z_QC (D : va_G) (cy : Nat → ClassId) (ad : Nat → Nat) (A : Nat → Prop) (Po : Option Int32 → zS → Prop) : Array Value → State → Outcome → State → Prop := fun _ st oc t => (∃ (r : Option Int32) (u : zS), oc = .returned (r.map Value.int) ∧ Po r u ∧ z_B D cy ad A u t) ∧ va_F A st t
def z_A (ad : Nat → Nat) (sz : Nat) : Nat → Prop := fun q => (∃ o, o < zK ∧ q = ad o) ∨ sz ≤ q
def zR (d : Nat) : Room := { frames := d, cells := 0, slots := 0, locals := 40 * d }
def z_Pc (D : va_G) (cy : Nat → ClassId) (ad : Nat → Nat) (av : List zV) (σ : zS) (sz : Nat) : Array Value → State → Prop := va_Pc (av.map (z_en ad)) (fun U => U.heap.size = sz ∧ va_P D zC (z_ws cy ad σ) U.heap ∧ va_K D zC (z_ty cy) U ∧ va_D (fun _ => True) (z_ws cy ad σ) ∧ z_Nw U)
abbrev z_wm (mc : zM) : List Cond := Cond.code mc.1 mc.2.1 mc.2.2.1 mc.2.2.2 :: zTB
/-- the contract of a method with a number for an answer: dc frames below it suffice -/
def z_Ci (dc : Nat) (mc : zM) (av : List zV) (σ : zS) (P : Int32 → zS → Prop) : Prop := ∀ (d : Nat), dc ≤ d → ∀ (l : Launch) (D : va_G) (cy : Nat → ClassId) (ad : Nat → Nat) (sz : Nat), Met l mc.1 (z_wm mc) (zR d) (z_Pc D cy ad av σ sz) (va_Qi P (z_B D cy ad (z_A ad sz)) (z_A ad sz)) 0 0 (z_A ad sz)
/-- the contract of a method without an answer -/
def z_Cv (dc : Nat) (mc : zM) (av : List zV) (σ : zS) (P : zS → Prop) : Prop := ∀ (d : Nat), dc ≤ d → ∀ (l : Launch) (D : va_G) (cy : Nat → ClassId) (ad : Nat → Nat) (sz : Nat), Met l mc.1 (z_wm mc) (zR d) (z_Pc D cy ad av σ sz) (va_Qv P (z_B D cy ad (z_A ad sz)) (z_A ad sz)) 0 0 (z_A ad sz)
def z_Cx : zG → zM → Prop := fun ⟨p, l, e, R, s, m, args, below, meth, c, ⟨cells, slots⟩, Qf, D, cy, ad, A, d, Po⟩ mi => p.tables.exec = Jvm.exec ∧ c.code = mi.2.1 ∧ meth.sig.returnType = mi.2.2.2 ∧ c.maxLocals = mi.2.2.1 ∧ s.vm.findClass mi.1.cls = some m.cls ∧ (∀ w ∈ zTB, w.before args s = true) ∧ meth.locks = false ∧ (d ≤ R.frames ∧ 40 * d ≤ R.locals ∧ cells ≤ R.cells ∧ slots ≤ R.slots) ∧ va_K D zC (z_ty cy) s ∧ (∀ q, s.heap.size ≤ q → A q) ∧ (∀ t, MQ below (z_QC D cy ad A Po) args s cells slots A t → Qf t) ∧ z_Nw s
/-- from here on the walk comes to its end -/
def z_J : zG → zM → Nat → List (Option zV) → List zV → zS → Prop := fun ⟨p, l, e, R, s, m, args, below, meth, c, ⟨cells, slots⟩, Qf, D, cy, ad, A, d, Po⟩ mi pc L S σ =>
  z_Cx ⟨p, l, e, R, s, m, args, below, meth, c, ⟨cells, slots⟩, Qf, D, cy, ad, A, d, Po⟩ mi → ∀ (H : Heap) (locs : List Loc) (ls : Array Slot), va_P D zC (z_ws cy ad σ) H → va_D A (z_ws cy ad σ) → va_S A s.heap H locs → z_lk ad ls mi.2.2.1 L → W p l e R s m args below meth c H locs cells slots Qf (F0 m pc ls (S.map (z_en ad)))
theorem z_W_mono {p : Program} {l : Launch} {e : Env} {R : Room} {s : State} {m : MethodId} {args : Array Value} {below : List Frame} {meth : Method} {c : Code} {H : Heap} {locs : List Loc} {cells slots : Nat} {Q Q' : State → Prop} {g : JFrame} (h : ∀ t, Q t → Q' t) (k : W p l e R s m args below meth c H locs cells slots Q g) : W p l e R s m args below meth c H locs cells slots Q' g := by
  intro T hT X
  obtain ⟨t, a, b⟩ := k T hT X
  exact ⟨t, a, h t b⟩
section
variable {Γ : zG} {mi : zM} {pc : Nat} {L : List (Option zV)} {S : List zV} {σ : zS}
theorem zj_iconst {n : Int} {v : Int32} (hd : decode mi.2.1 pc = .ok (.iconst n, 1)) (hv : Int32.ofInt n = v) (k : z_J Γ mi (pc + 1) L (.inl v :: S) σ) : z_J Γ mi pc L S σ := by
  obtain ⟨p, l, e, R, s, m, args, below, meth, c, ⟨cells, slots⟩, Qf, D, cy, ad, A, d, Po⟩ := Γ
  intro C H locs ls hP hD hS hl
  exact lv_iconst C.1 C.2.1 hd hv (k C H locs ls hP hD hS hl)
theorem zj_bipush {n : Int} {v : Int32} (hd : decode mi.2.1 pc = .ok (.bipush n, 2)) (hv : (Int8.ofInt n).toInt32 = v) (k : z_J Γ mi (pc + 2) L (.inl v :: S) σ) : z_J Γ mi pc L S σ := by
  obtain ⟨p, l, e, R, s, m, args, below, meth, c, ⟨cells, slots⟩, Qf, D, cy, ad, A, d, Po⟩ := Γ
  intro C H locs ls hP hD hS hl
  exact lv_bipush C.1 C.2.1 hd hv (k C H locs ls hP hD hS hl)
theorem zj_sipush {n : Int} {v : Int32} (hd : decode mi.2.1 pc = .ok (.sipush n, 3)) (hv : (Int16.ofInt n).toInt32 = v) (k : z_J Γ mi (pc + 3) L (.inl v :: S) σ) : z_J Γ mi pc L S σ := by
  obtain ⟨p, l, e, R, s, m, args, below, meth, c, ⟨cells, slots⟩, Qf, D, cy, ad, A, d, Po⟩ := Γ
  intro C H locs ls hP hD hS hl
  exact lv_sipush C.1 C.2.1 hd hv (k C H locs ls hP hD hS hl)
theorem zj_ldc {i : Nat} {v : Int32} (hc : Cond.constant mi.1.cls i v ∈ zTB) (hd : decode mi.2.1 pc = .ok (.ldc i, 2)) (k : z_J Γ mi (pc + 2) L (.inl v :: S) σ) : z_J Γ mi pc L S σ := by
  obtain ⟨p, l, e, R, s, m, args, below, meth, c, ⟨cells, slots⟩, Qf, D, cy, ad, A, d, Po⟩ := Γ
  intro C H locs ls hP hD hS hl
  exact lv_ldc C.1 C.2.1 C.2.2.2.2.1 (C.2.2.2.2.2.1 _ hc) hd (k C H locs ls hP hD hS hl)
theorem zj_ldcw {i : Nat} {v : Int32} (hc : Cond.constant mi.1.cls i v ∈ zTB) (hd : decode mi.2.1 pc = .ok (.ldc_w i, 3)) (k : z_J Γ mi (pc + 3) L (.inl v :: S) σ) : z_J Γ mi pc L S σ := by
  obtain ⟨p, l, e, R, s, m, args, below, meth, c, ⟨cells, slots⟩, Qf, D, cy, ad, A, d, Po⟩ := Γ
  intro C H locs ls hP hD hS hl
  exact lv_ldcw C.1 C.2.1 C.2.2.2.2.1 (C.2.2.2.2.2.1 _ hc) hd (k C H locs ls hP hD hS hl)
theorem zj_iload {i : Nat} {x : Int32} (hd : decode mi.2.1 pc = .ok (.iload i, 2)) (hx : L[i]? = some (some (.inl x))) (k : z_J Γ mi (pc + 2) L (.inl x :: S) σ) : z_J Γ mi pc L S σ := by
  obtain ⟨p, l, e, R, s, m, args, below, meth, c, ⟨cells, slots⟩, Qf, D, cy, ad, A, d, Po⟩ := Γ
  intro C H locs ls hP hD hS hl
  exact lv_iload C.1 C.2.1 hd (hl.2.2.2 _ _ hx) (k C H locs ls hP hD hS hl)
theorem zj_iload_n {i : Fin 4} {x : Int32} (hd : decode mi.2.1 pc = .ok (.iload_n i, 1)) (hx : L[(i : Nat)]? = some (some (.inl x))) (k : z_J Γ mi (pc + 1) L (.inl x :: S) σ) : z_J Γ mi pc L S σ := by
  obtain ⟨p, l, e, R, s, m, args, below, meth, c, ⟨cells, slots⟩, Qf, D, cy, ad, A, d, Po⟩ := Γ
  intro C H locs ls hP hD hS hl
  exact lv_iload_n C.1 C.2.1 hd rfl (hl.2.2.2 _ _ hx) (k C H locs ls hP hD hS hl)
theorem zj_aload {i : Nat} {x : Nat} (hd : decode mi.2.1 pc = .ok (.aload i, 2)) (hx : L[i]? = some (some (.inr x))) (k : z_J Γ mi (pc + 2) L (.inr x :: S) σ) : z_J Γ mi pc L S σ := by
  obtain ⟨p, l, e, R, s, m, args, below, meth, c, ⟨cells, slots⟩, Qf, D, cy, ad, A, d, Po⟩ := Γ
  intro C H locs ls hP hD hS hl
  exact lv_aload C.1 C.2.1 hd (hl.2.2.2 _ _ hx) (k C H locs ls hP hD hS hl)
theorem zj_aload_n {i : Fin 4} {x : Nat} (hd : decode mi.2.1 pc = .ok (.aload_n i, 1)) (hx : L[(i : Nat)]? = some (some (.inr x))) (k : z_J Γ mi (pc + 1) L (.inr x :: S) σ) : z_J Γ mi pc L S σ := by
  obtain ⟨p, l, e, R, s, m, args, below, meth, c, ⟨cells, slots⟩, Qf, D, cy, ad, A, d, Po⟩ := Γ
  intro C H locs ls hP hD hS hl
  exact lv_aload_n C.1 C.2.1 hd rfl (hl.2.2.2 _ _ hx) (k C H locs ls hP hD hS hl)
theorem zj_istore {i : Nat} {x : Int32} {L' : List (Option zV)} (hd : decode mi.2.1 pc = .ok (.istore i, 2)) (hi : i < mi.2.2.1) (hL : L.set i (some (.inl x)) = L') (k : z_J Γ mi (pc + 2) L' S σ) : z_J Γ mi pc L (.inl x :: S) σ := by
  obtain ⟨p, l, e, R, s, m, args, below, meth, c, ⟨cells, slots⟩, Qf, D, cy, ad, A, d, Po⟩ := Γ
  intro C H locs ls hP hD hS hl
  subst hL
  exact lv_istore C.1 C.2.1 hd hl.has hi rfl (fun ls' h => k C H locs ls' hP hD hS (z_lk.put (w := .inl x) hl.2.2.1 h))
theorem zj_istore_n {i : Fin 4} {x : Int32} {L' : List (Option zV)} (hd : decode mi.2.1 pc = .ok (.istore_n i, 1)) (hi : (i : Nat) < mi.2.2.1) (hL : L.set (i : Nat) (some (.inl x)) = L') (k : z_J Γ mi (pc + 1) L' S σ) : z_J Γ mi pc L (.inl x :: S) σ := by
  obtain ⟨p, l, e, R, s, m, args, below, meth, c, ⟨cells, slots⟩, Qf, D, cy, ad, A, d, Po⟩ := Γ
  intro C H locs ls hP hD hS hl
  subst hL
  exact lv_istore_n C.1 C.2.1 hd rfl hl.has hi rfl (fun ls' h => k C H locs ls' hP hD hS (z_lk.put (w := .inl x) hl.2.2.1 h))
theorem zj_astore {i : Nat} {x : Nat} {L' : List (Option zV)} (hd : decode mi.2.1 pc = .ok (.astore i, 2)) (hi : i < mi.2.2.1) (hL : L.set i (some (.inr x)) = L') (k : z_J Γ mi (pc + 2) L' S σ) : z_J Γ mi pc L (.inr x :: S) σ := by
  obtain ⟨p, l, e, R, s, m, args, below, meth, c, ⟨cells, slots⟩, Qf, D, cy, ad, A, d, Po⟩ := Γ
  intro C H locs ls hP hD hS hl
  subst hL
  exact lv_astore C.1 C.2.1 hd hl.has hi rfl (fun ls' h => k C H locs ls' hP hD hS (z_lk.put (w := .inr x) hl.2.2.1 h))
theorem zj_astore_n {i : Fin 4} {x : Nat} {L' : List (Option zV)} (hd : decode mi.2.1 pc = .ok (.astore_n i, 1)) (hi : (i : Nat) < mi.2.2.1) (hL : L.set (i : Nat) (some (.inr x)) = L') (k : z_J Γ mi (pc + 1) L' S σ) : z_J Γ mi pc L (.inr x :: S) σ := by
  obtain ⟨p, l, e, R, s, m, args, below, meth, c, ⟨cells, slots⟩, Qf, D, cy, ad, A, d, Po⟩ := Γ
  intro C H locs ls hP hD hS hl
  subst hL
  exact lv_astore_n C.1 C.2.1 hd rfl hl.has hi rfl (fun ls' h => k C H locs ls' hP hD hS (z_lk.put (w := .inr x) hl.2.2.1 h))
theorem zj_iinc {i : Nat} {n : Int} {x v : Int32} {L' : List (Option zV)} (hd : decode mi.2.1 pc = .ok (.iinc i n, 3)) (hx : L[i]? = some (some (.inl x))) (hv : Int32.ofInt n = v) (hi : i < mi.2.2.1) (hL : L.set i (some (.inl (x + v))) = L') (k : z_J Γ mi (pc + 3) L' S σ) : z_J Γ mi pc L S σ := by
  obtain ⟨p, l, e, R, s, m, args, below, meth, c, ⟨cells, slots⟩, Qf, D, cy, ad, A, d, Po⟩ := Γ
  intro C H locs ls hP hD hS hl
  subst hL
  subst hv
  obtain ⟨j, hj, hjv⟩ := List.mem_iff_getElem.mp (z_lv_mem.mpr ⟨_, hx, rfl⟩ : (i, z_en ad (.inl x)) ∈ z_lv ad L)
  exact lv_iinc C.1 C.2.1 hd hl.has (k := j) (by rw [List.getElem?_eq_getElem hj, hjv]; rfl) rfl hi rfl (fun ls' h => k C H locs ls' hP hD hS (z_lk.put (w := .inl (x + Int32.ofInt n)) hl.2.2.1 h))
theorem zj_iadd {x y : Int32} (hd : decode mi.2.1 pc = .ok (.iadd, 1)) (k : z_J Γ mi (pc + 1) L (.inl (x + y) :: S) σ) : z_J Γ mi pc L (.inl y :: .inl x :: S) σ := by
  obtain ⟨p, l, e, R, s, m, args, below, meth, c, ⟨cells, slots⟩, Qf, D, cy, ad, A, d, Po⟩ := Γ
  intro C H locs ls hP hD hS hl
  exact lv_iadd C.1 C.2.1 hd (k C H locs ls hP hD hS hl)
theorem zj_isub {x y : Int32} (hd : decode mi.2.1 pc = .ok (.isub, 1)) (k : z_J Γ mi (pc + 1) L (.inl (x - y) :: S) σ) : z_J Γ mi pc L (.inl y :: .inl x :: S) σ := by
  obtain ⟨p, l, e, R, s, m, args, below, meth, c, ⟨cells, slots⟩, Qf, D, cy, ad, A, d, Po⟩ := Γ
  intro C H locs ls hP hD hS hl
  exact lv_isub C.1 C.2.1 hd (k C H locs ls hP hD hS hl)
theorem zj_imul {x y : Int32} (hd : decode mi.2.1 pc = .ok (.imul, 1)) (k : z_J Γ mi (pc + 1) L (.inl (x * y) :: S) σ) : z_J Γ mi pc L (.inl y :: .inl x :: S) σ := by
  obtain ⟨p, l, e, R, s, m, args, below, meth, c, ⟨cells, slots⟩, Qf, D, cy, ad, A, d, Po⟩ := Γ
  intro C H locs ls hP hD hS hl
  exact lv_imul C.1 C.2.1 hd (k C H locs ls hP hD hS hl)
theorem zj_idiv {x y : Int32} (hd : decode mi.2.1 pc = .ok (.idiv, 1)) (h0 : ¬ y = 0) (k : z_J Γ mi (pc + 1) L (.inl (x / y) :: S) σ) : z_J Γ mi pc L (.inl y :: .inl x :: S) σ := by
  obtain ⟨p, l, e, R, s, m, args, below, meth, c, ⟨cells, slots⟩, Qf, D, cy, ad, A, d, Po⟩ := Γ
  intro C H locs ls hP hD hS hl
  exact lv_idiv C.1 C.2.1 hd h0 (k C H locs ls hP hD hS hl)
theorem zj_irem {x y : Int32} (hd : decode mi.2.1 pc = .ok (.irem, 1)) (h0 : ¬ y = 0) (k : z_J Γ mi (pc + 1) L (.inl (x - x / y * y) :: S) σ) : z_J Γ mi pc L (.inl y :: .inl x :: S) σ := by
  obtain ⟨p, l, e, R, s, m, args, below, meth, c, ⟨cells, slots⟩, Qf, D, cy, ad, A, d, Po⟩ := Γ
  intro C H locs ls hP hD hS hl
  exact lv_irem C.1 C.2.1 hd h0 (k C H locs ls hP hD hS hl)
theorem zj_ineg {x : Int32} (hd : decode mi.2.1 pc = .ok (.ineg, 1)) (k : z_J Γ mi (pc + 1) L (.inl (-x) :: S) σ) : z_J Γ mi pc L (.inl x :: S) σ := by
  obtain ⟨p, l, e, R, s, m, args, below, meth, c, ⟨cells, slots⟩, Qf, D, cy, ad, A, d, Po⟩ := Γ
  intro C H locs ls hP hD hS hl
  exact lv_ineg C.1 C.2.1 hd (k C H locs ls hP hD hS hl)
theorem zj_iand {x y : Int32} (hd : decode mi.2.1 pc = .ok (.iand, 1)) (k : z_J Γ mi (pc + 1) L (.inl (x &&& y) :: S) σ) : z_J Γ mi pc L (.inl y :: .inl x :: S) σ := by
  obtain ⟨p, l, e, R, s, m, args, below, meth, c, ⟨cells, slots⟩, Qf, D, cy, ad, A, d, Po⟩ := Γ
  intro C H locs ls hP hD hS hl
  exact lv_iand C.1 C.2.1 hd (k C H locs ls hP hD hS hl)
theorem zj_ior {x y : Int32} (hd : decode mi.2.1 pc = .ok (.ior, 1)) (k : z_J Γ mi (pc + 1) L (.inl (x ||| y) :: S) σ) : z_J Γ mi pc L (.inl y :: .inl x :: S) σ := by
  obtain ⟨p, l, e, R, s, m, args, below, meth, c, ⟨cells, slots⟩, Qf, D, cy, ad, A, d, Po⟩ := Γ
  intro C H locs ls hP hD hS hl
  exact lv_ior C.1 C.2.1 hd (k C H locs ls hP hD hS hl)
theorem zj_ixor {x y : Int32} (hd : decode mi.2.1 pc = .ok (.ixor, 1)) (k : z_J Γ mi (pc + 1) L (.inl (x ^^^ y) :: S) σ) : z_J Γ mi pc L (.inl y :: .inl x :: S) σ := by
  obtain ⟨p, l, e, R, s, m, args, below, meth, c, ⟨cells, slots⟩, Qf, D, cy, ad, A, d, Po⟩ := Γ
  intro C H locs ls hP hD hS hl
  exact lv_ixor C.1 C.2.1 hd (k C H locs ls hP hD hS hl)
theorem zj_ishl {x y : Int32} (hd : decode mi.2.1 pc = .ok (.ishl, 1)) (k : z_J Γ mi (pc + 1) L (.inl (x <<< (y &&& 31)) :: S) σ) : z_J Γ mi pc L (.inl y :: .inl x :: S) σ := by
  obtain ⟨p, l, e, R, s, m, args, below, meth, c, ⟨cells, slots⟩, Qf, D, cy, ad, A, d, Po⟩ := Γ
  intro C H locs ls hP hD hS hl
  exact lv_ishl C.1 C.2.1 hd (k C H locs ls hP hD hS hl)
theorem zj_ishr {x y : Int32} (hd : decode mi.2.1 pc = .ok (.ishr, 1)) (k : z_J Γ mi (pc + 1) L (.inl (x >>> (y &&& 31)) :: S) σ) : z_J Γ mi pc L (.inl y :: .inl x :: S) σ := by
  obtain ⟨p, l, e, R, s, m, args, below, meth, c, ⟨cells, slots⟩, Qf, D, cy, ad, A, d, Po⟩ := Γ
  intro C H locs ls hP hD hS hl
  exact lv_ishr C.1 C.2.1 hd (k C H locs ls hP hD hS hl)
def z_ushr (x y : Int32) : Int32 := (x.toUInt32 >>> (y.toUInt32 &&& Int32.toUInt32 31)).toInt32
theorem zj_iushr {x y : Int32} (hd : decode mi.2.1 pc = .ok (.iushr, 1)) (k : z_J Γ mi (pc + 1) L (.inl (z_ushr x y) :: S) σ) : z_J Γ mi pc L (.inl y :: .inl x :: S) σ := by
  obtain ⟨p, l, e, R, s, m, args, below, meth, c, ⟨cells, slots⟩, Qf, D, cy, ad, A, d, Po⟩ := Γ
  intro C H locs ls hP hD hS hl
  exact lv_iushr C.1 C.2.1 hd rfl (k C H locs ls hP hD hS hl)
theorem zj_i2b {x : Int32} (hd : decode mi.2.1 pc = .ok (.i2b, 1)) (k : z_J Γ mi (pc + 1) L (.inl x.toInt8.toInt32 :: S) σ) : z_J Γ mi pc L (.inl x :: S) σ := by
  obtain ⟨p, l, e, R, s, m, args, below, meth, c, ⟨cells, slots⟩, Qf, D, cy, ad, A, d, Po⟩ := Γ
  intro C H locs ls hP hD hS hl
  exact lv_i2b C.1 C.2.1 hd rfl (k C H locs ls hP hD hS hl)
theorem zj_i2s {x : Int32} (hd : decode mi.2.1 pc = .ok (.i2s, 1)) (k : z_J Γ mi (pc + 1) L (.inl x.toInt16.toInt32 :: S) σ) : z_J Γ mi pc L (.inl x :: S) σ := by
  obtain ⟨p, l, e, R, s, m, args, below, meth, c, ⟨cells, slots⟩, Qf, D, cy, ad, A, d, Po⟩ := Γ
  intro C H locs ls hP hD hS hl
  exact lv_i2s C.1 C.2.1 hd rfl (k C H locs ls hP hD hS hl)
theorem zj_i2c {x : Int32} (hd : decode mi.2.1 pc = .ok (.i2c, 1)) (k : z_J Γ mi (pc + 1) L (.inl (x.toUInt32 % 65536).toInt32 :: S) σ) : z_J Γ mi pc L (.inl x :: S) σ := by
  obtain ⟨p, l, e, R, s, m, args, below, meth, c, ⟨cells, slots⟩, Qf, D, cy, ad, A, d, Po⟩ := Γ
  intro C H locs ls hP hD hS hl
  exact lv_i2c C.1 C.2.1 hd rfl (k C H locs ls hP hD hS hl)
theorem zj_dup {v : zV} (hd : decode mi.2.1 pc = .ok (.dup, 1)) (k : z_J Γ mi (pc + 1) L (v :: v :: S) σ) : z_J Γ mi pc L (v :: S) σ := by
  obtain ⟨p, l, e, R, s, m, args, below, meth, c, ⟨cells, slots⟩, Qf, D, cy, ad, A, d, Po⟩ := Γ
  intro C H locs ls hP hD hS hl
  exact lv_dup C.1 C.2.1 hd (z_en_cat ad v) (k C H locs ls hP hD hS hl)
theorem zj_dup_x1 {v w : zV} (hd : decode mi.2.1 pc = .ok (.dup_x1, 1)) (k : z_J Γ mi (pc + 1) L (v :: w :: v :: S) σ) : z_J Γ mi pc L (v :: w :: S) σ := by
  obtain ⟨p, l, e, R, s, m, args, below, meth, c, ⟨cells, slots⟩, Qf, D, cy, ad, A, d, Po⟩ := Γ
  intro C H locs ls hP hD hS hl
  exact lv_dup_x1 C.1 C.2.1 hd (z_en_cat ad v) (z_en_cat ad w) (k C H locs ls hP hD hS hl)
theorem zj_dup2 {v w : zV} (hd : decode mi.2.1 pc = .ok (.dup2, 1)) (k : z_J Γ mi (pc + 1) L (v :: w :: v :: w :: S) σ) : z_J Γ mi pc L (v :: w :: S) σ := by
  obtain ⟨p, l, e, R, s, m, args, below, meth, c, ⟨cells, slots⟩, Qf, D, cy, ad, A, d, Po⟩ := Γ
  intro C H locs ls hP hD hS hl
  exact lv_dup2_11 C.1 C.2.1 hd (z_en_cat ad v) (z_en_cat ad w) (k C H locs ls hP hD hS hl)
theorem zj_pop {v : zV} (hd : decode mi.2.1 pc = .ok (.pop, 1)) (k : z_J Γ mi (pc + 1) L S σ) : z_J Γ mi pc L (v :: S) σ := by
  obtain ⟨p, l, e, R, s, m, args, below, meth, c, ⟨cells, slots⟩, Qf, D, cy, ad, A, d, Po⟩ := Γ
  intro C H locs ls hP hD hS hl
  exact lv_pop C.1 C.2.1 hd (z_en_cat ad v) (k C H locs ls hP hD hS hl)
theorem zj_goto {off : Int} {tgt : Nat} (hd : decode mi.2.1 pc = .ok (.goto off, 3)) (ht : (pc : Int) + off = (tgt : Int)) (k : z_J Γ mi tgt L S σ) : z_J Γ mi pc L S σ := by
  obtain ⟨p, l, e, R, s, m, args, below, meth, c, ⟨cells, slots⟩, Qf, D, cy, ad, A, d, Po⟩ := Γ
  intro C H locs ls hP hD hS hl
  exact lv_goto C.1 C.2.1 hd ht (k C H locs ls hP hD hS hl)
end
section
variable {Γ : zG} {mi : zM} {pc : Nat} {L : List (Option zV)} {S : List zV} {σ : zS}
theorem zj_if_eq {x : Int32} {off : Int} {tgt : Nat} (hd : decode mi.2.1 pc = .ok (.ifCond .eq off, 3)) (ht : (pc : Int) + off = (tgt : Int)) (kt : x = 0 → z_J Γ mi tgt L S σ) (kf : ¬ (x = 0) → z_J Γ mi (pc + 3) L S σ) : z_J Γ mi pc L (.inl x :: S) σ := by
  obtain ⟨p, l, e, R, s, m, args, below, meth, c, ⟨cells, slots⟩, Qf, D, cy, ad, A, d, Po⟩ := Γ
  intro C H locs ls hP hD hS hl
  exact lv_if_eq C.1 C.2.1 hd ht (fun h => kt h C H locs ls hP hD hS hl) (fun h => kf h C H locs ls hP hD hS hl)
theorem zj_icmp_eq {x y : Int32} {off : Int} {tgt : Nat} (hd : decode mi.2.1 pc = .ok (.if_icmp .eq off, 3)) (ht : (pc : Int) + off = (tgt : Int)) (kt : x = y → z_J Γ mi tgt L S σ) (kf : ¬ (x = y) → z_J Γ mi (pc + 3) L S σ) : z_J Γ mi pc L (.inl y :: .inl x :: S) σ := by
  obtain ⟨p, l, e, R, s, m, args, below, meth, c, ⟨cells, slots⟩, Qf, D, cy, ad, A, d, Po⟩ := Γ
  intro C H locs ls hP hD hS hl
  exact lv_icmp_eq C.1 C.2.1 hd ht (fun h => kt h C H locs ls hP hD hS hl) (fun h => kf h C H locs ls hP hD hS hl)
theorem zj_if_ne {x : Int32} {off : Int} {tgt : Nat} (hd : decode mi.2.1 pc = .ok (.ifCond .ne off, 3)) (ht : (pc : Int) + off = (tgt : Int)) (kt : ¬ x = 0 → z_J Γ mi tgt L S σ) (kf : x = 0 → z_J Γ mi (pc + 3) L S σ) : z_J Γ mi pc L (.inl x :: S) σ := by
  obtain ⟨p, l, e, R, s, m, args, below, meth, c, ⟨cells, slots⟩, Qf, D, cy, ad, A, d, Po⟩ := Γ
  intro C H locs ls hP hD hS hl
  exact lv_if_ne C.1 C.2.1 hd ht (fun h => kt h C H locs ls hP hD hS hl) (fun h => kf h C H locs ls hP hD hS hl)
theorem zj_icmp_ne {x y : Int32} {off : Int} {tgt : Nat} (hd : decode mi.2.1 pc = .ok (.if_icmp .ne off, 3)) (ht : (pc : Int) + off = (tgt : Int)) (kt : ¬ x = y → z_J Γ mi tgt L S σ) (kf : x = y → z_J Γ mi (pc + 3) L S σ) : z_J Γ mi pc L (.inl y :: .inl x :: S) σ := by
  obtain ⟨p, l, e, R, s, m, args, below, meth, c, ⟨cells, slots⟩, Qf, D, cy, ad, A, d, Po⟩ := Γ
  intro C H locs ls hP hD hS hl
  exact lv_icmp_ne C.1 C.2.1 hd ht (fun h => kt h C H locs ls hP hD hS hl) (fun h => kf h C H locs ls hP hD hS hl)
theorem zj_if_lt {x : Int32} {off : Int} {tgt : Nat} (hd : decode mi.2.1 pc = .ok (.ifCond .lt off, 3)) (ht : (pc : Int) + off = (tgt : Int)) (kt : x < 0 → z_J Γ mi tgt L S σ) (kf : ¬ (x < 0) → z_J Γ mi (pc + 3) L S σ) : z_J Γ mi pc L (.inl x :: S) σ := by
  obtain ⟨p, l, e, R, s, m, args, below, meth, c, ⟨cells, slots⟩, Qf, D, cy, ad, A, d, Po⟩ := Γ
  intro C H locs ls hP hD hS hl
  exact lv_if_lt C.1 C.2.1 hd ht (fun h => kt h C H locs ls hP hD hS hl) (fun h => kf h C H locs ls hP hD hS hl)
theorem zj_icmp_lt {x y : Int32} {off : Int} {tgt : Nat} (hd : decode mi.2.1 pc = .ok (.if_icmp .lt off, 3)) (ht : (pc : Int) + off = (tgt : Int)) (kt : x < y → z_J Γ mi tgt L S σ) (kf : ¬ (x < y) → z_J Γ mi (pc + 3) L S σ) : z_J Γ mi pc L (.inl y :: .inl x :: S) σ := by
  obtain ⟨p, l, e, R, s, m, args, below, meth, c, ⟨cells, slots⟩, Qf, D, cy, ad, A, d, Po⟩ := Γ
  intro C H locs ls hP hD hS hl
  exact lv_icmp_lt C.1 C.2.1 hd ht (fun h => kt h C H locs ls hP hD hS hl) (fun h => kf h C H locs ls hP hD hS hl)
theorem zj_if_ge {x : Int32} {off : Int} {tgt : Nat} (hd : decode mi.2.1 pc = .ok (.ifCond .ge off, 3)) (ht : (pc : Int) + off = (tgt : Int)) (kt : 0 ≤ x → z_J Γ mi tgt L S σ) (kf : ¬ (0 ≤ x) → z_J Γ mi (pc + 3) L S σ) : z_J Γ mi pc L (.inl x :: S) σ := by
  obtain ⟨p, l, e, R, s, m, args, below, meth, c, ⟨cells, slots⟩, Qf, D, cy, ad, A, d, Po⟩ := Γ
  intro C H locs ls hP hD hS hl
  exact lv_if_ge C.1 C.2.1 hd ht (fun h => kt h C H locs ls hP hD hS hl) (fun h => kf h C H locs ls hP hD hS hl)
theorem zj_icmp_ge {x y : Int32} {off : Int} {tgt : Nat} (hd : decode mi.2.1 pc = .ok (.if_icmp .ge off, 3)) (ht : (pc : Int) + off = (tgt : Int)) (kt : y ≤ x → z_J Γ mi tgt L S σ) (kf : ¬ (y ≤ x) → z_J Γ mi (pc + 3) L S σ) : z_J Γ mi pc L (.inl y :: .inl x :: S) σ := by
  obtain ⟨p, l, e, R, s, m, args, below, meth, c, ⟨cells, slots⟩, Qf, D, cy, ad, A, d, Po⟩ := Γ
  intro C H locs ls hP hD hS hl
  exact lv_icmp_ge C.1 C.2.1 hd ht (fun h => kt h C H locs ls hP hD hS hl) (fun h => kf h C H locs ls hP hD hS hl)
theorem zj_if_gt {x : Int32} {off : Int} {tgt : Nat} (hd : decode mi.2.1 pc = .ok (.ifCond .gt off, 3)) (ht : (pc : Int) + off = (tgt : Int)) (kt : 0 < x → z_J Γ mi tgt L S σ) (kf : ¬ (0 < x) → z_J Γ mi (pc + 3) L S σ) : z_J Γ mi pc L (.inl x :: S) σ := by
  obtain ⟨p, l, e, R, s, m, args, below, meth, c, ⟨cells, slots⟩, Qf, D, cy, ad, A, d, Po⟩ := Γ
  intro C H locs ls hP hD hS hl
  exact lv_if_gt C.1 C.2.1 hd ht (fun h => kt h C H locs ls hP hD hS hl) (fun h => kf h C H locs ls hP hD hS hl)
theorem zj_icmp_gt {x y : Int32} {off : Int} {tgt : Nat} (hd : decode mi.2.1 pc = .ok (.if_icmp .gt off, 3)) (ht : (pc : Int) + off = (tgt : Int)) (kt : y < x → z_J Γ mi tgt L S σ) (kf : ¬ (y < x) → z_J Γ mi (pc + 3) L S σ) : z_J Γ mi pc L (.inl y :: .inl x :: S) σ := by
  obtain ⟨p, l, e, R, s, m, args, below, meth, c, ⟨cells, slots⟩, Qf, D, cy, ad, A, d, Po⟩ := Γ
  intro C H locs ls hP hD hS hl
  exact lv_icmp_gt C.1 C.2.1 hd ht (fun h => kt h C H locs ls hP hD hS hl) (fun h => kf h C H locs ls hP hD hS hl)
theorem zj_if_le {x : Int32} {off : Int} {tgt : Nat} (hd : decode mi.2.1 pc = .ok (.ifCond .le off, 3)) (ht : (pc : Int) + off = (tgt : Int)) (kt : x ≤ 0 → z_J Γ mi tgt L S σ) (kf : ¬ (x ≤ 0) → z_J Γ mi (pc + 3) L S σ) : z_J Γ mi pc L (.inl x :: S) σ := by
  obtain ⟨p, l, e, R, s, m, args, below, meth, c, ⟨cells, slots⟩, Qf, D, cy, ad, A, d, Po⟩ := Γ
  intro C H locs ls hP hD hS hl
  exact lv_if_le C.1 C.2.1 hd ht (fun h => kt h C H locs ls hP hD hS hl) (fun h => kf h C H locs ls hP hD hS hl)
theorem zj_icmp_le {x y : Int32} {off : Int} {tgt : Nat} (hd : decode mi.2.1 pc = .ok (.if_icmp .le off, 3)) (ht : (pc : Int) + off = (tgt : Int)) (kt : x ≤ y → z_J Γ mi tgt L S σ) (kf : ¬ (x ≤ y) → z_J Γ mi (pc + 3) L S σ) : z_J Γ mi pc L (.inl y :: .inl x :: S) σ := by
  obtain ⟨p, l, e, R, s, m, args, below, meth, c, ⟨cells, slots⟩, Qf, D, cy, ad, A, d, Po⟩ := Γ
  intro C H locs ls hP hD hS hl
  exact lv_icmp_le C.1 C.2.1 hd ht (fun h => kt h C H locs ls hP hD hS hl) (fun h => kf h C H locs ls hP hD hS hl)
end
