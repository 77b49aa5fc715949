section
variable {p : Program} {l : Launch} {e : Env} {R : Room} {s : State} {m : MethodId} {args : Array Value} {below : List Frame} {meth : Method} {c : Code} {Qf : State → Prop} {D : va_G} {cy : Nat → ClassId} {h0 ci d : Nat} {mi : zM} {pc : Nat} {st fs : List Value} {ws : va_W} {N M : Nat}
theorem yj_newarr' {at_ : ArrayType} {ty : FieldType} {j t : Nat} {n N2 M2 pc2 : Nat} {ws2 : va_W} (C : yCx p l e R s m args meth c D cy h0 ci d mi) (hN : N + 1 = N2) (hM : M + n = M2) (hpc : pc + 2 = pc2) (hws : ws ++ [(s.heap.size + N, .inl (cy t, n, .inl (fun _ => 0)))] = ws2) (hty : newarray.typeOf at_ = ty) (hw : Cond.arrayClass ty ∈ zTB) (ht : (z_ty cy)[j]? = some (cy t, ty)) (hp : va_RA s (cy t) ty = (s.vm.findClass ("[" ++ ty.toString) = some (cy t))) (hdv : defaultValue ty = .int 0) (hcb : componentBytes ty ≤ 4) (hn : n < 10000) (hc : N2 ≤ R.cells) (hs : M2 ≤ R.slots) (hd : decode mi.2.1 pc = .ok (.newarray at_, 2))
    (k : yJ p l e R s m args below meth c Qf D h0 ci mi.2.2.1 pc2 (.ref (s.heap.size + N) :: st) fs ws2 N2 M2) : yJ p l e R s m args below meth c Qf D h0 ci mi.2.2.1 pc (.int (nI n) :: st) fs ws N M := by
  subst hN hM hws hpc
  exact yj_newarr C hty hw ht hp hdv hcb hn hc hs hd k
theorem yj_put' {n k0 idx pc2 : Nat} {v : Value} {fs2 : List Value} {T : u_T} {ty0 : Nat → FieldType} (C : yCx p l e R s m args meth c D cy h0 ci d mi) (hfs : fs.set k0 v = fs2) (hpc : pc + 3 = pc2) (hc : zC[ci]? = some (mi.1.cls, T, n)) (hu : ∀ w ∈ u_ws mi.1.cls T n, w ∈ zTB) (hty : ∀ k, k < n → parseFieldDescriptor (T k).2.2.1 = some (ty0 k)) (hnm : ∀ a, a < n → ∀ b, b < n → a ≠ b → (T a).2.1 ≠ (T b).2.1) (hk : k0 < n) (hfl : fs.length = n) (ho : (T k0).1 = mi.1.cls) (hl : Cond.fieldLink mi.1.cls idx (T k0).1 (T k0).2.1 (T k0).2.2.1 ∈ zTB) (hnr : narrow (ty0 k0) v = v) (hft : fits (ty0 k0) v = true) (hd : decode mi.2.1 pc = .ok (.putfield idx, 3))
    (k : yJ p l e R s m args below meth c Qf D h0 ci mi.2.2.1 pc2 st fs2 ws N M) : yJ p l e R s m args below meth c Qf D h0 ci mi.2.2.1 pc (v :: .ref h0 :: st) fs ws N M := by
  subst hfs hpc
  exact yj_put C hc hu hty hnm hk hfl ho hl hnr hft hd k
end
