section
variable {Γ : zG} {mi : zM} {pc : Nat} {L : List (Option zV)} {S : List zV} {σ : zS}
def z_max (x y : Int32) : Int32 := if x < y then y else x
def z_min (x y : Int32) : Int32 := if y < x then y else x
theorem zj_mmax {idx : Nat} {x y : Int32} (hml : Cond.methodLink mi.1.cls idx Lib.Math.max.name ∈ zTB) (hs : Cond.static Lib.Math.max.name ∈ zTB) (hin : Cond.initialized "java/lang/Math" ∈ zTB) (hco : Cond.code Lib.Math.max.name Lib.Math.max.code 2 (some .int) ∈ zTB) (hdp : 0 < z_dep Γ) (hS8 : S.length ≤ 8) (hd : decode mi.2.1 pc = .ok (.invokestatic idx, 3)) (kk : z_J Γ mi (pc + 3) L (.inl (z_max x y) :: S) σ) : z_J Γ mi pc L (.inl y :: .inl x :: S) σ := by
  obtain ⟨p, l, e, R, s, m, args, below, meth, c', ⟨cells, slots⟩, Qf, D, cy, ad, A, d, Po⟩ := Γ
  intro C H locs ls hP hD hS hls
  have hdp : 0 < d := hdp
  obtain ⟨hR1, hR2, hR3, hR4⟩ := C.2.2.2.2.2.2.2.1
  exact va_mmax C.1 C.2.1 (by rw [C.2.2.2.1]; exact hls.1.symm) C.2.2.2.2.1 (C.2.2.2.2.2.1 _ hml) (C.2.2.2.2.2.1 _ hs) (C.2.2.2.2.2.1 _ hin) (C.2.2.2.2.2.1 _ hco) (by omega) (by rw [z_cat]; omega) hR3 hR4 hd (kk C H locs ls hP hD hS hls)
theorem zj_mmin {idx : Nat} {x y : Int32} (hml : Cond.methodLink mi.1.cls idx Lib.Math.min.name ∈ zTB) (hs : Cond.static Lib.Math.min.name ∈ zTB) (hin : Cond.initialized "java/lang/Math" ∈ zTB) (hco : Cond.code Lib.Math.min.name Lib.Math.min.code 2 (some .int) ∈ zTB) (hdp : 0 < z_dep Γ) (hS8 : S.length ≤ 8) (hd : decode mi.2.1 pc = .ok (.invokestatic idx, 3)) (kk : z_J Γ mi (pc + 3) L (.inl (z_min x y) :: S) σ) : z_J Γ mi pc L (.inl y :: .inl x :: S) σ := by
  obtain ⟨p, l, e, R, s, m, args, below, meth, c', ⟨cells, slots⟩, Qf, D, cy, ad, A, d, Po⟩ := Γ
  intro C H locs ls hP hD hS hls
  have hdp : 0 < d := hdp
  obtain ⟨hR1, hR2, hR3, hR4⟩ := C.2.2.2.2.2.2.2.1
  exact va_mmin C.1 C.2.1 (by rw [C.2.2.2.1]; exact hls.1.symm) C.2.2.2.2.1 (C.2.2.2.2.2.1 _ hml) (C.2.2.2.2.2.1 _ hs) (C.2.2.2.2.2.1 _ hin) (C.2.2.2.2.2.1 _ hco) (by omega) (by rw [z_cat]; omega) hR3 hR4 hd (kk C H locs ls hP hD hS hls)
theorem zj_acopy {idx a a0 n0 n1 i j k : Nat} {sp dp nn : Int32} (hml : Cond.methodLink mi.1.cls idx arraycopyName ∈ zTB) (hna : Cond.native arraycopyName ∈ zTB) (hs : Cond.static arraycopyName ∈ zTB) (hin : Cond.initialized "java/lang/System" ∈ zTB) (hk0 : z_kd a0 = (11, n0)) (hk1 : z_kd a = (11, n1)) (hn0 : n0 < 2 ^ 31) (hn1 : n1 < 2 ^ 31) (h1 : sp = nI i) (h2 : dp = nI j) (h3 : nn = nI k) (h4 : i + k ≤ n0) (h5 : j + k ≤ n1) (hdp : 0 < z_dep Γ) (hS8 : S.length ≤ 8) (hd : decode mi.2.1 pc = .ok (.invokestatic idx, 3)) (kk : z_J Γ mi (pc + 3) L S (z_pA σ a (va_cpy (σ.1 a0) (σ.1 a) i j k))) : z_J Γ mi pc L (.inl nn :: .inl dp :: .inr a :: .inl sp :: .inr a0 :: S) σ := by
  obtain ⟨p, l, e, R, s, m, args, below, meth, c', ⟨cells, slots⟩, Qf, D, cy, ad, A, d, Po⟩ := Γ
  intro C H locs ls hP hD hS hls
  have hdp : 0 < d := hdp
  obtain ⟨hR1, hR2, hR3, hR4⟩ := C.2.2.2.2.2.2.2.1
  subst h1 h2 h3
  have e1 : (nI i).toNatClampNeg = i := nI_clamp (by omega)
  have e2 : (nI j).toNatClampNeg = j := nI_clamp (by omega)
  have e3 : (nI k).toNatClampNeg = k := nI_clamp (by omega)
  refine va_copyi (ty := .int) C.1 C.2.1 (by rw [C.2.2.2.1]; exact hls.1.symm) C.2.2.2.2.1 (C.2.2.2.2.2.1 _ hml) (C.2.2.2.2.2.1 _ hna) (C.2.2.2.2.2.1 _ hs) (C.2.2.2.2.2.1 _ hin) C.2.2.2.2.2.2.2.2.1 hP hD hS a0 a 2 2 (z_w_ar hk0 (by decide) (by decide)) (z_w_ar hk1 (by decide) (by decide)) rfl rfl rfl (nI_pos (by omega)) (nI_pos (by omega)) (nI_pos (by omega)) (by rw [e1, e3]; exact h4) (by rw [e2, e3]; exact h5) (fun _ _ => rfl) (by omega) ?_ hd (fun H1 locs1 hP1 hD1 hS1 => ?_)
  · rw [z_cat]
    have : nativeFrameWords "java/lang/System" "arraycopy" 5 = 7 := by decide
    omega
  · rw [e1, e2, e3, z_set_A hk1 (by decide) (by decide)] at hP1 hD1
    exact kk C H1 locs1 ls hP1 hD1 hS1 hls
theorem zj_tblIn {dflt lo hi : Int} {offs : Array Int} {len : Nat} {x : Int32} {off : Int} {tgt : Nat} (hd : decode mi.2.1 pc = .ok (.tableswitch dflt lo hi offs, len)) (h1 : ¬ x.toInt < lo) (h2 : ¬ hi < x.toInt) (ho : offs[(x.toInt - lo).toNat]? = some off) (ht : (pc : Int) + off = (tgt : Int)) (k : z_J Γ mi tgt L S σ) : z_J Γ mi pc L (.inl x :: S) σ := by
  obtain ⟨p, l, e, R, s, m, args, below, meth, c', ⟨cells, slots⟩, Qf, D, cy, ad, A, d, Po⟩ := Γ
  intro C H locs ls hP hD hS hls
  exact lv_tableIn C.1 C.2.1 hd h1 h2 ho ht (k C H locs ls hP hD hS hls)
theorem zj_tblOut {dflt lo hi : Int} {offs : Array Int} {len : Nat} {x : Int32} {tgt : Nat} (hd : decode mi.2.1 pc = .ok (.tableswitch dflt lo hi offs, len)) (h : x.toInt < lo ∨ hi < x.toInt) (ht : (pc : Int) + dflt = (tgt : Int)) (k : z_J Γ mi tgt L S σ) : z_J Γ mi pc L (.inl x :: S) σ := by
  obtain ⟨p, l, e, R, s, m, args, below, meth, c', ⟨cells, slots⟩, Qf, D, cy, ad, A, d, Po⟩ := Γ
  intro C H locs ls hP hD hS hls
  exact lv_tableOut C.1 C.2.1 hd h ht (k C H locs ls hP hD hS hls)
theorem zj_look {dflt : Int} {ps : Array (Int × Int)} {len : Nat} {x : Int32} {off : Int} {tgt : Nat} (hd : decode mi.2.1 pc = .ok (.lookupswitch dflt ps, len)) (hp : (ps.toList.zip (ps.toList.drop 1)).all (fun (a, next) => a.1 < next.1) = true) (ho : Op.lookupswitch.offset ps.toList dflt x.toInt = off) (ht : (pc : Int) + off = (tgt : Int)) (k : z_J Γ mi tgt L S σ) : z_J Γ mi pc L (.inl x :: S) σ := by
  obtain ⟨p, l, e, R, s, m, args, below, meth, c', ⟨cells, slots⟩, Qf, D, cy, ad, A, d, Po⟩ := Γ
  intro C H locs ls hP hD hS hls
  exact lv_lookup C.1 C.2.1 hd hp ho ht (k C H locs ls hP hD hS hls)
/-- a counted loop: what stands at its head at each count -/
theorem zj_for {b : Nat} (F : Nat → List (Option zV)) (G : Nat → zS) (hs : ∀ i, i < b → z_J Γ mi pc (F (i + 1)) S (G (i + 1)) → z_J Γ mi pc (F i) S (G i)) (he : z_J Γ mi pc (F b) S (G b)) : ∀ i, i ≤ b → z_J Γ mi pc (F i) S (G i) := by
  intro i hi
  obtain ⟨j, rfl⟩ : ∃ j, b = i + j := ⟨b - i, by omega⟩
  induction j generalizing i with
  | zero => exact he
  | succ j ih =>
    refine hs i (by omega) ?_
    have e : i + (j + 1) = i + 1 + j := by omega
    rw [e] at hs he
    exact ih (i + 1) (fun k hk => hs k hk) he (by omega)
end
