/-- an index within, by its number -/
def z_ix (i : Int32) (n k : Nat) : Prop := i = nI k ∧ k < n
theorem z_ix.in {i : Int32} {n k : Nat} (h : z_ix i n k) (hn : n < 2 ^ 31) : vp_in i n := by rw [h.1]; exact vp_in_nI h.2 hn
theorem z_ix.cl {i : Int32} {n k : Nat} (h : z_ix i n k) (hn : n < 2 ^ 31) : i.toNatClampNeg = k := by rw [h.1]; exact nI_clamp (Nat.lt_trans h.2 hn)
section
variable {Γ : zG} {mi : zM} {pc : Nat} {L : List (Option zV)} {S : List zV} {σ : zS}
theorem zj_getI {o c n k idx : Nat} {Cn : String} {T : u_T} (hk : z_kd o = (c, n)) (hc9 : c < 9) (hc : zC[c]? = some (Cn, T, n)) (hu : ∀ w ∈ u_ws Cn T n, w ∈ zTB) (hn : k < n) (hf : z_fk c k = 0) (hl : Cond.fieldLink mi.1.cls idx (T k).1 (T k).2.1 (T k).2.2.1 ∈ zTB) (hd : decode mi.2.1 pc = .ok (.getfield idx, 3)) (kk : z_J Γ mi (pc + 3) L (.inl (σ.1 o k) :: S) σ) : z_J Γ mi pc L (.inr o :: S) σ := by
  obtain ⟨p, l, e, R, s, m, args, below, meth, c', ⟨cells, slots⟩, Qf, D, cy, ad, A, d, Po⟩ := Γ
  intro C H locs ls hP hD hS hls
  have hw : (z_ws cy ad σ)[o]? = some (ad o, .inr (c, (List.range n).map (fun k => z_fv ad σ o c k))) := by rw [z_at (z_lt hk (by omega)), z_ob hk hc9]
  exact va_get (v := .int (σ.1 o k)) C.1 C.2.1 C.2.2.2.2.2.1 hu C.2.2.2.2.1 C.2.2.2.2.2.2.2.2.1 hP o hw hc k hn (C.2.2.2.2.2.1 _ hl) (fun _ h => h) (by simp [hn, z_fv, hf]) hd (kk C H locs ls hP hD hS hls)
theorem zj_getR {o c n k idx : Nat} {Cn : String} {T : u_T} (hk : z_kd o = (c, n)) (hc9 : c < 9) (hc : zC[c]? = some (Cn, T, n)) (hu : ∀ w ∈ u_ws Cn T n, w ∈ zTB) (hn : k < n) (hf : z_fk c k = 1) (hl : Cond.fieldLink mi.1.cls idx (T k).1 (T k).2.1 (T k).2.2.1 ∈ zTB) (hd : decode mi.2.1 pc = .ok (.getfield idx, 3)) {o' : Nat} (ho : o + z_of c k = o') (kk : z_J Γ mi (pc + 3) L (.inr o' :: S) σ) : z_J Γ mi pc L (.inr o :: S) σ := by
  obtain ⟨p, l, e, R, s, m, args, below, meth, c', ⟨cells, slots⟩, Qf, D, cy, ad, A, d, Po⟩ := Γ
  intro C H locs ls hP hD hS hls
  subst ho
  have hw : (z_ws cy ad σ)[o]? = some (ad o, .inr (c, (List.range n).map (fun k => z_fv ad σ o c k))) := by rw [z_at (z_lt hk (by omega)), z_ob hk hc9]
  exact va_get (v := .ref (ad (o + z_of c k))) C.1 C.2.1 C.2.2.2.2.2.1 hu C.2.2.2.2.1 C.2.2.2.2.2.2.2.2.1 hP o hw hc k hn (C.2.2.2.2.2.1 _ hl) (fun _ h => h) (by simp [hn, z_fv, hf]) hd (kk C H locs ls hP hD hS hls)
theorem zj_getM {o c n k idx : Nat} {Cn : String} {T : u_T} (hk : z_kd o = (c, n)) (hc9 : c < 9) (hc : zC[c]? = some (Cn, T, n)) (hu : ∀ w ∈ u_ws Cn T n, w ∈ zTB) (hn : k < n) (hf : z_fk c k = 2) (hl : Cond.fieldLink mi.1.cls idx (T k).1 (T k).2.1 (T k).2.2.1 ∈ zTB) (hd : decode mi.2.1 pc = .ok (.getfield idx, 3)) (hr : σ.2 o k < zK) (kk : z_J Γ mi (pc + 3) L (.inr (σ.2 o k) :: S) σ) : z_J Γ mi pc L (.inr o :: S) σ := by
  obtain ⟨p, l, e, R, s, m, args, below, meth, c', ⟨cells, slots⟩, Qf, D, cy, ad, A, d, Po⟩ := Γ
  intro C H locs ls hP hD hS hls
  have hw : (z_ws cy ad σ)[o]? = some (ad o, .inr (c, (List.range n).map (fun k => z_fv ad σ o c k))) := by rw [z_at (z_lt hk (by omega)), z_ob hk hc9]
  exact va_get (v := .ref (ad (σ.2 o k))) C.1 C.2.1 C.2.2.2.2.2.1 hu C.2.2.2.2.1 C.2.2.2.2.2.2.2.2.1 hP o hw hc k hn (C.2.2.2.2.2.1 _ hl) (fun _ h => h) (by simp [hn, z_fv, hf, z_rv, hr]) hd (kk C H locs ls hP hD hS hls)
theorem zj_putI {o c n k idx : Nat} {v : Int32} {Cn : String} {T : u_T} {ty0 : Nat → FieldType} (hk : z_kd o = (c, n)) (hc9 : c < 9) (hc : zC[c]? = some (Cn, T, n)) (hu : ∀ w ∈ u_ws Cn T n, w ∈ zTB) (hty : ∀ k, k < n → parseFieldDescriptor (T k).2.2.1 = some (ty0 k)) (hnm : ∀ a, a < n → ∀ b, b < n → a ≠ b → (T a).2.1 ≠ (T b).2.1) (hn : k < n) (hf : z_fk c k = 0) (hfin : (T k).2.2.2 = false) (hl : Cond.fieldLink mi.1.cls idx (T k).1 (T k).2.1 (T k).2.2.1 ∈ zTB) (hnr : narrow (ty0 k) (.int v) = .int v) (hft : fits (ty0 k) (.int v) = true) (hd : decode mi.2.1 pc = .ok (.putfield idx, 3)) (kk : z_J Γ mi (pc + 3) L S (z_pI σ o k v)) : z_J Γ mi pc L (.inl v :: .inr o :: S) σ := by
  obtain ⟨p, l, e, R, s, m, args, below, meth, c', ⟨cells, slots⟩, Qf, D, cy, ad, A, d, Po⟩ := Γ
  intro C H locs ls hP hD hS hls
  have hw : (z_ws cy ad σ)[o]? = some (ad o, .inr (c, (List.range n).map (fun k => z_fv ad σ o c k))) := by rw [z_at (z_lt hk (by omega)), z_ob hk hc9]
  refine va_put (v := .int v) (ty := ty0 k) C.1 C.2.1 C.2.2.2.2.2.1 hu ty0 hty hnm C.2.2.2.2.1 C.2.2.2.2.2.2.2.2.1 hP hD hS o hw hc k hn (C.2.2.2.2.2.1 _ hl) (fun _ h => h) hfin (hty k hn) hnr hft (by simpa using hn) hd (fun H1 locs1 hP1 hD1 hS1 => ?_)
  rw [z_set_fI hk hc9 hf] at hP1 hD1
  exact kk C H1 locs1 ls hP1 hD1 hS1 hls
theorem zj_putM {o c n k idx r : Nat} {Cn : String} {T : u_T} {ty0 : Nat → FieldType} (hk : z_kd o = (c, n)) (hc9 : c < 9) (hc : zC[c]? = some (Cn, T, n)) (hu : ∀ w ∈ u_ws Cn T n, w ∈ zTB) (hty : ∀ k, k < n → parseFieldDescriptor (T k).2.2.1 = some (ty0 k)) (hnm : ∀ a, a < n → ∀ b, b < n → a ≠ b → (T a).2.1 ≠ (T b).2.1) (hn : k < n) (hf : z_fk c k = 2) (hfin : (T k).2.2.2 = false) (hl : Cond.fieldLink mi.1.cls idx (T k).1 (T k).2.1 (T k).2.2.1 ∈ zTB) (hr : r < zK) (hnr : ∀ a, narrow (ty0 k) (.ref a) = .ref a) (hft : ∀ a, fits (ty0 k) (.ref a) = true) (hd : decode mi.2.1 pc = .ok (.putfield idx, 3)) (kk : z_J Γ mi (pc + 3) L S (z_pR σ o k r)) : z_J Γ mi pc L (.inr r :: .inr o :: S) σ := by
  obtain ⟨p, l, e, R, s, m, args, below, meth, c', ⟨cells, slots⟩, Qf, D, cy, ad, A, d, Po⟩ := Γ
  intro C H locs ls hP hD hS hls
  have hw : (z_ws cy ad σ)[o]? = some (ad o, .inr (c, (List.range n).map (fun k => z_fv ad σ o c k))) := by rw [z_at (z_lt hk (by omega)), z_ob hk hc9]
  refine va_put (v := .ref (ad r)) (ty := ty0 k) C.1 C.2.1 C.2.2.2.2.2.1 hu ty0 hty hnm C.2.2.2.2.1 C.2.2.2.2.2.2.2.2.1 hP hD hS o hw hc k hn (C.2.2.2.2.2.1 _ hl) (fun _ h => h) hfin (hty k hn) (hnr _) (hft _) (by simpa using hn) hd (fun H1 locs1 hP1 hD1 hS1 => ?_)
  rw [z_set_fR hk hc9 hf hr] at hP1 hD1
  exact kk C H1 locs1 ls hP1 hD1 hS1 hls
theorem z_w_ar {cy : Nat → ClassId} {ad : Nat → Nat} {a c n : Nat} (hk : z_kd a = (c, n)) (h1 : 9 ≤ c) (h2 : c < 13) : (z_ws cy ad σ)[a]? = some (ad a, .inl (cy c, n, .inl (σ.1 a))) := by rw [z_at (z_lt hk (by omega)), z_ar hk h1 h2]
theorem zj_iaload {a n k : Nat} {i : Int32} (hk : z_kd a = (11, n)) (hn : n < 2 ^ 31) (hi : z_ix i n k) (hd : decode mi.2.1 pc = .ok (.iaload, 1)) (kk : z_J Γ mi (pc + 1) L (.inl (σ.1 a k) :: S) σ) : z_J Γ mi pc L (.inl i :: .inr a :: S) σ := by
  obtain ⟨p, l, e, R, s, m, args, below, meth, c', ⟨cells, slots⟩, Qf, D, cy, ad, A, d, Po⟩ := Γ
  intro C H locs ls hP hD hS hls
  have h := kk C H locs ls hP hD hS hls
  rw [← hi.cl hn] at h
  exact va_iald C.1 C.2.1 C.2.2.2.2.2.2.2.2.1 hP a 2 (z_w_ar hk (by decide) (by decide)) rfl (hi.in hn) hd h
theorem zj_baload {a n k : Nat} {i : Int32} (hk : z_kd a = (9, n)) (hn : n < 2 ^ 31) (hi : z_ix i n k) (hd : decode mi.2.1 pc = .ok (.baload, 1)) (kk : z_J Γ mi (pc + 1) L (.inl (σ.1 a k) :: S) σ) : z_J Γ mi pc L (.inl i :: .inr a :: S) σ := by
  obtain ⟨p, l, e, R, s, m, args, below, meth, c', ⟨cells, slots⟩, Qf, D, cy, ad, A, d, Po⟩ := Γ
  intro C H locs ls hP hD hS hls
  have h := kk C H locs ls hP hD hS hls
  rw [← hi.cl hn] at h
  exact va_bald C.1 C.2.1 C.2.2.2.2.2.2.2.2.1 hP a 0 (z_w_ar hk (by decide) (by decide)) rfl (hi.in hn) hd h
theorem zj_zaload {a n k : Nat} {i : Int32} (hk : z_kd a = (12, n)) (hn : n < 2 ^ 31) (hi : z_ix i n k) (hd : decode mi.2.1 pc = .ok (.baload, 1)) (kk : z_J Γ mi (pc + 1) L (.inl (σ.1 a k) :: S) σ) : z_J Γ mi pc L (.inl i :: .inr a :: S) σ := by
  obtain ⟨p, l, e, R, s, m, args, below, meth, c', ⟨cells, slots⟩, Qf, D, cy, ad, A, d, Po⟩ := Γ
  intro C H locs ls hP hD hS hls
  have h := kk C H locs ls hP hD hS hls
  rw [← hi.cl hn] at h
  exact va_zald C.1 C.2.1 C.2.2.2.2.2.2.2.2.1 hP a 3 (z_w_ar hk (by decide) (by decide)) rfl (hi.in hn) hd h
theorem zj_caload {a n k : Nat} {i : Int32} (hk : z_kd a = (10, n)) (hn : n < 2 ^ 31) (hi : z_ix i n k) (hd : decode mi.2.1 pc = .ok (.caload, 1)) (kk : z_J Γ mi (pc + 1) L (.inl (σ.1 a k) :: S) σ) : z_J Γ mi pc L (.inl i :: .inr a :: S) σ := by
  obtain ⟨p, l, e, R, s, m, args, below, meth, c', ⟨cells, slots⟩, Qf, D, cy, ad, A, d, Po⟩ := Γ
  intro C H locs ls hP hD hS hls
  have h := kk C H locs ls hP hD hS hls
  rw [← hi.cl hn] at h
  exact va_cald C.1 C.2.1 C.2.2.2.2.2.2.2.2.1 hP a 1 (z_w_ar hk (by decide) (by decide)) rfl (hi.in hn) hd h
theorem zj_iastore {a n k : Nat} {i x : Int32} (hk : z_kd a = (11, n)) (hn : n < 2 ^ 31) (hi : z_ix i n k) (hd : decode mi.2.1 pc = .ok (.iastore, 1)) (kk : z_J Γ mi (pc + 1) L S (z_pI σ a k x)) : z_J Γ mi pc L (.inl x :: .inl i :: .inr a :: S) σ := by
  obtain ⟨p, l, e, R, s, m, args, below, meth, c', ⟨cells, slots⟩, Qf, D, cy, ad, A, d, Po⟩ := Γ
  intro C H locs ls hP hD hS hls
  refine va_iast C.1 C.2.1 C.2.2.2.2.2.2.2.2.1 hP hD hS a 2 (z_w_ar hk (by decide) (by decide)) rfl (hi.in hn) hd (fun H1 locs1 hP1 hD1 hS1 => ?_)
  rw [hi.cl hn, z_set_aI hk (by decide) (by decide)] at hP1 hD1
  exact kk C H1 locs1 ls hP1 hD1 hS1 hls
theorem zj_bastore {a n k : Nat} {i x : Int32} (hk : z_kd a = (9, n)) (hn : n < 2 ^ 31) (hi : z_ix i n k) (hd : decode mi.2.1 pc = .ok (.bastore, 1)) (kk : z_J Γ mi (pc + 1) L S (z_pI σ a k (vp_nar .byte x))) : z_J Γ mi pc L (.inl x :: .inl i :: .inr a :: S) σ := by
  obtain ⟨p, l, e, R, s, m, args, below, meth, c', ⟨cells, slots⟩, Qf, D, cy, ad, A, d, Po⟩ := Γ
  intro C H locs ls hP hD hS hls
  refine va_bast C.1 C.2.1 C.2.2.2.2.2.2.2.2.1 hP hD hS a 0 (z_w_ar hk (by decide) (by decide)) rfl (hi.in hn) hd (fun H1 locs1 hP1 hD1 hS1 => ?_)
  rw [hi.cl hn, z_set_aI hk (by decide) (by decide)] at hP1 hD1
  exact kk C H1 locs1 ls hP1 hD1 hS1 hls
theorem zj_zastore {a n k : Nat} {i x : Int32} (hk : z_kd a = (12, n)) (hn : n < 2 ^ 31) (hi : z_ix i n k) (hd : decode mi.2.1 pc = .ok (.bastore, 1)) (kk : z_J Γ mi (pc + 1) L S (z_pI σ a k (vp_nar .boolean x))) : z_J Γ mi pc L (.inl x :: .inl i :: .inr a :: S) σ := by
  obtain ⟨p, l, e, R, s, m, args, below, meth, c', ⟨cells, slots⟩, Qf, D, cy, ad, A, d, Po⟩ := Γ
  intro C H locs ls hP hD hS hls
  refine va_zast C.1 C.2.1 C.2.2.2.2.2.2.2.2.1 hP hD hS a 3 (z_w_ar hk (by decide) (by decide)) rfl (hi.in hn) hd (fun H1 locs1 hP1 hD1 hS1 => ?_)
  rw [hi.cl hn, z_set_aI hk (by decide) (by decide)] at hP1 hD1
  exact kk C H1 locs1 ls hP1 hD1 hS1 hls
theorem zj_castore {a n k : Nat} {i x : Int32} (hk : z_kd a = (10, n)) (hn : n < 2 ^ 31) (hi : z_ix i n k) (hd : decode mi.2.1 pc = .ok (.castore, 1)) (kk : z_J Γ mi (pc + 1) L S (z_pI σ a k (vp_nar .char x))) : z_J Γ mi pc L (.inl x :: .inl i :: .inr a :: S) σ := by
  obtain ⟨p, l, e, R, s, m, args, below, meth, c', ⟨cells, slots⟩, Qf, D, cy, ad, A, d, Po⟩ := Γ
  intro C H locs ls hP hD hS hls
  refine va_cast C.1 C.2.1 C.2.2.2.2.2.2.2.2.1 hP hD hS a 1 (z_w_ar hk (by decide) (by decide)) rfl (hi.in hn) hd (fun H1 locs1 hP1 hD1 hS1 => ?_)
  rw [hi.cl hn, z_set_aI hk (by decide) (by decide)] at hP1 hD1
  exact kk C H1 locs1 ls hP1 hD1 hS1 hls
theorem zj_aaload {a n k : Nat} {i : Int32} (hk : z_kd a = (13, n)) (hn : n < 2 ^ 31) (hi : z_ix i n k) (hd : decode mi.2.1 pc = .ok (.aaload, 1)) (kk : z_J Γ mi (pc + 1) L (.inr (a + 1 + k) :: S) σ) : z_J Γ mi pc L (.inl i :: .inr a :: S) σ := by
  obtain ⟨p, l, e, R, s, m, args, below, meth, c', ⟨cells, slots⟩, Qf, D, cy, ad, A, d, Po⟩ := Γ
  intro C H locs ls hP hD hS hls
  have h := kk C H locs ls hP hD hS hls
  have hw : (z_ws cy ad σ)[a]? = some (ad a, .inl (cy 13, n, .inr (.inr (.inr (.inr (fun j => some (ad (a + 1 + j)))))))) := by rw [z_at (z_lt hk (by decide)), z_aa hk]
  have hlt : i.toNatClampNeg < n := by rw [hi.cl hn]; exact hi.2
  have hin := hi.in hn
  refine W.aald (v := .ref (ad (a + 1 + k))) (ty := .array .int) C.1 C.2.1 (hP a _ hw) ((C.2.2.2.2.2.2.2.2.1.2 4 _ rfl).1 n (fun j => va_rf (some (ad (a + 1 + j))))) rfl (fun q => by cases q) (by show ¬ (i < 0 ∨ (arrV _ _ _).slots.size ≤ _); rw [arrV_size]; exact hin) (by show (arrV _ _ _).slots[_]? = _; rw [arrV_read _ _ hlt, hi.cl hn]; rfl) rfl rfl hd h
theorem zj_alen {a c n : Nat} {v : Int32} (hk : z_kd a = (c, n)) (h1 : 9 ≤ c) (h2 : c < 13) (hv : nI n = v) (hd : decode mi.2.1 pc = .ok (.arraylength, 1)) (kk : z_J Γ mi (pc + 1) L (.inl v :: S) σ) : z_J Γ mi pc L (.inr a :: S) σ := by
  obtain ⟨p, l, e, R, s, m, args, below, meth, c', ⟨cells, slots⟩, Qf, D, cy, ad, A, d, Po⟩ := Γ
  intro C H locs ls hP hD hS hls
  have h := kk C H locs ls hP hD hS hls
  have hc : c = 9 ∨ c = 10 ∨ c = 11 ∨ c = 12 := by omega
  rcases hc with rfl | rfl | rfl | rfl
  · exact va_alen C.1 C.2.1 C.2.2.2.2.2.2.2.2.1 hP a 0 (z_w_ar hk (by decide) (by decide)) rfl hv hd h
  · exact va_alen C.1 C.2.1 C.2.2.2.2.2.2.2.2.1 hP a 1 (z_w_ar hk (by decide) (by decide)) rfl hv hd h
  · exact va_alen C.1 C.2.1 C.2.2.2.2.2.2.2.2.1 hP a 2 (z_w_ar hk (by decide) (by decide)) rfl hv hd h
  · exact va_alen C.1 C.2.1 C.2.2.2.2.2.2.2.2.1 hP a 3 (z_w_ar hk (by decide) (by decide)) rfl hv hd h
end
