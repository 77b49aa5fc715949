theorem z_D_to {A B : Nat → Prop} {cy : Nat → ClassId} {ad : Nat → Nat} {σ u : zS} (hD : va_D A (z_ws cy ad σ)) (h : va_D B (z_ws cy ad u)) : va_D A (z_ws cy ad u) := by
  refine ⟨h.1, fun k q hk => ?_⟩
  have hl : k < zK := by
    have := (List.getElem?_eq_some_iff.mp hk).1
    simpa [z_ws] using this
  rw [z_at hl] at hk
  cases hk
  have h2 := hD.2 k _ (z_at hl)
  exact h2
theorem z_D_A {cy : Nat → ClassId} {ad : Nat → Nat} {u : zS} {A : Nat → Prop} {sz : Nat} (h : va_D A (z_ws cy ad u)) : va_D (z_A ad sz) (z_ws cy ad u) := by
  refine ⟨h.1, fun k q hk => ?_⟩
  have hl : k < zK := by
    have := (List.getElem?_eq_some_iff.mp hk).1
    simpa [z_ws] using this
  rw [z_at hl] at hk
  cases hk
  exact Or.inl ⟨k, hl, rfl⟩
theorem z_gin {X : List Cond} (h : ∀ w ∈ X, w ∈ zTB) : GoodIn zTB X := fun w hw => zi_good w (h w hw)
theorem z_blind {D : va_G} {cy : Nat → ClassId} {ad : Nat → Nat} {av : List zV} {σ : zS} {sz : Nat} : FrameBlind (z_Pc D cy ad av σ sz) := by
  intro a U g mk q
  obtain ⟨q0, q1, qP, qK, qD, qN⟩ := q
  exact ⟨q0, q1, qP, va_K.moved (u := U) (U := U.calling g mk a) (Vm.Alike.refl U.vm) qK, qD, va_tabs (A := #[]) (u := U) rfl rfl qN.1, va_tabs (A := #[]) (u := U) rfl rfl qN.2.1, va_tabs (A := #[]) (u := U) rfl rfl qN.2.2⟩
/-- what the tables say of a method: of an instance, static -/
def z_mb (mc : zM) (n : Nat) : Prop := Cond.initialized mc.1.cls ∈ zTB ∧ Cond.code mc.1 mc.2.1 mc.2.2.1 mc.2.2.2 ∈ zTB ∧ (mc.1.cls ≠ "java/lang/invoke/MethodHandle" ∧ mc.1.cls ≠ "java/lang/invoke/VarHandle" ∧ (parseMethodDescriptor mc.1.desc).map (fun d => d.parameters.length) = some n) ∧ mc.2.2.1 ≤ 21
def z_mv (mc : zM) (n : Nat) : Prop := z_mb mc n ∧ Cond.instanceMethod mc.1 ∈ zTB ∧ Cond.selects mc.1.cls mc.1 mc.1 ∈ zTB
def z_ms (mc : zM) (n : Nat) : Prop := z_mb mc n ∧ Cond.static mc.1 ∈ zTB
theorem z_cat {ad : Nat → Nat} : ∀ (S : List zV), ((S.map (z_en ad)).map fun v => v.category).sum = S.length
  | [] => rfl
  | v :: t => by
    have h := z_cat (ad := ad) t
    simp only [List.map_cons, List.sum_cons, List.length_cons, z_en_cat]
    omega
theorem z_wsub {mc : zM} (h : Cond.code mc.1 mc.2.1 mc.2.2.1 mc.2.2.2 ∈ zTB) : ∀ w ∈ z_wm mc, w ∈ zTB := fun w hw => (List.mem_cons.mp hw).elim (fun e => e ▸ h) (fun h => h)
section
variable {Γ : zG} {mi : zM} {pc : Nat} {L : List (Option zV)} {S : List zV} {σ : zS}
theorem zj_ireturn {x : Int32} (hr : mi.2.2.2 = some .int) (hd : decode mi.2.1 pc = .ok (.ireturn, 1)) (h : z_end Γ (some x) σ) : z_J Γ mi pc L [.inl x] σ := by
  obtain ⟨p, l, e, R, s, m, args, below, meth, c', ⟨cells, slots⟩, Qf, D, cy, ad, A, d, Po⟩ := Γ
  intro C H locs ls hP hD hS hls
  exact z_W_mono C.2.2.2.2.2.2.2.2.2.2.1 (W.iret C.1 C.2.1 (C.2.2.1.trans hr) (fun t ht hW => ⟨⟨some x, σ, rfl, h, by rw [ht]; exact hP, va_K.moved hW.alike C.2.2.2.2.2.2.2.2.1, hD⟩, hS.F ht⟩) hS.2.2 hd C.2.2.2.2.2.2.1)
theorem zj_zreturn {x : Int32} (hr : mi.2.2.2 = some .boolean) (hz : x = 0 ∨ x = 1) (hd : decode mi.2.1 pc = .ok (.ireturn, 1)) (h : z_end Γ (some x) σ) : z_J Γ mi pc L [.inl x] σ := by
  obtain ⟨p, l, e, R, s, m, args, below, meth, c', ⟨cells, slots⟩, Qf, D, cy, ad, A, d, Po⟩ := Γ
  intro C H locs ls hP hD hS hls
  exact z_W_mono C.2.2.2.2.2.2.2.2.2.2.1 (W.zret C.1 C.2.1 (C.2.2.1.trans hr) (by rcases hz with rfl | rfl <;> rfl) (fun t ht hW => ⟨⟨some x, σ, rfl, h, by rw [ht]; exact hP, va_K.moved hW.alike C.2.2.2.2.2.2.2.2.1, hD⟩, hS.F ht⟩) hS.2.2 hd C.2.2.2.2.2.2.1)
theorem zj_return (hr : mi.2.2.2 = none) (hd : decode mi.2.1 pc = .ok (.return_, 1)) (h : z_end Γ none σ) : z_J Γ mi pc L [] σ := by
  obtain ⟨p, l, e, R, s, m, args, below, meth, c', ⟨cells, slots⟩, Qf, D, cy, ad, A, d, Po⟩ := Γ
  intro C H locs ls hP hD hS hls
  exact z_W_mono C.2.2.2.2.2.2.2.2.2.2.1 (W.vret C.1 C.2.1 (C.2.2.1.trans hr) (fun t ht hW => ⟨⟨none, σ, rfl, h, by rw [ht]; exact hP, va_K.moved hW.alike C.2.2.2.2.2.2.2.2.1, hD⟩, hS.F ht⟩) hS.2.2 hd C.2.2.2.2.2.2.1)
theorem zj_callVi {dc : Nat} {mc : zM} {o c n idx : Nat} {T : u_T} {As St : List zV} {P : Int32 → zS → Prop} (hm : z_Ci dc mc (.inr o :: As) σ P) (hdp : dc < z_dep Γ) (hk : z_kd o = (c, n)) (hc9 : c < 9) (hc : zC[c]? = some (mc.1.cls, T, n)) (hml : Cond.methodLink mi.1.cls idx mc.1 ∈ zTB) (hmv : z_mv mc As.length) (hd : decode mi.2.1 pc = .ok (.invokevirtual idx, 3)) (hst : St = As.reverse ++ .inr o :: S) (hS8 : S.length ≤ 8) (kk : ∀ r σ1, P r σ1 → z_J Γ mi (pc + 3) L (.inl r :: S) σ1) : z_J Γ mi pc L St σ := by
  obtain ⟨p, l, e, R, s, m, args, below, meth, c', ⟨cells, slots⟩, Qf, D, cy, ad, A, d, Po⟩ := Γ
  intro C H locs ls hP hD hS hls
  subst hst
  obtain ⟨⟨hin, hco, hde, h21⟩, him, hse⟩ := hmv
  have hdp : dc < d := hdp
  obtain ⟨hR1, hR2, hR3, hR4⟩ := C.2.2.2.2.2.2.2.1
  have hw : (z_ws cy ad σ)[o]? = some (ad o, .inr (c, (List.range n).map (fun k => z_fv ad σ o c k))) := by rw [z_at (z_lt hk (by omega)), z_ob hk hc9]
  have hG : GoodIn zTB (wsV mi.1.cls idx mc.1.cls mc.1 (z_wm mc)) := z_gin (fun w hw => by
    unfold wsV at hw
    rcases List.mem_append.mp hw with h | h
    · simp only [List.mem_cons, List.not_mem_nil, or_false] at h
      rcases h with rfl | rfl | rfl | rfl <;> assumption
    · exact z_wsub hco w h)
  have hrun := va_runV (p := p) (l := l) (e := e) (R := R) (s := s) (m := m) (args := args) (below := below) (meth := meth) (c := c') (H := H) (locs := locs) (cells := cells) (slots := slots) (As := As.map (z_en ad)) (rest := S.map (z_en ad)) (b := ad o) (g := F0 m pc ls ((As.reverse ++ .inr o :: S).map (z_en ad))) ⟨C.1, C.2.1, C.2.2.2.1, C.2.2.2.2.1, C.2.2.2.2.2.1⟩ (hm (d - 1) (by omega) l D cy ad H.size) (cwV (R := R) As.length C.2.2.2.2.2.1 hG rfl rfl rfl ⟨rfl, hde⟩ ⟨by show d - 1 + 1 ≤ _; omega, by show 8 + (mc.2.2.1 + 11) + 40 * (d - 1) ≤ _; omega⟩)
    ⟨z_blind, va_recv C.2.2.2.2.2.2.2.2.1 hP hc hw, fun U hU hW => ⟨rfl, by rw [hU], by rw [hU]; exact hP, va_K.moved hW.alike C.2.2.2.2.2.2.2.2.1, hD.weaken (fun _ _ _ _ => trivial), z_Nw.warm hW C.2.2.2.2.2.2.2.2.2.2.2⟩⟩ rfl (by simp) hls.1 (by simp [z_en]) (lv_room (by rw [z_cat]; exact hS8)) hd ⟨hR3, hR4⟩
  refine va_calli hrun hS (fun q hq h => ?_) (fun q h => ?_) (fun r u t H1 locs1 ht hvm hp hB hz hk1 hS1 => ?_)
  · rcases h with ⟨o', ho, rfl⟩ | h
    · exact hD.2 o' _ (z_at ho)
    · omega
  · rcases h with ⟨o', ho, rfl⟩ | h
    · exact hD.2 o' _ (z_at ho)
    · exact C.2.2.2.2.2.2.2.2.2.1 q (Nat.le_trans hS.1 h)
  · exact kk r u hp C H1 locs1 ls (by rw [← ht]; exact hB.1) (z_D_to hD hB.2.2) hS1 hls
theorem zj_callVv {dc : Nat} {mc : zM} {o c n idx : Nat} {T : u_T} {As St : List zV} {P : zS → Prop} (hm : z_Cv dc mc (.inr o :: As) σ P) (hdp : dc < z_dep Γ) (hk : z_kd o = (c, n)) (hc9 : c < 9) (hc : zC[c]? = some (mc.1.cls, T, n)) (hml : Cond.methodLink mi.1.cls idx mc.1 ∈ zTB) (hmv : z_mv mc As.length) (hd : decode mi.2.1 pc = .ok (.invokevirtual idx, 3)) (hst : St = As.reverse ++ .inr o :: S) (hS8 : S.length ≤ 8) (kk : ∀ σ1, P σ1 → z_J Γ mi (pc + 3) L S σ1) : z_J Γ mi pc L St σ := by
  obtain ⟨p, l, e, R, s, m, args, below, meth, c', ⟨cells, slots⟩, Qf, D, cy, ad, A, d, Po⟩ := Γ
  intro C H locs ls hP hD hS hls
  subst hst
  obtain ⟨⟨hin, hco, hde, h21⟩, him, hse⟩ := hmv
  have hdp : dc < d := hdp
  obtain ⟨hR1, hR2, hR3, hR4⟩ := C.2.2.2.2.2.2.2.1
  have hw : (z_ws cy ad σ)[o]? = some (ad o, .inr (c, (List.range n).map (fun k => z_fv ad σ o c k))) := by rw [z_at (z_lt hk (by omega)), z_ob hk hc9]
  have hG : GoodIn zTB (wsV mi.1.cls idx mc.1.cls mc.1 (z_wm mc)) := z_gin (fun w hw => by
    unfold wsV at hw
    rcases List.mem_append.mp hw with h | h
    · simp only [List.mem_cons, List.not_mem_nil, or_false] at h
      rcases h with rfl | rfl | rfl | rfl <;> assumption
    · exact z_wsub hco w h)
  have hrun := va_runV (p := p) (l := l) (e := e) (R := R) (s := s) (m := m) (args := args) (below := below) (meth := meth) (c := c') (H := H) (locs := locs) (cells := cells) (slots := slots) (As := As.map (z_en ad)) (rest := S.map (z_en ad)) (b := ad o) (g := F0 m pc ls ((As.reverse ++ .inr o :: S).map (z_en ad))) ⟨C.1, C.2.1, C.2.2.2.1, C.2.2.2.2.1, C.2.2.2.2.2.1⟩ (hm (d - 1) (by omega) l D cy ad H.size) (cwV (R := R) As.length C.2.2.2.2.2.1 hG rfl rfl rfl ⟨rfl, hde⟩ ⟨by show d - 1 + 1 ≤ _; omega, by show 8 + (mc.2.2.1 + 11) + 40 * (d - 1) ≤ _; omega⟩)
    ⟨z_blind, va_recv C.2.2.2.2.2.2.2.2.1 hP hc hw, fun U hU hW => ⟨rfl, by rw [hU], by rw [hU]; exact hP, va_K.moved hW.alike C.2.2.2.2.2.2.2.2.1, hD.weaken (fun _ _ _ _ => trivial), z_Nw.warm hW C.2.2.2.2.2.2.2.2.2.2.2⟩⟩ rfl (by simp) hls.1 (by simp [z_en]) (lv_room (by rw [z_cat]; exact hS8)) hd ⟨hR3, hR4⟩
  refine va_callv hrun hS (fun q hq h => ?_) (fun q h => ?_) (fun u t H1 locs1 ht hvm hp hB hz hk1 hS1 => ?_)
  · rcases h with ⟨o', ho, rfl⟩ | h
    · exact hD.2 o' _ (z_at ho)
    · omega
  · rcases h with ⟨o', ho, rfl⟩ | h
    · exact hD.2 o' _ (z_at ho)
    · exact C.2.2.2.2.2.2.2.2.2.1 q (Nat.le_trans hS.1 h)
  · exact kk u hp C H1 locs1 ls (by rw [← ht]; exact hB.1) (z_D_to hD hB.2.2) hS1 hls
theorem zj_callSi {dc : Nat} {mc : zM} {idx : Nat} {As St : List zV} {P : Int32 → zS → Prop} (hm : z_Ci dc mc As σ P) (hdp : dc < z_dep Γ) (hml : Cond.methodLink mi.1.cls idx mc.1 ∈ zTB) (hms : z_ms mc As.length) (hd : decode mi.2.1 pc = .ok (.invokestatic idx, 3)) (hst : St = As.reverse ++ S) (hS8 : S.length ≤ 8) (kk : ∀ r σ1, P r σ1 → z_J Γ mi (pc + 3) L (.inl r :: S) σ1) : z_J Γ mi pc L St σ := by
  obtain ⟨p, l, e, R, s, m, args, below, meth, c', ⟨cells, slots⟩, Qf, D, cy, ad, A, d, Po⟩ := Γ
  intro C H locs ls hP hD hS hls
  subst hst
  obtain ⟨⟨hin, hco, hde, h21⟩, hsta⟩ := hms
  have hdp : dc < d := hdp
  obtain ⟨hR1, hR2, hR3, hR4⟩ := C.2.2.2.2.2.2.2.1
  have hG : GoodIn zTB (va_wsS mi.1.cls idx mc.1 (z_wm mc)) := z_gin (fun w hw => by
    unfold va_wsS at hw
    rcases List.mem_append.mp hw with h | h
    · simp only [List.mem_cons, List.not_mem_nil, or_false] at h
      rcases h with rfl | rfl | rfl <;> assumption
    · exact z_wsub hco w h)
  have hrun := va_runS (p := p) (l := l) (e := e) (R := R) (s := s) (m := m) (args := args) (below := below) (meth := meth) (c := c') (H := H) (locs := locs) (cells := cells) (slots := slots) (As := As.map (z_en ad)) (rest := S.map (z_en ad)) (g := F0 m pc ls ((As.reverse ++ S).map (z_en ad))) ⟨C.1, C.2.1, C.2.2.2.1, C.2.2.2.2.1, C.2.2.2.2.2.1⟩ (hm (d - 1) (by omega) l D cy ad H.size) (va_cwS (R := R) As.length C.2.2.2.2.2.1 hG rfl rfl rfl hde ⟨by show d - 1 + 1 ≤ _; omega, by show 8 + (mc.2.2.1 + 11) + 40 * (d - 1) ≤ _; omega⟩)
    ⟨z_blind, fun U hU hW => ⟨rfl, by rw [hU], by rw [hU]; exact hP, va_K.moved hW.alike C.2.2.2.2.2.2.2.2.1, hD.weaken (fun _ _ _ _ => trivial), z_Nw.warm hW C.2.2.2.2.2.2.2.2.2.2.2⟩⟩ rfl (by simp) hls.1 (by simp) (lv_room (by rw [z_cat]; exact hS8)) hd ⟨hR3, hR4⟩
  refine va_calli hrun hS (fun q hq h => ?_) (fun q h => ?_) (fun r u t H1 locs1 ht hvm hp hB hz hk1 hS1 => ?_)
  · rcases h with ⟨o', ho, rfl⟩ | h
    · exact hD.2 o' _ (z_at ho)
    · omega
  · rcases h with ⟨o', ho, rfl⟩ | h
    · exact hD.2 o' _ (z_at ho)
    · exact C.2.2.2.2.2.2.2.2.2.1 q (Nat.le_trans hS.1 h)
  · exact kk r u hp C H1 locs1 ls (by rw [← ht]; exact hB.1) (z_D_to hD hB.2.2) hS1 hls
theorem zj_callSv {dc : Nat} {mc : zM} {idx : Nat} {As St : List zV} {P : zS → Prop} (hm : z_Cv dc mc As σ P) (hdp : dc < z_dep Γ) (hml : Cond.methodLink mi.1.cls idx mc.1 ∈ zTB) (hms : z_ms mc As.length) (hd : decode mi.2.1 pc = .ok (.invokestatic idx, 3)) (hst : St = As.reverse ++ S) (hS8 : S.length ≤ 8) (kk : ∀ σ1, P σ1 → z_J Γ mi (pc + 3) L S σ1) : z_J Γ mi pc L St σ := by
  obtain ⟨p, l, e, R, s, m, args, below, meth, c', ⟨cells, slots⟩, Qf, D, cy, ad, A, d, Po⟩ := Γ
  intro C H locs ls hP hD hS hls
  subst hst
  obtain ⟨⟨hin, hco, hde, h21⟩, hsta⟩ := hms
  have hdp : dc < d := hdp
  obtain ⟨hR1, hR2, hR3, hR4⟩ := C.2.2.2.2.2.2.2.1
  have hG : GoodIn zTB (va_wsS mi.1.cls idx mc.1 (z_wm mc)) := z_gin (fun w hw => by
    unfold va_wsS at hw
    rcases List.mem_append.mp hw with h | h
    · simp only [List.mem_cons, List.not_mem_nil, or_false] at h
      rcases h with rfl | rfl | rfl <;> assumption
    · exact z_wsub hco w h)
  have hrun := va_runS (p := p) (l := l) (e := e) (R := R) (s := s) (m := m) (args := args) (below := below) (meth := meth) (c := c') (H := H) (locs := locs) (cells := cells) (slots := slots) (As := As.map (z_en ad)) (rest := S.map (z_en ad)) (g := F0 m pc ls ((As.reverse ++ S).map (z_en ad))) ⟨C.1, C.2.1, C.2.2.2.1, C.2.2.2.2.1, C.2.2.2.2.2.1⟩ (hm (d - 1) (by omega) l D cy ad H.size) (va_cwS (R := R) As.length C.2.2.2.2.2.1 hG rfl rfl rfl hde ⟨by show d - 1 + 1 ≤ _; omega, by show 8 + (mc.2.2.1 + 11) + 40 * (d - 1) ≤ _; omega⟩)
    ⟨z_blind, fun U hU hW => ⟨rfl, by rw [hU], by rw [hU]; exact hP, va_K.moved hW.alike C.2.2.2.2.2.2.2.2.1, hD.weaken (fun _ _ _ _ => trivial), z_Nw.warm hW C.2.2.2.2.2.2.2.2.2.2.2⟩⟩ rfl (by simp) hls.1 (by simp) (lv_room (by rw [z_cat]; exact hS8)) hd ⟨hR3, hR4⟩
  refine va_callv hrun hS (fun q hq h => ?_) (fun q h => ?_) (fun u t H1 locs1 ht hvm hp hB hz hk1 hS1 => ?_)
  · rcases h with ⟨o', ho, rfl⟩ | h
    · exact hD.2 o' _ (z_at ho)
    · omega
  · rcases h with ⟨o', ho, rfl⟩ | h
    · exact hD.2 o' _ (z_at ho)
    · exact C.2.2.2.2.2.2.2.2.2.1 q (Nat.le_trans hS.1 h)
  · exact kk u hp C H1 locs1 ls (by rw [← ht]; exact hB.1) (z_D_to hD hB.2.2) hS1 hls
/-- a static call of a nest mate's private method -/
theorem zj_callNi {dc : Nat} {mc : zM} {idx : Nat} {As St : List zV} {P : Int32 → zS → Prop} (hm : z_Ci dc mc As σ P) (hdp : dc < z_dep Γ) (hml : ∀ U, z_Nw U → va_Nw (.methodLinkNest mi.1.cls idx mc.1 "WallsOfBooks") U) (hms : z_ms mc As.length) (hd : decode mi.2.1 pc = .ok (.invokestatic idx, 3)) (hst : St = As.reverse ++ S) (hS8 : S.length ≤ 8) (kk : ∀ r σ1, P r σ1 → z_J Γ mi (pc + 3) L (.inl r :: S) σ1) : z_J Γ mi pc L St σ := by
  obtain ⟨p, l, e, R, s, m, args, below, meth, c', ⟨cells, slots⟩, Qf, D, cy, ad, A, d, Po⟩ := Γ
  intro C H locs ls hP hD hS hls
  subst hst
  obtain ⟨⟨hin, hco, hde, h21⟩, hsta⟩ := hms
  have hdp : dc < d := hdp
  obtain ⟨hR1, hR2, hR3, hR4⟩ := C.2.2.2.2.2.2.2.1
  have hrun := va_runSN (p := p) (l := l) (e := e) (R := R) (s := s) (m := m) (args := args) (below := below) (meth := meth) (c := c') (H := H) (locs := locs) (cells := cells) (slots := slots) (host := "WallsOfBooks") (index := idx) (As := As.map (z_en ad)) (rest := S.map (z_en ad)) (g := F0 m pc ls ((As.reverse ++ S).map (z_en ad))) ⟨C.1, C.2.1, C.2.2.2.1, C.2.2.2.2.1, C.2.2.2.2.2.1⟩ (hm (d - 1) (by omega) l D cy ad H.size) ⟨va_cnB (R := R) As.length C.2.2.2.2.2.1 (z_gin (z_wsub hco)) rfl rfl rfl (hml _ C.2.2.2.2.2.2.2.2.2.2.2) (C.2.2.2.2.2.1 _ hin) hde ⟨by show d - 1 + 1 ≤ _; omega, by show 8 + (mc.2.2.1 + 11) + 40 * (d - 1) ≤ _; omega⟩, C.2.2.2.2.2.1 _ hsta, trivial⟩
    ⟨z_blind, fun U hU hW => ⟨rfl, by rw [hU], by rw [hU]; exact hP, va_K.moved hW.alike C.2.2.2.2.2.2.2.2.1, hD.weaken (fun _ _ _ _ => trivial), z_Nw.warm hW C.2.2.2.2.2.2.2.2.2.2.2⟩⟩ rfl (by simp) hls.1 (by simp) (lv_room (by rw [z_cat]; exact hS8)) hd ⟨hR3, hR4⟩
  refine va_calli hrun hS (fun q hq h => ?_) (fun q h => ?_) (fun r u t H1 locs1 ht hvm hp hB hz hk1 hS1 => ?_)
  · rcases h with ⟨o', ho, rfl⟩ | h
    · exact hD.2 o' _ (z_at ho)
    · omega
  · rcases h with ⟨o', ho, rfl⟩ | h
    · exact hD.2 o' _ (z_at ho)
    · exact C.2.2.2.2.2.2.2.2.2.1 q (Nat.le_trans hS.1 h)
  · exact kk r u hp C H1 locs1 ls (by rw [← ht]; exact hB.1) (z_D_to hD hB.2.2) hS1 hls
end
theorem z_Ci_of {dc : Nat} {mc : zM} {av : List zV} {σ : zS} {P : Int32 → zS → Prop} (hp : plainName mc.1.cls = true) (hav : av.length ≤ mc.2.2.1) (h : ∀ Γ : zG, dc ≤ z_dep Γ → z_end Γ = (fun r u => ∃ x, r = some x ∧ P x u) → z_J Γ mc 0 (av.map some ++ List.replicate (mc.2.2.1 - av.length) none) [] σ) : z_Ci dc mc av σ P := by
  intro d hd l D cy ad sz
  refine Met.ofW (cc := mc.2.1) (maxL := mc.2.2.1) (ret := mc.2.2.2) hp rfl ?_
  intro p e s m args below meth c s₁ B hml hv
  obtain ⟨rfl, hsz, hP, hK, hD0, hN⟩ := hv
  subst hsz
  have hts := atoms_spec (ws := z_wm mc) B.pre
  have hown := findClass_of_methodNamed B.named
  rw [lg_entry_eq]
  refine h ⟨p, l, e, _, s, m, _, below, meth, c, ⟨0, 0⟩, MQ below (va_Qi P (z_B D cy ad (z_A ad s.heap.size)) (z_A ad s.heap.size)) _ s 0 0 (z_A ad s.heap.size), D, cy, ad, z_A ad s.heap.size, d, fun r u => ∃ x, r = some x ∧ P x u⟩ hd rfl ⟨B.exec, B.bytes, B.returns, hml, hown, fun w hw => hts w (List.mem_cons_of_mem _ hw), B.notSynchronized, ⟨Nat.le_refl _, Nat.le_refl _, Nat.le_refl _, Nat.le_refl _⟩, hK, fun q hq => Or.inr hq, ?_, hN⟩ s.heap [] _ hP (z_D_A hD0) va_S.rf (z_lk.entry hav)
  rintro t ⟨o, h1, h2, ⟨⟨r, u, ho, ⟨x, rfl, hx⟩, hb⟩, hF⟩, h4⟩
  exact ⟨o, h1, h2, ⟨⟨x, u, ho, hx, hb⟩, hF⟩, h4⟩
theorem z_Cv_of {dc : Nat} {mc : zM} {av : List zV} {σ : zS} {P : zS → Prop} (hp : plainName mc.1.cls = true) (hav : av.length ≤ mc.2.2.1) (h : ∀ Γ : zG, dc ≤ z_dep Γ → z_end Γ = (fun r u => r = none ∧ P u) → z_J Γ mc 0 (av.map some ++ List.replicate (mc.2.2.1 - av.length) none) [] σ) : z_Cv dc mc av σ P := by
  intro d hd l D cy ad sz
  refine Met.ofW (cc := mc.2.1) (maxL := mc.2.2.1) (ret := mc.2.2.2) hp rfl ?_
  intro p e s m args below meth c s₁ B hml hv
  obtain ⟨rfl, hsz, hP, hK, hD0, hN⟩ := hv
  subst hsz
  have hts := atoms_spec (ws := z_wm mc) B.pre
  have hown := findClass_of_methodNamed B.named
  rw [lg_entry_eq]
  refine h ⟨p, l, e, _, s, m, _, below, meth, c, ⟨0, 0⟩, MQ below (va_Qv P (z_B D cy ad (z_A ad s.heap.size)) (z_A ad s.heap.size)) _ s 0 0 (z_A ad s.heap.size), D, cy, ad, z_A ad s.heap.size, d, fun r u => r = none ∧ P u⟩ hd rfl ⟨B.exec, B.bytes, B.returns, hml, hown, fun w hw => hts w (List.mem_cons_of_mem _ hw), B.notSynchronized, ⟨Nat.le_refl _, Nat.le_refl _, Nat.le_refl _, Nat.le_refl _⟩, hK, fun q hq => Or.inr hq, ?_, hN⟩ s.heap [] _ hP (z_D_A hD0) va_S.rf (z_lk.entry hav)
  rintro t ⟨o, h1, h2, ⟨⟨r, u, ho, ⟨rfl, hx⟩, hb⟩, hF⟩, h4⟩
  exact ⟨o, h1, h2, ⟨⟨u, ho, hx, hb⟩, hF⟩, h4⟩
