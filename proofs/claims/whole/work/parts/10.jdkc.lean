/-- Integer.bitCount, as its bytecode has it -/
def z_bc (x : Int32) : Int32 :=
  let a := x - ((z_ushr x (nI 1)) &&& (1431655765 : Int32))
  let b := (a &&& (858993459 : Int32)) + ((z_ushr a (nI 2)) &&& (858993459 : Int32))
  let c := (b + (z_ushr b (nI 4))) &&& (252645135 : Int32)
  let d := c + (z_ushr c (nI 8))
  let e := d + (z_ushr d (nI 16))
  e &&& nI 63
theorem zc_bitCount (x : Int32) (σ : zS) : z_Ci 0 zm_Integer_bitCount [.inl x] σ (fun r u => r = z_bc x ∧ u = σ) := by
  refine z_Ci_of (by decide) (Nat.le_of_ble_eq_true rfl) (fun Γ hd he => ?_)
  show z_J Γ zm_Integer_bitCount 0 [some (.inl x)] [] σ
  refine zb_Integer_bitCount_0 ?_
  rw [he]
  exact ⟨_, rfl, rfl, rfl⟩
def z_fil (n : Nat) (v : Int32) (f : Nat → Int32) : Nat → Int32 := fun j => if j < n then v else f j
theorem z_pA_self (σ : zS) (a : Nat) : z_pA σ a (σ.1 a) = σ := by
  unfold z_pA
  refine Prod.ext ?_ rfl
  funext b
  by_cases h : b = a
  · subst h
    simp
  · simp [h]
theorem z_pA_step (σ : zS) (a i : Nat) (v : Int32) : z_pI (z_pA σ a (z_fil i v (σ.1 a))) a i v = z_pA σ a (z_fil (i + 1) v (σ.1 a)) := by
  unfold z_pA z_pI
  refine Prod.ext ?_ rfl
  funext b j
  by_cases h : b = a
  · subst h
    by_cases hj : j = i
    · subst hj
      simp [z_up, z_fil]
    · have e : j < i + 1 ↔ j < i := by omega
      simp [z_up, z_fil, hj, e]
  · simp [z_up, h]
theorem zc_fill {a n : Nat} (hk : z_kd a = (11, n)) (hn : n < 2 ^ 31) (v : Int32) (σ : zS) : z_Cv 0 zm_Arrays_fill [.inr a, .inl v] σ (fun u => u = z_pA σ a (z_fil n v (σ.1 a))) := by
  refine z_Cv_of (by decide) (Nat.le_of_ble_eq_true rfl) (fun Γ hd he => ?_)
  show z_J Γ zm_Arrays_fill 0 [some (.inr a), some (.inl v), none, none] [] σ
  refine zb_Arrays_fill_0 hk ?_
  have h := zj_for (Γ := Γ) (mi := zm_Arrays_fill) (pc := 5) (S := []) (b := n) (fun i => [some (.inr a), some (.inl v), some (.inl (nI i)), some (.inl (nI n))]) (fun i => z_pA σ a (z_fil i v (σ.1 a)))
    (fun i hi k => by
      refine zb_Arrays_fill_5 hk (fun h => absurd h (nI_ge hi hn)) (fun _ => ?_)
      refine zb_Arrays_fill_10 hk hn (k1 := i) ⟨rfl, hi⟩ ?_
      rw [z_pA_step, nI_add]
      exact k)
    (by
      refine zb_Arrays_fill_5 hk (fun _ => ?_) (fun h => absurd (Int32.le_refl _) h)
      refine zb_Arrays_fill_20 ?_
      rw [he]
      exact ⟨rfl, rfl⟩) 0 (Nat.zero_le _)
  have e : z_pA σ a (z_fil 0 v (σ.1 a)) = σ := by
    have : z_fil 0 v (σ.1 a) = σ.1 a := by
      funext j
      simp [z_fil]
    rw [this, z_pA_self]
  rw [e] at h
  exact h
section
variable {Γ : zG} {mi : zM} {pc : Nat} {L : List (Option zV)} {S : List zV} {σ : zS}
theorem zj_bitc {idx : Nat} {x : Int32} (hml : Cond.methodLink mi.1.cls idx zm_Integer_bitCount.1 ∈ zTB) (hdp : 0 < z_dep Γ) (hS8 : S.length ≤ 8) (hd : decode mi.2.1 pc = .ok (.invokestatic idx, 3)) (kk : z_J Γ mi (pc + 3) L (.inl (z_bc x) :: S) σ) : z_J Γ mi pc L (.inl x :: S) σ :=
  zj_callSi (As := [.inl x]) (zc_bitCount x σ) hdp hml zq_Integer_bitCount hd rfl hS8 (fun r σ1 h => by obtain ⟨rfl, rfl⟩ := h; exact kk)
theorem zj_fill {idx a n : Nat} {v : Int32} (hml : Cond.methodLink mi.1.cls idx zm_Arrays_fill.1 ∈ zTB) (hk : z_kd a = (11, n)) (hn : n < 2 ^ 31) (hdp : 0 < z_dep Γ) (hS8 : S.length ≤ 8) (hd : decode mi.2.1 pc = .ok (.invokestatic idx, 3)) (kk : z_J Γ mi (pc + 3) L S (z_pA σ a (z_fil n v (σ.1 a)))) : z_J Γ mi pc L (.inl v :: .inr a :: S) σ :=
  zj_callSv (As := [.inr a, .inl v]) (zc_fill hk hn v σ) hdp hml zq_Arrays_fill hd rfl hS8 (fun σ1 h => by subst h; exact kk)
end
theorem zk_row3 {k : Nat} (h : k < 2) : z_kd (3 + 1 + k) = (11, 71) := by
  rcases (show k = 0 ∨ k = 1 by omega) with rfl | rfl <;> rfl
theorem zk_row12 {k : Nat} (h : k < 13) : z_kd (12 + 1 + k) = (11, 71) := by
  rcases (show k = 0 ∨ k = 1 ∨ k = 2 ∨ k = 3 ∨ k = 4 ∨ k = 5 ∨ k = 6 ∨ k = 7 ∨ k = 8 ∨ k = 9 ∨ k = 10 ∨ k = 11 ∨ k = 12 by omega) with rfl | rfl | rfl | rfl | rfl | rfl | rfl | rfl | rfl | rfl | rfl | rfl | rfl <;> rfl
