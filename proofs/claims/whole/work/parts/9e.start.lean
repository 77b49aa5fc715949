/-! a new object of each side -/
def y_s0 : aS := (0, 1, 0, fun _ => 0, fun _ => 0, fun _ => 0)
def y_v0 : aV := (fun _ => 0, fun _ => 0, fun _ => 0, fun _ => 0, fun _ => [], 0)
def y_X0 : tX := (y_s0, y_v0, [], (0, fun _ => 0), (0, fun _ => 0), [], fun _ => none, fun _ => none, 0)
theorem y_I0 : aI y_s0 y_v0 := by
  refine ⟨⟨by decide, by decide, by decide, by decide⟩, fun b => Nat.zero_le 3, fun b _ => rfl, fun c hc => ⟨List.nodup_nil, Nat.zero_le 4, fun b => ⟨fun h => (by cases h), fun h => absurd h.1 (Nat.not_lt_zero b)⟩⟩, fun b hb => absurd hb (Nat.not_lt_zero b), fun b hb => absurd hb (Nat.not_lt_zero b), fun r _ => rfl, fun b hb => absurd hb (Nat.not_lt_zero b), fun r hr => absurd hr (Nat.not_lt_zero r)⟩
theorem y_nI0 : (0 : Int32) = nI 0 := rfl
theorem y_cV0 {f1 f2 f3 f4 f5 f6 : Nat → Int32} (h1 : ∀ b, f1 b = 0) (h4 : ∀ b, f4 b = 0) (h6 : ∀ b, f6 b = 0) : cV y_s0 y_v0 f1 f2 f3 f4 f5 f6 0 := by
  refine ⟨fun b _ => by rw [h1]; rfl, fun b hb => absurd hb (Nat.not_lt_zero b), fun b hb => absurd hb (Nat.not_lt_zero b), fun c _ => by rw [h4]; rfl, fun c _ k hk => absurd hk (Nat.not_lt_zero k), fun r _ => by rw [h6]; rfl, rfl⟩
theorem y_z0 {o k : Nat} (h : o ≠ 7 ∧ o ≠ 33 ∧ o ≠ 43 ∧ o ≠ 53 ∧ o ≠ 58 ∧ o ≠ 54 ∧ o ≠ 59 ∧ o ≠ 26 ∧ o ≠ 63) : y_σ0.1 o k = 0 := by
  unfold y_σ0
  simp [h]
theorem y_z63 {k : Nat} (h : k ≠ 4) : y_σ0.1 63 k = 0 := by
  show (if k = 4 then nI 1 else 0) = (0 : Int32)
  rw [if_neg h]
theorem y_cA0 : cA y_X0 y_σ0 := by
  refine ⟨⟨y_I0, ?_, ?_⟩, ?_, ?_, ?_, ?_, ?_, ?_⟩
  · exact ⟨rfl, rfl, rfl, fun b hb => absurd hb (Nat.not_lt_zero b), fun b hb => absurd hb (Nat.not_lt_zero b), fun r hr => absurd hr (Nat.not_lt_zero r)⟩
  · exact y_cV0 (fun _ => rfl) (fun _ => rfl) (fun _ => rfl)
  · exact ⟨Nat.zero_le 12, rfl, 0, by decide, rfl, fun i w hw => by cases hw⟩
  · refine ⟨Or.inl ⟨rfl, rfl⟩, [1116, 4, 2042], ⟨by decide, rfl, fun i hi => ?_, fun i hi => ?_, by decide⟩, fun e => ?_⟩
    · have hi' : i < 3 := hi
      rcases (show i = 0 ∨ i = 1 ∨ i = 2 by omega) with rfl | rfl | rfl <;> rfl
    · have hi' : i < 3 := hi
      rcases (show i = 0 ∨ i = 1 ∨ i = 2 by omega) with rfl | rfl | rfl <;> decide
    · show _ = tE 0 _ e
      rw [tE, if_pos rfl, Int32.mul_comm]
      rfl
  · exact ⟨Nat.zero_le 80, rfl, fun i hi => absurd hi (Nat.not_lt_zero i)⟩
  · exact ⟨Nat.zero_le 12, rfl, fun i y hy => by cases hy⟩
  · intro c hc
    have hc : c < 1 := hc
    refine ⟨fun _ => ?_, fun h hh => by cases hh⟩
    rw [show c = 0 by omega]
    rfl
  · exact fun i hi => ⟨fun _ => rfl, fun w hw => by cases hw⟩
theorem y_mA0 : mA y_X0 y_σ0 := by
  refine ⟨⟨y_I0, ?_, ?_⟩, ?_, ?_, ?_, ?_, ?_, ?_⟩
  · exact ⟨rfl, rfl, rfl, fun b hb => absurd hb (Nat.not_lt_zero b), fun b hb => absurd hb (Nat.not_lt_zero b), fun r hr => absurd hr (Nat.not_lt_zero r)⟩
  · exact ⟨fun b hb => absurd hb (Nat.not_lt_zero b), fun b hb => absurd hb (Nat.not_lt_zero b), fun b hb => absurd hb (Nat.not_lt_zero b), fun b hb => absurd hb (Nat.not_lt_zero b), fun r hr => absurd hr (Nat.not_lt_zero r), rfl⟩
  · exact ⟨Nat.zero_le 12, rfl, fun i w hw => by cases hw⟩
  · exact ⟨⟨Nat.zero_le 40, rfl, rfl, fun i hi => absurd hi (Nat.not_lt_zero i)⟩, rfl⟩
  · exact ⟨Nat.zero_le 80, rfl, fun i hi => absurd hi (Nat.not_lt_zero i)⟩
  · exact ⟨Nat.zero_le 20, rfl, fun i y hy => by cases hy⟩
  · exact ⟨rfl, fun c _ h hh => by cases hh⟩
  · exact ⟨rfl, fun i hi => ⟨Or.inl rfl, fun w hw => (by cases hw), fun _ => Or.inl rfl⟩⟩
theorem y_xQ0 : xQ 0 y_X0 := by
  refine ⟨⟨fun r hr => absurd hr (Nat.not_lt_zero r), fun b hb => absurd hb (Nat.not_lt_zero b), Nat.le_refl 0⟩, fun w hw => (by cases hw), fun i w hw => (by cases hw), fun c t ht => (by cases ht), Nat.le_refl 0⟩
