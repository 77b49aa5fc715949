/-! counting the bits of a long -/
def k_v : List Nat → Nat
  | [] => 0
  | b :: r => 256 * k_v r + b
def k_m (m : Nat) : Nat → Nat
  | 0 => 0
  | k + 1 => 256 * k_m m k + m
theorem k_spl {h l M m : Nat} (hl : l < 256) (hm : m < 256) : (256 * h + l) &&& (256 * M + m) = 256 * (h &&& M) + (l &&& m) := by
  have hlm : l &&& m < 256 := Nat.lt_of_le_of_lt Nat.and_le_left hl
  apply Nat.eq_of_testBit_eq
  intro i
  have e1 := Nat.testBit_two_pow_mul_add h (b := l) (i := 8) hl i
  have e2 := Nat.testBit_two_pow_mul_add M (b := m) (i := 8) hm i
  have e3 := Nat.testBit_two_pow_mul_add (h &&& M) (b := l &&& m) (i := 8) hlm i
  rw [Nat.testBit_and]
  show ((2 ^ 8 * h + l).testBit i && (2 ^ 8 * M + m).testBit i) = (2 ^ 8 * (h &&& M) + (l &&& m)).testBit i
  rw [e1, e2, e3]
  split
  · rw [Nat.testBit_and]
  · rw [Nat.testBit_and]
theorem k_and {m : Nat} (hm : m < 256) : ∀ bs : List Nat, (∀ b, b ∈ bs → b < 256) → k_v bs &&& k_m m bs.length = k_v (bs.map (fun b => b &&& m))
  | [], _ => by simp [k_v]
  | b :: r, h => by
    rw [k_v, List.length_cons, k_m, k_spl (h b (by simp)) hm, k_and hm r (fun x hx => h x (by simp [hx])), List.map_cons, k_v]
theorem k_d1 : ∀ b, b < 256 → ∀ e, e < 2 → (128 * e + b / 2) &&& 85 = (b / 2) &&& 85 := by decide +kernel
theorem k_d2 : ∀ b, b < 256 → ∀ e, e < 4 → (64 * e + b / 4) &&& 51 = (b / 4) &&& 51 := by decide +kernel
theorem k_d4 : ∀ b, b < 69 → ∀ e, e < 5 → (16 * e + (b + b / 16)) &&& 15 = (b + b / 16) &&& 15 := by decide +kernel
theorem k_sh1 : ∀ bs : List Nat, (∀ b, b ∈ bs → b < 256) → (k_v bs / 2) &&& k_m 85 bs.length = k_v (bs.map (fun b => (b / 2) &&& 85))
  | [], _ => by simp [k_v]
  | b :: r, h => by
    have hb := h b (by simp)
    have e : (256 * k_v r + b) / 2 = 256 * (k_v r / 2) + (128 * (k_v r % 2) + b / 2) := by omega
    rw [k_v, List.length_cons, k_m, e, k_spl (by omega) (by decide), k_sh1 r (fun x hx => h x (by simp [hx])), List.map_cons, k_v, k_d1 b hb _ (Nat.mod_lt _ (by decide))]
theorem k_sh2 : ∀ bs : List Nat, (∀ b, b ∈ bs → b < 256) → (k_v bs / 4) &&& k_m 51 bs.length = k_v (bs.map (fun b => (b / 4) &&& 51))
  | [], _ => by simp [k_v]
  | b :: r, h => by
    have hb := h b (by simp)
    have e : (256 * k_v r + b) / 4 = 256 * (k_v r / 4) + (64 * (k_v r % 4) + b / 4) := by omega
    rw [k_v, List.length_cons, k_m, e, k_spl (by omega) (by decide), k_sh2 r (fun x hx => h x (by simp [hx])), List.map_cons, k_v, k_d2 b hb _ (Nat.mod_lt _ (by decide))]
theorem k_m16 : ∀ bs : List Nat, (∀ b, b ∈ bs → b < 69 ∧ b % 16 < 5) → k_v bs % 16 < 5
  | [], _ => by simp [k_v]
  | b :: r, h => by
    have hb := h b (by simp)
    rw [k_v]
    omega
theorem k_sh4 : ∀ bs : List Nat, (∀ b, b ∈ bs → b < 69 ∧ b % 16 < 5) → (k_v bs + k_v bs / 16) &&& k_m 15 bs.length = k_v (bs.map (fun b => (b + b / 16) &&& 15))
  | [], _ => by simp [k_v]
  | b :: r, h => by
    have hb := h b (by simp)
    have hr := k_m16 r (fun x hx => h x (by simp [hx]))
    have e : 256 * k_v r + b + (256 * k_v r + b) / 16 = 256 * (k_v r + k_v r / 16) + (16 * (k_v r % 16) + (b + b / 16)) := by omega
    rw [k_v, List.length_cons, k_m, e, k_spl (by omega) (by decide), k_sh4 r (fun x hx => h x (by simp [hx])), List.map_cons, k_v, k_d4 b hb.1 _ hr]
theorem k_sub {f : Nat → Nat} (hf : ∀ b, f b ≤ b) : ∀ bs : List Nat, k_v (bs.map f) ≤ k_v bs ∧ k_v bs - k_v (bs.map f) = k_v (bs.map (fun b => b - f b))
  | [] => ⟨Nat.le_refl _, rfl⟩
  | b :: r => by
    obtain ⟨i1, i2⟩ := k_sub hf r
    have := hf b
    rw [List.map_cons, List.map_cons, k_v, k_v, k_v]
    omega
theorem k_add {f g : Nat → Nat} : ∀ bs : List Nat, k_v (bs.map f) + k_v (bs.map g) = k_v (bs.map (fun b => f b + g b))
  | [] => rfl
  | b :: r => by
    have := k_add (f := f) (g := g) r
    rw [List.map_cons, List.map_cons, List.map_cons, k_v, k_v, k_v]
    omega
def k_s1 (b : Nat) : Nat := b - ((b / 2) &&& 85)
def k_s2 (b : Nat) : Nat := (b &&& 51) + ((b / 4) &&& 51)
def k_s3 (b : Nat) : Nat := (b + b / 16) &&& 15
theorem k_dec : ∀ b, b < 256 → k_s1 b < 256 ∧ (k_s2 (k_s1 b) < 69 ∧ k_s2 (k_s1 b) % 16 < 5) ∧ k_s3 (k_s2 (k_s1 b)) = m_thk (fun _ => 1) b 8 ∧ k_s3 (k_s2 (k_s1 b)) ≤ 8 := by decide +kernel
def k_p1 (x : Nat) : Nat := x - ((x / 2) &&& 6148914691236517205)
def k_p2 (x : Nat) : Nat := (x &&& 3689348814741910323) + ((x / 4) &&& 3689348814741910323)
def k_p3 (x : Nat) : Nat := (x + x / 16) &&& 1085102592571150095
def k_p4 (x : Nat) : Nat := x + x / 256
def k_p5 (x : Nat) : Nat := x + x / 65536
def k_p6 (x : Nat) : Nat := x + x / 4294967296
theorem k_mm : k_m 85 8 = 6148914691236517205 ∧ k_m 51 8 = 3689348814741910323 ∧ k_m 15 8 = 1085102592571150095 := by decide +kernel
theorem k_vlt : ∀ bs : List Nat, (∀ b, b ∈ bs → b < 256) → k_v bs < 256 ^ bs.length
  | [], _ => by simp [k_v]
  | b :: r, h => by
    have := k_vlt r (fun x hx => h x (by simp [hx]))
    have hb := h b (by simp)
    rw [k_v, List.length_cons, Nat.pow_succ]
    omega
theorem k_8 {x : Nat} (hx : x < 18446744073709551616) : ∃ bs : List Nat, bs.length = 8 ∧ (∀ b, b ∈ bs → b < 256) ∧ k_v bs = x := by
  refine ⟨[x % 256, x / 256 % 256, x / 65536 % 256, x / 16777216 % 256, x / 4294967296 % 256, x / 1099511627776 % 256, x / 281474976710656 % 256, x / 72057594037927936 % 256], rfl, fun b hb => ?_, ?_⟩
  · simp only [List.mem_cons, List.not_mem_nil, or_false] at hb
    omega
  · simp only [k_v]
    omega
theorem k_thk : ∀ bs : List Nat, (∀ b, b ∈ bs → b < 256) → m_thk (fun _ => 1) (k_v bs) (8 * bs.length) = (bs.map (fun b => m_thk (fun _ => 1) b 8)).sum
  | [], _ => rfl
  | b :: r, h => by
    have hb := h b (by simp)
    have ih := k_thk r (fun x hx => h x (by simp [hx]))
    rw [List.map_cons, List.sum_cons, ← ih, List.length_cons, k_v]
    have key : ∀ k, m_thk (fun _ => 1) (256 * k_v r + b) (8 + k) = m_thk (fun _ => 1) b 8 + m_thk (fun _ => 1) (k_v r) k := by
      intro k
      have tb : ∀ i, (256 * k_v r + b).testBit i = if i < 8 then b.testBit i else (k_v r).testBit (i - 8) := fun i => Nat.testBit_two_pow_mul_add (k_v r) (b := b) (i := 8) hb i
      induction k with
      | zero =>
        show m_thk (fun _ => 1) (256 * k_v r + b) 8 = m_thk (fun _ => 1) b 8
        have : ∀ j, j ≤ 8 → m_thk (fun _ => 1) (256 * k_v r + b) j = m_thk (fun _ => 1) b j := by
          intro j
          induction j with
          | zero => intro _; rfl
          | succ j ihj =>
            intro hj
            have t1 : (256 * k_v r + b).testBit j = b.testBit j := (tb j).trans (if_pos (by omega))
            rw [m_thk, m_thk, ihj (by omega), t1]
        exact this 8 (Nat.le_refl _)
      | succ k ihk =>
        have t1 : (256 * k_v r + b).testBit (8 + k) = (k_v r).testBit k := (tb (8 + k)).trans ((if_neg (by omega)).trans (by rw [Nat.add_sub_cancel_left]))
        have e1 : m_thk (fun _ => 1) (256 * k_v r + b) (8 + (k + 1)) = m_thk (fun _ => 1) (256 * k_v r + b) (8 + k) + (if (256 * k_v r + b).testBit (8 + k) = true then 1 else 0) := rfl
        have e2 : m_thk (fun _ => 1) (k_v r) (k + 1) = m_thk (fun _ => 1) (k_v r) k + (if (k_v r).testBit k = true then 1 else 0) := rfl
        rw [e1, e2, ihk, t1]
        omega
    rw [show 8 * (r.length + 1) = 8 + 8 * r.length by omega]
    exact key _
theorem k_eE (c0 c1 c2 c3 c4 c5 c6 c7 : Nat) : 256 * (256 * (256 * (256 * (256 * (256 * (256 * c7 + c6) + c5) + c4) + c3) + c2) + c1) + c0 = 4294967296 * (256 * (256 * (256 * c7 + c6) + c5) + c4) + (256 * (256 * (256 * c3 + c2) + c1) + c0) := by omega
theorem k_lo {c0 c1 c2 c3 : Nat} (a0 : c0 ≤ 64) (a1 : c1 ≤ 64) (a2 : c2 ≤ 64) (a3 : c3 ≤ 64) : 256 * (256 * (256 * c3 + c2) + c1) + c0 < 2000000000 := by omega
theorem k_eM (hi g1 g2 h0 c0 : Nat) (h : hi = 256 * g1 + h0) : 4294967296 * hi + (256 * g2 + c0) + hi = 128 * (33554432 * hi + 2 * g2 + 2 * g1) + (c0 + h0) := by omega
theorem k_fin {c0 c1 c2 c3 c4 c5 c6 c7 : Nat} (a0 : c0 ≤ 8) (a1 : c1 ≤ 8) (a2 : c2 ≤ 8) (a3 : c3 ≤ 8) (a4 : c4 ≤ 8) (a5 : c5 ≤ 8) (a6 : c6 ≤ 8) (a7 : c7 ≤ 8) : 256 * (256 * (256 * (256 * (256 * (256 * (256 * c7 + (c6 + c7)) + (c5 + c6)) + (c4 + c5)) + (c3 + c4)) + (c2 + c3)) + (c1 + c2)) + (c0 + c1) < 18446744073709551616 ∧ 256 * (256 * (256 * (256 * (256 * (256 * (256 * c7 + (c6 + c7)) + (c5 + c6 + c7)) + (c4 + c5 + (c6 + c7))) + (c3 + c4 + (c5 + c6))) + (c2 + c3 + (c4 + c5))) + (c1 + c2 + (c3 + c4))) + (c0 + c1 + (c2 + c3)) < 18446744073709551616 ∧ k_p6 (256 * (256 * (256 * (256 * (256 * (256 * (256 * c7 + (c6 + c7)) + (c5 + c6 + c7)) + (c4 + c5 + (c6 + c7))) + (c3 + c4 + (c5 + c6))) + (c2 + c3 + (c4 + c5))) + (c1 + c2 + (c3 + c4))) + (c0 + c1 + (c2 + c3))) < 18446744073709551616 ∧ k_p6 (256 * (256 * (256 * (256 * (256 * (256 * (256 * c7 + (c6 + c7)) + (c5 + c6 + c7)) + (c4 + c5 + (c6 + c7))) + (c3 + c4 + (c5 + c6))) + (c2 + c3 + (c4 + c5))) + (c1 + c2 + (c3 + c4))) + (c0 + c1 + (c2 + c3))) % 128 = c0 + c1 + (c2 + c3) + (c4 + c5 + (c6 + c7)) := by
  rw [k_eE, k_eE]
  have l1 := k_lo (c0 := c0 + c1) (c1 := c1 + c2) (c2 := c2 + c3) (c3 := c3 + c4) (by omega) (by omega) (by omega) (by omega)
  have l2 := k_lo (c0 := c4 + c5) (c1 := c5 + c6) (c2 := c6 + c7) (c3 := c7) (by omega) (by omega) (by omega) (by omega)
  have l3 := k_lo (c0 := c0 + c1 + (c2 + c3)) (c1 := c1 + c2 + (c3 + c4)) (c2 := c2 + c3 + (c4 + c5)) (c3 := c3 + c4 + (c5 + c6)) (by omega) (by omega) (by omega) (by omega)
  have l4 := k_lo (c0 := c4 + c5 + (c6 + c7)) (c1 := c5 + c6 + c7) (c2 := c6 + c7) (c3 := c7) (by omega) (by omega) (by omega) (by omega)
  have eM := k_eM (256 * (256 * (256 * c7 + (c6 + c7)) + (c5 + c6 + c7)) + (c4 + c5 + (c6 + c7))) (256 * (256 * c7 + (c6 + c7)) + (c5 + c6 + c7)) (256 * (256 * (c3 + c4 + (c5 + c6)) + (c2 + c3 + (c4 + c5))) + (c1 + c2 + (c3 + c4))) (c4 + c5 + (c6 + c7)) (c0 + c1 + (c2 + c3)) rfl
  generalize 256 * (256 * c7 + (c6 + c7)) + (c5 + c6 + c7) = g1 at *
  generalize 256 * (256 * (c3 + c4 + (c5 + c6)) + (c2 + c3 + (c4 + c5))) + (c1 + c2 + (c3 + c4)) = g2 at *
  generalize 256 * (256 * (256 * c7 + (c6 + c7)) + (c5 + c6)) + (c4 + c5) = g3 at *
  generalize 256 * (256 * (256 * (c3 + c4) + (c2 + c3)) + (c1 + c2)) + (c0 + c1) = g4 at *
  have hs : c0 + c1 + (c2 + c3) + (c4 + c5 + (c6 + c7)) < 128 := by omega
  generalize c4 + c5 + (c6 + c7) = x1 at *
  generalize c0 + c1 + (c2 + c3) = x0 at *
  clear a0 a1 a2 a3 a4 a5 a6 a7
  generalize 256 * g1 + x1 = hi at *
  generalize 256 * g2 + x0 = lo at *
  have f6 : k_p6 (4294967296 * hi + lo) = 4294967296 * hi + lo + hi := by
    unfold k_p6
    rw [Nat.mul_add_div (by decide), Nat.div_eq_of_lt (by omega), Nat.add_zero]
  rw [f6]
  refine ⟨by omega, by omega, by omega, ?_⟩
  rw [eM, Nat.mul_add_mod, Nat.mod_eq_of_lt hs]
theorem k_main {x : Nat} (hx : x < 18446744073709551616) : k_p1 x < 18446744073709551616 ∧ ((x / 2) &&& 6148914691236517205) ≤ x ∧ k_p2 (k_p1 x) < 18446744073709551616 ∧ k_p2 (k_p1 x) + k_p2 (k_p1 x) / 16 < 18446744073709551616 ∧ k_p4 (k_p3 (k_p2 (k_p1 x))) < 18446744073709551616 ∧ k_p5 (k_p4 (k_p3 (k_p2 (k_p1 x)))) < 18446744073709551616 ∧ k_p6 (k_p5 (k_p4 (k_p3 (k_p2 (k_p1 x))))) < 18446744073709551616 ∧ k_p6 (k_p5 (k_p4 (k_p3 (k_p2 (k_p1 x))))) % 128 = m_thk (fun _ => 1) x 64 := by
  obtain ⟨bs, h8, hb, rfl⟩ := k_8 hx
  obtain ⟨m1, m2, m3⟩ := k_mm
  have e1 := k_sh1 bs hb
  rw [h8, m1] at e1
  have s1 := k_sub (f := fun b => (b / 2) &&& 85) (fun b => Nat.le_trans Nat.and_le_left (Nat.div_le_self _ _)) bs
  rw [← e1] at s1
  have p1 : k_p1 (k_v bs) = k_v (bs.map k_s1) := s1.2
  have hb1 : ∀ b, b ∈ bs.map k_s1 → b < 256 := fun b hb' => by
    obtain ⟨y, hy, rfl⟩ := List.mem_map.mp hb'
    exact (k_dec y (hb y hy)).1
  have l1 : (bs.map k_s1).length = 8 := by rw [List.length_map, h8]
  have e2 := k_and (m := 51) (by decide) (bs.map k_s1) hb1
  have e3 := k_sh2 (bs.map k_s1) hb1
  rw [l1, m2] at e2 e3
  have p2 : k_p2 (k_v (bs.map k_s1)) = k_v ((bs.map k_s1).map k_s2) := by
    unfold k_p2
    rw [e2, e3, k_add]
    rfl
  have hb2 : ∀ b, b ∈ (bs.map k_s1).map k_s2 → b < 69 ∧ b % 16 < 5 := fun b hb' => by
    obtain ⟨y, hy, rfl⟩ := List.mem_map.mp hb'
    obtain ⟨z, hz, rfl⟩ := List.mem_map.mp hy
    exact (k_dec z (hb z hz)).2.1
  have l2 : ((bs.map k_s1).map k_s2).length = 8 := by rw [List.length_map, l1]
  have e4 := k_sh4 _ hb2
  rw [l2, m3] at e4
  have p3 : k_p3 (k_v ((bs.map k_s1).map k_s2)) = k_v (((bs.map k_s1).map k_s2).map k_s3) := e4
  have v1 := k_vlt _ hb1
  have v2 := k_vlt ((bs.map k_s1).map k_s2) (fun b hb' => by have := (hb2 b hb').1; omega)
  rw [l1] at v1
  rw [l2] at v2
  have q : (256 : Nat) ^ 8 = 18446744073709551616 := by decide +kernel
  rw [q] at v1 v2
  have ht := k_thk bs hb
  rw [h8] at ht
  have hsum : ((((bs.map k_s1).map k_s2).map k_s3)) = bs.map (fun b => m_thk (fun _ => 1) b 8) := by
    rw [List.map_map, List.map_map]
    exact List.map_congr_left (fun b hb' => (k_dec b (hb b hb')).2.2.1)
  have h8' : ∀ b, b ∈ bs.map (fun b => m_thk (fun _ => 1) b 8) → b ≤ 8 := fun b hb' => by
    obtain ⟨y, hy, rfl⟩ := List.mem_map.mp hb'
    have := k_dec y (hb y hy)
    omega
  have l3 : (bs.map (fun b => m_thk (fun _ => 1) b 8)).length = 8 := by rw [List.length_map, h8]
  have hv4 : k_v ((bs.map k_s1).map k_s2) + k_v ((bs.map k_s1).map k_s2) / 16 < 18446744073709551616 := by
    have : ∀ cs : List Nat, (∀ b, b ∈ cs → b < 69) → k_v cs * 3 < 256 ^ cs.length := by
      intro cs
      induction cs with
      | nil => intro _; simp [k_v]
      | cons y r ih =>
        intro hr
        have h1 := ih (fun x hx => hr x (by simp [hx]))
        have h2 := hr y (by simp)
        rw [k_v, List.length_cons, Nat.pow_succ]
        omega
    have := this _ (fun b hb' => (hb2 b hb').1)
    rw [l2, q] at this
    omega
  rw [p1, p2, p3, hsum]
  refine ⟨v1, s1.1, v2, hv4, ?_⟩
  generalize bs.map (fun b => m_thk (fun _ => 1) b 8) = cs at *
  match cs, l3 with
  | [c0, c1, c2, c3, c4, c5, c6, c7], _ =>
    have a0 := h8' c0 (by simp)
    have a1 := h8' c1 (by simp)
    have a2 := h8' c2 (by simp)
    have a3 := h8' c3 (by simp)
    have a4 := h8' c4 (by simp)
    have a5 := h8' c5 (by simp)
    have a6 := h8' c6 (by simp)
    have a7 := h8' c7 (by simp)
    simp only [k_v, List.sum_cons, List.sum_nil] at ht ⊢
    have f4 : k_p4 (256 * (256 * (256 * (256 * (256 * (256 * (256 * (256 * 0 + c7) + c6) + c5) + c4) + c3) + c2) + c1) + c0) = 256 * (256 * (256 * (256 * (256 * (256 * (256 * c7 + (c6 + c7)) + (c5 + c6)) + (c4 + c5)) + (c3 + c4)) + (c2 + c3)) + (c1 + c2)) + (c0 + c1) := by
      unfold k_p4
      omega
    rw [f4]
    have f5 : k_p5 (256 * (256 * (256 * (256 * (256 * (256 * (256 * c7 + (c6 + c7)) + (c5 + c6)) + (c4 + c5)) + (c3 + c4)) + (c2 + c3)) + (c1 + c2)) + (c0 + c1)) = 256 * (256 * (256 * (256 * (256 * (256 * (256 * c7 + (c6 + c7)) + (c5 + c6 + c7)) + (c4 + c5 + (c6 + c7))) + (c3 + c4 + (c5 + c6))) + (c2 + c3 + (c4 + c5))) + (c1 + c2 + (c3 + c4))) + (c0 + c1 + (c2 + c3)) := by
      unfold k_p5
      omega
    rw [f5]
    have e64 : 8 * 8 = 64 := rfl
    rw [e64] at ht
    rw [ht]
    obtain ⟨g1, g2, g3, g4⟩ := k_fin a0 a1 a2 a3 a4 a5 a6 a7
    refine ⟨g1, g2, g3, g4.trans ?_⟩
    simp only [Nat.add_assoc, Nat.add_zero]
