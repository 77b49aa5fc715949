/-! rules told as texts: joins that wait, sign by sign -/
abbrev rQ : Type := List Nat × List Nat × List Bool × Nat × Bool
def r_sg (x : Nat) : Nat := if x = 60 ∨ x = 62 ∨ x = 61 then 1 else if x = 43 ∨ x = 45 then 2 else if x = 42 ∨ x = 47 then 3 else if x = 256 then 4 else 0
def r_rel (s : Nat) : List Nat → List Nat → List Nat × List Nat
  | cd, [] => (cd, [])
  | cd, x :: t => if s ≤ r_sg x then r_rel s (cd ++ [2000 + x]) t else (cd, x :: t)
abbrev r_dg (c : Nat) : Prop := 48 ≤ c ∧ c < 58
def r_ok (q : rQ) (c : Nat) : Bool :=
  if r_dg c then decide (¬ (q.2.2.2.1 = 3 ∨ (q.2.2.2.1 = 0 ∧ q.2.2.2.2 = false)))
  else if q.2.2.2.2 = true then decide (c = 45 ∨ (c = 40 ∧ q.2.2.1.length ≠ 5) ∨ d_let c ≠ none)
  else if c = 41 then decide (q.2.2.1.length ≠ 1)
  else decide (¬ (r_sg c = 0 ∨ (r_sg c = 1 ∧ q.2.2.1.head? = some true)))
def r_go (q : rQ) (c : Nat) : rQ :=
  if r_dg c then (if q.2.2.2.1 = 0 then (q.1 ++ [c - 48], q.2.1, q.2.2.1, 1, false) else (q.1.dropLast ++ [q.1.getD (q.1.length - 1) 0 * 10 + (c - 48)], q.2.1, q.2.2.1, q.2.2.2.1 + 1, q.2.2.2.2))
  else if q.2.2.2.2 = true then (if c = 45 then (q.1, 256 :: q.2.1, q.2.2.1, 0, true) else if c = 40 then (q.1, 40 :: q.2.1, false :: q.2.2.1, 0, true) else (q.1 ++ [1000 + c], q.2.1, q.2.2.1, 0, false))
  else if c = 41 then ((r_rel 1 q.1 q.2.1).1, (r_rel 1 q.1 q.2.1).2.tail, q.2.2.1.tail, 0, false)
  else ((r_rel (r_sg c) q.1 q.2.1).1, c :: (r_rel (r_sg c) q.1 q.2.1).2, if r_sg c = 1 then true :: q.2.2.1.tail else q.2.2.1, 0, true)
def r_sta (X : Nat → Nat) : Nat → rQ
  | 0 => ([], [], [false], 0, true)
  | i + 1 => r_go (r_sta X i) (X i)
def r_okk (X : Nat → Nat) (i : Nat) : Bool := decide (i ≠ 40) && r_ok (r_sta X i) (X i)
def r_fin (q : rQ) : Bool := !q.2.2.2.2 && decide (q.2.2.1.length = 1)
/-- the strength of the latest that waits -/
def r_top (wa : List Nat) : Nat := match wa with
  | [] => 0
  | x :: _ => r_sg x
theorem r_rel_top {s : Nat} (hs : 0 < s) {cd wa : List Nat} (h : r_top wa < s) : r_rel s cd wa = (cd, wa) := by
  cases wa with
  | nil => rfl
  | cons x t =>
    have h' : r_sg x < s := h
    rw [r_rel, if_neg (by omega)]
theorem r_rel_rep {s : Nat} (hs : s ≤ 4) : ∀ (m : Nat) (cd wa : List Nat), r_rel s cd (List.replicate m 256 ++ wa) = r_rel s (cd ++ List.replicate m 2256) wa
  | 0, cd, wa => by simp
  | m + 1, cd, wa => by
    have h4 : r_sg 256 = 4 := by decide
    rw [List.replicate_succ, List.cons_append, r_rel, if_pos (by omega), r_rel_rep hs m, List.replicate_succ]
    simp
theorem r_rel_le {s s' : Nat} (h : s' ≤ s) : ∀ (wa cd : List Nat), r_rel s' (r_rel s cd wa).1 (r_rel s cd wa).2 = r_rel s' cd wa
  | [], cd => rfl
  | x :: t, cd => by
    rw [r_rel]
    by_cases q : s ≤ r_sg x
    · rw [if_pos q, r_rel_le h t, r_rel, if_pos (by omega)]
    · rw [if_neg q]
/-- what a piece of code does: one number more -/
def rCd (e : Nat → Int32) (qa : Bool) (C : List Nat) (v : Int32) : Prop := (∀ d, p_dep C d = some (d + 1)) ∧ (∀ x, x ∈ C → x < 4000) ∧ (qa = true → ∀ st, C.foldl (p_st e) st = v :: st)
theorem p_dep_app : ∀ (A B : List Nat) (d d' : Nat), p_dep A d = some d' → p_dep (A ++ B) d = p_dep B d'
  | [], B, d, d', h => by
    simp only [p_dep, Option.some.injEq] at h
    subst h
    rfl
  | x :: t, B, d, d', h => by
    rw [List.cons_append, p_dep]
    rw [p_dep] at h
    by_cases q : x < 2000
    · rw [if_pos q] at h ⊢
      exact p_dep_app t B _ _ h
    · rw [if_neg q] at h ⊢
      by_cases q2 : x = 2256
      · rw [if_pos q2] at h ⊢
        by_cases q3 : 1 ≤ d
        · rw [if_pos q3] at h ⊢
          exact p_dep_app t B _ _ h
        · rw [if_neg q3] at h
          exact absurd h (by simp)
      · rw [if_neg q2] at h ⊢
        by_cases q3 : 2 ≤ d
        · rw [if_pos q3] at h ⊢
          exact p_dep_app t B _ _ h
        · rw [if_neg q3] at h
          exact absurd h (by simp)
section
variable {e : Nat → Int32} {qa : Bool}
theorem rCd.neg {C : List Nat} {v : Int32} {m : Nat} (h : rCd e qa (C ++ List.replicate m 2256) v) : rCd e qa (C ++ List.replicate (m + 1) 2256) (-v) := by
  have es : C ++ List.replicate (m + 1) 2256 = (C ++ List.replicate m 2256) ++ [2256] := by
    rw [List.replicate_succ', List.append_assoc]
  rw [es]
  refine ⟨fun d => ?_, fun x hx => ?_, fun hq st => ?_⟩
  · rw [p_dep_app _ _ _ _ (h.1 d), p_dep, if_neg (by decide), if_pos rfl, if_pos (by omega), p_dep]
  · rcases List.mem_append.mp hx with z | z
    · exact h.2.1 x z
    · rw [List.mem_singleton.mp z]
      decide
  · rw [List.foldl_append, h.2.2 hq st, List.foldl_cons, List.foldl_nil]
    rfl
theorem rCd.join {C C2 : List Nat} {v o : Int32} {c : Nat} (h : rCd e qa C v) (h2 : rCd e qa C2 o) (hc : c < 256) : rCd e qa (C ++ C2 ++ [2000 + c]) (p_jn c v o) := by
  refine ⟨fun d => ?_, fun x hx => ?_, fun hq st => ?_⟩
  · have h3 : p_dep (C ++ C2) d = some (d + 1 + 1) := by rw [p_dep_app _ _ _ _ (h.1 d), h2.1]
    rw [p_dep_app _ _ _ _ h3, p_dep, if_neg (by omega), if_neg (by omega), if_pos (by omega), p_dep]
    rfl
  · rcases List.mem_append.mp hx with z | z
    · rcases List.mem_append.mp z with z | z
      · exact h.2.1 x z
      · exact h2.2.1 x z
    · rw [List.mem_singleton.mp z]
      omega
  · rw [List.foldl_append, List.foldl_append, h.2.2 hq st, h2.2.2 hq, List.foldl_cons, List.foldl_nil, p_st]
    rw [if_neg (by omega), if_neg (by omega), if_neg (by omega)]
    show p_jn (2000 + c - 2000) v o :: st = _
    rw [show 2000 + c - 2000 = c by omega]
theorem rCd.num {y : Nat} (hy : y < 1000) : rCd e qa [y] (nI y) := by
  refine ⟨fun d => ?_, fun x hx => ?_, fun _ st => ?_⟩
  · rw [p_dep, if_pos (by omega), p_dep]
  · rw [List.mem_singleton.mp hx]
    omega
  · rw [List.foldl_cons, List.foldl_nil]
    unfold p_st
    rw [if_pos hy]
theorem rCd.nam {c : Nat} (hc : d_let c ≠ none) : rCd e qa [1000 + c] (if qa = true then e ((d_let c).getD 0) else nI 0) := by
  have hc256 : c < 256 := by
    unfold d_let at hc
    repeat' split at hc
    all_goals first | omega | exact absurd rfl hc
  refine ⟨fun d => ?_, fun x hx => ?_, fun hq st => ?_⟩
  · rw [p_dep, if_pos (by omega), p_dep]
  · rw [List.mem_singleton.mp hx]
    omega
  · rw [List.foldl_cons, List.foldl_nil]
    unfold p_st
    rw [if_neg (by omega), if_pos (by omega), if_pos hq, show 1000 + c - 1000 = c by omega]
    congr 1
    unfold d_let at hc ⊢
    unfold p_nm
    repeat' split
    all_goals first | rfl | (exfalso; simp_all)
end
/-- a place where the reading ends with a fault -/
def rB (X : Nat → Nat) (M p : Nat) : Prop := (∀ j, j < p → r_okk X j = true) ∧ p ≤ M ∧ (p < M → r_ok (r_sta X p) (X p) = false) ∧ r_fin (r_sta X p) = false
/-- no more digits of the number that was read -/
def rN (X : Nat → Nat) (M i dg : Nat) : Prop := i < M → r_dg (X i) → dg = 0 ∨ dg = 3
theorem r_next {X : Nat → Nat} {j : Nat} (hok : ∀ i, i < j → r_okk X i = true) (hj : j < 40) (hg : r_ok (r_sta X j) (X j) = true) : ∀ i, i < j + 1 → r_okk X i = true := by
  intro i hi
  by_cases e : i = j
  · subst e
    unfold r_okk
    rw [hg, decide_eq_true (by omega)]
    rfl
  · exact hok i (by omega)
theorem d_ev_flt {L : Nat} {T : Nat → Nat} {qa : Bool} {e : Nat → Int32} {a p : Nat} : ∀ (n t dp : Nat) (v : Int32), (d_ev L T qa e n t dp v (a, some p)).2 = (a, some p)
  | 0, t, dp, v => by cases t <;> rfl
  | n + 1, 0, dp, v => by
    rw [d_ev, d_pas_f (fun z => absurd z.1 (by simp)), if_neg (by simp), if_pos (by simp)]
  | n + 1, 1, dp, v => by
    rw [d_ev, d_ev_flt n 0 dp 0, d_ev_flt n 2]
  | n + 1, 2, dp, v => by
    rw [d_ev, if_neg (fun z => absurd z.1 (by simp))]
  | n + 1, 3, dp, v => by
    rw [d_ev, d_ev_flt n 1 dp 0, d_ev_flt n 4]
  | n + 1, 4, dp, v => by
    rw [d_ev, if_neg (fun z => absurd z.1 (by simp))]
  | n + 1, t + 5, dp, v => by
    rw [d_ev, if_neg (fun z => by rw [d_ev_flt n 3 dp 0] at z; exact absurd z.1 (by simp)), d_ev_flt n 3 dp 0]
    all_goals intro z; omega
