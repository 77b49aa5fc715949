section
variable {Γ : zG} {mi : zM} {pc : Nat} {S : List zV}
/-- a counted loop over changing states -/
theorem zj_forS {b : Nat} (F : Nat → List (Option zV)) (I : Nat → zS → Prop) (hs : ∀ i u, i < b → I i u → (∀ u', I (i + 1) u' → z_J Γ mi pc (F (i + 1)) S u') → z_J Γ mi pc (F i) S u) (he : ∀ u, I b u → z_J Γ mi pc (F b) S u) : ∀ i, i ≤ b → ∀ u, I i u → z_J Γ mi pc (F i) S u := by
  intro i hi
  obtain ⟨j, hj⟩ : ∃ j, b = i + j := ⟨b - i, by omega⟩
  induction j generalizing i with
  | zero =>
    have e : b = i := by omega
    subst e
    exact he
  | succ j ih =>
    intro u hu
    exact hs i u (by omega) hu (fun u' hu' => ih (i + 1) (by omega) (by omega) u' hu')
/-- a loop with a falling number -/
theorem zj_forM (I : Nat → List (Option zV) → zS → Prop) (hs : ∀ n L u, I n L u → (∀ n' L' u', n' < n → I n' L' u' → z_J Γ mi pc L' S u') → z_J Γ mi pc L S u) : ∀ n L u, I n L u → z_J Γ mi pc L S u := by
  intro n
  induction n using Nat.strongRecOn with
  | ind n ih => exact fun L u h => hs n L u h (fun n' L' u' hn h' => ih n' hn L' u' h')
end
/-! rules as lists of numbers: what they are worth -/
def p_nm (e : Nat → Int32) (x : Nat) : Int32 := if x = 116 then e 0 else if x = 119 then e 1 else if x = 99 then e 2 else if x = 107 then e 3 else if x = 110 then e 4 else e 5
def p_jn (x : Nat) (a b : Int32) : Int32 := if x = 43 then a + b else if x = 45 then a - b else if x = 42 then a * b else if x = 47 then (if b = 0 then nI 0 else a / b) else if x = 60 then (if a < b then nI 1 else nI 0) else if x = 62 then (if b < a then nI 1 else nI 0) else if a = b then nI 1 else nI 0
def p_st (e : Nat → Int32) (st : List Int32) (x : Nat) : List Int32 :=
  if x < 1000 then nI x :: st else if x < 2000 then p_nm e (x - 1000) :: st else if x = 2256 then (match st with
    | a :: t => -a :: t
    | [] => []) else match st with
    | b :: a :: t => p_jn (x - 2000) a b :: t
    | _ => []
def p_dep : List Nat → Nat → Option Nat
  | [], d => some d
  | x :: t, d => if x < 2000 then p_dep t (d + 1) else if x = 2256 then (if 1 ≤ d then p_dep t d else none) else if 2 ≤ d then p_dep t (d - 1) else none
/-- the rule at r: what it is worth, by the six numbers asked of -/
def rC (cd : List Nat) (σ : zS) (r : Nat) : Prop := cd.length ≤ 40 ∧ σ.1 r 1 = nI cd.length ∧ (∀ i, i < cd.length → σ.1 (r + 1) i = nI (cd.getD i 0)) ∧ (∀ i, i < cd.length → cd.getD i 0 < 2147483648) ∧ p_dep cd 0 = some 1
def rR (E : (Nat → Int32) → Int32) (σ : zS) (r : Nat) : Prop := ∃ cd : List Nat, rC cd σ r ∧ ∀ e, (cd.foldl (p_st e) []).getD 0 0 = E e
theorem rC.keep {cd : List Nat} {σ u : zS} {r : Nat} (h : rC cd σ r) (h0 : u.1 r = σ.1 r) (h1 : u.1 (r + 1) = σ.1 (r + 1)) : rC cd u r := by
  unfold rC
  rw [h0, h1]
  exact h
theorem rR.keep {E : (Nat → Int32) → Int32} {σ u : zS} {r : Nat} (h : rR E σ r) (h0 : u.1 r = σ.1 r) (h1 : u.1 (r + 1) = σ.1 (r + 1)) : rR E u r := by
  obtain ⟨cd, hc, he⟩ := h
  exact ⟨cd, hc.keep h0 h1, he⟩
theorem rc_named (e : Nat → Int32) {x : Nat} (hx : x < 2147483648) (σ : zS) : z_Ci 0 zm_Rule_named [.inl (nI x), .inl (e 0), .inl (e 1), .inl (e 2), .inl (e 3), .inl (e 4), .inl (e 5)] σ (z_is (p_nm e x) σ) := by
  refine z_Ci_of (by decide) (Nat.le_of_ble_eq_true rfl) (fun Γ hd he => ?_)
  show z_J Γ zm_Rule_named 0 [some (.inl (nI x)), some (.inl (e 0)), some (.inl (e 1)), some (.inl (e 2)), some (.inl (e 3)), some (.inl (e 4)), some (.inl (e 5))] [] σ
  have ht : (nI x).toInt = (x : Int) := nI_toInt hx
  refine zb_Rule_named_0 (fun h1 h2 h3 h4 h5 => ?_) (fun h => ?_) (fun h => ?_) (fun h => ?_) (fun h => ?_) (fun h => ?_)
  · refine zb_Rule_named_64 ?_
    rw [he]
    rw [ht] at h1 h2 h3 h4 h5
    refine ⟨_, rfl, ?_, rfl⟩
    unfold p_nm
    rw [if_neg (by omega), if_neg (by omega), if_neg (by omega), if_neg (by omega), if_neg (by omega)]
  · rw [zn_eq hx (by omega)] at h
    subst h
    refine zb_Rule_named_56 ?_
    rw [he]
    exact ⟨_, rfl, rfl, rfl⟩
  · rw [zn_eq hx (by omega)] at h
    subst h
    refine zb_Rule_named_58 ?_
    rw [he]
    exact ⟨_, rfl, rfl, rfl⟩
  · rw [zn_eq hx (by omega)] at h
    subst h
    refine zb_Rule_named_61 ?_
    rw [he]
    exact ⟨_, rfl, rfl, rfl⟩
  · rw [zn_eq hx (by omega)] at h
    subst h
    refine zb_Rule_named_52 ?_
    rw [he]
    exact ⟨_, rfl, rfl, rfl⟩
  · rw [zn_eq hx (by omega)] at h
    subst h
    refine zb_Rule_named_54 ?_
    rw [he]
    exact ⟨_, rfl, rfl, rfl⟩
theorem rc_joined {x : Nat} (hx : x < 2147483648) (a b : Int32) (σ : zS) : z_Ci 0 zm_Rule_joined [.inl (nI x), .inl a, .inl b] σ (z_is (p_jn x a b) σ) := by
  refine z_Ci_of (by decide) (Nat.le_of_ble_eq_true rfl) (fun Γ hd he => ?_)
  show z_J Γ zm_Rule_joined 0 [some (.inl (nI x)), some (.inl a), some (.inl b)] [] σ
  have ht : (nI x).toInt = (x : Int) := nI_toInt hx
  refine zb_Rule_joined_0 (fun h1 h2 h3 h4 h5 h6 => ?_) (fun h => ?_) (fun h => ?_) (fun h => ?_) (fun h => ?_) (fun h => ?_) (fun h => ?_)
  · rw [ht] at h1 h2 h3 h4 h5 h6
    have e : p_jn x a b = if a = b then nI 1 else nI 0 := by
      unfold p_jn
      rw [if_neg (by omega), if_neg (by omega), if_neg (by omega), if_neg (by omega), if_neg (by omega), if_neg (by omega)]
    refine zb_Rule_joined_106 (fun h => ?_) (fun h => ?_)
    · refine zb_Rule_joined_115 (zb_Rule_joined_116 ?_)
      rw [he]
      exact ⟨_, rfl, by rw [e, if_neg h], rfl⟩
    · refine zb_Rule_joined_111 (zb_Rule_joined_116 ?_)
      rw [he]
      exact ⟨_, rfl, by rw [e, if_pos h], rfl⟩
  · rw [zn_eq hx (by omega)] at h
    subst h
    refine zb_Rule_joined_68 ?_
    rw [he]
    exact ⟨_, rfl, rfl, rfl⟩
  · rw [zn_eq hx (by omega)] at h
    subst h
    refine zb_Rule_joined_60 ?_
    rw [he]
    exact ⟨_, rfl, rfl, rfl⟩
  · rw [zn_eq hx (by omega)] at h
    subst h
    refine zb_Rule_joined_64 ?_
    rw [he]
    exact ⟨_, rfl, rfl, rfl⟩
  · rw [zn_eq hx (by omega)] at h
    subst h
    have e : p_jn 47 a b = if b = 0 then nI 0 else a / b := rfl
    refine zb_Rule_joined_72 (fun h => ?_) (fun h => ?_)
    · refine zb_Rule_joined_80 h (zb_Rule_joined_83 ?_)
      rw [he]
      exact ⟨_, rfl, by rw [e, if_neg h], rfl⟩
    · refine zb_Rule_joined_76 (zb_Rule_joined_83 ?_)
      rw [he]
      exact ⟨_, rfl, by rw [e, if_pos h], rfl⟩
  · rw [zn_eq hx (by omega)] at h
    subst h
    have e : p_jn 60 a b = if a < b then nI 1 else nI 0 := rfl
    refine zb_Rule_joined_84 (fun h => ?_) (fun h => ?_)
    · refine zb_Rule_joined_93 (zb_Rule_joined_94 ?_)
      rw [he]
      exact ⟨_, rfl, by rw [e, if_neg (Int32.not_lt.mpr h)], rfl⟩
    · refine zb_Rule_joined_89 (zb_Rule_joined_94 ?_)
      rw [he]
      exact ⟨_, rfl, by rw [e, if_pos (Int32.not_le.mp h)], rfl⟩
  · rw [zn_eq hx (by omega)] at h
    subst h
    have e : p_jn 62 a b = if b < a then nI 1 else nI 0 := rfl
    refine zb_Rule_joined_95 (fun h => ?_) (fun h => ?_)
    · refine zb_Rule_joined_104 (zb_Rule_joined_105 ?_)
      rw [he]
      exact ⟨_, rfl, by rw [e, if_neg (Int32.not_lt.mpr h)], rfl⟩
    · refine zb_Rule_joined_100 (zb_Rule_joined_105 ?_)
      rw [he]
      exact ⟨_, rfl, by rw [e, if_pos (Int32.not_le.mp h)], rfl⟩
/-- the row of worths holds the stack, its top last -/
def p_W (st : List Int32) (f : Nat → Int32) : Prop := ∀ j, j < st.length → f j = st.getD (st.length - 1 - j) 0
theorem p_W_push {st : List Int32} {f g : Nat → Int32} {x : Int32} (h : p_W st f) (h1 : g st.length = x) (h2 : ∀ j, j ≠ st.length → g j = f j) : p_W (x :: st) g := by
  intro j hj
  simp only [List.length_cons] at hj ⊢
  by_cases e : j = st.length
  · subst e
    rw [h1]
    simp
  · rw [h2 j e, h j (by omega)]
    have : st.length + 1 - 1 - j = (st.length - 1 - j) + 1 := by omega
    rw [this, List.getD_cons_succ]
theorem p_W_tail {x : Int32} {st : List Int32} {f : Nat → Int32} (h : p_W (x :: st) f) : p_W st f := by
  intro j hj
  rw [h j (by simp; omega)]
  simp only [List.length_cons]
  have : st.length + 1 - 1 - j = (st.length - 1 - j) + 1 := by omega
  rw [this, List.getD_cons_succ]
theorem p_W_top {x : Int32} {st : List Int32} {f : Nat → Int32} (h : p_W (x :: st) f) : f st.length = x := by
  rw [h st.length (by simp)]
  simp
theorem p_st_len (e : Nat → Int32) (st : List Int32) (x : Nat) : (p_st e st x).length ≤ st.length + 1 := by
  unfold p_st
  split
  · simp
  · split
    · simp
    · split
      · cases st <;> simp
      · cases st with
        | nil => simp
        | cons b t => cases t <;> simp
set_option maxHeartbeats 1000000 in
theorem rc_worth {E : (Nat → Int32) → Int32} {σ : zS} {r : Nat} (ho : z_oR r) (hR : rR E σ r) (e : Nat → Int32) : z_Ci 1 zm_Rule_worth [.inr r, .inl (e 0), .inl (e 1), .inl (e 2), .inl (e 3), .inl (e 4), .inl (e 5)] σ (fun x u => x = E e ∧ z_fr (fun q => q = r + 2) σ u) := by
  obtain ⟨cd, ⟨h40, hsz, hcd, hsm, hdp⟩, hE⟩ := hR
  refine z_Ci_of (by decide) (Nat.le_of_ble_eq_true rfl) (fun Γ hd he => ?_)
  show z_J Γ zm_Rule_worth 0 [some (.inr r), some (.inl (e 0)), some (.inl (e 1)), some (.inl (e 2)), some (.inl (e 3)), some (.inl (e 4)), some (.inl (e 5)), none, none, none] [] σ
  refine zb_Rule_worth_0 ho ?_
  refine zj_forS (b := cd.length) (fun i => [some (.inr r), some (.inl (e 0)), some (.inl (e 1)), some (.inl (e 2)), some (.inl (e 3)), some (.inl (e 4)), some (.inl (e 5)), some (.inl (nI ((cd.take i).foldl (p_st e) []).length)), some (.inl (nI i)), none])
    (fun i u => z_fr (fun q => q = r + 2) σ u ∧ ((cd.take i).foldl (p_st e) []).length ≤ i ∧ p_W ((cd.take i).foldl (p_st e) []) (u.1 (r + 2)) ∧ p_dep (cd.drop i) ((cd.take i).foldl (p_st e) []).length = some 1) (fun i u hi hI kk => ?_) (fun u hI => ?_) 0 (Nat.zero_le _) σ ⟨z_fr.rf, Nat.le_refl _, fun j hj => by simp at hj, by simpa using hdp⟩
  · obtain ⟨hF, hl, hW, hp⟩ := hI
    have e0 : u.1 r = σ.1 r := (hF r (by omega)).1
    have e1 : u.1 (r + 1) = σ.1 (r + 1) := (hF (r + 1) (by omega)).1
    have ht : (cd.take (i + 1)).foldl (p_st e) [] = p_st e ((cd.take i).foldl (p_st e) []) (cd.getD i 0) := by
      rw [List.take_add_one, List.foldl_append, List.getD_eq_getElem?_getD, List.getElem?_eq_getElem hi]
      rfl
    have hdr : cd.drop i = cd.getD i 0 :: cd.drop (i + 1) := by
      rw [List.getD_eq_getElem?_getD, List.getElem?_eq_getElem hi]
      exact List.drop_eq_getElem_cons hi
    have hx := hsm i hi
    rw [hdr] at hp
    have hcx := hcd i hi
    simp only [ht] at kk
    generalize hst : (cd.take i).foldl (p_st e) [] = st at hl hW hp kk ⊢
    generalize cd.getD i 0 = x at hp hx hcx kk
    refine zb_Rule_worth_6 ho (fun h => ?_) (fun _ => ?_)
    · rw [e0, hsz] at h
      exact absurd h (nI_ge hi (by omega))
    refine zb_Rule_worth_15 ho (z_ixn (by omega)) (fun h => ?_) (fun h => ?_)
    · rw [e1, hcx, zn_le (by omega) hx] at h
      rw [e1, hcx]
      refine zb_Rule_worth_47 ho (fun h2 => ?_) (fun h2 => ?_)
      · rw [zn_le (by omega) hx] at h2
        refine zb_Rule_worth_86 ho (fun h3 => ?_) (fun h3 => ?_)
        · rw [zn_eq hx (by omega)] at h3
          simp only [p_dep, if_neg (show ¬ x < 2000 by omega), if_neg h3] at hp
          have h22 : 2 ≤ st.length := by
            rcases Nat.lt_or_ge st.length 2 with q | q
            · rw [if_neg (by omega)] at hp
              cases hp
            · exact q
          rw [if_pos h22] at hp
          obtain ⟨b, a, t, rfl⟩ : ∃ b a t, st = b :: a :: t := by
            match st, h22 with
            | b :: a :: t, _ => exact ⟨b, a, t, rfl⟩
          simp only [List.length_cons] at hl hp
          have eP : p_st e (b :: a :: t) x = p_jn (x - 2000) a b :: t := by
            unfold p_st
            rw [if_neg (by omega), if_neg (by omega), if_neg h3]
          simp only [eP, List.length_cons] at kk
          have w1 : u.1 (r + 2) (t.length + 1) = b := p_W_top hW
          have w2 : u.1 (r + 2) t.length = a := p_W_top (p_W_tail hW)
          have m1 : nI (b :: a :: t).length + (-1) = nI (t.length + 1) := pk_m1 _
          have m2 : nI (t.length + 1) - nI 1 = nI t.length := zn_pred (by omega)
          have m3 : nI x - nI 2000 = nI (x - 2000) := pk_sub (by omega)
          have hj := rc_joined (x := x - 2000) (by omega) (u.1 (r + 2) t.length) (u.1 (r + 2) (t.length + 1)) u
          rw [← m3] at hj
          refine zb_Rule_worth_116 ho (k1 := t.length) (k2 := t.length + 1) ⟨by rw [m1, m2], by omega⟩ ⟨m1, by omega⟩ hj (by omega) (fun rr σ1 hh => ?_)
          rw [hh.1, hh.2]
          clear hh
          rw [m1, m2]
          refine zb_Rule_worth_152 ho (k1 := t.length) (z_ixn (by omega)) (zb_Rule_worth_153 ho ?_)
          rw [nI_add, w1, w2]
          refine kk _ ⟨hF.pI rfl, by omega, ?_, hp⟩
          refine p_W_push (p_W_tail (p_W_tail hW)) (z_pI_at _ _ _ _) (fun j hj => z_pI_ne2 hj)
        · rw [zn_eq hx (by omega)] at h3
          subst h3
          simp only [p_dep, if_neg (show ¬ 2256 < 2000 by omega), if_true] at hp
          have h22 : 1 ≤ st.length := by
            rcases Nat.lt_or_ge st.length 1 with q | q
            · rw [if_neg (by omega)] at hp
              cases hp
            · exact q
          rw [if_pos h22] at hp
          obtain ⟨a, t, rfl⟩ : ∃ a t, st = a :: t := by
            match st, h22 with
            | a :: t, _ => exact ⟨a, t, rfl⟩
          simp only [List.length_cons] at hl hp
          have eP : p_st e (a :: t) 2256 = -a :: t := rfl
          simp only [eP, List.length_cons] at kk
          have w2 : u.1 (r + 2) t.length = a := p_W_top hW
          have m2 : nI (a :: t).length - nI 1 = nI t.length := zn_pred (by simp)
          refine zb_Rule_worth_94 ho (k1 := t.length) (k2 := t.length) ⟨m2, by omega⟩ ⟨m2, by omega⟩ (zb_Rule_worth_153 ho ?_)
          rw [nI_add, w2]
          refine kk _ ⟨hF.pI rfl, by omega, ?_, hp⟩
          refine p_W_push (p_W_tail hW) (z_pI_at _ _ _ _) (fun j hj => z_pI_ne2 hj)
      · rw [zn_le (by omega) hx] at h2
        simp only [p_dep, if_pos (show x < 2000 by omega)] at hp
        have eP : p_st e st x = p_nm e (x - 1000) :: st := by
          unfold p_st
          rw [if_neg (by omega), if_pos (by omega)]
        simp only [eP, List.length_cons] at kk
        have m3 : nI x - nI 1000 = nI (x - 1000) := pk_sub (by omega)
        have hj := rc_named e (x := x - 1000) (by omega) u
        rw [← m3] at hj
        refine zb_Rule_worth_55 ho hj (by omega) (fun rr σ1 hh => ?_)
        rw [hh.1, hh.2]
        clear hh
        refine zb_Rule_worth_79 ho (k1 := st.length) (z_ixn (by omega)) (zb_Rule_worth_153 ho ?_)
        rw [nI_add, nI_add]
        refine kk _ ⟨hF.pI rfl, by omega, ?_, hp⟩
        refine p_W_push hW (z_pI_at _ _ _ _) (fun j hj => z_pI_ne2 hj)
    · rw [e1, hcx, zn_le (by omega) hx] at h
      rw [e1, hcx]
      simp only [p_dep, if_pos (show x < 2000 by omega)] at hp
      have eP : p_st e st x = nI x :: st := by
        unfold p_st
        rw [if_pos (by omega)]
      simp only [eP, List.length_cons] at kk
      refine zb_Rule_worth_32 ho (k1 := st.length) (z_ixn (by omega)) (zb_Rule_worth_153 ho ?_)
      rw [nI_add, nI_add]
      refine kk _ ⟨hF.pI rfl, by omega, ?_, hp⟩
      refine p_W_push hW (z_pI_at _ _ _ _) (fun j hj => z_pI_ne2 hj)
  · obtain ⟨hF, hl, hW, hp⟩ := hI
    have e0 : u.1 r = σ.1 r := (hF r (by omega)).1
    simp only [List.take_length, List.drop_length, p_dep] at hl hW hp ⊢
    have h1 := Option.some.inj hp
    refine zb_Rule_worth_6 ho (fun _ => ?_) (fun h => ?_)
    · refine zb_Rule_worth_159 ho (k1 := 0) (z_ixn (by omega)) ?_
      rw [he]
      refine ⟨_, rfl, ?_, hF⟩
      rw [← hE e, hW 0 (by omega), h1]
    · rw [e0, hsz] at h
      exact absurd (Int32.le_refl _) h
theorem wc_between (x y z : Int32) (σ : zS) : z_Ci 1 zm_Walls_between [.inl x, .inl y, .inl z] σ (z_is (z_max x (z_min y z)) σ) := by
  refine z_Ci_of (by decide) (Nat.le_of_ble_eq_true rfl) (fun Γ hd he => ?_)
  show z_J Γ zm_Walls_between 0 [some (.inl x), some (.inl y), some (.inl z)] [] σ
  refine zb_Walls_between_0 (by omega) ?_
  rw [he]
  exact ⟨_, rfl, rfl, rfl⟩
