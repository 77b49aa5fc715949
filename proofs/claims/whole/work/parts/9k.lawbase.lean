/-! the law's walk: what stands at each call -/
def zm_law : zM := (⟨"WallsOfBooksLaw", "law", "([I)Z"⟩, code, 7, some .boolean)
theorem cA_U {x : tX} {σ u : zS} (h : cA x σ) (hU : zU σ u) : cA x u := by
  have hF : cX (fun q => 63 ≤ q) (fun _ => False) σ u := ⟨fun q _ h2 => hU q (by omega), fun k _ => by rw [(hU 0 (by decide)).1], (hU 0 (by decide)).2⟩
  exact ⟨h.1.cX33 hF (fun q _ _ => by omega), h.2.1.keepX hF (by decide) (fun q _ _ => by omega), h.2.2.1.keepX hF (by decide), h.2.2.2.1.keepX hF (by decide) id, h.2.2.2.2.1.keepX hF (by decide) id, h.2.2.2.2.2.1.keepX hF (by decide), h.2.2.2.2.2.2.keepX hF (by decide)⟩
theorem mA_W {x : tX} {σ u : zS} (h : mA x σ) (hW : zW σ u) : mA x u := by
  have hF : mX (fun q => q < 63) (fun _ => False) σ u := ⟨fun q _ h2 => hW q (by omega), fun k _ => by rw [(hW 63 (by decide)).1], fun k _ => by rw [(hW 63 (by decide)).2]⟩
  exact ⟨h.1.keepX hF (by decide) (by decide) (by decide) (by decide), h.2.1.keepX hF (by decide) id, h.2.2.1.keepX hF (by decide) id, h.2.2.2.1.keepX hF (by decide) id, h.2.2.2.2.1.keepX hF (by decide) id, h.2.2.2.2.2.1.keepX hF (by decide) id, h.2.2.2.2.2.2.keepX hF (by decide) id⟩
theorem mc_thrown (σ : zS) : z_Ci 0 zm_Model_thrown [.inr 63] σ (z_is (σ.1 63 11) σ) := by
  refine z_Ci_of (by decide) (Nat.le_of_ble_eq_true rfl) (fun Γ hd he => ?_)
  show z_J Γ zm_Model_thrown 0 [some (.inr 63)] [] σ
  refine zb_Model_thrown_0 ?_
  rw [he]
  exact ⟨_, rfl, rfl, rfl⟩
/-- where the law's row of one long lies -/
abbrev lq (s : State) : Nat := s.heap.size + 89
/-- the law's own place among the walks -/
abbrev lG (p : Program) (l : Launch) (e : Env) (s : State) (m : MethodId) (b : Nat) (below : List Frame) (meth : Method) (c : Code) (cells slots : Nat) (Qf : State → Prop) (D : va_G) (cy : Nat → ClassId) : zG := ⟨p, l, e, room_1, s, m, #[Value.ref b], below, meth, c, ⟨cells, slots⟩, Qf, D, cy, y_ad s.heap.size b, fun q => s.heap.size ≤ q, 2000, fun _ _ => False⟩
/-- what never changes -/
def lS (p : Program) (l : Launch) (e : Env) (s : State) (m : MethodId) (b : Nat) (below : List Frame) (meth : Method) (c : Code) (Qf : State → Prop) (D : va_G) (cy : Nat → ClassId) (cJ : ClassId) (L : Nat) (xs : Nat → Int32) : Prop :=
  (∀ cells slots, cells ≤ 601024 → slots ≤ 7293033 → z_Cx (lG p l e s m b below meth c cells slots Qf D cy) zm_law) ∧ l.flags = flags0 ∧ L ≤ 2560 ∧ va_X b L xs s s.heap ∧ b < s.heap.size ∧ yX (fun q => s.heap.size ≤ q) s ∧ ArrOfT s cJ .long
/-- at a place of the law, with so many cells and slots made, behind k calls: x is what they came to -/
def lJ (p : Program) (l : Launch) (e : Env) (s : State) (m : MethodId) (b : Nat) (below : List Frame) (meth : Method) (c : Code) (Qf : State → Prop) (D : va_G) (cy : Nat → ClassId) (cJ : ClassId) (k cells slots pc : Nat) (x : tX) : Prop :=
  ∀ (σ : zS) (H : Heap) (locs : List Loc) (ls : Array Slot) (v : Int64), cA x σ → mA x σ → va_P D zC (z_ws cy (y_ad s.heap.size b) σ) H → va_D (fun q => s.heap.size ≤ q) (z_ws cy (y_ad s.heap.size b) σ) → va_S (fun q => s.heap.size ≤ q) s.heap H locs → H[lq s]? = some (lO cJ v) → lv_has ls 7 [(0, .ref b), (1, .ref (y_ad s.heap.size b 0)), (2, .ref (y_ad s.heap.size b 63)), (3, .ref (lq s)), (4, .int (nI (5 * k)))] →
    W p l e room_1 s m #[Value.ref b] below meth c H locs cells slots Qf (F0 m pc ls [])
theorem lq_ne {s : State} {b : Nat} : ∀ o, o < zK → lq s ≠ y_ad s.heap.size b o := fun o ho => by
  rw [y_ad_at ho]
  have := y_perm_lt o ho
  show s.heap.size + 89 ≠ _
  omega
section
variable {p : Program} {l : Launch} {e : Env} {s : State} {m : MethodId} {b : Nat} {below : List Frame} {meth : Method} {c : Code} {Qf : State → Prop} {D : va_G} {cy : Nat → ClassId} {cJ : ClassId} {L k cells slots pc : Nat} {xs : Nat → Int32} {x : tX} {H : Heap} {locs : List Loc} {ls : Array Slot} {st : List Value}
/-- a number of the script -/
theorem l_arg (S : lS p l e s m b below meth c Qf D cy cJ L xs) {j : Nat} {ji : Int} (hj : j < 5) (hji : Int32.ofInt ji = nI j) (hk : 5 * k + 5 ≤ L) (hS : va_S (fun q => s.heap.size ≤ q) s.heap H locs) (h0 : ls[0]? = some (.val (.ref b))) (h4 : ls[4]? = some (.val (.int (nI (5 * k))))) (d0 : decode code pc = .ok (.aload_n 0, 1)) (d1 : decode code (pc + 1) = .ok (.iload 4, 2)) (d3 : decode code (pc + 3) = .ok (.iconst ji, 1)) (d4 : decode code (pc + 4) = .ok (.iadd, 1)) (d5 : decode code (pc + 5) = .ok (.iaload, 1))
    (kk : W p l e room_1 s m #[Value.ref b] below meth c H locs cells slots Qf (F0 m (pc + 6) ls (.int (xs (5 * k + j)) :: st))) : W p l e room_1 s m #[Value.ref b] below meth c H locs cells slots Qf (F0 m pc ls st) := by
  obtain ⟨hC, hfl, hL, hX, hbl, hyX, hAr⟩ := S
  have C := hC 0 0 (by decide) (by decide)
  refine lv_aload_n C.1 C.2.1 d0 rfl h0 ?_
  refine lv_iload C.1 C.2.1 d1 h4 ?_
  refine lv_iconst C.1 C.2.1 d3 hji ?_
  refine lv_iadd C.1 C.2.1 d4 ?_
  rw [nI_add]
  have hin : vp_in (nI (5 * k + j)) L := vp_in_nI (by omega) (by omega)
  have key := kk
  rw [← nI_clamp (n := 5 * k + j) (by omega)] at key
  exact va_sld C.1 C.2.1 hX hbl (Nat.not_le.mpr hbl) hS hin d5 key
/-- a number of the script, read by its place -/
theorem lJ_end {cells' slots' : Nat} (h1 : cells ≤ cells') (h2 : slots ≤ slots') (h : lJ p l e s m b below meth c Qf D cy cJ k cells' slots' pc x) : lJ p l e s m b below meth c Qf D cy cJ k cells slots pc x := by
  intro σ H locs ls v a1 a2 a3 a4 a5 a6 a7
  exact W.widen h1 h2 (h σ H locs ls v a1 a2 a3 a4 a5 a6 a7)
/-- both sides are asked, and answer alike -/
theorem l_two (S : lS p l e s m b below meth c Qf D cy cJ L xs) (hc : cells ≤ 601024) (hs : slots ≤ 7293033) {dx dm : Nat} {mx mm : zM} {ix im pc1 pc2 : Nat} {off : Int} {As : List zV} {to : Int32 × tX}
    (hx : ∀ σ, cA x σ → z_Ci dx mx (.inr 0 :: As) σ (fun r u => r = to.1 ∧ cA to.2 u ∧ zW σ u)) (hm : ∀ σ, mA x σ → z_Ci dm mm (.inr 63 :: As) σ (fun r u => r = to.1 ∧ mA to.2 u ∧ zU σ u)) (hdx : dx < 2000) (hdm : dm < 2000)
    (hcx : zC[7]? = some (mx.1.cls, zt_Walls, 16)) (hcm : zC[8]? = some (mm.1.cls, zt_Model, 48)) (hmx : z_mv mx As.length) (hmm : z_mv mm As.length) (hlx : Cond.methodLink "WallsOfBooksLaw" ix mx.1 ∈ zTB) (hlm : Cond.methodLink "WallsOfBooksLaw" im mm.1 ∈ zTB)
    (hld1 : ∀ (H : Heap) (locs : List Loc) (ls : Array Slot) (st : List Value), va_S (fun q => s.heap.size ≤ q) s.heap H locs → ls[0]? = some (.val (.ref b)) → ls[4]? = some (.val (.int (nI (5 * k)))) → W p l e room_1 s m #[Value.ref b] below meth c H locs cells slots Qf (F0 m pc1 ls ((As.map (z_en (y_ad s.heap.size b))).reverse ++ st)) → W p l e room_1 s m #[Value.ref b] below meth c H locs cells slots Qf (F0 m (pc + 1) ls st))
    (hld2 : ∀ (H : Heap) (locs : List Loc) (ls : Array Slot) (st : List Value), va_S (fun q => s.heap.size ≤ q) s.heap H locs → ls[0]? = some (.val (.ref b)) → ls[4]? = some (.val (.int (nI (5 * k)))) → W p l e room_1 s m #[Value.ref b] below meth c H locs cells slots Qf (F0 m pc2 ls ((As.map (z_en (y_ad s.heap.size b))).reverse ++ st)) → W p l e room_1 s m #[Value.ref b] below meth c H locs cells slots Qf (F0 m (pc1 + 3 + 1) ls st))
    (d0 : decode code pc = .ok (.aload_n 1, 1)) (d1 : decode code pc1 = .ok (.invokevirtual ix, 3)) (d2 : decode code (pc1 + 3) = .ok (.aload_n 2, 1)) (d3 : decode code pc2 = .ok (.invokevirtual im, 3)) (d4 : decode code (pc2 + 3) = .ok (.if_icmp .eq off, 3)) (ht : ((pc2 + 3 : Nat) : Int) + off = ((1331 : Nat) : Int))
    (kk : lJ p l e s m b below meth c Qf D cy cJ k cells slots 1331 to.2) : lJ p l e s m b below meth c Qf D cy cJ k cells slots pc x := by
  intro σ H locs ls v a1 a2 a3 a4 a5 a6 a7
  have S' := S
  obtain ⟨hC, hfl, hL, hX, hbl, hyX, hAr⟩ := S
  have C := hC cells slots hc hs
  have h0 : ls[0]? = some (.val (.ref b)) := lv_at a7 0 rfl
  have h4 : ls[4]? = some (.val (.int (nI (5 * k)))) := lv_at a7 4 rfl
  refine lv_aload_n C.1 C.2.1 d0 rfl (lv_at a7 1 rfl) ?_
  refine hld1 H locs ls _ a5 h0 h4 ?_
  refine y_callVi2 (o := 0) (As := As) (rest := []) C (hx σ a1) hdx rfl (by decide) hcx hlx hmx d1 rfl (by decide) a3 a4 a5 a7.1 (fun r u H1 locs1 hr hP1 hD1 hS1 hz1 hk1 => ?_)
  obtain ⟨rfl, hcu, hWu⟩ := hr
  have hq1 : H1[lq s]? = some (lO cJ v) := by rw [hk1 _ (Array.getElem?_eq_some_iff.mp a6).1 lq_ne]; exact a6
  refine lv_aload_n C.1 C.2.1 d2 rfl (lv_at a7 2 rfl) ?_
  refine hld2 H1 locs1 ls _ hS1 h0 h4 ?_
  refine y_callVi2 (o := 63) (As := As) (rest := [.int to.1]) C (hm u (mA_W a2 hWu)) hdm rfl (by decide) hcm hlm hmm d3 rfl (Nat.le_of_ble_eq_true rfl) hP1 hD1 hS1 a7.1 (fun r w H2 locs2 hr hP2 hD2 hS2 hz2 hk2 => ?_)
  obtain ⟨rfl, hmw, hUw⟩ := hr
  have hq2 : H2[lq s]? = some (lO cJ v) := by rw [hk2 _ (Array.getElem?_eq_some_iff.mp hq1).1 lq_ne]; exact hq1
  exact lv_icmp_eq C.1 C.2.1 d4 ht (fun _ => kk w H2 locs2 ls v (cA_U hcu hUw) hmw hP2 hD2 hS2 hq2 a7) (fun h => absurd rfl h)
end
