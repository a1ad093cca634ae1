theorem va_nd_mem : ∀ (l : List Nat), l.Nodup → va_nd l = true
  | [], _ => rfl
  | a :: l, h => by
    have h1 := List.nodup_cons.mp h
    simp [va_nd, va_nd_mem l h1.2, h1.1]
theorem va_nd_range (n : Nat) : va_nd (List.range n) = true := va_nd_mem _ List.nodup_range
/-! SpanBook's constructor -/
theorem lastP {D : va_G} {cl : List vw_C} {ws : va_W} {x : Nat × va_E} {H : Heap} (h : va_P D cl (ws ++ [x]) H) : va_P D cl [x] H := by
  intro k q hk
  match k, hk with
  | 0, hk =>
    cases hk
    exact h ws.length x (by simp)
  | k + 1, hk => simp at hk
theorem lastD {A : Nat → Prop} {x : Nat × va_E} : va_D (fun _ => True) [x] := by
  refine ⟨fun i j p q hi hj _ => ?_, fun _ _ _ => trivial⟩
  have h1 : i < 1 := (List.getElem?_eq_some_iff.mp hi).1
  have h2 : j < 1 := (List.getElem?_eq_some_iff.mp hj).1
  omega
theorem lastF {A : Nat → Prop} {ws : va_W} {x : Nat × va_E} {H0 H : Heap} {locs : List Loc} (hD : va_D A (ws ++ [x])) (hS : va_S A H0 H locs) (hA : ∀ z, H0.size ≤ z → A z) : ∀ z, va_A [x] H.size z → A z := by
  intro z hz
  rcases hz with ⟨k, e, hz⟩ | hz
  · match k, hz with
    | 0, hz =>
      cases hz
      exact hD.2 ws.length (z, e) (by simp)
    | k + 1, hz => simp at hz
  · exact hA z (Nat.le_trans hS.1 hz)
theorem joinL {A0 : Nat → Prop} {D : va_G} {cl : List vw_C} {ws w1 : va_W} {x : Nat × va_E} {H H1 : Heap} (hP : va_P D cl (ws ++ [x]) H) (hD : va_D A0 (ws ++ [x])) (hk : ∀ q : Nat, q < H.size → ¬ va_A [x] H.size q → H1[q]? = H[q]?) (hF : ∀ q, va_A [x] H.size q → A0 q) (hP1 : va_P D cl w1 H1) (hD1 : va_D (va_A [x] H.size) w1) : va_P D cl (ws ++ w1) H1 ∧ va_D A0 (ws ++ w1) := by
  have hC : [ws.length].map (fun i => (ws ++ [x])[i]?) = [x].map some := by simp
  have hR : (List.range ws.length).map (fun i => (ws ++ [x])[i]?) = ws.map some := by
    refine List.ext_getElem? fun i => ?_
    by_cases hi : i < ws.length
    · rw [List.getElem?_map, List.getElem?_range hi, List.getElem?_map, Option.map_some, List.getElem?_append_left hi, List.getElem?_eq_getElem hi]
      rfl
    · rw [List.getElem?_eq_none (by simp; omega), List.getElem?_eq_none (by simp; omega)]
  have hn : ∀ n : Nat, va_nd (List.range n) = true := by
    intro n
    exact va_nd_range n
  exact va_join hP hD [ws.length] (List.range ws.length) hC hR (hn _) (fun i hi => by simp at hi ⊢; omega) hk hF hP1 hD1
theorem at_off {α : Type} (X L : List α) (k : Nat) : (X ++ L)[X.length + k]? = L[k]? := by rw [List.getElem?_append_right (Nat.le_add_right _ _), Nat.add_sub_cancel_left]
theorem set_off {α : Type} (X L : List α) (k : Nat) (v : α) : (X ++ L).set (X.length + k) v = X ++ L.set k v := by simp [List.set_append]
theorem gd_cons {c : Cond} (h : c ∈ gd_tbl) : GoodIn gd_tbl (c :: gd_tbl) := gdI fun w hw => (List.mem_cons.mp hw).elim (fun e => e ▸ h) id
theorem ref_ext {D : va_G} {cl : List vw_C} {X Y : va_W} {a n : Nat} {cS : ClassId} {f g : Nat → Option Nat} {H : Heap} (h : va_P D cl (X ++ (a, .inl (cS, n, .inr (.inr (.inr (.inr f))))) :: Y) H) (e : ∀ j, j < n → f j = g j) : va_P D cl (X ++ (a, .inl (cS, n, .inr (.inr (.inr (.inr g))))) :: Y) H := by
  intro k q hk
  by_cases hkx : k < X.length
  · exact h k q (by rw [List.getElem?_append_left hkx] at hk ⊢; exact hk)
  · obtain ⟨z, rfl⟩ : ∃ z, k = X.length + z := ⟨k - X.length, by omega⟩
    rw [at_off] at hk
    match z, hk with
    | 0, hk =>
      cases hk
      have h1 := h (X.length + 0) _ (at_off X _ 0)
      show H[a]? = some (vp_cell _ _)
      have h2 : H[a]? = some (vp_cell cS (n, .inr (.inr (.inr (.inr f))))) := h1
      rw [h2, vp_cell_q, vp_cell_q]
      have : (arrV cS n fun j => va_rf (f j)) = (arrV cS n fun j => va_rf (g j)) := by
        unfold arrV
        congr 2
        funext j
        show va_rf (f j.val) = va_rf (g j.val)
        rw [e j.val j.isLt]
      rw [this]
    | z + 1, hk => exact h (X.length + (z + 1)) q (by rw [at_off]; exact hk)
theorem dcell {A : Nat → Prop} {X Y : va_W} {a : Nat} {e1 : va_E} (e2 : va_E) (h : va_D A (X ++ (a, e1) :: Y)) : va_D A (X ++ (a, e2) :: Y) := by
  have h1 := h.set (p := X.length + 0) (e := e2) (at_off X _ 0)
  rw [set_off] at h1
  exact h1
def kN (U : State) : Prop := va_Nw (.methodLinkNest RX9 11 yX7_init RX9) U ∧ va_Nw (.methodLinkNest RX9 18 yX0_init RX9) U ∧ va_Nw (.methodLinkNest RX9 32 yX1_init RX9) U ∧ va_Nw (.methodLinkNest RX9 39 yX5_init RX9) U ∧ va_Nw (.methodLinkNest RX9 46 yX3_init RX9) U ∧ va_Nw (.methodLinkNest RX9 53 yX4_init RX9) U ∧ va_Nw (.methodLinkNest RX9 60 yX2_init RX9) U ∧ va_Nw (.methodLinkNest RX9 79 yX6_init RX9) U ∧ va_AO RX6 U
theorem kN.same {u U : State} (h : u.vm = U.vm) (hz : kN u) : kN U := by
  obtain ⟨hN7, hN0, hN1, hN5, hN3, hN4, hN2, hN6, hO⟩ := hz
  exact ⟨va_Nw.same rfl h hN7, va_Nw.same rfl h hN0, va_Nw.same rfl h hN1, va_Nw.same rfl h hN5, va_Nw.same rfl h hN3, va_Nw.same rfl h hN4, va_Nw.same rfl h hN2, va_Nw.same rfl h hN6, va_AO.moved (by rw [h]; exact Vm.Alike.refl U.vm) hO⟩
theorem kN.warm {u U : State} (h : u.WarmedH U.vm) (hz : kN u) : kN U := by
  obtain ⟨hN7, hN0, hN1, hN5, hN3, hN4, hN2, hN6, hO⟩ := hz
  exact ⟨va_Nw.warmM h hN7, va_Nw.warmM h hN0, va_Nw.warmM h hN1, va_Nw.warmM h hN5, va_Nw.warmM h hN3, va_Nw.warmM h hN4, va_Nw.warmM h hN2, va_Nw.warmM h hN6, va_AO.moved h.alike hO⟩
def kPc9 (D : va_G) (h0 sz : Nat) : Array Value → State → Prop := va_Pc [.ref h0] (fun U => U.heap.size = sz ∧ va_P D vwCl [(h0, .inr (9, [.null, .null, .null, .null, .null, .null, .null, .null, .null, .int 0, .int 0]))] U.heap ∧ va_K D vwCl [] U ∧ va_D (fun _ => True) [(h0, .inr (9, [.null, .null, .null, .null, .null, .null, .null, .null, .null, .int 0, .int 0]))] ∧ kN U)
theorem kPc9_blind {D : va_G} {h0 sz : Nat} : FrameBlind (kPc9 D h0 sz) := fun a U g mk z => by
  obtain ⟨q0, q1, qP, qK, qD, qN⟩ := z
  exact ⟨q0, q1, qP, va_K.moved (u := U) (U := U.calling g mk a) (Vm.Alike.refl U.vm) qK, qD, kN.same rfl qN⟩
def hc0F (h3 : hp_T) : Nat → Nat → Int32
  | 0 => fun i => if i = 9 then 1 else 0
  | 12 => h3.1 0
  | 13 => h3.1 1
  | 14 => h3.1 2
  | 15 => h3.1 3
  | 16 => h3.1 4
  | 17 => h3.1 5
  | 18 => h3.1 6
  | 19 => h3.1 7
  | 20 => h3.1 8
  | 21 => h3.1 9
  | 25 => fun i => if i = 4 then -2147483648 else 0
  | 38 => fun i => if i = 1 then 1 else 0
  | 39 => fun i => if i = 1 then 1 else 0
  | 40 => fun i => if i = 1 then 1 else 0
  | 41 => fun i => if i = 1 then 1 else 0
  | _ => fun _ => 0
def hc0 (h3 : hp_T) : hp_T := (hc0F h3, 0)
def at_X9 (h0 : Nat) (h : hp_T) (u : kU) : Prop := ∃ (q : Nat → Nat) (cA : Nat → ClassId), q 0 = h0 ∧ u = (wsW 0 q cA h, tysW 0 cA)
theorem va_same {D : va_G} {cl : List vw_C} {w1 w2 : va_W} {H : Heap} (h : va_P D cl w1 H) (e : w1 = w2) : va_P D cl w2 H := e ▸ h
theorem va_sameD {A : Nat → Prop} {w1 w2 : va_W} (h : va_D A w1) (e : w1 = w2) : va_D A w2 := e ▸ h
set_option maxHeartbeats 8000000 in
set_option maxRecDepth 100000 in
theorem book_fin {D : va_G} {A : Nat → Prop} {H : Heap} {s : State} {h0 qs s0 s1 s2 s3 i0 i1 i2 i3 o7 o0 o8 o1 o5 o3 o4 o2 : Nat} {cS b0 b1 b2 b3 : ClassId} {h3 : hp_T} {w7 w0 w8 w1 w5 w3 w4 w2 : va_W} {t7 t0 t8 t1 t5 t3 t4 t2 : List (ClassId × FieldType)} (hP : va_P D vwCl ((([(h0, .inr (9, [.ref o7, .ref o0, .ref o8, .ref o1, .ref o5, .ref o3, .ref o4, .ref o2, .ref qs, .int 1, .int 0]))] : va_W) ++ w7 ++ w0 ++ w8 ++ w1 ++ w5 ++ w3 ++ w4 ++ w2) ++ (qs, .inl (cS, 4, .inr (.inr (.inr (.inr (va_up (va_up (va_up (va_up (fun _ => none) (0 : Int32).toNatClampNeg (some s0)) (1 : Int32).toNatClampNeg (some s1)) (2 : Int32).toNatClampNeg (some s2)) (3 : Int32).toNatClampNeg (some s3))))))) :: [(s0, .inr (6, [.ref i0, .int 1, .int 0, .int 0])), (i0, .inl (b0, 60, .inl (fun _ => 0))), (s1, .inr (6, [.ref i1, .int 1, .int 0, .int 0])), (i1, .inl (b1, 60, .inl (fun _ => 0))), (s2, .inr (6, [.ref i2, .int 1, .int 0, .int 0])), (i2, .inl (b2, 60, .inl (fun _ => 0))), (s3, .inr (6, [.ref i3, .int 1, .int 0, .int 0])), (i3, .inl (b3, 60, .inl (fun _ => 0)))]) H) (hD : va_D A ((([(h0, .inr (9, [.ref o7, .ref o0, .ref o8, .ref o1, .ref o5, .ref o3, .ref o4, .ref o2, .ref qs, .int 1, .int 0]))] : va_W) ++ w7 ++ w0 ++ w8 ++ w1 ++ w5 ++ w3 ++ w4 ++ w2) ++ (qs, .inl (cS, 4, .inr (.inr (.inr (.inr (va_up (va_up (va_up (va_up (fun _ => none) (0 : Int32).toNatClampNeg (some s0)) (1 : Int32).toNatClampNeg (some s1)) (2 : Int32).toNatClampNeg (some s2)) (3 : Int32).toNatClampNeg (some s3))))))) :: [(s0, .inr (6, [.ref i0, .int 1, .int 0, .int 0])), (i0, .inl (b0, 60, .inl (fun _ => 0))), (s1, .inr (6, [.ref i1, .int 1, .int 0, .int 0])), (i1, .inl (b1, 60, .inl (fun _ => 0))), (s2, .inr (6, [.ref i2, .int 1, .int 0, .int 0])), (i2, .inl (b2, 60, .inl (fun _ => 0))), (s3, .inr (6, [.ref i3, .int 1, .int 0, .int 0])), (i3, .inl (b3, 60, .inl (fun _ => 0)))])) (hKs : va_K D vwCl [(cS, .object RX6)] s) (hKb0 : va_K D vwCl [(b0, .int)] s) (hKb1 : va_K D vwCl [(b1, .int)] s) (hKb2 : va_K D vwCl [(b2, .int)] s) (hKb3 : va_K D vwCl [(b3, .int)] s) (hK7 : va_K D vwCl t7 s) (hK0 : va_K D vwCl t0 s) (hK8 : va_K D vwCl t8 s) (hK1 : va_K D vwCl t1 s) (hK5 : va_K D vwCl t5 s) (hK3 : va_K D vwCl t3 s) (hK4 : va_K D vwCl t4 s) (hK2 : va_K D vwCl t2 s) (hw7 : at_X7 o7 (w7, t7)) (hw0 : at_X0 o0 (w0, t0)) (hw8 : at_X8 o8 h3 (w8, t8)) (hw1 : at_X1 o1 (w1, t1)) (hw5 : at_X5 o5 (w5, t5)) (hw3 : at_X3 o3 (w3, t3)) (hw4 : at_X4 o4 (w4, t4)) (hw2 : at_X2 o2 (w2, t2)) : ∃ (q : Nat → Nat) (cA : Nat → ClassId), q 0 = h0 ∧ va_P D vwCl (wsW 0 q cA (hc0 h3)) H ∧ va_K D vwCl (tysW 0 cA) s ∧ va_D A (wsW 0 q cA (hc0 h3)) := by
  obtain ⟨a7_0, a7_1, a7_2, a7_3, a7_4, g7_0, g7_1, g7_2, g7_3, g7_4, hw⟩ := hw7
  cases hw
  obtain ⟨a0_0, a0_1, a0_2, a0_3, g0_0, g0_1, g0_2, g0_3, hw⟩ := hw0
  cases hw
  obtain ⟨qT, cT, eT, hw⟩ := hw8
  cases hw
  obtain ⟨a1_0, a1_1, g1_0, g1_1, hw⟩ := hw1
  cases hw
  obtain ⟨a5_0, a5_1, g5_0, g5_1, hw⟩ := hw5
  cases hw
  obtain ⟨a3_0, a3_1, g3_0, g3_1, hw⟩ := hw3
  cases hw
  obtain ⟨a4_0, g4_0, hw⟩ := hw4
  cases hw
  obtain ⟨a2_0, a2_1, a2_2, g2_0, g2_1, g2_2, hw⟩ := hw2
  cases hw
  have hP := ref_ext (g := fun j => some ((fun k => [h0, o7, a7_0, a7_1, a7_2, a7_3, a7_4, o0, a0_0, a0_1, a0_2, a0_3, qT 0, qT 1, qT 2, qT 3, qT 4, qT 5, qT 6, qT 7, qT 8, qT 9, o1, a1_0, a1_1, o5, a5_0, a5_1, o3, a3_0, a3_1, o4, a4_0, o2, a2_0, a2_1, a2_2, qs, s0, s1, s2, s3, i0, i1, i2, i3].getD k 0) (38 + j))) hP (fun j hj => by rcases (show j = 0 ∨ j = 1 ∨ j = 2 ∨ j = 3 by omega) with rfl | rfl | rfl | rfl <;> rfl)
  have hD := dcell (.inl (cS, 4, .inr (.inr (.inr (.inr (fun j => some ((fun k => [h0, o7, a7_0, a7_1, a7_2, a7_3, a7_4, o0, a0_0, a0_1, a0_2, a0_3, qT 0, qT 1, qT 2, qT 3, qT 4, qT 5, qT 6, qT 7, qT 8, qT 9, o1, a1_0, a1_1, o5, a5_0, a5_1, o3, a3_0, a3_1, o4, a4_0, o2, a2_0, a2_1, a2_2, qs, s0, s1, s2, s3, i0, i1, i2, i3].getD k 0) (38 + j)))))))) hD
  subst eT
  have hP9 := hP.sub [0, 1, 2, 3, 4, 5, 6, 7, 8, 9, 10, 11, 12, 13, 14, 15, 16, 17, 18, 19, 20, 21, 22, 23, 24, 25, 26, 27, 28, 29, 30, 31, 32, 33, 34, 35, 36, 37, 38, 40, 42, 44, 39, 41, 43, 45] rfl
  have hPw : va_P D vwCl (wsW 0 (fun k => [h0, o7, a7_0, a7_1, a7_2, a7_3, a7_4, o0, a0_0, a0_1, a0_2, a0_3, qT 0, qT 1, qT 2, qT 3, qT 4, qT 5, qT 6, qT 7, qT 8, qT 9, o1, a1_0, a1_1, o5, a5_0, a5_1, o3, a3_0, a3_1, o4, a4_0, o2, a2_0, a2_1, a2_2, qs, s0, s1, s2, s3, i0, i1, i2, i3].getD k 0) (fun k => [cS, cS, g7_0, g7_1, g7_2, g7_3, g7_4, cS, g0_0, g0_1, g0_2, g0_3, cS, cT 1, cT 2, cT 3, cT 4, cT 5, cT 6, cT 7, cT 8, cT 9, cS, g1_0, g1_1, cS, g5_0, g5_1, cS, g3_0, g3_1, cS, g4_0, cS, g2_0, g2_1, g2_2, cS, cS, cS, cS, cS, b0, b1, b2, b3].getD k cS) (hc0 h3)) H := va_same hP9 rfl
  have hDw : va_D A (wsW 0 (fun k => [h0, o7, a7_0, a7_1, a7_2, a7_3, a7_4, o0, a0_0, a0_1, a0_2, a0_3, qT 0, qT 1, qT 2, qT 3, qT 4, qT 5, qT 6, qT 7, qT 8, qT 9, o1, a1_0, a1_1, o5, a5_0, a5_1, o3, a3_0, a3_1, o4, a4_0, o2, a2_0, a2_1, a2_2, qs, s0, s1, s2, s3, i0, i1, i2, i3].getD k 0) (fun k => [cS, cS, g7_0, g7_1, g7_2, g7_3, g7_4, cS, g0_0, g0_1, g0_2, g0_3, cS, cT 1, cT 2, cT 3, cT 4, cT 5, cT 6, cT 7, cT 8, cT 9, cS, g1_0, g1_1, cS, g5_0, g5_1, cS, g3_0, g3_1, cS, g4_0, cS, g2_0, g2_1, g2_2, cS, cS, cS, cS, cS, b0, b1, b2, b3].getD k cS) (hc0 h3)) := hD.sub [0, 1, 2, 3, 4, 5, 6, 7, 8, 9, 10, 11, 12, 13, 14, 15, 16, 17, 18, 19, 20, 21, 22, 23, 24, 25, 26, 27, 28, 29, 30, 31, 32, 33, 34, 35, 36, 37, 38, 40, 42, 44, 39, 41, 43, 45] (by decide) rfl
  have hKw : va_K D vwCl (tysW 0 (fun k => [cS, cS, g7_0, g7_1, g7_2, g7_3, g7_4, cS, g0_0, g0_1, g0_2, g0_3, cS, cT 1, cT 2, cT 3, cT 4, cT 5, cT 6, cT 7, cT 8, cT 9, cS, g1_0, g1_1, cS, g5_0, g5_1, cS, g3_0, g3_1, cS, g4_0, cS, g2_0, g2_1, g2_2, cS, cS, cS, cS, cS, b0, b1, b2, b3].getD k cS)) s := ((((((((((((hK7.app hK0).app hK8).app hK1).app hK5).app hK3).app hK4).app hK2).app hKs).app hKb0).app hKb1).app hKb2).app hKb3)
  exact ⟨(fun k => [h0, o7, a7_0, a7_1, a7_2, a7_3, a7_4, o0, a0_0, a0_1, a0_2, a0_3, qT 0, qT 1, qT 2, qT 3, qT 4, qT 5, qT 6, qT 7, qT 8, qT 9, o1, a1_0, a1_1, o5, a5_0, a5_1, o3, a3_0, a3_1, o4, a4_0, o2, a2_0, a2_1, a2_2, qs, s0, s1, s2, s3, i0, i1, i2, i3].getD k 0), (fun k => [cS, cS, g7_0, g7_1, g7_2, g7_3, g7_4, cS, g0_0, g0_1, g0_2, g0_3, cS, cT 1, cT 2, cT 3, cT 4, cT 5, cT 6, cT 7, cT 8, cT 9, cS, g1_0, g1_1, cS, g5_0, g5_1, cS, g3_0, g3_1, cS, g4_0, cS, g2_0, g2_1, g2_2, cS, cS, cS, cS, cS, b0, b1, b2, b3].getD k cS), rfl, hPw, hKw, hDw⟩
set_option maxHeartbeats 8000000 in
set_option maxRecDepth 100000 in
theorem k_X9 (l : Launch) (D : va_G) (h0 sz : Nat) {h3 : hp_T} (E : f_X8_init3 h30 = some h3) : Met l yX9_init (Cond.code yX9_init cX9_init 2 none :: gd_tbl) (rmK 2 45 1710 42) (kPc9 D h0 sz) (va_Qv (at_X9 h0 (hc0 h3)) (kB D (va_A [(h0, .inr (9, [.null, .null, .null, .null, .null, .null, .null, .null, .null, .int 0, .int 0]))] sz)) (va_A [(h0, .inr (9, [.null, .null, .null, .null, .null, .null, .null, .null, .null, .int 0, .int 0]))] sz)) 45 1710 (va_A [(h0, .inr (9, [.null, .null, .null, .null, .null, .null, .null, .null, .null, .int 0, .int 0]))] sz) := by
  refine Met.ofW (cc := cX9_init) (maxL := 2) (ret := none) (by decide) rfl ?_
  intro p e s m args below meth c s₁ B hml hv
  obtain ⟨rfl, hsz, hP, hKz, hD0, hNN⟩ := hv
  obtain ⟨hN7, hN0, hN1, hN5, hN3, hN4, hN2, hN6, hO⟩ := hNN
  have hx := B.exec
  have hb := B.bytes
  have hr := B.returns
  have hts0 := atoms_spec (ws := Cond.code yX9_init cX9_init 2 none :: gd_tbl) B.pre
  have hts : ∀ w ∈ gd_tbl, w.before [Value.ref h0].toArray s = true := fun w h => hts0 w (List.mem_cons_of_mem _ h)
  have hown : s.vm.findClass RX9 = some m.cls := findClass_of_methodNamed B.named
  have hlocks := B.notSynchronized
  have hin : meth.name = "<init>" := (name_of_methodNamed B.named B.method).1
  subst hsz
  have hD := hD0.self (sz := s.heap.size)
  generalize hAe : va_A [(h0, .inr (9, [.null, .null, .null, .null, .null, .null, .null, .null, .null, .int 0, .int 0]))] s.heap.size = A at hD ⊢
  have hA : ∀ q : Nat, s.heap.size ≤ q → A q := fun q h => by rw [← hAe]; exact Or.inr h
  have hS : va_S A s.heap s.heap [] := va_S.rf
  have hl := lv_entry ([.ref h0]) (n := 2) (Nat.le_of_ble_eq_true rfl)
  rw [lg_entry_eq]
  generalize (lg_sl ([.ref h0]) ++ List.replicate (2 - (lg_sl ([.ref h0])).length) Slot.unset).toArray = ls at hl ⊢
  have hl : lv_has ls 2 [(0, .ref h0)] := hl
  refine lv_aload_n hx hb dX9_init_0 rfl (lv_at hl 0 rfl) ?_
  refine W.objInit hx hb hown (hts (.methodLink RX9 3 Lib.objectInit) (tb_in 19 (by decide +kernel) (by decide +kernel))) (hts _ oi_1) (hts _ oi_2) rfl (by rw [hml]; exact hl.1) rfl dX9_init_1 (Nat.le_of_ble_eq_true rfl) (Nat.le_of_ble_eq_true rfl) ?_
  refine W.eq (g2 := F0 m 4 ls []) rfl ?_
  have hP : va_P D vwCl [(h0, .inr (9, [.null, .null, .null, .null, .null, .null, .null, .null, .null, .int 0, .int 0]))] s.heap := hP
  refine lv_aload_n hx hb dX9_init_4 rfl (lv_at hl 0 rfl) ?_
  refine va_new (ci := 7) (fs := [.null, .null, .null, .null, .null, .int 0]) (C := RX7) (T := TX7) (N := 6) hx hb hts inX7 tyX7 tyX7_ok hown (hts (.classLink RX9 9 RX7) (tb_in 22 (by decide +kernel) (by decide +kernel))) (hts (.instantiable RX7 6) (tb_in 23 (by decide +kernel) (by decide +kernel))) (hts (.initialized RX7) (tb_in 2 (by decide +kernel) (by decide +kernel))) hKz hP hD hS hA rfl (by decide +kernel) (Nat.le_of_ble_eq_true rfl) (Nat.le_of_ble_eq_true rfl) dX9_init_5 (fun o7 H hP hD hS => ?_)
  refine W.widen (k := 1) (n := 6) (Nat.le_of_ble_eq_true rfl) (Nat.le_of_ble_eq_true rfl) ?_
  refine lv_dup hx hb dX9_init_8 rfl ?_
  have hPc := lastP hP
  have hFc := lastF hD hS hA
  refine va_callv (va_runIN (As := []) (rest := [.ref o7, .ref h0]) ⟨hx, hb, hml, hown, hts⟩ (k_X7 l D o7 H.size) ⟨va_cnB 0 hts (gd_cons (tb_in 26 (by decide +kernel) (by decide +kernel))) rfl rfl rfl hN7 (hts (.initialized RX7) (tb_in 2 (by decide +kernel) (by decide +kernel))) (by decide +kernel) ⟨Nat.le_of_ble_eq_true rfl, Nat.le_of_ble_eq_true rfl⟩, rfl, (hts _ (tb_in 25 (by decide +kernel) (by decide +kernel)))⟩ ⟨kPc_blind, fun U hU hW => ⟨rfl, by rw [hU], by rw [hU]; exact hPc, va_K.moved hW.alike hKz, lastD (A := A)⟩⟩ rfl rfl hl.1 rfl (lv_room (Nat.le_of_ble_eq_true rfl)) dX9_init_9 ⟨Nat.le_of_ble_eq_true rfl, Nat.le_of_ble_eq_true rfl⟩) hS (fun z _ hz => hFc z hz) hFc (fun u t H1 locs ht hvm hw hB hz1 hkq hS => ?_)
  obtain ⟨w7, t7⟩ := u
  obtain ⟨hPq, hKq, hDq⟩ := hB
  rw [ht] at hPq
  have hK7 : va_K D vwCl t7 s := va_K.moved hvm.symm hKq
  have hw7 : at_X7 o7 (w7, t7) := hw
  obtain ⟨hP, hD⟩ := joinL hP hD hkq hFc hPq hDq
  clear hw hKq hPq hDq hkq hFc hPc hz1 ht hvm t
  generalize H1 = H at hP hS ⊢
  refine W.widen (k := 6) (n := 246) (Nat.le_of_ble_eq_true rfl) (Nat.le_of_ble_eq_true rfl) ?_
  have hP : va_P D vwCl ([(h0, .inr (9, [.null, .null, .null, .null, .null, .null, .null, .null, .null, .int 0, .int 0]))] ++ w7) H := hP
  have hD : va_D A ([(h0, .inr (9, [.null, .null, .null, .null, .null, .null, .null, .null, .null, .int 0, .int 0]))] ++ w7) := hD
  refine va_putF (D := D) (ci := 9) (v := .ref o7) (ty := .object "SpanBook$Spans") (C := RX9) (T := TX9) (N := 11) hx hb hts inX9 tyX9 tyX9_ok nmX9 hown hKz hP hD hS 0 rfl rfl 0 (by decide) (hts _ fl_9_12) (fun _ h9 => h9) rfl hin rfl (by decide +kernel) rfl rfl (Nat.le_of_ble_eq_true rfl) dX9_init_12 (fun H locs hP hD hS => ?_)
  have hP : va_P D vwCl ([(h0, .inr (9, [.ref o7, .null, .null, .null, .null, .null, .null, .null, .null, .int 0, .int 0]))] ++ w7) H := hP
  have hD : va_D A ([(h0, .inr (9, [.ref o7, .null, .null, .null, .null, .null, .null, .null, .null, .int 0, .int 0]))] ++ w7) := hD
  refine lv_aload_n hx hb dX9_init_15 rfl (lv_at hl 0 rfl) ?_
  refine va_new (ci := 0) (fs := [.null, .null, .null, .null, .int 0, .int 0]) (C := RX0) (T := TX0) (N := 6) hx hb hts inX0 tyX0 tyX0_ok hown (hts (.classLink RX9 16 RX0) (tb_in 83 (by decide +kernel) (by decide +kernel))) (hts (.instantiable RX0 6) (tb_in 84 (by decide +kernel) (by decide +kernel))) (hts (.initialized RX0) (tb_in 3 (by decide +kernel) (by decide +kernel))) hKz hP hD hS hA rfl (by decide +kernel) (Nat.le_of_ble_eq_true rfl) (Nat.le_of_ble_eq_true rfl) dX9_init_16 (fun o0 H hP hD hS => ?_)
  refine W.widen (k := 7) (n := 252) (Nat.le_of_ble_eq_true rfl) (Nat.le_of_ble_eq_true rfl) ?_
  refine lv_dup hx hb dX9_init_19 rfl ?_
  have hPc := lastP hP
  have hFc := lastF hD hS hA
  refine va_callv (va_runIN (As := []) (rest := [.ref o0, .ref h0]) ⟨hx, hb, hml, hown, hts⟩ (k_X0 l D o0 H.size) ⟨va_cnB 0 hts (gd_cons (tb_in 87 (by decide +kernel) (by decide +kernel))) rfl rfl rfl hN0 (hts (.initialized RX0) (tb_in 3 (by decide +kernel) (by decide +kernel))) (by decide +kernel) ⟨Nat.le_of_ble_eq_true rfl, Nat.le_of_ble_eq_true rfl⟩, rfl, (hts _ (tb_in 86 (by decide +kernel) (by decide +kernel)))⟩ ⟨kPc_blind, fun U hU hW => ⟨rfl, by rw [hU], by rw [hU]; exact hPc, va_K.moved hW.alike hKz, lastD (A := A)⟩⟩ rfl rfl hl.1 rfl (lv_room (Nat.le_of_ble_eq_true rfl)) dX9_init_20 ⟨Nat.le_of_ble_eq_true rfl, Nat.le_of_ble_eq_true rfl⟩) hS (fun z _ hz => hFc z hz) hFc (fun u t H1 locs ht hvm hw hB hz1 hkq hS => ?_)
  obtain ⟨w0, t0⟩ := u
  obtain ⟨hPq, hKq, hDq⟩ := hB
  rw [ht] at hPq
  have hK0 : va_K D vwCl t0 s := va_K.moved hvm.symm hKq
  have hw0 : at_X0 o0 (w0, t0) := hw
  obtain ⟨hP, hD⟩ := joinL hP hD hkq hFc hPq hDq
  clear hw hKq hPq hDq hkq hFc hPc hz1 ht hvm t
  generalize H1 = H at hP hS ⊢
  refine W.widen (k := 11) (n := 508) (Nat.le_of_ble_eq_true rfl) (Nat.le_of_ble_eq_true rfl) ?_
  have hP : va_P D vwCl ([(h0, .inr (9, [.ref o7, .null, .null, .null, .null, .null, .null, .null, .null, .int 0, .int 0]))] ++ w7 ++ w0) H := hP
  have hD : va_D A ([(h0, .inr (9, [.ref o7, .null, .null, .null, .null, .null, .null, .null, .null, .int 0, .int 0]))] ++ w7 ++ w0) := hD
  refine va_putF (D := D) (ci := 9) (v := .ref o0) (ty := .object "SpanBook$Done") (C := RX9) (T := TX9) (N := 11) hx hb hts inX9 tyX9 tyX9_ok nmX9 hown hKz hP hD hS 0 rfl rfl 1 (by decide) (hts _ fl_9_19) (fun _ h9 => h9) rfl hin rfl (by decide +kernel) rfl rfl (Nat.le_of_ble_eq_true rfl) dX9_init_23 (fun H locs hP hD hS => ?_)
  have hP : va_P D vwCl ([(h0, .inr (9, [.ref o7, .ref o0, .null, .null, .null, .null, .null, .null, .null, .int 0, .int 0]))] ++ w7 ++ w0) H := hP
  have hD : va_D A ([(h0, .inr (9, [.ref o7, .ref o0, .null, .null, .null, .null, .null, .null, .null, .int 0, .int 0]))] ++ w7 ++ w0) := hD
  refine lv_aload_n hx hb dX9_init_26 rfl (lv_at hl 0 rfl) ?_
  refine va_new (ci := 8) (fs := [.null, .null, .null, .null, .null, .null, .null, .null, .null, .int 0]) (C := RX8) (T := TX8) (N := 10) hx hb hts inX8 tyX8 tyX8_ok hown (hts (.classLink RX9 23 RX8) (tb_in 113 (by decide +kernel) (by decide +kernel))) (hts (.instantiable RX8 10) (tb_in 114 (by decide +kernel) (by decide +kernel))) (hts (.initialized RX8) (tb_in 4 (by decide +kernel) (by decide +kernel))) hKz hP hD hS hA rfl (by decide +kernel) (Nat.le_of_ble_eq_true rfl) (Nat.le_of_ble_eq_true rfl) dX9_init_27 (fun o8 H hP hD hS => ?_)
  refine W.widen (k := 12) (n := 518) (Nat.le_of_ble_eq_true rfl) (Nat.le_of_ble_eq_true rfl) ?_
  refine lv_dup hx hb dX9_init_30 rfl ?_
  have hPc := lastP hP
  have hFc := lastF hD hS hA
  refine va_callv (va_runI (As := []) (rest := [.ref o8, .ref h0]) ⟨hx, hb, hml, hown, hts⟩ (k_X8 l D o8 H.size E) (cwI 0 hts (gd_cons (tb_in 117 (by decide +kernel) (by decide +kernel))) rfl rfl rfl (hts (.initialized RX8) (tb_in 4 (by decide +kernel) (by decide +kernel))) (hts (.methodLink RX9 25 yX8_init) (tb_in 115 (by decide +kernel) (by decide +kernel))) (hts _ (tb_in 116 (by decide +kernel) (by decide +kernel))) rfl (by decide +kernel) ⟨Nat.le_of_ble_eq_true rfl, Nat.le_of_ble_eq_true rfl⟩) ⟨kPc_blind, fun U hU hW => ⟨rfl, by rw [hU], by rw [hU]; exact hPc, va_K.moved hW.alike hKz, lastD (A := A)⟩⟩ rfl rfl hl.1 rfl (lv_room (Nat.le_of_ble_eq_true rfl)) dX9_init_31 ⟨Nat.le_of_ble_eq_true rfl, Nat.le_of_ble_eq_true rfl⟩) hS (fun z _ hz => hFc z hz) hFc (fun u t H1 locs ht hvm hw hB hz1 hkq hS => ?_)
  obtain ⟨w8, t8⟩ := u
  obtain ⟨hPq, hKq, hDq⟩ := hB
  rw [ht] at hPq
  have hK8 : va_K D vwCl t8 s := va_K.moved hvm.symm hKq
  have hw8 : at_X8 o8 h3 (w8, t8) := hw
  obtain ⟨hP, hD⟩ := joinL hP hD hkq hFc hPq hDq
  clear hw hKq hPq hDq hkq hFc hPc hz1 ht hvm t
  generalize H1 = H at hP hS ⊢
  refine W.widen (k := 21) (n := 950) (Nat.le_of_ble_eq_true rfl) (Nat.le_of_ble_eq_true rfl) ?_
  have hP : va_P D vwCl ([(h0, .inr (9, [.ref o7, .ref o0, .null, .null, .null, .null, .null, .null, .null, .int 0, .int 0]))] ++ w7 ++ w0 ++ w8) H := hP
  have hD : va_D A ([(h0, .inr (9, [.ref o7, .ref o0, .null, .null, .null, .null, .null, .null, .null, .int 0, .int 0]))] ++ w7 ++ w0 ++ w8) := hD
  refine va_putF (D := D) (ci := 9) (v := .ref o8) (ty := .object "SpanBook$Tree") (C := RX9) (T := TX9) (N := 11) hx hb hts inX9 tyX9 tyX9_ok nmX9 hown hKz hP hD hS 0 rfl rfl 2 (by decide) (hts _ fl_9_26) (fun _ h9 => h9) rfl hin rfl (by decide +kernel) rfl rfl (Nat.le_of_ble_eq_true rfl) dX9_init_34 (fun H locs hP hD hS => ?_)
  have hP : va_P D vwCl ([(h0, .inr (9, [.ref o7, .ref o0, .ref o8, .null, .null, .null, .null, .null, .null, .int 0, .int 0]))] ++ w7 ++ w0 ++ w8) H := hP
  have hD : va_D A ([(h0, .inr (9, [.ref o7, .ref o0, .ref o8, .null, .null, .null, .null, .null, .null, .int 0, .int 0]))] ++ w7 ++ w0 ++ w8) := hD
  refine lv_aload_n hx hb dX9_init_37 rfl (lv_at hl 0 rfl) ?_
  refine va_new (ci := 1) (fs := [.null, .null, .int 0]) (C := RX1) (T := TX1) (N := 3) hx hb hts inX1 tyX1 tyX1_ok hown (hts (.classLink RX9 30 RX1) (tb_in 163 (by decide +kernel) (by decide +kernel))) (hts (.instantiable RX1 3) (tb_in 164 (by decide +kernel) (by decide +kernel))) (hts (.initialized RX1) (tb_in 5 (by decide +kernel) (by decide +kernel))) hKz hP hD hS hA rfl (by decide +kernel) (Nat.le_of_ble_eq_true rfl) (Nat.le_of_ble_eq_true rfl) dX9_init_38 (fun o1 H hP hD hS => ?_)
  refine W.widen (k := 22) (n := 953) (Nat.le_of_ble_eq_true rfl) (Nat.le_of_ble_eq_true rfl) ?_
  refine lv_dup hx hb dX9_init_41 rfl ?_
  have hPc := lastP hP
  have hFc := lastF hD hS hA
  refine va_callv (va_runIN (As := []) (rest := [.ref o1, .ref h0]) ⟨hx, hb, hml, hown, hts⟩ (k_X1 l D o1 H.size) ⟨va_cnB 0 hts (gd_cons (tb_in 167 (by decide +kernel) (by decide +kernel))) rfl rfl rfl hN1 (hts (.initialized RX1) (tb_in 5 (by decide +kernel) (by decide +kernel))) (by decide +kernel) ⟨Nat.le_of_ble_eq_true rfl, Nat.le_of_ble_eq_true rfl⟩, rfl, (hts _ (tb_in 166 (by decide +kernel) (by decide +kernel)))⟩ ⟨kPc_blind, fun U hU hW => ⟨rfl, by rw [hU], by rw [hU]; exact hPc, va_K.moved hW.alike hKz, lastD (A := A)⟩⟩ rfl rfl hl.1 rfl (lv_room (Nat.le_of_ble_eq_true rfl)) dX9_init_42 ⟨Nat.le_of_ble_eq_true rfl, Nat.le_of_ble_eq_true rfl⟩) hS (fun z _ hz => hFc z hz) hFc (fun u t H1 locs ht hvm hw hB hz1 hkq hS => ?_)
  obtain ⟨w1, t1⟩ := u
  obtain ⟨hPq, hKq, hDq⟩ := hB
  rw [ht] at hPq
  have hK1 : va_K D vwCl t1 s := va_K.moved hvm.symm hKq
  have hw1 : at_X1 o1 (w1, t1) := hw
  obtain ⟨hP, hD⟩ := joinL hP hD hkq hFc hPq hDq
  clear hw hKq hPq hDq hkq hFc hPc hz1 ht hvm t
  generalize H1 = H at hP hS ⊢
  refine W.widen (k := 24) (n := 1051) (Nat.le_of_ble_eq_true rfl) (Nat.le_of_ble_eq_true rfl) ?_
  have hP : va_P D vwCl ([(h0, .inr (9, [.ref o7, .ref o0, .ref o8, .null, .null, .null, .null, .null, .null, .int 0, .int 0]))] ++ w7 ++ w0 ++ w8 ++ w1) H := hP
  have hD : va_D A ([(h0, .inr (9, [.ref o7, .ref o0, .ref o8, .null, .null, .null, .null, .null, .null, .int 0, .int 0]))] ++ w7 ++ w0 ++ w8 ++ w1) := hD
  refine va_putF (D := D) (ci := 9) (v := .ref o1) (ty := .object "SpanBook$Gaps") (C := RX9) (T := TX9) (N := 11) hx hb hts inX9 tyX9 tyX9_ok nmX9 hown hKz hP hD hS 0 rfl rfl 3 (by decide) (hts _ fl_9_33) (fun _ h9 => h9) rfl hin rfl (by decide +kernel) rfl rfl (Nat.le_of_ble_eq_true rfl) dX9_init_45 (fun H locs hP hD hS => ?_)
  have hP : va_P D vwCl ([(h0, .inr (9, [.ref o7, .ref o0, .ref o8, .ref o1, .null, .null, .null, .null, .null, .int 0, .int 0]))] ++ w7 ++ w0 ++ w8 ++ w1) H := hP
  have hD : va_D A ([(h0, .inr (9, [.ref o7, .ref o0, .ref o8, .ref o1, .null, .null, .null, .null, .null, .int 0, .int 0]))] ++ w7 ++ w0 ++ w8 ++ w1) := hD
  refine lv_aload_n hx hb dX9_init_48 rfl (lv_at hl 0 rfl) ?_
  refine va_new (ci := 5) (fs := [.null, .null, .int 0, .int 0, .int 0]) (C := RX5) (T := TX5) (N := 5) hx hb hts inX5 tyX5 tyX5_ok hown (hts (.classLink RX9 37 RX5) (tb_in 181 (by decide +kernel) (by decide +kernel))) (hts (.instantiable RX5 5) (tb_in 182 (by decide +kernel) (by decide +kernel))) (hts (.initialized RX5) (tb_in 6 (by decide +kernel) (by decide +kernel))) hKz hP hD hS hA rfl (by decide +kernel) (Nat.le_of_ble_eq_true rfl) (Nat.le_of_ble_eq_true rfl) dX9_init_49 (fun o5 H hP hD hS => ?_)
  refine W.widen (k := 25) (n := 1056) (Nat.le_of_ble_eq_true rfl) (Nat.le_of_ble_eq_true rfl) ?_
  refine lv_dup hx hb dX9_init_52 rfl ?_
  have hPc := lastP hP
  have hFc := lastF hD hS hA
  refine va_callv (va_runIN (As := []) (rest := [.ref o5, .ref h0]) ⟨hx, hb, hml, hown, hts⟩ (k_X5 l D o5 H.size) ⟨va_cnB 0 hts (gd_cons (tb_in 185 (by decide +kernel) (by decide +kernel))) rfl rfl rfl hN5 (hts (.initialized RX5) (tb_in 6 (by decide +kernel) (by decide +kernel))) (by decide +kernel) ⟨Nat.le_of_ble_eq_true rfl, Nat.le_of_ble_eq_true rfl⟩, rfl, (hts _ (tb_in 184 (by decide +kernel) (by decide +kernel)))⟩ ⟨kPc_blind, fun U hU hW => ⟨rfl, by rw [hU], by rw [hU]; exact hPc, va_K.moved hW.alike hKz, lastD (A := A)⟩⟩ rfl rfl hl.1 rfl (lv_room (Nat.le_of_ble_eq_true rfl)) dX9_init_53 ⟨Nat.le_of_ble_eq_true rfl, Nat.le_of_ble_eq_true rfl⟩) hS (fun z _ hz => hFc z hz) hFc (fun u t H1 locs ht hvm hw hB hz1 hkq hS => ?_)
  obtain ⟨w5, t5⟩ := u
  obtain ⟨hPq, hKq, hDq⟩ := hB
  rw [ht] at hPq
  have hK5 : va_K D vwCl t5 s := va_K.moved hvm.symm hKq
  have hw5 : at_X5 o5 (w5, t5) := hw
  obtain ⟨hP, hD⟩ := joinL hP hD hkq hFc hPq hDq
  clear hw hKq hPq hDq hkq hFc hPc hz1 ht hvm t
  generalize H1 = H at hP hS ⊢
  refine W.widen (k := 27) (n := 1152) (Nat.le_of_ble_eq_true rfl) (Nat.le_of_ble_eq_true rfl) ?_
  have hP : va_P D vwCl ([(h0, .inr (9, [.ref o7, .ref o0, .ref o8, .ref o1, .null, .null, .null, .null, .null, .int 0, .int 0]))] ++ w7 ++ w0 ++ w8 ++ w1 ++ w5) H := hP
  have hD : va_D A ([(h0, .inr (9, [.ref o7, .ref o0, .ref o8, .ref o1, .null, .null, .null, .null, .null, .int 0, .int 0]))] ++ w7 ++ w0 ++ w8 ++ w1 ++ w5) := hD
  refine va_putF (D := D) (ci := 9) (v := .ref o5) (ty := .object "SpanBook$Rooms") (C := RX9) (T := TX9) (N := 11) hx hb hts inX9 tyX9 tyX9_ok nmX9 hown hKz hP hD hS 0 rfl rfl 4 (by decide) (hts _ fl_9_40) (fun _ h9 => h9) rfl hin rfl (by decide +kernel) rfl rfl (Nat.le_of_ble_eq_true rfl) dX9_init_56 (fun H locs hP hD hS => ?_)
  have hP : va_P D vwCl ([(h0, .inr (9, [.ref o7, .ref o0, .ref o8, .ref o1, .ref o5, .null, .null, .null, .null, .int 0, .int 0]))] ++ w7 ++ w0 ++ w8 ++ w1 ++ w5) H := hP
  have hD : va_D A ([(h0, .inr (9, [.ref o7, .ref o0, .ref o8, .ref o1, .ref o5, .null, .null, .null, .null, .int 0, .int 0]))] ++ w7 ++ w0 ++ w8 ++ w1 ++ w5) := hD
  refine lv_aload_n hx hb dX9_init_59 rfl (lv_at hl 0 rfl) ?_
  refine va_new (ci := 3) (fs := [.null, .null, .int 0]) (C := RX3) (T := TX3) (N := 3) hx hb hts inX3 tyX3 tyX3_ok hown (hts (.classLink RX9 44 RX3) (tb_in 208 (by decide +kernel) (by decide +kernel))) (hts (.instantiable RX3 3) (tb_in 209 (by decide +kernel) (by decide +kernel))) (hts (.initialized RX3) (tb_in 7 (by decide +kernel) (by decide +kernel))) hKz hP hD hS hA rfl (by decide +kernel) (Nat.le_of_ble_eq_true rfl) (Nat.le_of_ble_eq_true rfl) dX9_init_60 (fun o3 H hP hD hS => ?_)
  refine W.widen (k := 28) (n := 1155) (Nat.le_of_ble_eq_true rfl) (Nat.le_of_ble_eq_true rfl) ?_
  refine lv_dup hx hb dX9_init_63 rfl ?_
  have hPc := lastP hP
  have hFc := lastF hD hS hA
  refine va_callv (va_runIN (As := []) (rest := [.ref o3, .ref h0]) ⟨hx, hb, hml, hown, hts⟩ (k_X3 l D o3 H.size) ⟨va_cnB 0 hts (gd_cons (tb_in 212 (by decide +kernel) (by decide +kernel))) rfl rfl rfl hN3 (hts (.initialized RX3) (tb_in 7 (by decide +kernel) (by decide +kernel))) (by decide +kernel) ⟨Nat.le_of_ble_eq_true rfl, Nat.le_of_ble_eq_true rfl⟩, rfl, (hts _ (tb_in 211 (by decide +kernel) (by decide +kernel)))⟩ ⟨kPc_blind, fun U hU hW => ⟨rfl, by rw [hU], by rw [hU]; exact hPc, va_K.moved hW.alike hKz, lastD (A := A)⟩⟩ rfl rfl hl.1 rfl (lv_room (Nat.le_of_ble_eq_true rfl)) dX9_init_64 ⟨Nat.le_of_ble_eq_true rfl, Nat.le_of_ble_eq_true rfl⟩) hS (fun z _ hz => hFc z hz) hFc (fun u t H1 locs ht hvm hw hB hz1 hkq hS => ?_)
  obtain ⟨w3, t3⟩ := u
  obtain ⟨hPq, hKq, hDq⟩ := hB
  rw [ht] at hPq
  have hK3 : va_K D vwCl t3 s := va_K.moved hvm.symm hKq
  have hw3 : at_X3 o3 (w3, t3) := hw
  obtain ⟨hP, hD⟩ := joinL hP hD hkq hFc hPq hDq
  clear hw hKq hPq hDq hkq hFc hPc hz1 ht hvm t
  generalize H1 = H at hP hS ⊢
  refine W.widen (k := 30) (n := 1251) (Nat.le_of_ble_eq_true rfl) (Nat.le_of_ble_eq_true rfl) ?_
  have hP : va_P D vwCl ([(h0, .inr (9, [.ref o7, .ref o0, .ref o8, .ref o1, .ref o5, .null, .null, .null, .null, .int 0, .int 0]))] ++ w7 ++ w0 ++ w8 ++ w1 ++ w5 ++ w3) H := hP
  have hD : va_D A ([(h0, .inr (9, [.ref o7, .ref o0, .ref o8, .ref o1, .ref o5, .null, .null, .null, .null, .int 0, .int 0]))] ++ w7 ++ w0 ++ w8 ++ w1 ++ w5 ++ w3) := hD
  refine va_putF (D := D) (ci := 9) (v := .ref o3) (ty := .object "SpanBook$Kept") (C := RX9) (T := TX9) (N := 11) hx hb hts inX9 tyX9 tyX9_ok nmX9 hown hKz hP hD hS 0 rfl rfl 5 (by decide) (hts _ fl_9_47) (fun _ h9 => h9) rfl hin rfl (by decide +kernel) rfl rfl (Nat.le_of_ble_eq_true rfl) dX9_init_67 (fun H locs hP hD hS => ?_)
  have hP : va_P D vwCl ([(h0, .inr (9, [.ref o7, .ref o0, .ref o8, .ref o1, .ref o5, .ref o3, .null, .null, .null, .int 0, .int 0]))] ++ w7 ++ w0 ++ w8 ++ w1 ++ w5 ++ w3) H := hP
  have hD : va_D A ([(h0, .inr (9, [.ref o7, .ref o0, .ref o8, .ref o1, .ref o5, .ref o3, .null, .null, .null, .int 0, .int 0]))] ++ w7 ++ w0 ++ w8 ++ w1 ++ w5 ++ w3) := hD
  refine lv_aload_n hx hb dX9_init_70 rfl (lv_at hl 0 rfl) ?_
  refine va_new (ci := 4) (fs := [.null, .int 0]) (C := RX4) (T := TX4) (N := 2) hx hb hts inX4 tyX4 tyX4_ok hown (hts (.classLink RX9 51 RX4) (tb_in 226 (by decide +kernel) (by decide +kernel))) (hts (.instantiable RX4 2) (tb_in 227 (by decide +kernel) (by decide +kernel))) (hts (.initialized RX4) (tb_in 8 (by decide +kernel) (by decide +kernel))) hKz hP hD hS hA rfl (by decide +kernel) (Nat.le_of_ble_eq_true rfl) (Nat.le_of_ble_eq_true rfl) dX9_init_71 (fun o4 H hP hD hS => ?_)
  refine W.widen (k := 31) (n := 1253) (Nat.le_of_ble_eq_true rfl) (Nat.le_of_ble_eq_true rfl) ?_
  refine lv_dup hx hb dX9_init_74 rfl ?_
  have hPc := lastP hP
  have hFc := lastF hD hS hA
  refine va_callv (va_runIN (As := []) (rest := [.ref o4, .ref h0]) ⟨hx, hb, hml, hown, hts⟩ (k_X4 l D o4 H.size) ⟨va_cnB 0 hts (gd_cons (tb_in 230 (by decide +kernel) (by decide +kernel))) rfl rfl rfl hN4 (hts (.initialized RX4) (tb_in 8 (by decide +kernel) (by decide +kernel))) (by decide +kernel) ⟨Nat.le_of_ble_eq_true rfl, Nat.le_of_ble_eq_true rfl⟩, rfl, (hts _ (tb_in 229 (by decide +kernel) (by decide +kernel)))⟩ ⟨kPc_blind, fun U hU hW => ⟨rfl, by rw [hU], by rw [hU]; exact hPc, va_K.moved hW.alike hKz, lastD (A := A)⟩⟩ rfl rfl hl.1 rfl (lv_room (Nat.le_of_ble_eq_true rfl)) dX9_init_75 ⟨Nat.le_of_ble_eq_true rfl, Nat.le_of_ble_eq_true rfl⟩) hS (fun z _ hz => hFc z hz) hFc (fun u t H1 locs ht hvm hw hB hz1 hkq hS => ?_)
  obtain ⟨w4, t4⟩ := u
  obtain ⟨hPq, hKq, hDq⟩ := hB
  rw [ht] at hPq
  have hK4 : va_K D vwCl t4 s := va_K.moved hvm.symm hKq
  have hw4 : at_X4 o4 (w4, t4) := hw
  obtain ⟨hP, hD⟩ := joinL hP hD hkq hFc hPq hDq
  clear hw hKq hPq hDq hkq hFc hPc hz1 ht hvm t
  generalize H1 = H at hP hS ⊢
  refine W.widen (k := 32) (n := 1301) (Nat.le_of_ble_eq_true rfl) (Nat.le_of_ble_eq_true rfl) ?_
  have hP : va_P D vwCl ([(h0, .inr (9, [.ref o7, .ref o0, .ref o8, .ref o1, .ref o5, .ref o3, .null, .null, .null, .int 0, .int 0]))] ++ w7 ++ w0 ++ w8 ++ w1 ++ w5 ++ w3 ++ w4) H := hP
  have hD : va_D A ([(h0, .inr (9, [.ref o7, .ref o0, .ref o8, .ref o1, .ref o5, .ref o3, .null, .null, .null, .int 0, .int 0]))] ++ w7 ++ w0 ++ w8 ++ w1 ++ w5 ++ w3 ++ w4) := hD
  refine va_putF (D := D) (ci := 9) (v := .ref o4) (ty := .object "SpanBook$Pairs") (C := RX9) (T := TX9) (N := 11) hx hb hts inX9 tyX9 tyX9_ok nmX9 hown hKz hP hD hS 0 rfl rfl 6 (by decide) (hts _ fl_9_54) (fun _ h9 => h9) rfl hin rfl (by decide +kernel) rfl rfl (Nat.le_of_ble_eq_true rfl) dX9_init_78 (fun H locs hP hD hS => ?_)
  have hP : va_P D vwCl ([(h0, .inr (9, [.ref o7, .ref o0, .ref o8, .ref o1, .ref o5, .ref o3, .ref o4, .null, .null, .int 0, .int 0]))] ++ w7 ++ w0 ++ w8 ++ w1 ++ w5 ++ w3 ++ w4) H := hP
  have hD : va_D A ([(h0, .inr (9, [.ref o7, .ref o0, .ref o8, .ref o1, .ref o5, .ref o3, .ref o4, .null, .null, .int 0, .int 0]))] ++ w7 ++ w0 ++ w8 ++ w1 ++ w5 ++ w3 ++ w4) := hD
  refine lv_aload_n hx hb dX9_init_81 rfl (lv_at hl 0 rfl) ?_
  refine va_new (ci := 2) (fs := [.null, .null, .null, .int 0, .long 0]) (C := RX2) (T := TX2) (N := 5) hx hb hts inX2 tyX2 tyX2_ok hown (hts (.classLink RX9 58 RX2) (tb_in 241 (by decide +kernel) (by decide +kernel))) (hts (.instantiable RX2 5) (tb_in 242 (by decide +kernel) (by decide +kernel))) (hts (.initialized RX2) (tb_in 9 (by decide +kernel) (by decide +kernel))) hKz hP hD hS hA rfl (by decide +kernel) (Nat.le_of_ble_eq_true rfl) (Nat.le_of_ble_eq_true rfl) dX9_init_82 (fun o2 H hP hD hS => ?_)
  refine W.widen (k := 33) (n := 1306) (Nat.le_of_ble_eq_true rfl) (Nat.le_of_ble_eq_true rfl) ?_
  refine lv_dup hx hb dX9_init_85 rfl ?_
  have hPc := lastP hP
  have hFc := lastF hD hS hA
  refine va_callv (va_runIN (As := []) (rest := [.ref o2, .ref h0]) ⟨hx, hb, hml, hown, hts⟩ (k_X2 l D o2 H.size) ⟨va_cnB 0 hts (gd_cons (tb_in 245 (by decide +kernel) (by decide +kernel))) rfl rfl rfl hN2 (hts (.initialized RX2) (tb_in 9 (by decide +kernel) (by decide +kernel))) (by decide +kernel) ⟨Nat.le_of_ble_eq_true rfl, Nat.le_of_ble_eq_true rfl⟩, rfl, (hts _ (tb_in 244 (by decide +kernel) (by decide +kernel)))⟩ ⟨kPc_blind, fun U hU hW => ⟨rfl, by rw [hU], by rw [hU]; exact hPc, va_K.moved hW.alike hKz, lastD (A := A)⟩⟩ rfl rfl hl.1 rfl (lv_room (Nat.le_of_ble_eq_true rfl)) dX9_init_86 ⟨Nat.le_of_ble_eq_true rfl, Nat.le_of_ble_eq_true rfl⟩) hS (fun z _ hz => hFc z hz) hFc (fun u t H1 locs ht hvm hw hB hz1 hkq hS => ?_)
  obtain ⟨w2, t2⟩ := u
  obtain ⟨hPq, hKq, hDq⟩ := hB
  rw [ht] at hPq
  have hK2 : va_K D vwCl t2 s := va_K.moved hvm.symm hKq
  have hw2 : at_X2 o2 (w2, t2) := hw
  obtain ⟨hP, hD⟩ := joinL hP hD hkq hFc hPq hDq
  clear hw hKq hPq hDq hkq hFc hPc hz1 ht hvm t
  generalize H1 = H at hP hS ⊢
  refine W.widen (k := 36) (n := 1450) (Nat.le_of_ble_eq_true rfl) (Nat.le_of_ble_eq_true rfl) ?_
  have hP : va_P D vwCl ([(h0, .inr (9, [.ref o7, .ref o0, .ref o8, .ref o1, .ref o5, .ref o3, .ref o4, .null, .null, .int 0, .int 0]))] ++ w7 ++ w0 ++ w8 ++ w1 ++ w5 ++ w3 ++ w4 ++ w2) H := hP
  have hD : va_D A ([(h0, .inr (9, [.ref o7, .ref o0, .ref o8, .ref o1, .ref o5, .ref o3, .ref o4, .null, .null, .int 0, .int 0]))] ++ w7 ++ w0 ++ w8 ++ w1 ++ w5 ++ w3 ++ w4 ++ w2) := hD
  refine va_putF (D := D) (ci := 9) (v := .ref o2) (ty := .object "SpanBook$Groups") (C := RX9) (T := TX9) (N := 11) hx hb hts inX9 tyX9 tyX9_ok nmX9 hown hKz hP hD hS 0 rfl rfl 7 (by decide) (hts _ fl_9_61) (fun _ h9 => h9) rfl hin rfl (by decide +kernel) rfl rfl (Nat.le_of_ble_eq_true rfl) dX9_init_89 (fun H locs hP hD hS => ?_)
  have hP : va_P D vwCl ([(h0, .inr (9, [.ref o7, .ref o0, .ref o8, .ref o1, .ref o5, .ref o3, .ref o4, .ref o2, .null, .int 0, .int 0]))] ++ w7 ++ w0 ++ w8 ++ w1 ++ w5 ++ w3 ++ w4 ++ w2) H := hP
  have hD : va_D A ([(h0, .inr (9, [.ref o7, .ref o0, .ref o8, .ref o1, .ref o5, .ref o3, .ref o4, .ref o2, .null, .int 0, .int 0]))] ++ w7 ++ w0 ++ w8 ++ w1 ++ w5 ++ w3 ++ w4 ++ w2) := hD
  refine lv_aload_n hx hb dX9_init_92 rfl (lv_at hl 0 rfl) ?_
  refine lv_iconst (v := 4) hx hb dX9_init_93 (by decide) ?_
  refine va_newq hx hb hown (hts (.classLink RX9 65 RX6) (tb_in 268 (by decide +kernel) (by decide +kernel))) hO hKz hP hD hS hA (n := 4) (by decide) (N' := 4) (by decide) (Nat.le_of_ble_eq_true rfl) (Nat.le_of_ble_eq_true rfl) (Nat.le_of_ble_eq_true rfl) dX9_init_94 (fun qs cS H hKs hP hD hS => ?_)
  have hKs : va_K D vwCl [(cS, .object RX6)] s := hKs
  refine W.widen (k := 37) (n := 1454) (Nat.le_of_ble_eq_true rfl) (Nat.le_of_ble_eq_true rfl) ?_
  have hP : va_P D vwCl ([(h0, .inr (9, [.ref o7, .ref o0, .ref o8, .ref o1, .ref o5, .ref o3, .ref o4, .ref o2, .null, .int 0, .int 0]))] ++ w7 ++ w0 ++ w8 ++ w1 ++ w5 ++ w3 ++ w4 ++ w2 ++ [(qs, .inl (cS, 4, .inr (.inr (.inr (.inr (fun _ => none))))))]) H := hP
  have hD : va_D A ([(h0, .inr (9, [.ref o7, .ref o0, .ref o8, .ref o1, .ref o5, .ref o3, .ref o4, .ref o2, .null, .int 0, .int 0]))] ++ w7 ++ w0 ++ w8 ++ w1 ++ w5 ++ w3 ++ w4 ++ w2 ++ [(qs, .inl (cS, 4, .inr (.inr (.inr (.inr (fun _ => none))))))]) := hD
  refine va_putF (D := D) (ci := 9) (v := .ref qs) (ty := .array (.object "SpanBook$Sheet")) (C := RX9) (T := TX9) (N := 11) hx hb hts inX9 tyX9 tyX9_ok nmX9 hown hKz hP hD hS 0 rfl rfl 8 (by decide) (hts _ fl_9_67) (fun _ h9 => h9) rfl hin rfl (by decide +kernel) rfl rfl (Nat.le_of_ble_eq_true rfl) dX9_init_97 (fun H locs hP hD hS => ?_)
  have hP : va_P D vwCl ([(h0, .inr (9, [.ref o7, .ref o0, .ref o8, .ref o1, .ref o5, .ref o3, .ref o4, .ref o2, .ref qs, .int 0, .int 0]))] ++ w7 ++ w0 ++ w8 ++ w1 ++ w5 ++ w3 ++ w4 ++ w2 ++ [(qs, .inl (cS, 4, .inr (.inr (.inr (.inr (fun _ => none))))))]) H := hP
  have hD : va_D A ([(h0, .inr (9, [.ref o7, .ref o0, .ref o8, .ref o1, .ref o5, .ref o3, .ref o4, .ref o2, .ref qs, .int 0, .int 0]))] ++ w7 ++ w0 ++ w8 ++ w1 ++ w5 ++ w3 ++ w4 ++ w2 ++ [(qs, .inl (cS, 4, .inr (.inr (.inr (.inr (fun _ => none))))))]) := hD
  refine lv_aload_n hx hb dX9_init_100 rfl (lv_at hl 0 rfl) ?_
  refine lv_iconst (v := 1) hx hb dX9_init_101 (by decide) ?_
  refine va_put (D := D) (ci := 9) (v := .int 1) (ty := .boolean) (C := RX9) (T := TX9) (N := 11) hx hb hts inX9 tyX9 tyX9_ok nmX9 hown hKz hP hD hS 0 rfl rfl 9 (by decide) (hts _ fl_9_71) (fun _ h9 => h9) rfl (by decide +kernel) rfl rfl (Nat.le_of_ble_eq_true rfl) dX9_init_102 (fun H locs hP hD hS => ?_)
  have hP : va_P D vwCl ([(h0, .inr (9, [.ref o7, .ref o0, .ref o8, .ref o1, .ref o5, .ref o3, .ref o4, .ref o2, .ref qs, .int 1, .int 0]))] ++ w7 ++ w0 ++ w8 ++ w1 ++ w5 ++ w3 ++ w4 ++ w2 ++ [(qs, .inl (cS, 4, .inr (.inr (.inr (.inr (fun _ => none))))))]) H := hP
  have hD : va_D A ([(h0, .inr (9, [.ref o7, .ref o0, .ref o8, .ref o1, .ref o5, .ref o3, .ref o4, .ref o2, .ref qs, .int 1, .int 0]))] ++ w7 ++ w0 ++ w8 ++ w1 ++ w5 ++ w3 ++ w4 ++ w2 ++ [(qs, .inl (cS, 4, .inr (.inr (.inr (.inr (fun _ => none))))))]) := hD
  refine lv_aload_n hx hb dX9_init_105 rfl (lv_at hl 0 rfl) ?_
  refine lv_iconst (v := 0) hx hb dX9_init_106 (by decide) ?_
  refine va_put (D := D) (ci := 9) (v := .int 0) (ty := .int) (C := RX9) (T := TX9) (N := 11) hx hb hts inX9 tyX9 tyX9_ok nmX9 hown hKz hP hD hS 0 rfl rfl 10 (by decide) (hts _ fl_9_75) (fun _ h9 => h9) rfl (by decide +kernel) rfl rfl (Nat.le_of_ble_eq_true rfl) dX9_init_107 (fun H locs hP hD hS => ?_)
  have hP : va_P D vwCl ([(h0, .inr (9, [.ref o7, .ref o0, .ref o8, .ref o1, .ref o5, .ref o3, .ref o4, .ref o2, .ref qs, .int 1, .int 0]))] ++ w7 ++ w0 ++ w8 ++ w1 ++ w5 ++ w3 ++ w4 ++ w2 ++ [(qs, .inl (cS, 4, .inr (.inr (.inr (.inr (fun _ => none))))))]) H := hP
  have hD : va_D A ([(h0, .inr (9, [.ref o7, .ref o0, .ref o8, .ref o1, .ref o5, .ref o3, .ref o4, .ref o2, .ref qs, .int 1, .int 0]))] ++ w7 ++ w0 ++ w8 ++ w1 ++ w5 ++ w3 ++ w4 ++ w2 ++ [(qs, .inl (cS, 4, .inr (.inr (.inr (.inr (fun _ => none))))))]) := hD
  refine lv_iconst (v := 0) hx hb dX9_init_110 (by decide) ?_
  refine lv_istore_n (lv' := [(1, .int 0), (0, .ref h0)]) hx hb dX9_init_111 rfl hl (by decide) rfl (fun ls hl => ?_)
  have hP : va_P D vwCl ((([(h0, .inr (9, [.ref o7, .ref o0, .ref o8, .ref o1, .ref o5, .ref o3, .ref o4, .ref o2, .ref qs, .int 1, .int 0]))] : va_W) ++ w7 ++ w0 ++ w8 ++ w1 ++ w5 ++ w3 ++ w4 ++ w2) ++ (qs, .inl (cS, 4, .inr (.inr (.inr (.inr (fun _ => none)))))) :: []) H := hP
  have hD : va_D A ((([(h0, .inr (9, [.ref o7, .ref o0, .ref o8, .ref o1, .ref o5, .ref o3, .ref o4, .ref o2, .ref qs, .int 1, .int 0]))] : va_W) ++ w7 ++ w0 ++ w8 ++ w1 ++ w5 ++ w3 ++ w4 ++ w2) ++ (qs, .inl (cS, 4, .inr (.inr (.inr (.inr (fun _ => none)))))) :: []) := hD
  refine lv_iload_n hx hb dX9_init_112 rfl (lv_at hl 0 rfl) ?_
  refine lv_iconst (v := 4) hx hb dX9_init_113 (by decide) ?_
  refine lv_icmp_ge (tgt := 136) hx hb dX9_init_114 (by decide) (fun z => absurd z (by decide)) (fun _ => ?_)
  refine lv_aload_n hx hb dX9_init_117 rfl (lv_at hl 1 rfl) ?_
  refine va_get (D := D) (ci := 9) (v := .ref qs) (C := RX9) (T := TX9) (N := 11) hx hb hts inX9 hown hKz hP 0 rfl rfl 8 (by decide) (hts _ fl_9_67) (fun _ h9 => h9) rfl dX9_init_118 ?_
  refine lv_iload_n hx hb dX9_init_121 rfl (lv_at hl 0 rfl) ?_
  refine va_new (ci := 6) (fs := [.null, .int 0, .int 0, .int 0]) (C := RX6) (T := TX6) (N := 4) hx hb hts inX6 tyX6 tyX6_ok hown (hts (.classLink RX9 65 RX6) (tb_in 268 (by decide +kernel) (by decide +kernel))) (hts (.instantiable RX6 4) (tb_in 270 (by decide +kernel) (by decide +kernel))) (hts (.initialized RX6) (tb_in 10 (by decide +kernel) (by decide +kernel))) hKz hP hD hS hA rfl (by decide +kernel) (Nat.le_of_ble_eq_true rfl) (Nat.le_of_ble_eq_true rfl) dX9_init_122 (fun s0 H hP hD hS => ?_)
  refine W.widen (k := 38) (n := 1458) (Nat.le_of_ble_eq_true rfl) (Nat.le_of_ble_eq_true rfl) ?_
  refine lv_dup hx hb dX9_init_125 rfl ?_
  have hPc := lastP hP
  have hFc := lastF hD hS hA
  refine va_callv (va_runIN (As := []) (rest := [.ref s0, .int 0, .ref qs]) ⟨hx, hb, hml, hown, hts⟩ (k_X6 l D s0 H.size) ⟨va_cnB 0 hts (gd_cons (tb_in 273 (by decide +kernel) (by decide +kernel))) rfl rfl rfl hN6 (hts (.initialized RX6) (tb_in 10 (by decide +kernel) (by decide +kernel))) (by decide +kernel) ⟨Nat.le_of_ble_eq_true rfl, Nat.le_of_ble_eq_true rfl⟩, rfl, (hts _ (tb_in 272 (by decide +kernel) (by decide +kernel)))⟩ ⟨kPc_blind, fun U hU hW => ⟨rfl, by rw [hU], by rw [hU]; exact hPc, va_K.moved hW.alike hKz, lastD (A := A)⟩⟩ rfl rfl hl.1 rfl (lv_room (Nat.le_of_ble_eq_true rfl)) dX9_init_126 ⟨Nat.le_of_ble_eq_true rfl, Nat.le_of_ble_eq_true rfl⟩) hS (fun z _ hz => hFc z hz) hFc (fun u t H1 locs ht hvm hw hB hz1 hkq hS => ?_)
  obtain ⟨w6, t6⟩ := u
  obtain ⟨hPq, hKq, hDq⟩ := hB
  rw [ht] at hPq
  obtain ⟨i0, b0, hw⟩ := (hw : at_X6 s0 (w6, t6))
  cases hw
  have hKb0 : va_K D vwCl [(b0, .int)] s := va_K.moved hvm.symm hKq
  obtain ⟨hP, hD⟩ := joinL hP hD hkq hFc hPq hDq
  clear hKq hPq hDq hkq hFc hPc hz1 ht hvm t
  generalize H1 = H at hP hS ⊢
  refine W.widen (k := 39) (n := 1518) (Nat.le_of_ble_eq_true rfl) (Nat.le_of_ble_eq_true rfl) ?_
  rw [List.append_assoc] at hP hD
  have hP : va_P D vwCl ((([(h0, .inr (9, [.ref o7, .ref o0, .ref o8, .ref o1, .ref o5, .ref o3, .ref o4, .ref o2, .ref qs, .int 1, .int 0]))] : va_W) ++ w7 ++ w0 ++ w8 ++ w1 ++ w5 ++ w3 ++ w4 ++ w2) ++ (qs, .inl (cS, 4, .inr (.inr (.inr (.inr (fun _ => none)))))) :: [(s0, .inr (6, [.ref i0, .int 1, .int 0, .int 0])), (i0, .inl (b0, 60, .inl (fun _ => 0)))]) H := hP
  have hD : va_D A ((([(h0, .inr (9, [.ref o7, .ref o0, .ref o8, .ref o1, .ref o5, .ref o3, .ref o4, .ref o2, .ref qs, .int 1, .int 0]))] : va_W) ++ w7 ++ w0 ++ w8 ++ w1 ++ w5 ++ w3 ++ w4 ++ w2) ++ (qs, .inl (cS, 4, .inr (.inr (.inr (.inr (fun _ => none)))))) :: [(s0, .inr (6, [.ref i0, .int 1, .int 0, .int 0])), (i0, .inl (b0, 60, .inl (fun _ => 0)))]) := hD
  refine va_astq hx hb hKs hP hD hS ((([(h0, .inr (9, [.ref o7, .ref o0, .ref o8, .ref o1, .ref o5, .ref o3, .ref o4, .ref o2, .ref qs, .int 1, .int 0]))] : va_W) ++ w7 ++ w0 ++ w8 ++ w1 ++ w5 ++ w3 ++ w4 ++ w2).length + 0) 0 ((([(h0, .inr (9, [.ref o7, .ref o0, .ref o8, .ref o1, .ref o5, .ref o3, .ref o4, .ref o2, .ref qs, .int 1, .int 0]))] : va_W) ++ w7 ++ w0 ++ w8 ++ w1 ++ w5 ++ w3 ++ w4 ++ w2).length + 1) 6 (cA := cS) (r := (RX6, TX6, 4)) (v := s0) (at_off (([(h0, .inr (9, [.ref o7, .ref o0, .ref o8, .ref o1, .ref o5, .ref o3, .ref o4, .ref o2, .ref qs, .int 1, .int 0]))] : va_W) ++ w7 ++ w0 ++ w8 ++ w1 ++ w5 ++ w3 ++ w4 ++ w2) _ 0) rfl (at_off (([(h0, .inr (9, [.ref o7, .ref o0, .ref o8, .ref o1, .ref o5, .ref o3, .ref o4, .ref o2, .ref qs, .int 1, .int 0]))] : va_W) ++ w7 ++ w0 ++ w8 ++ w1 ++ w5 ++ w3 ++ w4 ++ w2) _ 1) rfl (ix_vp (by decide)) dX9_init_129 (fun H locs hP hD hS => ?_)
  rw [set_off] at hP hD
  have hP : va_P D vwCl ((([(h0, .inr (9, [.ref o7, .ref o0, .ref o8, .ref o1, .ref o5, .ref o3, .ref o4, .ref o2, .ref qs, .int 1, .int 0]))] : va_W) ++ w7 ++ w0 ++ w8 ++ w1 ++ w5 ++ w3 ++ w4 ++ w2) ++ (qs, .inl (cS, 4, .inr (.inr (.inr (.inr (va_up (fun _ => none) (0 : Int32).toNatClampNeg (some s0))))))) :: [(s0, .inr (6, [.ref i0, .int 1, .int 0, .int 0])), (i0, .inl (b0, 60, .inl (fun _ => 0)))]) H := hP
  have hD : va_D A ((([(h0, .inr (9, [.ref o7, .ref o0, .ref o8, .ref o1, .ref o5, .ref o3, .ref o4, .ref o2, .ref qs, .int 1, .int 0]))] : va_W) ++ w7 ++ w0 ++ w8 ++ w1 ++ w5 ++ w3 ++ w4 ++ w2) ++ (qs, .inl (cS, 4, .inr (.inr (.inr (.inr (va_up (fun _ => none) (0 : Int32).toNatClampNeg (some s0))))))) :: [(s0, .inr (6, [.ref i0, .int 1, .int 0, .int 0])), (i0, .inl (b0, 60, .inl (fun _ => 0)))]) := hD
  refine lv_iinc (v := 1) (lv' := [(1, .int 1), (0, .ref h0)]) hx hb dX9_init_130 hl (k := 0) rfl (by decide) (by decide) rfl (fun ls hl => ?_)
  refine lv_goto (tgt := 112) hx hb dX9_init_133 (by decide) ?_
  refine lv_iload_n hx hb dX9_init_112 rfl (lv_at hl 0 rfl) ?_
  refine lv_iconst (v := 4) hx hb dX9_init_113 (by decide) ?_
  refine lv_icmp_ge (tgt := 136) hx hb dX9_init_114 (by decide) (fun z => absurd z (by decide)) (fun _ => ?_)
  refine lv_aload_n hx hb dX9_init_117 rfl (lv_at hl 1 rfl) ?_
  refine va_get (D := D) (ci := 9) (v := .ref qs) (C := RX9) (T := TX9) (N := 11) hx hb hts inX9 hown hKz hP 0 rfl rfl 8 (by decide) (hts _ fl_9_67) (fun _ h9 => h9) rfl dX9_init_118 ?_
  refine lv_iload_n hx hb dX9_init_121 rfl (lv_at hl 0 rfl) ?_
  refine va_new (ci := 6) (fs := [.null, .int 0, .int 0, .int 0]) (C := RX6) (T := TX6) (N := 4) hx hb hts inX6 tyX6 tyX6_ok hown (hts (.classLink RX9 65 RX6) (tb_in 268 (by decide +kernel) (by decide +kernel))) (hts (.instantiable RX6 4) (tb_in 270 (by decide +kernel) (by decide +kernel))) (hts (.initialized RX6) (tb_in 10 (by decide +kernel) (by decide +kernel))) hKz hP hD hS hA rfl (by decide +kernel) (Nat.le_of_ble_eq_true rfl) (Nat.le_of_ble_eq_true rfl) dX9_init_122 (fun s1 H hP hD hS => ?_)
  refine W.widen (k := 40) (n := 1522) (Nat.le_of_ble_eq_true rfl) (Nat.le_of_ble_eq_true rfl) ?_
  refine lv_dup hx hb dX9_init_125 rfl ?_
  have hPc := lastP hP
  have hFc := lastF hD hS hA
  refine va_callv (va_runIN (As := []) (rest := [.ref s1, .int 1, .ref qs]) ⟨hx, hb, hml, hown, hts⟩ (k_X6 l D s1 H.size) ⟨va_cnB 0 hts (gd_cons (tb_in 273 (by decide +kernel) (by decide +kernel))) rfl rfl rfl hN6 (hts (.initialized RX6) (tb_in 10 (by decide +kernel) (by decide +kernel))) (by decide +kernel) ⟨Nat.le_of_ble_eq_true rfl, Nat.le_of_ble_eq_true rfl⟩, rfl, (hts _ (tb_in 272 (by decide +kernel) (by decide +kernel)))⟩ ⟨kPc_blind, fun U hU hW => ⟨rfl, by rw [hU], by rw [hU]; exact hPc, va_K.moved hW.alike hKz, lastD (A := A)⟩⟩ rfl rfl hl.1 rfl (lv_room (Nat.le_of_ble_eq_true rfl)) dX9_init_126 ⟨Nat.le_of_ble_eq_true rfl, Nat.le_of_ble_eq_true rfl⟩) hS (fun z _ hz => hFc z hz) hFc (fun u t H1 locs ht hvm hw hB hz1 hkq hS => ?_)
  obtain ⟨w6, t6⟩ := u
  obtain ⟨hPq, hKq, hDq⟩ := hB
  rw [ht] at hPq
  obtain ⟨i1, b1, hw⟩ := (hw : at_X6 s1 (w6, t6))
  cases hw
  have hKb1 : va_K D vwCl [(b1, .int)] s := va_K.moved hvm.symm hKq
  obtain ⟨hP, hD⟩ := joinL hP hD hkq hFc hPq hDq
  clear hKq hPq hDq hkq hFc hPc hz1 ht hvm t
  generalize H1 = H at hP hS ⊢
  refine W.widen (k := 41) (n := 1582) (Nat.le_of_ble_eq_true rfl) (Nat.le_of_ble_eq_true rfl) ?_
  rw [List.append_assoc] at hP hD
  have hP : va_P D vwCl ((([(h0, .inr (9, [.ref o7, .ref o0, .ref o8, .ref o1, .ref o5, .ref o3, .ref o4, .ref o2, .ref qs, .int 1, .int 0]))] : va_W) ++ w7 ++ w0 ++ w8 ++ w1 ++ w5 ++ w3 ++ w4 ++ w2) ++ (qs, .inl (cS, 4, .inr (.inr (.inr (.inr (va_up (fun _ => none) (0 : Int32).toNatClampNeg (some s0))))))) :: [(s0, .inr (6, [.ref i0, .int 1, .int 0, .int 0])), (i0, .inl (b0, 60, .inl (fun _ => 0))), (s1, .inr (6, [.ref i1, .int 1, .int 0, .int 0])), (i1, .inl (b1, 60, .inl (fun _ => 0)))]) H := hP
  have hD : va_D A ((([(h0, .inr (9, [.ref o7, .ref o0, .ref o8, .ref o1, .ref o5, .ref o3, .ref o4, .ref o2, .ref qs, .int 1, .int 0]))] : va_W) ++ w7 ++ w0 ++ w8 ++ w1 ++ w5 ++ w3 ++ w4 ++ w2) ++ (qs, .inl (cS, 4, .inr (.inr (.inr (.inr (va_up (fun _ => none) (0 : Int32).toNatClampNeg (some s0))))))) :: [(s0, .inr (6, [.ref i0, .int 1, .int 0, .int 0])), (i0, .inl (b0, 60, .inl (fun _ => 0))), (s1, .inr (6, [.ref i1, .int 1, .int 0, .int 0])), (i1, .inl (b1, 60, .inl (fun _ => 0)))]) := hD
  refine va_astq hx hb hKs hP hD hS ((([(h0, .inr (9, [.ref o7, .ref o0, .ref o8, .ref o1, .ref o5, .ref o3, .ref o4, .ref o2, .ref qs, .int 1, .int 0]))] : va_W) ++ w7 ++ w0 ++ w8 ++ w1 ++ w5 ++ w3 ++ w4 ++ w2).length + 0) 0 ((([(h0, .inr (9, [.ref o7, .ref o0, .ref o8, .ref o1, .ref o5, .ref o3, .ref o4, .ref o2, .ref qs, .int 1, .int 0]))] : va_W) ++ w7 ++ w0 ++ w8 ++ w1 ++ w5 ++ w3 ++ w4 ++ w2).length + 3) 6 (cA := cS) (r := (RX6, TX6, 4)) (v := s1) (at_off (([(h0, .inr (9, [.ref o7, .ref o0, .ref o8, .ref o1, .ref o5, .ref o3, .ref o4, .ref o2, .ref qs, .int 1, .int 0]))] : va_W) ++ w7 ++ w0 ++ w8 ++ w1 ++ w5 ++ w3 ++ w4 ++ w2) _ 0) rfl (at_off (([(h0, .inr (9, [.ref o7, .ref o0, .ref o8, .ref o1, .ref o5, .ref o3, .ref o4, .ref o2, .ref qs, .int 1, .int 0]))] : va_W) ++ w7 ++ w0 ++ w8 ++ w1 ++ w5 ++ w3 ++ w4 ++ w2) _ 3) rfl (ix_vp (by decide)) dX9_init_129 (fun H locs hP hD hS => ?_)
  rw [set_off] at hP hD
  have hP : va_P D vwCl ((([(h0, .inr (9, [.ref o7, .ref o0, .ref o8, .ref o1, .ref o5, .ref o3, .ref o4, .ref o2, .ref qs, .int 1, .int 0]))] : va_W) ++ w7 ++ w0 ++ w8 ++ w1 ++ w5 ++ w3 ++ w4 ++ w2) ++ (qs, .inl (cS, 4, .inr (.inr (.inr (.inr (va_up (va_up (fun _ => none) (0 : Int32).toNatClampNeg (some s0)) (1 : Int32).toNatClampNeg (some s1))))))) :: [(s0, .inr (6, [.ref i0, .int 1, .int 0, .int 0])), (i0, .inl (b0, 60, .inl (fun _ => 0))), (s1, .inr (6, [.ref i1, .int 1, .int 0, .int 0])), (i1, .inl (b1, 60, .inl (fun _ => 0)))]) H := hP
  have hD : va_D A ((([(h0, .inr (9, [.ref o7, .ref o0, .ref o8, .ref o1, .ref o5, .ref o3, .ref o4, .ref o2, .ref qs, .int 1, .int 0]))] : va_W) ++ w7 ++ w0 ++ w8 ++ w1 ++ w5 ++ w3 ++ w4 ++ w2) ++ (qs, .inl (cS, 4, .inr (.inr (.inr (.inr (va_up (va_up (fun _ => none) (0 : Int32).toNatClampNeg (some s0)) (1 : Int32).toNatClampNeg (some s1))))))) :: [(s0, .inr (6, [.ref i0, .int 1, .int 0, .int 0])), (i0, .inl (b0, 60, .inl (fun _ => 0))), (s1, .inr (6, [.ref i1, .int 1, .int 0, .int 0])), (i1, .inl (b1, 60, .inl (fun _ => 0)))]) := hD
  refine lv_iinc (v := 2) (lv' := [(1, .int 2), (0, .ref h0)]) hx hb dX9_init_130 hl (k := 0) rfl (by decide) (by decide) rfl (fun ls hl => ?_)
  refine lv_goto (tgt := 112) hx hb dX9_init_133 (by decide) ?_
  refine lv_iload_n hx hb dX9_init_112 rfl (lv_at hl 0 rfl) ?_
  refine lv_iconst (v := 4) hx hb dX9_init_113 (by decide) ?_
  refine lv_icmp_ge (tgt := 136) hx hb dX9_init_114 (by decide) (fun z => absurd z (by decide)) (fun _ => ?_)
  refine lv_aload_n hx hb dX9_init_117 rfl (lv_at hl 1 rfl) ?_
  refine va_get (D := D) (ci := 9) (v := .ref qs) (C := RX9) (T := TX9) (N := 11) hx hb hts inX9 hown hKz hP 0 rfl rfl 8 (by decide) (hts _ fl_9_67) (fun _ h9 => h9) rfl dX9_init_118 ?_
  refine lv_iload_n hx hb dX9_init_121 rfl (lv_at hl 0 rfl) ?_
  refine va_new (ci := 6) (fs := [.null, .int 0, .int 0, .int 0]) (C := RX6) (T := TX6) (N := 4) hx hb hts inX6 tyX6 tyX6_ok hown (hts (.classLink RX9 65 RX6) (tb_in 268 (by decide +kernel) (by decide +kernel))) (hts (.instantiable RX6 4) (tb_in 270 (by decide +kernel) (by decide +kernel))) (hts (.initialized RX6) (tb_in 10 (by decide +kernel) (by decide +kernel))) hKz hP hD hS hA rfl (by decide +kernel) (Nat.le_of_ble_eq_true rfl) (Nat.le_of_ble_eq_true rfl) dX9_init_122 (fun s2 H hP hD hS => ?_)
  refine W.widen (k := 42) (n := 1586) (Nat.le_of_ble_eq_true rfl) (Nat.le_of_ble_eq_true rfl) ?_
  refine lv_dup hx hb dX9_init_125 rfl ?_
  have hPc := lastP hP
  have hFc := lastF hD hS hA
  refine va_callv (va_runIN (As := []) (rest := [.ref s2, .int 2, .ref qs]) ⟨hx, hb, hml, hown, hts⟩ (k_X6 l D s2 H.size) ⟨va_cnB 0 hts (gd_cons (tb_in 273 (by decide +kernel) (by decide +kernel))) rfl rfl rfl hN6 (hts (.initialized RX6) (tb_in 10 (by decide +kernel) (by decide +kernel))) (by decide +kernel) ⟨Nat.le_of_ble_eq_true rfl, Nat.le_of_ble_eq_true rfl⟩, rfl, (hts _ (tb_in 272 (by decide +kernel) (by decide +kernel)))⟩ ⟨kPc_blind, fun U hU hW => ⟨rfl, by rw [hU], by rw [hU]; exact hPc, va_K.moved hW.alike hKz, lastD (A := A)⟩⟩ rfl rfl hl.1 rfl (lv_room (Nat.le_of_ble_eq_true rfl)) dX9_init_126 ⟨Nat.le_of_ble_eq_true rfl, Nat.le_of_ble_eq_true rfl⟩) hS (fun z _ hz => hFc z hz) hFc (fun u t H1 locs ht hvm hw hB hz1 hkq hS => ?_)
  obtain ⟨w6, t6⟩ := u
  obtain ⟨hPq, hKq, hDq⟩ := hB
  rw [ht] at hPq
  obtain ⟨i2, b2, hw⟩ := (hw : at_X6 s2 (w6, t6))
  cases hw
  have hKb2 : va_K D vwCl [(b2, .int)] s := va_K.moved hvm.symm hKq
  obtain ⟨hP, hD⟩ := joinL hP hD hkq hFc hPq hDq
  clear hKq hPq hDq hkq hFc hPc hz1 ht hvm t
  generalize H1 = H at hP hS ⊢
  refine W.widen (k := 43) (n := 1646) (Nat.le_of_ble_eq_true rfl) (Nat.le_of_ble_eq_true rfl) ?_
  rw [List.append_assoc] at hP hD
  have hP : va_P D vwCl ((([(h0, .inr (9, [.ref o7, .ref o0, .ref o8, .ref o1, .ref o5, .ref o3, .ref o4, .ref o2, .ref qs, .int 1, .int 0]))] : va_W) ++ w7 ++ w0 ++ w8 ++ w1 ++ w5 ++ w3 ++ w4 ++ w2) ++ (qs, .inl (cS, 4, .inr (.inr (.inr (.inr (va_up (va_up (fun _ => none) (0 : Int32).toNatClampNeg (some s0)) (1 : Int32).toNatClampNeg (some s1))))))) :: [(s0, .inr (6, [.ref i0, .int 1, .int 0, .int 0])), (i0, .inl (b0, 60, .inl (fun _ => 0))), (s1, .inr (6, [.ref i1, .int 1, .int 0, .int 0])), (i1, .inl (b1, 60, .inl (fun _ => 0))), (s2, .inr (6, [.ref i2, .int 1, .int 0, .int 0])), (i2, .inl (b2, 60, .inl (fun _ => 0)))]) H := hP
  have hD : va_D A ((([(h0, .inr (9, [.ref o7, .ref o0, .ref o8, .ref o1, .ref o5, .ref o3, .ref o4, .ref o2, .ref qs, .int 1, .int 0]))] : va_W) ++ w7 ++ w0 ++ w8 ++ w1 ++ w5 ++ w3 ++ w4 ++ w2) ++ (qs, .inl (cS, 4, .inr (.inr (.inr (.inr (va_up (va_up (fun _ => none) (0 : Int32).toNatClampNeg (some s0)) (1 : Int32).toNatClampNeg (some s1))))))) :: [(s0, .inr (6, [.ref i0, .int 1, .int 0, .int 0])), (i0, .inl (b0, 60, .inl (fun _ => 0))), (s1, .inr (6, [.ref i1, .int 1, .int 0, .int 0])), (i1, .inl (b1, 60, .inl (fun _ => 0))), (s2, .inr (6, [.ref i2, .int 1, .int 0, .int 0])), (i2, .inl (b2, 60, .inl (fun _ => 0)))]) := hD
  refine va_astq hx hb hKs hP hD hS ((([(h0, .inr (9, [.ref o7, .ref o0, .ref o8, .ref o1, .ref o5, .ref o3, .ref o4, .ref o2, .ref qs, .int 1, .int 0]))] : va_W) ++ w7 ++ w0 ++ w8 ++ w1 ++ w5 ++ w3 ++ w4 ++ w2).length + 0) 0 ((([(h0, .inr (9, [.ref o7, .ref o0, .ref o8, .ref o1, .ref o5, .ref o3, .ref o4, .ref o2, .ref qs, .int 1, .int 0]))] : va_W) ++ w7 ++ w0 ++ w8 ++ w1 ++ w5 ++ w3 ++ w4 ++ w2).length + 5) 6 (cA := cS) (r := (RX6, TX6, 4)) (v := s2) (at_off (([(h0, .inr (9, [.ref o7, .ref o0, .ref o8, .ref o1, .ref o5, .ref o3, .ref o4, .ref o2, .ref qs, .int 1, .int 0]))] : va_W) ++ w7 ++ w0 ++ w8 ++ w1 ++ w5 ++ w3 ++ w4 ++ w2) _ 0) rfl (at_off (([(h0, .inr (9, [.ref o7, .ref o0, .ref o8, .ref o1, .ref o5, .ref o3, .ref o4, .ref o2, .ref qs, .int 1, .int 0]))] : va_W) ++ w7 ++ w0 ++ w8 ++ w1 ++ w5 ++ w3 ++ w4 ++ w2) _ 5) rfl (ix_vp (by decide)) dX9_init_129 (fun H locs hP hD hS => ?_)
  rw [set_off] at hP hD
  have hP : va_P D vwCl ((([(h0, .inr (9, [.ref o7, .ref o0, .ref o8, .ref o1, .ref o5, .ref o3, .ref o4, .ref o2, .ref qs, .int 1, .int 0]))] : va_W) ++ w7 ++ w0 ++ w8 ++ w1 ++ w5 ++ w3 ++ w4 ++ w2) ++ (qs, .inl (cS, 4, .inr (.inr (.inr (.inr (va_up (va_up (va_up (fun _ => none) (0 : Int32).toNatClampNeg (some s0)) (1 : Int32).toNatClampNeg (some s1)) (2 : Int32).toNatClampNeg (some s2))))))) :: [(s0, .inr (6, [.ref i0, .int 1, .int 0, .int 0])), (i0, .inl (b0, 60, .inl (fun _ => 0))), (s1, .inr (6, [.ref i1, .int 1, .int 0, .int 0])), (i1, .inl (b1, 60, .inl (fun _ => 0))), (s2, .inr (6, [.ref i2, .int 1, .int 0, .int 0])), (i2, .inl (b2, 60, .inl (fun _ => 0)))]) H := hP
  have hD : va_D A ((([(h0, .inr (9, [.ref o7, .ref o0, .ref o8, .ref o1, .ref o5, .ref o3, .ref o4, .ref o2, .ref qs, .int 1, .int 0]))] : va_W) ++ w7 ++ w0 ++ w8 ++ w1 ++ w5 ++ w3 ++ w4 ++ w2) ++ (qs, .inl (cS, 4, .inr (.inr (.inr (.inr (va_up (va_up (va_up (fun _ => none) (0 : Int32).toNatClampNeg (some s0)) (1 : Int32).toNatClampNeg (some s1)) (2 : Int32).toNatClampNeg (some s2))))))) :: [(s0, .inr (6, [.ref i0, .int 1, .int 0, .int 0])), (i0, .inl (b0, 60, .inl (fun _ => 0))), (s1, .inr (6, [.ref i1, .int 1, .int 0, .int 0])), (i1, .inl (b1, 60, .inl (fun _ => 0))), (s2, .inr (6, [.ref i2, .int 1, .int 0, .int 0])), (i2, .inl (b2, 60, .inl (fun _ => 0)))]) := hD
  refine lv_iinc (v := 3) (lv' := [(1, .int 3), (0, .ref h0)]) hx hb dX9_init_130 hl (k := 0) rfl (by decide) (by decide) rfl (fun ls hl => ?_)
  refine lv_goto (tgt := 112) hx hb dX9_init_133 (by decide) ?_
  refine lv_iload_n hx hb dX9_init_112 rfl (lv_at hl 0 rfl) ?_
  refine lv_iconst (v := 4) hx hb dX9_init_113 (by decide) ?_
  refine lv_icmp_ge (tgt := 136) hx hb dX9_init_114 (by decide) (fun z => absurd z (by decide)) (fun _ => ?_)
  refine lv_aload_n hx hb dX9_init_117 rfl (lv_at hl 1 rfl) ?_
  refine va_get (D := D) (ci := 9) (v := .ref qs) (C := RX9) (T := TX9) (N := 11) hx hb hts inX9 hown hKz hP 0 rfl rfl 8 (by decide) (hts _ fl_9_67) (fun _ h9 => h9) rfl dX9_init_118 ?_
  refine lv_iload_n hx hb dX9_init_121 rfl (lv_at hl 0 rfl) ?_
  refine va_new (ci := 6) (fs := [.null, .int 0, .int 0, .int 0]) (C := RX6) (T := TX6) (N := 4) hx hb hts inX6 tyX6 tyX6_ok hown (hts (.classLink RX9 65 RX6) (tb_in 268 (by decide +kernel) (by decide +kernel))) (hts (.instantiable RX6 4) (tb_in 270 (by decide +kernel) (by decide +kernel))) (hts (.initialized RX6) (tb_in 10 (by decide +kernel) (by decide +kernel))) hKz hP hD hS hA rfl (by decide +kernel) (Nat.le_of_ble_eq_true rfl) (Nat.le_of_ble_eq_true rfl) dX9_init_122 (fun s3 H hP hD hS => ?_)
  refine W.widen (k := 44) (n := 1650) (Nat.le_of_ble_eq_true rfl) (Nat.le_of_ble_eq_true rfl) ?_
  refine lv_dup hx hb dX9_init_125 rfl ?_
  have hPc := lastP hP
  have hFc := lastF hD hS hA
  refine va_callv (va_runIN (As := []) (rest := [.ref s3, .int 3, .ref qs]) ⟨hx, hb, hml, hown, hts⟩ (k_X6 l D s3 H.size) ⟨va_cnB 0 hts (gd_cons (tb_in 273 (by decide +kernel) (by decide +kernel))) rfl rfl rfl hN6 (hts (.initialized RX6) (tb_in 10 (by decide +kernel) (by decide +kernel))) (by decide +kernel) ⟨Nat.le_of_ble_eq_true rfl, Nat.le_of_ble_eq_true rfl⟩, rfl, (hts _ (tb_in 272 (by decide +kernel) (by decide +kernel)))⟩ ⟨kPc_blind, fun U hU hW => ⟨rfl, by rw [hU], by rw [hU]; exact hPc, va_K.moved hW.alike hKz, lastD (A := A)⟩⟩ rfl rfl hl.1 rfl (lv_room (Nat.le_of_ble_eq_true rfl)) dX9_init_126 ⟨Nat.le_of_ble_eq_true rfl, Nat.le_of_ble_eq_true rfl⟩) hS (fun z _ hz => hFc z hz) hFc (fun u t H1 locs ht hvm hw hB hz1 hkq hS => ?_)
  obtain ⟨w6, t6⟩ := u
  obtain ⟨hPq, hKq, hDq⟩ := hB
  rw [ht] at hPq
  obtain ⟨i3, b3, hw⟩ := (hw : at_X6 s3 (w6, t6))
  cases hw
  have hKb3 : va_K D vwCl [(b3, .int)] s := va_K.moved hvm.symm hKq
  obtain ⟨hP, hD⟩ := joinL hP hD hkq hFc hPq hDq
  clear hKq hPq hDq hkq hFc hPc hz1 ht hvm t
  generalize H1 = H at hP hS ⊢
  refine W.widen (k := 45) (n := 1710) (Nat.le_of_ble_eq_true rfl) (Nat.le_of_ble_eq_true rfl) ?_
  rw [List.append_assoc] at hP hD
  have hP : va_P D vwCl ((([(h0, .inr (9, [.ref o7, .ref o0, .ref o8, .ref o1, .ref o5, .ref o3, .ref o4, .ref o2, .ref qs, .int 1, .int 0]))] : va_W) ++ w7 ++ w0 ++ w8 ++ w1 ++ w5 ++ w3 ++ w4 ++ w2) ++ (qs, .inl (cS, 4, .inr (.inr (.inr (.inr (va_up (va_up (va_up (fun _ => none) (0 : Int32).toNatClampNeg (some s0)) (1 : Int32).toNatClampNeg (some s1)) (2 : Int32).toNatClampNeg (some s2))))))) :: [(s0, .inr (6, [.ref i0, .int 1, .int 0, .int 0])), (i0, .inl (b0, 60, .inl (fun _ => 0))), (s1, .inr (6, [.ref i1, .int 1, .int 0, .int 0])), (i1, .inl (b1, 60, .inl (fun _ => 0))), (s2, .inr (6, [.ref i2, .int 1, .int 0, .int 0])), (i2, .inl (b2, 60, .inl (fun _ => 0))), (s3, .inr (6, [.ref i3, .int 1, .int 0, .int 0])), (i3, .inl (b3, 60, .inl (fun _ => 0)))]) H := hP
  have hD : va_D A ((([(h0, .inr (9, [.ref o7, .ref o0, .ref o8, .ref o1, .ref o5, .ref o3, .ref o4, .ref o2, .ref qs, .int 1, .int 0]))] : va_W) ++ w7 ++ w0 ++ w8 ++ w1 ++ w5 ++ w3 ++ w4 ++ w2) ++ (qs, .inl (cS, 4, .inr (.inr (.inr (.inr (va_up (va_up (va_up (fun _ => none) (0 : Int32).toNatClampNeg (some s0)) (1 : Int32).toNatClampNeg (some s1)) (2 : Int32).toNatClampNeg (some s2))))))) :: [(s0, .inr (6, [.ref i0, .int 1, .int 0, .int 0])), (i0, .inl (b0, 60, .inl (fun _ => 0))), (s1, .inr (6, [.ref i1, .int 1, .int 0, .int 0])), (i1, .inl (b1, 60, .inl (fun _ => 0))), (s2, .inr (6, [.ref i2, .int 1, .int 0, .int 0])), (i2, .inl (b2, 60, .inl (fun _ => 0))), (s3, .inr (6, [.ref i3, .int 1, .int 0, .int 0])), (i3, .inl (b3, 60, .inl (fun _ => 0)))]) := hD
  refine va_astq hx hb hKs hP hD hS ((([(h0, .inr (9, [.ref o7, .ref o0, .ref o8, .ref o1, .ref o5, .ref o3, .ref o4, .ref o2, .ref qs, .int 1, .int 0]))] : va_W) ++ w7 ++ w0 ++ w8 ++ w1 ++ w5 ++ w3 ++ w4 ++ w2).length + 0) 0 ((([(h0, .inr (9, [.ref o7, .ref o0, .ref o8, .ref o1, .ref o5, .ref o3, .ref o4, .ref o2, .ref qs, .int 1, .int 0]))] : va_W) ++ w7 ++ w0 ++ w8 ++ w1 ++ w5 ++ w3 ++ w4 ++ w2).length + 7) 6 (cA := cS) (r := (RX6, TX6, 4)) (v := s3) (at_off (([(h0, .inr (9, [.ref o7, .ref o0, .ref o8, .ref o1, .ref o5, .ref o3, .ref o4, .ref o2, .ref qs, .int 1, .int 0]))] : va_W) ++ w7 ++ w0 ++ w8 ++ w1 ++ w5 ++ w3 ++ w4 ++ w2) _ 0) rfl (at_off (([(h0, .inr (9, [.ref o7, .ref o0, .ref o8, .ref o1, .ref o5, .ref o3, .ref o4, .ref o2, .ref qs, .int 1, .int 0]))] : va_W) ++ w7 ++ w0 ++ w8 ++ w1 ++ w5 ++ w3 ++ w4 ++ w2) _ 7) rfl (ix_vp (by decide)) dX9_init_129 (fun H locs hP hD hS => ?_)
  rw [set_off] at hP hD
  have hP : va_P D vwCl ((([(h0, .inr (9, [.ref o7, .ref o0, .ref o8, .ref o1, .ref o5, .ref o3, .ref o4, .ref o2, .ref qs, .int 1, .int 0]))] : va_W) ++ w7 ++ w0 ++ w8 ++ w1 ++ w5 ++ w3 ++ w4 ++ w2) ++ (qs, .inl (cS, 4, .inr (.inr (.inr (.inr (va_up (va_up (va_up (va_up (fun _ => none) (0 : Int32).toNatClampNeg (some s0)) (1 : Int32).toNatClampNeg (some s1)) (2 : Int32).toNatClampNeg (some s2)) (3 : Int32).toNatClampNeg (some s3))))))) :: [(s0, .inr (6, [.ref i0, .int 1, .int 0, .int 0])), (i0, .inl (b0, 60, .inl (fun _ => 0))), (s1, .inr (6, [.ref i1, .int 1, .int 0, .int 0])), (i1, .inl (b1, 60, .inl (fun _ => 0))), (s2, .inr (6, [.ref i2, .int 1, .int 0, .int 0])), (i2, .inl (b2, 60, .inl (fun _ => 0))), (s3, .inr (6, [.ref i3, .int 1, .int 0, .int 0])), (i3, .inl (b3, 60, .inl (fun _ => 0)))]) H := hP
  have hD : va_D A ((([(h0, .inr (9, [.ref o7, .ref o0, .ref o8, .ref o1, .ref o5, .ref o3, .ref o4, .ref o2, .ref qs, .int 1, .int 0]))] : va_W) ++ w7 ++ w0 ++ w8 ++ w1 ++ w5 ++ w3 ++ w4 ++ w2) ++ (qs, .inl (cS, 4, .inr (.inr (.inr (.inr (va_up (va_up (va_up (va_up (fun _ => none) (0 : Int32).toNatClampNeg (some s0)) (1 : Int32).toNatClampNeg (some s1)) (2 : Int32).toNatClampNeg (some s2)) (3 : Int32).toNatClampNeg (some s3))))))) :: [(s0, .inr (6, [.ref i0, .int 1, .int 0, .int 0])), (i0, .inl (b0, 60, .inl (fun _ => 0))), (s1, .inr (6, [.ref i1, .int 1, .int 0, .int 0])), (i1, .inl (b1, 60, .inl (fun _ => 0))), (s2, .inr (6, [.ref i2, .int 1, .int 0, .int 0])), (i2, .inl (b2, 60, .inl (fun _ => 0))), (s3, .inr (6, [.ref i3, .int 1, .int 0, .int 0])), (i3, .inl (b3, 60, .inl (fun _ => 0)))]) := hD
  refine lv_iinc (v := 4) (lv' := [(1, .int 4), (0, .ref h0)]) hx hb dX9_init_130 hl (k := 0) rfl (by decide) (by decide) rfl (fun ls hl => ?_)
  refine lv_goto (tgt := 112) hx hb dX9_init_133 (by decide) ?_
  refine lv_iload_n hx hb dX9_init_112 rfl (lv_at hl 0 rfl) ?_
  refine lv_iconst (v := 4) hx hb dX9_init_113 (by decide) ?_
  refine lv_icmp_ge (tgt := 136) hx hb dX9_init_114 (by decide) (fun _ => ?_) (fun z => absurd (by decide) z)
  obtain ⟨q, cA, eq0, hPw, hKw, hDw⟩ := book_fin hP hD hKs hKb0 hKb1 hKb2 hKb3 hK7 hK0 hK8 hK1 hK5 hK3 hK4 hK2 hw7 hw0 hw8 hw1 hw5 hw3 hw4 hw2
  exact W.vret hx hb hr (fun t ht hW => ⟨⟨(wsW 0 q cA (hc0 h3), tysW 0 cA), rfl, ⟨q, cA, eq0, rfl⟩, by rw [ht]; exact hPw, va_K.moved hW.alike hKw, hDw⟩, hS.F ht⟩) hS.2.2 dX9_init_136
