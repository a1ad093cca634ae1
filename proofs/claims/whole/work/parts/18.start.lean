/-! the law's entry -/
theorem sp_Pl {D : va_G} {cl : List vw_C} {X Y : va_W} {H : Heap} (h : va_P D cl (X ++ Y) H) : va_P D cl X H := fun k q hk => h k q (by rw [List.getElem?_append_left (List.getElem?_eq_some_iff.mp hk).1]; exact hk)
theorem sp_Pr {D : va_G} {cl : List vw_C} {X Y : va_W} {H : Heap} (h : va_P D cl (X ++ Y) H) : va_P D cl Y H := fun k q hk => h (X.length + k) q (by rw [at_off]; exact hk)
theorem sp_Dl {A : Nat → Prop} {X Y : va_W} (h : va_D A (X ++ Y)) : va_D A X := ⟨fun i j p q hi hj e => h.1 i j p q (by rw [List.getElem?_append_left (List.getElem?_eq_some_iff.mp hi).1]; exact hi) (by rw [List.getElem?_append_left (List.getElem?_eq_some_iff.mp hj).1]; exact hj) e, fun k q hk => h.2 k q (by rw [List.getElem?_append_left (List.getElem?_eq_some_iff.mp hk).1]; exact hk)⟩
theorem sp_Dr {A : Nat → Prop} {X Y : va_W} (h : va_D A (X ++ Y)) : va_D A Y := ⟨fun i j p q hi hj e => by
  have := h.1 (X.length + i) (X.length + j) p q (by rw [at_off]; exact hi) (by rw [at_off]; exact hj) e
  omega, fun k q hk => h.2 (X.length + k) q (by rw [at_off]; exact hk)⟩
theorem sp_dis {A : Nat → Prop} {X Y : va_W} (h : va_D A (X ++ Y)) {i j : Nat} {p q : Nat × va_E} (hi : X[i]? = some p) (hj : Y[j]? = some q) : p.1 ≠ q.1 := fun e => by
  have hl := (List.getElem?_eq_some_iff.mp hi).1
  have := h.1 i (X.length + j) p q (by rw [List.getElem?_append_left hl]; exact hi) (by rw [at_off]; exact hj) e
  omega
set_option maxHeartbeats 4000000 in
set_option maxRecDepth 100000 in
theorem start_of {Rel : hp_T → hp_T → Prop} (S : LawSteps Rel) {h3 hm1 : hp_T} (E3 : f_X8_init3 h30 = some h3) (Em : f_X10_init1 hm0 = some hm1) (hR0 : Rel (hc0 h3) hm1) {p : Program} {e : Env} {s : State} {m : MethodId} {below : List Frame} {meth : Method} {c : Code} (l : Launch) {b L : Nat} {xs : Nat → Int32} (hL : L ≤ 3072) (C0 : lw_At p s m meth c b L xs) : W p l e room_1 s m #[Value.ref b] below meth c s.heap [] 0 0 (lw_Z below #[Value.ref b] s) (entryFrame m ([Value.ref b] : List Value).toArray 4) := by
  obtain ⟨hx, hb, hr, hml, hown0, hts0, hX, hbl, hlocks, hgv⟩ := C0
  have hown : s.vm.findClass RL = some m.cls := hown0
  have hts : ∀ w ∈ gd_tbl, w.before #[Value.ref b] s = true := fun w h => hts0 w (gd_sub h)
  have hNN : kN s := ⟨va_Nw.of rfl (hts0 _ (List.mem_append_right _ (List.mem_of_getElem? (i := 24) (by decide +kernel)))), va_Nw.of rfl (hts0 _ (List.mem_append_right _ (List.mem_of_getElem? (i := 85) (by decide +kernel)))), va_Nw.of rfl (hts0 _ (List.mem_append_right _ (List.mem_of_getElem? (i := 165) (by decide +kernel)))), va_Nw.of rfl (hts0 _ (List.mem_append_right _ (List.mem_of_getElem? (i := 183) (by decide +kernel)))), va_Nw.of rfl (hts0 _ (List.mem_append_right _ (List.mem_of_getElem? (i := 210) (by decide +kernel)))), va_Nw.of rfl (hts0 _ (List.mem_append_right _ (List.mem_of_getElem? (i := 228) (by decide +kernel)))), va_Nw.of rfl (hts0 _ (List.mem_append_right _ (List.mem_of_getElem? (i := 243) (by decide +kernel)))), va_Nw.of rfl (hts0 _ (List.mem_append_right _ (List.mem_of_getElem? (i := 271) (by decide +kernel)))), va_AO.of (hts0 _ (List.mem_append_right _ (List.mem_of_getElem? (i := 269) (by decide +kernel))))⟩
  obtain ⟨c0, z0, hKn0⟩ := u_known (C := RX0) (T := TX0) (N := 6) (n := 6) hts inX0 (hts (.instantiable RX0 6) (tb_in 84 (by decide +kernel) (by decide +kernel)))
  obtain ⟨c1, z1, hKn1⟩ := u_known (C := RX1) (T := TX1) (N := 3) (n := 3) hts inX1 (hts (.instantiable RX1 3) (tb_in 164 (by decide +kernel) (by decide +kernel)))
  obtain ⟨c2, z2, hKn2⟩ := u_known (C := RX2) (T := TX2) (N := 5) (n := 5) hts inX2 (hts (.instantiable RX2 5) (tb_in 242 (by decide +kernel) (by decide +kernel)))
  obtain ⟨c3, z3, hKn3⟩ := u_known (C := RX3) (T := TX3) (N := 3) (n := 3) hts inX3 (hts (.instantiable RX3 3) (tb_in 209 (by decide +kernel) (by decide +kernel)))
  obtain ⟨c4, z4, hKn4⟩ := u_known (C := RX4) (T := TX4) (N := 2) (n := 2) hts inX4 (hts (.instantiable RX4 2) (tb_in 227 (by decide +kernel) (by decide +kernel)))
  obtain ⟨c5, z5, hKn5⟩ := u_known (C := RX5) (T := TX5) (N := 5) (n := 5) hts inX5 (hts (.instantiable RX5 5) (tb_in 182 (by decide +kernel) (by decide +kernel)))
  obtain ⟨c6, z6, hKn6⟩ := u_known (C := RX6) (T := TX6) (N := 4) (n := 4) hts inX6 (hts (.instantiable RX6 4) (tb_in 270 (by decide +kernel) (by decide +kernel)))
  obtain ⟨c7, z7, hKn7⟩ := u_known (C := RX7) (T := TX7) (N := 6) (n := 6) hts inX7 (hts (.instantiable RX7 6) (tb_in 23 (by decide +kernel) (by decide +kernel)))
  obtain ⟨c8, z8, hKn8⟩ := u_known (C := RX8) (T := TX8) (N := 10) (n := 10) hts inX8 (hts (.instantiable RX8 10) (tb_in 114 (by decide +kernel) (by decide +kernel)))
  obtain ⟨c9, z9, hKn9⟩ := u_known (C := RX9) (T := TX9) (N := 11) (n := 11) hts inX9 (hts (.instantiable RX9 11) (tb_in 15 (by decide +kernel) (by decide +kernel)))
  obtain ⟨c10, z10, hKn10⟩ := u_known (C := RX10) (T := TX10) (N := 33) (n := 33) hts inX10 (hts (.instantiable RX10 33) (tb_in 724 (by decide +kernel) (by decide +kernel)))
  obtain ⟨D, hKc⟩ : ∃ D : va_G, ∀ (k : Nat) (q : vw_C), vwCl[k]? = some q → u_Kn s q.1 q.2.1 q.2.2 (D.1 k) (D.2 k) := by
    refine ⟨(fun k => [c0, c1, c2, c3, c4, c5, c6, c7, c8, c9, c10].getD k c0, fun k => [z0, z1, z2, z3, z4, z5, z6, z7, z8, z9, z10].getD k z0), ?_⟩
    intro k q hq
    match k, hq with
    | 0, hq => cases hq; exact hKn0
    | 1, hq => cases hq; exact hKn1
    | 2, hq => cases hq; exact hKn2
    | 3, hq => cases hq; exact hKn3
    | 4, hq => cases hq; exact hKn4
    | 5, hq => cases hq; exact hKn5
    | 6, hq => cases hq; exact hKn6
    | 7, hq => cases hq; exact hKn7
    | 8, hq => cases hq; exact hKn8
    | 9, hq => cases hq; exact hKn9
    | 10, hq => cases hq; exact hKn10
    | k + 11, hq => simp [vwCl] at hq
  have hA : ∀ q : Nat, s.heap.size ≤ q → (fun q : Nat => s.heap.size ≤ q) q := fun _ h => h
  have hS : va_S (fun q : Nat => s.heap.size ≤ q) s.heap s.heap [] := va_S.rf
  have hKz : va_K D vwCl [] s := ⟨hKc, fun k q h => by simp at h⟩
  have hP : va_P D vwCl [] s.heap := fun k q h => by simp at h
  have hD : va_D (fun q : Nat => s.heap.size ≤ q) [] := ⟨fun i j p q h => by simp at h, fun k q h => by simp at h⟩
  have hl := lv_entry ([.ref b]) (n := 4) (Nat.le_of_ble_eq_true rfl)
  rw [lg_entry_eq]
  generalize (lg_sl ([.ref b]) ++ List.replicate (4 - (lg_sl ([.ref b])).length) Slot.unset).toArray = ls at hl ⊢
  have hl : lv_has ls 4 [(0, .ref b)] := hl
  refine va_new (ci := 9) (fs := [.null, .null, .null, .null, .null, .null, .null, .null, .null, .int 0, .int 0]) (C := RX9) (T := TX9) (N := 11) hx hb hts inX9 tyX9 tyX9_ok hown (hts (.classLink RL 7 RX9) (tb_in 14 (by decide +kernel) (by decide +kernel))) (hts (.instantiable RX9 11) (tb_in 15 (by decide +kernel) (by decide +kernel))) (hts (.initialized RX9) (tb_in 1 (by decide +kernel) (by decide +kernel))) hKz hP hD hS hA rfl (by decide +kernel) (Nat.le_of_ble_eq_true rfl) (Nat.le_of_ble_eq_true rfl) dL_law_0 (fun q0 H hP hD hS => ?_)
  refine W.widen (k := 1) (n := 11) (Nat.le_of_ble_eq_true rfl) (Nat.le_of_ble_eq_true rfl) ?_
  refine lv_dup hx hb dL_law_3 rfl ?_
  have hPc := lastP hP
  have hFc := lastF hD hS hA
  refine va_callv (va_runI (As := []) (rest := [.ref q0]) ⟨hx, hb, hml, hown, hts⟩ (k_X9 l D q0 H.size E3) (cwI 0 hts (gd_cons (tb_in 18 (by decide +kernel) (by decide +kernel))) rfl rfl rfl (hts (.initialized RX9) (tb_in 1 (by decide +kernel) (by decide +kernel))) (hts (.methodLink RL 9 yX9_init) (tb_in 16 (by decide +kernel) (by decide +kernel))) (hts _ (tb_in 17 (by decide +kernel) (by decide +kernel))) rfl (by decide +kernel) ⟨Nat.le_of_ble_eq_true rfl, Nat.le_of_ble_eq_true rfl⟩) ⟨kPc9_blind, fun U hU hW => ⟨rfl, by rw [hU], by rw [hU]; exact hPc, va_K.moved hW.alike hKz, lastD (A := fun _ => True), kN.warm hW hNN⟩⟩ rfl rfl hl.1 rfl (lv_room (Nat.le_of_ble_eq_true rfl)) dL_law_4 ⟨Nat.le_of_ble_eq_true rfl, Nat.le_of_ble_eq_true rfl⟩) hS (fun z _ hz => hFc z hz) hFc (fun u t Hj9 locs ht hvm hw hB hz1 hkq hSj9 => ?_)
  obtain ⟨w9, t9⟩ := u
  obtain ⟨hPq, hKq, hDq⟩ := hB
  rw [ht] at hPq
  have hK9 : va_K D vwCl t9 s := va_K.moved hvm.symm hKq
  obtain ⟨hPj9, hDj9⟩ := joinL hP hD hkq hFc hPq hDq
  refine W.widen (k := 46) (n := 1721) (Nat.le_of_ble_eq_true rfl) (Nat.le_of_ble_eq_true rfl) ?_
  obtain ⟨qc, cc, eq0, hw⟩ := (hw : at_X9 q0 (hc0 h3) (w9, t9))
  cases hw
  subst eq0
  refine lv_astore_n (lv' := [(1, .ref (qc 0)), (0, .ref b)]) hx hb dL_law_7 rfl hl (by decide) rfl (fun ls hl => ?_)
  have hP : va_P D vwCl (wsW 0 qc cc (hc0 h3)) Hj9 := hPj9
  have hD : va_D (fun q : Nat => s.heap.size ≤ q) (wsW 0 qc cc (hc0 h3)) := hDj9
  have hS := hSj9
  refine va_new (ci := 10) (fs := [.null, .null, .null, .null, .int 0, .null, .null, .null, .int 0, .int 0, .null, .null, .null, .null, .null, .null, .null, .null, .null, .null, .null, .null, .null, .null, .null, .null, .null, .null, .null, .null, .null, .null, .null]) (C := RX10) (T := TX10) (N := 33) hx hb hts inX10 tyX10 tyX10_ok hown (hts (.classLink RL 10 RX10) (tb_in 723 (by decide +kernel) (by decide +kernel))) (hts (.instantiable RX10 33) (tb_in 724 (by decide +kernel) (by decide +kernel))) (hts (.initialized RX10) (tb_in 11 (by decide +kernel) (by decide +kernel))) hKz hP hD hS hA rfl (by decide +kernel) (Nat.le_of_ble_eq_true rfl) (Nat.le_of_ble_eq_true rfl) dL_law_8 (fun q1 H hP hD hS => ?_)
  refine W.widen (k := 47) (n := 1754) (Nat.le_of_ble_eq_true rfl) (Nat.le_of_ble_eq_true rfl) ?_
  refine lv_dup hx hb dL_law_11 rfl ?_
  have hPc := lastP hP
  have hFc := lastF hD hS hA
  refine va_callv (va_runI (As := []) (rest := [.ref q1]) ⟨hx, hb, hml, hown, hts⟩ (k_X10 l D q1 H.size Em) (cwI 0 hts (gd_cons (tb_in 727 (by decide +kernel) (by decide +kernel))) rfl rfl rfl (hts (.initialized RX10) (tb_in 11 (by decide +kernel) (by decide +kernel))) (hts (.methodLink RL 12 yX10_init) (tb_in 725 (by decide +kernel) (by decide +kernel))) (hts _ (tb_in 726 (by decide +kernel) (by decide +kernel))) rfl (by decide +kernel) ⟨Nat.le_of_ble_eq_true rfl, Nat.le_of_ble_eq_true rfl⟩) ⟨kPc_blind, fun U hU hW => ⟨rfl, by rw [hU], by rw [hU]; exact hPc, va_K.moved hW.alike hKz, lastD (A := fun _ => True)⟩⟩ rfl rfl hl.1 rfl (lv_room (Nat.le_of_ble_eq_true rfl)) dL_law_12 ⟨Nat.le_of_ble_eq_true rfl, Nat.le_of_ble_eq_true rfl⟩) hS (fun z _ hz => hFc z hz) hFc (fun u t Hj10 locs ht hvm hw hB hz1 hkq hSj10 => ?_)
  obtain ⟨w10, t10⟩ := u
  obtain ⟨hPq, hKq, hDq⟩ := hB
  rw [ht] at hPq
  have hK10 : va_K D vwCl t10 s := va_K.moved hvm.symm hKq
  obtain ⟨hPj10, hDj10⟩ := joinL hP hD hkq hFc hPq hDq
  refine W.widen (k := 77) (n := 3376) (Nat.le_of_ble_eq_true rfl) (Nat.le_of_ble_eq_true rfl) ?_
  obtain ⟨qm, cm, eq1, hw⟩ := (hw : at_X10 q1 hm1 (w10, t10))
  cases hw
  subst eq1
  refine lv_astore_n (lv' := [(2, .ref (qm 0)), (1, .ref (qc 0)), (0, .ref b)]) hx hb dL_law_15 rfl hl (by decide) rfl (fun ls hl => ?_)
  refine lv_iconst (v := 0) hx hb dL_law_16 (by decide) ?_
  refine lv_istore_n (lv' := [(3, .int 0), (2, .ref (qm 0)), (1, .ref (qc 0)), (0, .ref b)]) hx hb dL_law_17 rfl hl (by decide) rfl (fun ls hl => ?_)
  have hP : va_P D vwCl (wsW 0 qc cc (hc0 h3) ++ wsW 1 qm cm hm1) Hj10 := hPj10
  have hD : va_D (fun q : Nat => s.heap.size ≤ q) (wsW 0 qc cc (hc0 h3) ++ wsW 1 qm cm hm1) := hDj10
  have hS := hSj10
  have key := law_loop (Λ := (p, l, e, s, m, below, meth, c, D, qc, cc, qm, cm, b, L, xs)) S ⟨hx, hb, hr, hml, hown, hts, hX, hbl, hlocks, hK9, hK10, fun h => ws_D (sp_Dl hD), fun h => ws_D (sp_Dr hD), fun i j hi hj => sp_dis hD (ws_get hi) (ws_get hj)⟩ hL (L + 1) 0 (hc0 h3) hm1 hR0 (Nat.zero_le _) (by show L < _; omega)
  exact key Hj10 _ ls (sp_Pl hP) (sp_Pr hP) hS (lv_sub hl [3, 2, 1, 0] rfl)
