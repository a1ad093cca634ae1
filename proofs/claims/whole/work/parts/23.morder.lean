/-! the reference's order -/
theorem m_ahead {h : hp_T} {a b : Nat} (ha : a < 48) (hb : b < 48) : (la (h.1 6) (h.1 7) a b → f_X10_isAhead (nI a) (nI b) h = some (1, h)) ∧ (¬ la (h.1 6) (h.1 7) a b → f_X10_isAhead (nI a) (nI b) h = some (0, h)) := by
  have e1 := ix_n (j := a) (n := 48) ha (by omega)
  have e2 := ix_n (j := b) (n := 48) hb (by omega)
  have n1 : (nI a).toInt = a := n_int (by omega)
  have n2 : (nI b).toInt = b := n_int (by omega)
  constructor <;> intro hl <;> unfold f_X10_isAhead la at * <;> simp only [e1, e2, if_true, n_cl (show a < 2147483648 by omega), n_cl (show b < 2147483648 by omega)] <;> (repeat' split) <;> first | rfl | (exfalso; simp only [i_eq, i_le] at *; omega)
theorem ord_L2 {h0 : hp_T} {n k : Nat} {K : Nat → Nat} {Kc : Int32 → hp_T → Option hp_T} (hk : k < 48) (hn : n < 48) (hO : ∀ i, i < n → K i < 48) (hne : ∀ i, i < n → K i ≠ k) (hs : ∀ i j, i < j → j < n → la (h0.1 6) (h0.1 7) (K i) (K j)) (h1 : ∀ i, i < n → h0.1 12 i = nI (K i)) :
    ∃ v h, f_X10_orders_L2 (nI k) Kc 100 (nI n) h0 = Kc (nI v) h ∧ v ≤ n ∧ Fr [12] h0 h ∧ (∀ i, i < v → h.1 12 i = nI (K i)) ∧ (∀ i, v < i → i ≤ n → h.1 12 i = nI (K (i - 1))) ∧ (∀ i, v ≤ i → i < n → la (h0.1 6) (h0.1 7) k (K i)) ∧ (∀ i, i < v → la (h0.1 6) (h0.1 7) (K i) k) := by
  have key := loop_j (fun N (s : Int32 × hp_T) => f_X10_orders_L2 (nI k) Kc N s.1 s.2)
    (fun o => ∃ v h, o = Kc (nI v) h ∧ v ≤ n ∧ Fr [12] h0 h ∧ (∀ i, i < v → h.1 12 i = nI (K i)) ∧ (∀ i, v < i → i ≤ n → h.1 12 i = nI (K (i - 1))) ∧ (∀ i, v ≤ i → i < n → la (h0.1 6) (h0.1 7) k (K i)) ∧ (∀ i, i < v → la (h0.1 6) (h0.1 7) (K i) k))
    (fun v s => s.1 = nI v ∧ v ≤ n ∧ Fr [12] h0 s.2 ∧ (∀ i, i < v → s.2.1 12 i = nI (K i)) ∧ (∀ i, v < i → i ≤ n → s.2.1 12 i = nI (K (i - 1))) ∧ (∀ i, v ≤ i → i < n → la (h0.1 6) (h0.1 7) k (K i))) ?_ n 100 (nI n, h0) (by omega)
    ⟨rfl, Nat.le_refl _, Fr.rf, h1, fun i a b => absurd a (by omega), fun i a b => absurd a (by omega)⟩
  · exact key
  rintro N v ⟨x, h⟩ ⟨rfl, hv, hF, a1, a2, a5⟩
  dsimp only at *
  rw [f_X10_orders_L2]
  rcases Nat.eq_zero_or_pos v with c | c
  · subst c
    left
    rw [if_pos (by rw [i_le, n_int (by omega)]; decide)]
    exact ⟨0, h, rfl, hv, hF, a1, a2, a5, fun i q => absurd q (by omega)⟩
  rw [if_neg (by rw [i_le, n_int (by omega), t_0]; omega), n_pred c, if_pos (ix_n (by omega) (by omega)), n_cl (by omega), a1 (v - 1) (by omega)]
  have f2 : h.1 6 = h0.1 6 := hF.1 6 (by decide)
  have f3 : h.1 7 = h0.1 7 := hF.1 7 (by decide)
  have hA := m_ahead (h := h) hk (hO (v - 1) (by omega))
  rw [f2, f3] at hA
  by_cases hl : la (h0.1 6) (h0.1 7) k (K (v - 1))
  · right
    rw [hA.1 hl, c_some, if_neg (by decide), if_pos (ix_n (by omega) (by omega)), if_pos (ix_n (by omega) (by omega)), a1 (v - 1) (by omega), l_let, l_let, n_m1 c, n_cl (by omega)]
    refine ⟨v - 1, (nI (v - 1), hw h 12 v (nI (K (v - 1)))), by omega, ⟨rfl, by omega, hF.hw (by decide), fun i hi => ?_, fun i hi hi2 => ?_, fun i hi hi2 => ?_⟩, rfl⟩
    · dsimp only
      rw [hw_n _ _ _ _ (Or.inr (by omega))]
      exact a1 i (by omega)
    · dsimp only
      by_cases e : i = v
      · subst e; rw [hw_s]
      · rw [hw_n _ _ _ _ (Or.inr e)]; exact a2 i (by omega) hi2
    · by_cases e : i = v - 1
      · subst e; exact hl
      · exact a5 i (by omega) hi2
  · left
    rw [hA.2 hl, c_some, if_pos rfl]
    refine ⟨v, h, rfl, hv, hF, a1, a2, a5, fun i hi => ?_⟩
    have b1 := la_tot (fun q => hne (v - 1) (by omega) q.symm) hl
    by_cases e : i = v - 1
    · subst e; exact b1
    · exact la_tr (hs i (v - 1) (by omega) (by omega)) b1
def thk (th : Nat → Int32) (k : Nat) : Nat → Int32 := fun j => if j < k then th j else 0
theorem thk_s0 {th : Nat → Int32} {k : Nat} (h : th k = 0) : thk th (k + 1) = thk th k := by
  funext j
  unfold thk
  rcases Nat.lt_trichotomy j k with c | c | c
  · simp [c, show j < k + 1 by omega]
  · subst c; simp [h]
  · simp [show ¬ j < k by omega, show ¬ j < k + 1 by omega]
theorem thk_s1 {th : Nat → Int32} {k : Nat} (h : th k = 1) : thk th (k + 1) = upd (thk th k) k 1 := by
  funext j
  unfold thk
  rcases Nat.lt_trichotomy j k with c | c | c
  · rw [up_n _ _ (by omega)]; simp [c, show j < k + 1 by omega]
  · subst c; rw [up_s]; simp [h]
  · rw [up_n _ _ (by omega)]; simp [show ¬ j < k by omega, show ¬ j < k + 1 by omega]
theorem ord_L1 {m : hp_T} {Kc : Int32 → Int32 → hp_T → Option hp_T} (hb : ∀ k, k < 48 → m.1 5 k = 0 ∨ m.1 5 k = 1) :
    ∃ c K h, f_X10_orders_L1 Kc 100 0 0 m = Kc (nI c) (nI 48) h ∧ Fr [12, 13] m h ∧ Ord (m.1 5) (m.1 6) (m.1 7) c K ∧ (∀ i, i < c → h.1 12 i = nI (K i)) := by
  have key := loop_j (fun N (s : Int32 × Int32 × hp_T) => f_X10_orders_L1 Kc N s.1 s.2.1 s.2.2)
    (fun o => ∃ c K h, o = Kc (nI c) (nI 48) h ∧ Fr [12, 13] m h ∧ Ord (m.1 5) (m.1 6) (m.1 7) c K ∧ (∀ i, i < c → h.1 12 i = nI (K i)))
    (fun r s => ∃ k c K, r = 48 - k ∧ k ≤ 48 ∧ s.1 = nI c ∧ s.2.1 = nI k ∧ Fr [12, 13] m s.2.2 ∧ Ord (thk (m.1 5) k) (m.1 6) (m.1 7) c K ∧ (∀ i, i < c → s.2.2.1 12 i = nI (K i))) ?_ 48 100 (0, 0, m) (by omega)
    ⟨0, 0, fun _ => 0, rfl, by omega, rfl, rfl, Fr.rf, ⟨fun i hi => absurd hi (by omega), fun i j _ hj => absurd hj (by omega), fun k _ hk => absurd hk (by simp [thk])⟩, fun i hi => absurd hi (by omega)⟩
  · exact key
  rintro N r ⟨x, y, h⟩ ⟨k, c, K, rfl, hk, rfl, rfl, hF, hO, h12⟩
  dsimp only at *
  have f5 : h.1 5 = m.1 5 := hF.1 5 (by decide)
  have f6 : h.1 6 = m.1 6 := hF.1 6 (by decide)
  have f7 : h.1 7 = m.1 7 := hF.1 7 (by decide)
  have hc := hO.le
  rw [f_X10_orders_L1]
  by_cases e : k = 48
  · subst e
    left
    rw [if_pos (by rw [i_le, n_int (by omega)]; decide)]
    refine ⟨c, K, h, rfl, hF, hO.cg fun j hj => ⟨by simp [thk, hj], fun _ => ⟨rfl, rfl⟩⟩, h12⟩
  right
  rw [if_neg (by rw [i_le, n_int (by omega), t_48]; omega), if_pos (ix_n (by omega) (by omega)), n_cl (by omega), f5]
  rcases hb k (by omega) with z | z
  · rw [if_pos z, l_let, nI_1]
    exact ⟨48 - (k + 1), (nI c, nI (k + 1), h), by omega, ⟨k + 1, c, K, rfl, by omega, rfl, rfl, hF, by rw [thk_s0 z]; exact hO, h12⟩, rfl⟩
  · rw [if_neg (by rw [z]; decide)]
    have hne : ∀ i, i < c → K i ≠ k := fun i hi q => by
      have := (hO.1 i hi).2
      rw [q] at this
      simp [thk] at this
    have hcn : c < 48 := hO.lt (k := k) (by omega) (by simp [thk])
    obtain ⟨v, h1, E, hv, hF1, b1, b2, b5, b6⟩ := ord_L2 (Kc := fun x15 h16 => if ix x15 48 = true then o_let (hw h16 12 x15.toNatClampNeg (nI k)) fun h18 => o_let (nI c + (1 : Int32)) fun x19 => o_let (nI k + (1 : Int32)) fun x20 => f_X10_orders_L1 Kc N x19 x20 h18 else none) (h0 := h) (k := k) (by omega) hcn (fun i hi => (hO.1 i hi).1) hne (by rw [f6, f7]; exact hO.2.1) h12
    rw [E, if_pos (ix_n (by omega) (by omega)), l_let, l_let, l_let, nI_1, nI_1, n_cl (by omega)]
    rw [f6, f7] at b5 b6
    refine ⟨48 - (k + 1), (nI (c + 1), nI (k + 1), hw h1 12 v (nI k)), by omega, ⟨k + 1, c + 1, insK K v k, rfl, by omega, rfl, rfl, (hF.tr (hF1.mono (by decide))).hw (by decide), ?_, fun i hi => ?_⟩, rfl⟩
    · rw [thk_s1 z]; exact hO.ins (by omega) hv b5 b6
    · dsimp only
      rcases Nat.lt_trichotomy i v with d | d | d
      · rw [hw_n _ _ _ _ (Or.inr (by omega)), ins_lt d]; exact b1 i d
      · subst d; rw [hw_s, ins_eq]
      · rw [hw_n _ _ _ _ (Or.inr (by omega)), ins_gt d]; exact b2 i d (by omega)
theorem ord_L3 {h0 : hp_T} {n : Nat} {K : Nat → Nat} {Kc : Int32 → hp_T → Option hp_T} (hn : n ≤ 48) (hO : ∀ i, i < n → K i < 48) (hj : ∀ i j, i < n → j < n → K i = K j → i = j) (h1 : ∀ i, i < n → h0.1 12 i = nI (K i)) :
    ∃ h, f_X10_orders_L3 (nI n) Kc 100 0 h0 = Kc (nI n) h ∧ Fr [13] h0 h ∧ (∀ i, i < n → h.1 13 (K i) = nI i) := by
  have key := loop_j (fun N (s : Int32 × hp_T) => f_X10_orders_L3 (nI n) Kc N s.1 s.2)
    (fun o => ∃ h, o = Kc (nI n) h ∧ Fr [13] h0 h ∧ (∀ i, i < n → h.1 13 (K i) = nI i))
    (fun r s => ∃ v, r = n - v ∧ v ≤ n ∧ s.1 = nI v ∧ Fr [13] h0 s.2 ∧ (∀ i, i < v → s.2.1 13 (K i) = nI i)) ?_ n 100 (0, h0) (by omega)
    ⟨0, rfl, by omega, rfl, Fr.rf, fun i hi => absurd hi (by omega)⟩
  · exact key
  rintro N r ⟨x, h⟩ ⟨v, rfl, hv, rfl, hF, a1⟩
  dsimp only at *
  rw [f_X10_orders_L3]
  by_cases e : v = n
  · subst e
    left
    rw [if_pos (by rw [i_le]; omega)]
    exact ⟨h, rfl, hF, a1⟩
  right
  rw [if_neg (by rw [i_le, n_int (by omega), n_int (by omega)]; omega), if_pos (ix_n (by omega) (by omega)), n_cl (by omega), hF.1 12 (by decide), h1 v (by omega), if_pos (ix_n (hO v (by omega)) (by omega)), l_let, l_let, nI_1, n_cl (by have := hO v (by omega); omega)]
  refine ⟨n - (v + 1), (nI (v + 1), hw h 13 (K v) (nI v)), by omega, ⟨v + 1, rfl, by omega, rfl, hF.hw (by decide), fun i hi => ?_⟩, rfl⟩
  dsimp only
  by_cases e2 : i = v
  · subst e2; rw [hw_s]
  · rw [hw_n _ _ _ _ (Or.inr fun q => e2 (hj i v (by omega) (by omega) q))]
    exact a1 i (by omega)
/-- the cells order, ranks hold the ORDER -/
def OrM (m : hp_T) (n : Nat) (K : Nat → Nat) : Prop := (∀ i, i < n → m.1 12 i = nI (K i)) ∧ (∀ i, i < n → m.1 13 (K i) = nI i)
theorem orders_ok {m : hp_T} {n : Nat} {K : Nat → Nat} (hO : Ord (m.1 5) (m.1 6) (m.1 7) n K) (hb : ∀ k, k < 48 → m.1 5 k = 0 ∨ m.1 5 k = 1) : ∃ m2, f_X10_orders m = some m2 ∧ Fr [12, 13] m m2 ∧ OrM m2 n K := by
  unfold f_X10_orders
  obtain ⟨c, K1, h1, E, hF, hO1, b1⟩ := ord_L1 (m := m) (Kc := fun x21 _ h23 => f_X10_orders_L3 x21 (fun _ h30 => some h30) 100 (0 : Int32) h23) hb
  obtain ⟨h2, E2, hF2, b2⟩ := ord_L3 (h0 := h1) (n := c) (K := K1) (Kc := fun _ h30 => some h30) hO1.le (fun i hi => (hO1.1 i hi).1) (fun i j hi hj e => hO1.inj hi hj e) b1
  obtain ⟨rfl, eK⟩ := hO.uniq hO1
  refine ⟨h2, by rw [E, E2], hF.tr (hF2.mono (by decide)), fun i hi => ?_, fun i hi => ?_⟩
  · rw [hF2.1 12 (by decide), eK i hi]; exact b1 i hi
  · rw [eK i hi]; exact b2 i hi
