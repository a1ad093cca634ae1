/-! sheets -/
def DerOK (Der : hp_T → Nat → (Nat → Nat) → Prop) : Prop := ∀ (h h2 : hp_T) (n : Nat) (K : Nat → Nat), (∀ k, 1 ≤ k → k ≤ 36 → h2.1 k = h.1 k) → h2.2 = h.2 → Der h n K → Der h2 n K
theorem rel_s {Der : hp_T → Nat → (Nat → Nat) → Prop} (D : DerOK Der) {h m h2 m2 : hp_T} (R : RelD Der h m) (c1 : ∀ k, 1 ≤ k → k ≤ 36 → h2.1 k = h.1 k) (c2 : h2.2 = h.2) (c9 : h2.1 0 9 = h.1 0 9) (d1 : ∀ k, 5 ≤ k → k ≤ 11 → m2.1 k = m.1 k) (d8 : m2.1 0 8 = m.1 0 8) (d9 : m2.1 0 9 = m.1 0 9) (hS : RelS h2 m2) (hf : h2.1 0 10 = m2.1 0 4) : RelD Der h2 m2 := by
  obtain ⟨n, K, hI, hn8, hB, ⟨d, nx, hd, hnx, x4, x5, x9, hE, P, p1, p2⟩, -, -, hw, hst⟩ := R
  refine ⟨n, K, hI.cg fun k a b => c1 k a (by omega), by rw [d8]; exact hn8, ?_, ⟨d, nx, hd, hnx, by rw [c1 7 (by omega) (by omega)]; exact x4, by rw [c1 7 (by omega) (by omega)]; exact x5, by rw [d9]; exact x9, ?_, P, ?_, ?_⟩, hS, hf, by rw [c1 13 (by omega) (by omega)]; exact hw, ?_⟩
  · intro k hk
    rw [c1 4 (by omega) (by omega), c1 2 (by omega) (by omega), c1 3 (by omega) (by omega), d1 5 (by omega) (by omega), d1 6 (by omega) (by omega), d1 7 (by omega) (by omega)]
    exact hB k hk
  · intro i hi
    have := hE i hi
    unfold Ent at *
    rw [c1 8 (by omega) (by omega), c1 9 (by omega) (by omega), c1 10 (by omega) (by omega), c1 11 (by omega) (by omega), d1 8 (by omega) (by omega), d1 9 (by omega) (by omega), d1 10 (by omega) (by omega), d1 11 (by omega) (by omega)]
    exact this
  · intro k hk
    rw [d1 5 (by omega) (by omega)]; exact p1 k hk
  · intro i hi k hk hh
    rw [d1 9 (by omega) (by omega)] at hh
    rw [d1 8 (by omega) (by omega)]
    exact p2 i hi k hk hh
  · rcases hst with ⟨a, b⟩ | a
    · exact Or.inl ⟨by rw [c9]; exact a, D h h2 n K c1 c2 b⟩
    · exact Or.inr (by rw [c9]; exact a)
theorem found_ok {Der : hp_T → Nat → (Nat → Nat) → Prop} (D : DerOK Der) {h m : hp_T} (x : Int32) (R : RelD Der h m) : ∃ h2 m2, f_X9_found x h = some (-10 - x, h2) ∧ f_X10_finds x m = some (-10 - x, m2) ∧ RelD Der h2 m2 := by
  refine ⟨hw h 0 10 x, hw m 0 4 x, rfl, rfl, rel_s D R (fun k a b => hw_ne _ _ _ (by omega)) rfl (hw_n _ _ _ _ (Or.inr (by decide))) (fun k a b => hw_ne _ _ _ (by omega)) (hw_n _ _ _ _ (Or.inr (by decide))) (hw_n _ _ _ _ (Or.inr (by decide))) ?_ (by rw [hw_s, hw_s])⟩
  obtain ⟨n, K, -, -, -, -, hS, -⟩ := R
  exact hS.cg (fun j hj => hw_ne _ _ _ (by omega)) ⟨hw_ne _ _ _ (by decide), hw_ne _ _ _ (by decide), hw_ne _ _ _ (by decide)⟩
theorem found_stp {Der : hp_T → Nat → (Nat → Nat) → Prop} (D : DerOK Der) {h m : hp_T} (x : Int32) (R : RelD Der h m) : stp (RelD Der) (o_call (f_X9_found x h) fun (r : Int32) (h1 : hp_T) => some (r, h1)) (o_call (f_X10_finds x m) fun (r : Int32) (h1 : hp_T) => some (r, h1)) := by
  obtain ⟨h2, m2, e1, e2, R2⟩ := found_ok D x R
  rw [e1, e2, c_some, c_some]
  exact ⟨_, h2, m2, rfl, rfl, R2⟩
theorem n_60 (j i : Nat) : (60 : Int32) * nI j + nI i = nI (60 * j + i) := by
  rw [show (60 : Int32) = nI 60 from rfl, pk_mul, nI_add]
theorem sheet_of {x : Int32} (h : 0 ≤ x.toInt ∧ x.toInt ≤ 3) : ∃ j, j < 4 ∧ x = nI j := by
  obtain ⟨j, h1, e⟩ := small_of (b := 3) h
  exact ⟨j, by omega, e⟩
theorem mk_L {j z : Nat} {h0 : hp_T} {Kc : Int32 → hp_T → Option hp_T} (hj : j < 4) (hz : z ≤ 60) (hs : h0.1 (38 + j) 3 = nI z) : ∃ h, f_X6_makeNew_L1 j Kc 100 0 h0 = Kc (nI z) h ∧ Fr [42 + j] h0 h ∧ (∀ i, i < z → h.1 (42 + j) i = 0) ∧ (∀ i, z ≤ i → h.1 (42 + j) i = h0.1 (42 + j) i) := by
  have key := loop_j (fun N (s : Int32 × hp_T) => f_X6_makeNew_L1 j Kc N s.1 s.2)
    (fun o => ∃ h, o = Kc (nI z) h ∧ Fr [42 + j] h0 h ∧ (∀ i, i < z → h.1 (42 + j) i = 0) ∧ (∀ i, z ≤ i → h.1 (42 + j) i = h0.1 (42 + j) i))
    (fun r s => ∃ v, r = z - v ∧ v ≤ z ∧ s.1 = nI v ∧ Fr [42 + j] h0 s.2 ∧ (∀ i, i < v → s.2.1 (42 + j) i = 0) ∧ (∀ i, v ≤ i → s.2.1 (42 + j) i = h0.1 (42 + j) i)) ?_ z 100 (0, h0) (by omega)
    ⟨0, rfl, by omega, rfl, Fr.rf, fun i hi => absurd hi (by omega), fun i _ => rfl⟩
  · exact key
  rintro N r ⟨x, h⟩ ⟨v, rfl, hv, rfl, hF, a1, a2⟩
  dsimp only at *
  rw [f_X6_makeNew_L1, hF.1 (38 + j) (by simp <;> omega), hs]
  by_cases e : v = z
  · subst e
    left
    rw [if_pos (by rw [i_le]; omega)]
    exact ⟨h, rfl, hF, a1, a2⟩
  right
  rw [if_neg (by rw [i_le, n_int (by omega), n_int (by omega)]; omega), if_pos (ix_n (by omega) (by omega)), l_let, l_let, nI_1, n_cl (by omega)]
  refine ⟨z - (v + 1), (nI (v + 1), hw h (42 + j) v 0), by omega, ⟨v + 1, rfl, by omega, rfl, hF.hw (by simp), fun i hi => ?_, fun i hi => ?_⟩, rfl⟩
  · dsimp only
    by_cases e2 : i = v
    · subst e2; rw [hw_s]
    · rw [hw_n _ _ _ _ (Or.inr e2)]; exact a1 i (by omega)
  · dsimp only
    rw [hw_n _ _ _ _ (Or.inr (by omega))]; exact a2 i (by omega)
theorem sh_L {j z : Nat} {m0 : hp_T} {Kc : Int32 → hp_T → Option (Int32 × hp_T)} (hj : j < 4) (hz : z ≤ 60) : ∃ m, f_X10_sheet_L1 (nI j) (nI z) Kc 100 0 m0 = Kc (nI z) m ∧ Fr [3] m0 m ∧ (∀ i, i < z → m.1 3 (60 * j + i) = 0) ∧ (∀ y, y < 60 * j ∨ 60 * j + z ≤ y → m.1 3 y = m0.1 3 y) := by
  have key := loop_j (fun N (s : Int32 × hp_T) => f_X10_sheet_L1 (nI j) (nI z) Kc N s.1 s.2)
    (fun o => ∃ m, o = Kc (nI z) m ∧ Fr [3] m0 m ∧ (∀ i, i < z → m.1 3 (60 * j + i) = 0) ∧ (∀ y, y < 60 * j ∨ 60 * j + z ≤ y → m.1 3 y = m0.1 3 y))
    (fun r s => ∃ v, r = z - v ∧ v ≤ z ∧ s.1 = nI v ∧ Fr [3] m0 s.2 ∧ (∀ i, i < v → s.2.1 3 (60 * j + i) = 0) ∧ (∀ y, y < 60 * j ∨ 60 * j + z ≤ y → s.2.1 3 y = m0.1 3 y)) ?_ z 100 (0, m0) (by omega)
    ⟨0, rfl, by omega, rfl, Fr.rf, fun i hi => absurd hi (by omega), fun i _ => rfl⟩
  · exact key
  rintro N r ⟨x, h⟩ ⟨v, rfl, hv, rfl, hF, a1, a2⟩
  dsimp only at *
  rw [f_X10_sheet_L1]
  by_cases e : v = z
  · subst e
    left
    rw [if_pos (by rw [i_le]; omega)]
    exact ⟨h, rfl, hF, a1, a2⟩
  right
  rw [if_neg (by rw [i_le, n_int (by omega), n_int (by omega)]; omega), n_60, if_pos (ix_n (by omega) (by omega)), l_let, l_let, nI_1, n_cl (by omega)]
  refine ⟨z - (v + 1), (nI (v + 1), hw h 3 (60 * j + v) 0), by omega, ⟨v + 1, rfl, by omega, rfl, hF.hw (by decide), fun i hi => ?_, fun y hy => ?_⟩, rfl⟩
  · dsimp only
    by_cases e2 : i = v
    · subst e2; rw [hw_s]
    · rw [hw_n _ _ _ _ (Or.inr (by omega))]; exact a1 i (by omega)
  · dsimp only
    rw [hw_n _ _ _ _ (Or.inr (by omega))]; exact a2 y hy
theorem t_60 : (60 : Int32).toInt = 60 := by decide
theorem sheet_ok {Der : hp_T → Nat → (Nat → Nat) → Prop} (D : DerOK Der) {h m : hp_T} {p1 p2 p3 : Int32} (R : RelD Der h m) : stp (RelD Der) (f_X9_sheet p1 p2 p3 h) (f_X10_sheet p1 p2 p3 m) := by
  unfold f_X9_sheet f_X10_sheet
  by_cases cs : 0 ≤ p1.toInt ∧ p1.toInt ≤ 3
  case neg =>
    rw [(c_isSheet (h := h)).2 cs, (m_isSheet (h := m)).2 cs, c_some, c_some, if_pos p00, if_pos p00]
    exact ⟨_, h, m, rfl, rfl, R⟩
  rw [(c_isSheet (h := h)).1 cs, (m_isSheet (h := m)).1 cs, c_some, c_some, if_neg n10, if_neg n10]
  have MF := m_in (x := p2.toInt64) (lo := 0) (hi := 2) (a := 0) (b := 2) (h := m) (by decide) (by decide)
  rw [x_l] at MF
  by_cases cf : 0 ≤ p2.toInt ∧ p2.toInt ≤ 2
  case neg =>
    rw [(c_isForm (h := h)).2 cf, MF.2 cf, c_some, c_some, if_pos p00, if_pos p00]
    exact ⟨_, h, m, rfl, rfl, R⟩
  rw [(c_isForm (h := h)).1 cf, MF.1 cf, c_some, c_some, if_neg n10, if_neg n10]
  by_cases c60 : p3 ≤ 60
  case neg =>
    rw [if_neg c60, if_neg c60]
    exact ⟨_, h, m, rfl, rfl, R⟩
  rw [if_pos c60, if_pos c60]
  by_cases c0 : (0 : Int32) ≤ p3
  case neg =>
    rw [if_neg c0, if_neg c0]
    exact found_stp D 5 R
  rw [if_pos c0, if_pos c0]
  rw [i_le, t_60] at c60
  rw [i_le, t_0] at c0
  obtain ⟨j, hj, rfl⟩ := sheet_of cs
  obtain ⟨z, hz, rfl⟩ := small_of (b := 60) ⟨c0, c60⟩
  have ij := ix_n hj (show 4 ≤ 1000 by omega)
  have cj : (nI j).toNatClampNeg = j := n_cl (by omega)
  simp only [ij, if_true, cj, l_let]
  unfold f_X6_makeNew
  simp only [l_let]
  obtain ⟨h0, e0⟩ : ∃ h0, h0 = hw (hw (hw h (38 + j) 1 0) (38 + j) 2 p2) (38 + j) 3 (nI z) := ⟨_, rfl⟩
  obtain ⟨m0, f0⟩ : ∃ m0, m0 = hw (hw m 1 j p2) 2 j (nI z) := ⟨_, rfl⟩
  rw [← e0, ← f0]
  have F0 : Fr [38 + j] h h0 := by rw [e0]; exact ((Fr.rf.hw (by simp)).hw (by simp)).hw (by simp)
  have G0 : Fr [1, 2] m m0 := by rw [f0]; exact (Fr.rf.hw (by decide)).hw (by decide)
  have s3 : h0.1 (38 + j) 3 = nI z := by rw [e0, hw_s]
  have s2 : h0.1 (38 + j) 2 = p2 := by rw [e0, hw_n _ _ _ _ (Or.inr (by decide)), hw_s]
  have s1 : h0.1 (38 + j) 1 = 0 := by rw [e0, hw_n _ _ _ _ (Or.inr (by decide)), hw_n _ _ _ _ (Or.inr (by decide)), hw_s]
  obtain ⟨h1, E1, F1, a1, a2⟩ := mk_L (Kc := fun _ h9 => some h9) hj hz s3
  obtain ⟨m1, E2, G1, b1, b2⟩ := sh_L (m0 := m0) (Kc := fun _ h20 => some (nI z, h20)) hj hz
  rw [E1, v_some, E2]
  refine ⟨_, h1, m1, rfl, rfl, rel_s D R (fun k q1 q2 => by rw [F1.1 k (by simp <;> omega), F0.1 k (by simp <;> omega)]) (F1.2.trans F0.2) (by rw [F1.1 0 (by simp <;> omega), F0.1 0 (by simp <;> omega)]) (fun k q1 q2 => by rw [G1.1 k (by simp <;> omega), G0.1 k (by simp <;> omega)]) (by rw [G1.1 0 (by decide), G0.1 0 (by decide)]) (by rw [G1.1 0 (by decide), G0.1 0 (by decide)]) ?_ ?_⟩
  · obtain ⟨n, K, -, -, -, -, hS, -⟩ := R
    intro y hy
    by_cases e : y = j
    · subst e
      rw [F1.1 (38 + y) (by simp <;> omega), s1, s2, s3, G1.1 1 (by decide), G1.1 2 (by decide)]
      have q1 : m0.1 1 y = p2 := by rw [f0, hw_ne _ _ _ (by decide), hw_s]
      have q2 : m0.1 2 y = nI z := by rw [f0, hw_s]
      rw [q1, q2]
      refine ⟨Or.inr ⟨rfl, rfl⟩, ?_, rfl, ⟨z, hz, rfl⟩, fun i hi => ?_⟩
      · obtain ⟨w, hw1, rfl⟩ := small_of (b := 2) cf
        rcases (show w = 0 ∨ w = 1 ∨ w = 2 by omega) with rfl | rfl | rfl
        · exact Or.inl rfl
        · exact Or.inr (Or.inl rfl)
        · exact Or.inr (Or.inr rfl)
      · by_cases c : i < z
        · rw [a1 i c, b1 i c]
        · rw [a2 i (by omega), b2 _ (by omega), F0.1 (42 + y) (by simp <;> omega), G0.1 3 (by decide)]
          exact (hS y hy).2.2.2.2 i hi
    · have := hS y hy
      have q1 : m1.1 1 y = m.1 1 y := by rw [G1.1 1 (by decide), f0, hw_ne _ _ _ (by decide), hw_n _ _ _ _ (Or.inr e)]
      have q2 : m1.1 2 y = m.1 2 y := by rw [G1.1 2 (by decide), f0, hw_n _ _ _ _ (Or.inr e), hw_ne _ _ _ (by decide)]
      rw [F1.1 (38 + y) (by simp <;> omega), F0.1 (38 + y) (by simp <;> omega), F1.1 (42 + y) (by simp <;> omega), F0.1 (42 + y) (by simp <;> omega), q1, q2]
      refine ⟨this.1, this.2.1, this.2.2.1, this.2.2.2.1, fun i hi => ?_⟩
      rw [b2 _ (by omega), G0.1 3 (by decide)]
      exact this.2.2.2.2 i hi
  · obtain ⟨n, K, -, -, -, -, -, hf, -⟩ := R
    rw [F1.1 0 (by simp <;> omega), F0.1 0 (by simp <;> omega), G1.1 0 (by decide), G0.1 0 (by decide)]
    exact hf
theorem lost_iff {h m : hp_T} {j : Nat} (hS : RelS h m) (hj : j < 4) : (h.1 (38 + j) 1 = 0 → (0 : Int32) ≤ m.1 1 j ∧ m.1 1 j = h.1 (38 + j) 2) ∧ (¬ h.1 (38 + j) 1 = 0 → ¬ (0 : Int32) ≤ m.1 1 j) := by
  have S := hS j hj
  constructor
  · intro e
    rcases S.1 with ⟨q, -⟩ | ⟨-, q⟩
    · rw [e] at q; exact absurd q (by decide)
    · refine ⟨?_, q⟩
      rw [q]
      rcases S.2.1 with w | w | w <;> rw [w] <;> decide
  · intro e
    rcases S.1 with ⟨-, q⟩ | ⟨q, -⟩
    · rw [q]; decide
    · exact absurd q e
theorem lose_ok {Der : hp_T → Nat → (Nat → Nat) → Prop} (D : DerOK Der) {h m : hp_T} {p1 : Int32} (R : RelD Der h m) : stp (RelD Der) (f_X9_lose p1 h) (f_X10_lose p1 m) := by
  unfold f_X9_lose f_X10_lose
  by_cases cs : 0 ≤ p1.toInt ∧ p1.toInt ≤ 3
  case neg =>
    rw [(c_isSheet (h := h)).2 cs, (m_isSheet (h := m)).2 cs, c_some, c_some, if_pos p00, if_pos p00]
    exact ⟨_, h, m, rfl, rfl, R⟩
  rw [(c_isSheet (h := h)).1 cs, (m_isSheet (h := m)).1 cs, c_some, c_some, if_neg n10, if_neg n10]
  obtain ⟨j, hj, rfl⟩ := sheet_of cs
  have ij := ix_n hj (show 4 ≤ 1000 by omega)
  have cj : (nI j).toNatClampNeg = j := n_cl (by omega)
  simp only [ij, if_true, cj, l_let]
  obtain ⟨n, K, -, -, -, -, hS, hf, -⟩ := id R
  have L := lost_iff hS hj
  by_cases c : h.1 (38 + j) 1 = 0
  case neg =>
    rw [if_neg c, if_neg (L.2 c)]
    exact found_stp D 1 R
  rw [if_pos c, if_pos (L.1 c).1]
  have S := hS j hj
  refine ⟨h.1 (38 + j) 3, hw h (38 + j) 1 1, hw m 1 j (-1), by rw [hw_n _ _ _ _ (Or.inr (by decide))], by rw [hw_ne _ _ _ (by decide), S.2.2.1], rel_s D R (fun k a b => hw_ne _ _ _ (by omega)) rfl (by rw [hw_ne _ _ _ (by omega)]) (fun k a b => hw_ne _ _ _ (by omega)) (by rw [hw_ne _ _ _ (by decide)]) (by rw [hw_ne _ _ _ (by decide)]) (fun y hy => ?_) (by rw [hw_ne _ _ _ (by omega), hw_ne _ _ _ (by decide)]; exact hf)⟩
  have Sy := hS y hy
  rw [hw_ne _ (k := 38 + j) (z := 42 + y) _ _ (by omega), hw_ne _ (k := 1) (z := 2) _ _ (by decide), hw_ne _ (k := 1) (z := 3) _ _ (by decide), hw_n _ _ _ _ (z := 38 + y) (j := 2) (Or.inr (by decide)), hw_n _ _ _ _ (z := 38 + y) (j := 3) (Or.inr (by decide))]
  refine ⟨?_, Sy.2⟩
  by_cases e : y = j
  · subst e; rw [hw_s, hw_s]; exact Or.inl ⟨rfl, rfl⟩
  · rw [hw_n _ _ _ _ (Or.inl (by omega)), hw_n _ _ _ _ (Or.inr e)]; exact Sy.1
theorem c_has {j z : Nat} {a b : Int32} {h : hp_T} (hz : z ≤ 60) (hs : h.1 (38 + j) 3 = nI z) : (0 ≤ a.toInt ∧ 0 ≤ b.toInt ∧ a.toInt + b.toInt ≤ z → f_X6_hasItems j a b h = some (1, h)) ∧ (¬ (0 ≤ a.toInt ∧ 0 ≤ b.toInt ∧ a.toInt + b.toInt ≤ z) → f_X6_hasItems j a b h = some (0, h)) := by
  unfold f_X6_hasItems
  rw [hs]
  have hz2 : (nI z).toInt = z := n_int (by omega)
  by_cases c1 : a < 0
  · rw [if_pos c1]
    rw [i_lt, t_0] at c1
    exact ⟨fun q => absurd q (by omega), fun _ => rfl⟩
  rw [if_neg c1]
  by_cases c2 : b < 0
  · rw [if_pos c2]
    rw [i_lt, t_0] at c2
    exact ⟨fun q => absurd q (by omega), fun _ => rfl⟩
  rw [if_neg c2]
  by_cases c3 : nI z < a
  · rw [if_pos c3]
    rw [i_lt, hz2] at c3
    rw [i_lt, t_0] at c2
    exact ⟨fun q => absurd q (by omega), fun _ => rfl⟩
  rw [if_neg c3]
  rw [i_lt, hz2] at c3
  rw [i_lt, t_0] at c1 c2
  have es : (nI z - a).toInt = z - a.toInt := by rw [i_sub (by omega) (by omega), hz2]
  by_cases c4 : nI z - a < b
  · rw [if_pos c4]
    rw [i_lt, es] at c4
    exact ⟨fun q => absurd q (by omega), fun _ => rfl⟩
  · rw [if_neg c4]
    rw [i_lt, es] at c4
    exact ⟨fun _ => rfl, fun q => absurd (by omega) q⟩
/-- item i of a sheet, both sides: a refusal (both alike), or the sheet and the item -/
theorem item_ok {Der : hp_T → Nat → (Nat → Nat) → Prop} (D : DerOK Der) {h m : hp_T} {p1 p2 p3 : Int32} (R : RelD Der h m) :
    (¬ (0 ≤ p1.toInt ∧ p1.toInt ≤ 3) ∧ f_X9_itemRefusal p1 p2 p3 h = some (-2, h)) ∨ ((0 ≤ p1.toInt ∧ p1.toInt ≤ 3) ∧ ¬ (0 ≤ p2.toInt ∧ p2.toInt ≤ 2) ∧ f_X9_itemRefusal p1 p2 p3 h = some (-2, h)) ∨ ((0 ≤ p1.toInt ∧ p1.toInt ≤ 3) ∧ (0 ≤ p2.toInt ∧ p2.toInt ≤ 2) ∧ ((∃ r h2 m2, ¬ r = 0 ∧ f_X9_itemRefusal p1 p2 p3 h = some (r, h2) ∧ f_X10_lacks p1 p2 p3 m = some (r, m2) ∧ RelD Der h2 m2) ∨ (∃ j i z, j < 4 ∧ i < z ∧ z ≤ 60 ∧ p1 = nI j ∧ p3 = nI i ∧ h.1 (38 + j) 2 = p2 ∧ h.1 (38 + j) 1 = 0 ∧ f_X9_itemRefusal p1 p2 p3 h = some (0, h) ∧ f_X10_lacks p1 p2 p3 m = some (0, m)))) := by
  unfold f_X9_itemRefusal
  by_cases cs : 0 ≤ p1.toInt ∧ p1.toInt ≤ 3
  case neg =>
    rw [(c_isSheet (h := h)).2 cs, c_some, if_pos p00]
    exact Or.inl ⟨cs, rfl⟩
  rw [(c_isSheet (h := h)).1 cs, c_some, if_neg n10]
  by_cases cf : 0 ≤ p2.toInt ∧ p2.toInt ≤ 2
  case neg =>
    rw [(c_isForm (h := h)).2 cf, c_some, if_pos p00]
    exact Or.inr (Or.inl ⟨cs, cf, rfl⟩)
  rw [(c_isForm (h := h)).1 cf, c_some, if_neg n10]
  refine Or.inr (Or.inr ⟨cs, cf, ?_⟩)
  obtain ⟨j, hj, rfl⟩ := sheet_of cs
  have ij := ix_n hj (show 4 ≤ 1000 by omega)
  have cj : (nI j).toNatClampNeg = j := n_cl (by omega)
  unfold f_X10_lacks
  simp only [ij, if_true, cj]
  obtain ⟨n, K, -, -, -, -, hS, hf, -⟩ := id R
  have L := lost_iff hS hj
  obtain ⟨S1, S2, S3, ⟨z, hz, S4⟩, S5⟩ := hS j hj
  have fin : ∀ x : Int32, ¬ (-10 - x : Int32) = 0 → (∃ r h2 m2, ¬ r = 0 ∧ (o_call (f_X9_found x h) fun (r : Int32) (h1 : hp_T) => some (r, h1)) = some (r, h2) ∧ (o_call (f_X10_finds x m) fun (r : Int32) (h1 : hp_T) => some (r, h1)) = some (r, m2) ∧ RelD Der h2 m2) := fun x hx => by
    obtain ⟨h2, m2, e1, e2, R2⟩ := found_ok D x R
    exact ⟨_, h2, m2, hx, by rw [e1, c_some], by rw [e2, c_some], R2⟩
  by_cases c : h.1 (38 + j) 1 = 0
  case neg =>
    rw [if_neg c, if_neg (L.2 c)]
    exact Or.inl (fin 1 (by decide))
  rw [if_pos c, if_pos (L.1 c).1, (L.1 c).2]
  by_cases c2 : h.1 (38 + j) 2 = p2
  case neg =>
    rw [if_neg c2, if_neg c2]
    exact Or.inl (fin 3 (by decide))
  rw [if_pos c2, if_pos c2]
  have CH := c_has (a := p3) (b := 1) (h := h) hz (by rw [S3, S4])
  have e1 : (m.1 2 j - 1).toInt64.toInt = (z : Int) - 1 := by rw [x_l, S4, i_sub (by rw [n_int (by omega), t_1]; omega) (by rw [n_int (by omega), t_1]; omega), n_int (by omega), t_1]
  have MI := m_in (x := p3.toInt64) (lo := 0) (hi := (m.1 2 j - 1).toInt64) (a := 0) (h := m) (by decide) e1
  rw [x_l] at MI
  rw [t_1] at CH
  by_cases ci : 0 ≤ p3.toInt ∧ p3.toInt ≤ (z : Int) - 1
  · rw [CH.1 (by omega), MI.1 ci, c_some, c_some, if_neg n10, if_neg n10]
    obtain ⟨i, hi, rfl⟩ := n_of ci.1
    rw [n_int hi] at ci
    exact Or.inr ⟨j, i, z, hj, by omega, hz, rfl, rfl, c2, c, rfl, rfl⟩
  · rw [CH.2 (by omega), MI.2 ci, c_some, c_some, if_pos p00, if_pos p00]
    exact Or.inl (fin 2 (by decide))
theorem get_ok {Der : hp_T → Nat → (Nat → Nat) → Prop} (D : DerOK Der) {h m : hp_T} {p1 p2 p3 : Int32} (R : RelD Der h m) : stp (RelD Der) (f_X9_get p1 p2 p3 h) (f_X10_get p1 p2 p3 m) := by
  unfold f_X9_get f_X10_get
  have MF := m_in (x := p2.toInt64) (lo := 0) (hi := 2) (a := 0) (b := 2) (h := m) (by decide) (by decide)
  rw [x_l] at MF
  rcases item_ok D (p1 := p1) (p2 := p2) (p3 := p3) R with ⟨cs, e⟩ | ⟨cs, cf, e⟩ | ⟨cs, cf, ⟨r, h2, m2, hr, e1, e2, R2⟩ | ⟨j, i, z, hj, hi, hz, rfl, rfl, q1, q2, e1, e2⟩⟩
  · rw [e, c_some, if_neg (by decide), (m_isSheet (h := m)).2 cs, c_some, if_pos p00]
    exact ⟨_, h, m, rfl, rfl, R⟩
  · rw [e, c_some, if_neg (by decide), (m_isSheet (h := m)).1 cs, c_some, if_neg n10, MF.2 cf, c_some, if_pos p00]
    exact ⟨_, h, m, rfl, rfl, R⟩
  · rw [e1, c_some, if_neg hr, (m_isSheet (h := m)).1 cs, c_some, if_neg n10, MF.1 cf, c_some, if_neg n10, e2, c_some, if_neg hr]
    exact ⟨_, h2, m2, rfl, rfl, R2⟩
  · rw [e1, c_some, if_pos p00, (m_isSheet (h := m)).1 cs, c_some, if_neg n10, MF.1 cf, c_some, if_neg n10, e2, c_some, if_pos p00, n_60, if_pos (ix_n (by omega) (by omega)), if_pos (ix_n (by omega) (by omega)), if_pos (ix_n (by omega) (by omega)), n_cl (by omega), n_cl (by omega), n_cl (by omega)]
    obtain ⟨n, K, -, -, -, -, hS, -⟩ := id R
    exact ⟨_, h, m, rfl, by rw [(hS j hj).2.2.2.2 i (by omega)], R⟩
/-- an item set, both sides -/
theorem set_rel {Der : hp_T → Nat → (Nat → Nat) → Prop} (D : DerOK Der) {h m : hp_T} {j i : Nat} {x : Int32} (hj : j < 4) (hi : i < 60) (R : RelD Der h m) : RelD Der (hw h (42 + j) i x) (hw m 3 (60 * j + i) x) := by
  obtain ⟨n, K, -, -, -, -, hS, hf, -⟩ := id R
  refine rel_s D R (fun k a b => hw_ne _ _ _ (by omega)) rfl (by rw [hw_ne _ _ _ (by omega)]) (fun k a b => hw_ne _ _ _ (by omega)) (by rw [hw_ne _ _ _ (by decide)]) (by rw [hw_ne _ _ _ (by decide)]) (fun y hy => ?_) (by rw [hw_ne _ _ _ (by omega), hw_ne _ _ _ (by decide)]; exact hf)
  have Sy := hS y hy
  rw [hw_ne _ (k := 42 + j) (z := 38 + y) _ _ (by omega), hw_ne _ (k := 3) (z := 1) _ _ (by decide), hw_ne _ (k := 3) (z := 2) _ _ (by decide)]
  refine ⟨Sy.1, Sy.2.1, Sy.2.2.1, Sy.2.2.2.1, fun w hw1 => ?_⟩
  by_cases e : y = j ∧ w = i
  · obtain ⟨rfl, rfl⟩ := e
    rw [hw_s, hw_s]
  · rw [hw_n _ _ _ _ (by omega), hw_n _ _ _ _ (by omega)]
    exact Sy.2.2.2.2 w hw1
def cutv (f v : Int32) : Int32 := if f = 0 then v.toInt8.toInt32 else if f = 1 then v.toInt16.toInt32 else v
theorem m_cut {f v : Int32} {m : hp_T} : f_X10_cut f v m = some (cutv f v, m) := by
  unfold f_X10_cut cutv
  split
  · rfl
  · split <;> rfl
theorem c_setItem {j i : Nat} {v : Int32} {h : hp_T} (hi : i < 60) : f_X6_setItem j (nI i) v h = some (hw h (42 + j) i (cutv (h.1 (38 + j) 2) v)) := by
  unfold f_X6_setItem cutv
  simp only [ix_n hi (show 60 ≤ 1000 by omega), if_true, l_let, n_cl (show i < 2147483648 by omega)]
  split
  · rfl
  · split <;> rfl
theorem lay_ok {Der : hp_T → Nat → (Nat → Nat) → Prop} (D : DerOK Der) {h m : hp_T} {p1 p2 p3 p4 : Int32} (R : RelD Der h m) : stp (RelD Der) (f_X9_lay p1 p2 p3 p4 h) (f_X10_lay p1 p2 p3 p4 m) := by
  unfold f_X9_lay f_X10_lay
  have MF := m_in (x := p2.toInt64) (lo := 0) (hi := 2) (a := 0) (b := 2) (h := m) (by decide) (by decide)
  rw [x_l] at MF
  rcases item_ok D (p1 := p1) (p2 := p2) (p3 := p3) R with ⟨cs, e⟩ | ⟨cs, cf, e⟩ | ⟨cs, cf, ⟨r, h2, m2, hr, e1, e2, R2⟩ | ⟨j, i, z, hj, hi, hz, rfl, rfl, q1, q2, e1, e2⟩⟩
  · rw [e, c_some, if_neg (by decide), (m_isSheet (h := m)).2 cs, c_some, if_pos p00]
    exact ⟨_, h, m, rfl, rfl, R⟩
  · rw [e, c_some, if_neg (by decide), (m_isSheet (h := m)).1 cs, c_some, if_neg n10, MF.2 cf, c_some, if_pos p00]
    exact ⟨_, h, m, rfl, rfl, R⟩
  · rw [e1, c_some, if_neg hr, (m_isSheet (h := m)).1 cs, c_some, if_neg n10, MF.1 cf, c_some, if_neg n10, e2, c_some, if_neg hr]
    exact ⟨_, h2, m2, rfl, rfl, R2⟩
  · rw [e1, c_some, if_pos p00, (m_isSheet (h := m)).1 cs, c_some, if_neg n10, MF.1 cf, c_some, if_neg n10, e2, c_some, if_pos p00, m_cut, c_some, n_60, if_pos (ix_n (by omega) (by omega)), if_pos (ix_n (by omega) (by omega)), n_cl (by omega), n_cl (by omega), c_setItem (by omega), v_some, l_let, q1]
    exact ⟨_, _, _, rfl, rfl, set_rel D hj (by omega) R⟩
