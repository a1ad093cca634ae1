/-! copy, fill, span -/
theorem cp_L1 {s i n : Nat} {m0 : hp_T} {Kc : Int32 → hp_T → Option (Int32 × hp_T)} (hs : s < 4) (hn : i + n ≤ 60) : ∃ m, f_X10_copy_L1 (nI s) (nI i) (nI n) Kc 100 0 m0 = Kc (nI n) m ∧ Fr [4] m0 m ∧ (∀ a, a < n → m.1 4 a = m0.1 3 (60 * s + i + a)) := by
  have key := loop_j (fun N (s2 : Int32 × hp_T) => f_X10_copy_L1 (nI s) (nI i) (nI n) Kc N s2.1 s2.2)
    (fun o => ∃ m, o = Kc (nI n) m ∧ Fr [4] m0 m ∧ (∀ a, a < n → m.1 4 a = m0.1 3 (60 * s + i + a)))
    (fun r s2 => ∃ v, r = n - v ∧ v ≤ n ∧ s2.1 = nI v ∧ Fr [4] m0 s2.2 ∧ (∀ a, a < v → s2.2.1 4 a = m0.1 3 (60 * s + i + a))) ?_ n 100 (0, m0) (by omega)
    ⟨0, rfl, by omega, rfl, Fr.rf, fun i hi => absurd hi (by omega)⟩
  · exact key
  rintro N r ⟨x, h⟩ ⟨v, rfl, hv, rfl, hF, a1⟩
  dsimp only at *
  rw [f_X10_copy_L1]
  by_cases e : v = n
  · subst e
    left
    rw [if_pos (by rw [i_le]; omega)]
    exact ⟨h, rfl, hF, a1⟩
  right
  rw [if_neg (by rw [i_le, n_int (by omega), n_int (by omega)]; omega), n_60, nI_add, if_pos (ix_n (by omega) (by omega)), if_pos (ix_n (by omega) (by omega)), l_let, l_let, nI_1, n_cl (by omega), n_cl (by omega), hF.1 3 (by decide)]
  refine ⟨n - (v + 1), (nI (v + 1), hw h 4 v (m0.1 3 (60 * s + i + v))), by omega, ⟨v + 1, rfl, by omega, rfl, hF.hw (by decide), fun a ha => ?_⟩, rfl⟩
  dsimp only
  by_cases e2 : a = v
  · subst e2; rw [hw_s]
  · rw [hw_n _ _ _ _ (Or.inr e2)]; exact a1 a (by omega)
theorem cp_L2 {t j n : Nat} {m0 : hp_T} {Kc : Int32 → hp_T → Option (Int32 × hp_T)} (hs : t < 4) (hn : j + n ≤ 60) : ∃ m, f_X10_copy_L2 (nI t) (nI j) (nI n) Kc 100 0 m0 = Kc (nI n) m ∧ Fr [3] m0 m ∧ (∀ a, a < n → m.1 3 (60 * t + j + a) = m0.1 4 a) ∧ (∀ y, y < 60 * t + j ∨ 60 * t + j + n ≤ y → m.1 3 y = m0.1 3 y) := by
  have key := loop_j (fun N (s2 : Int32 × hp_T) => f_X10_copy_L2 (nI t) (nI j) (nI n) Kc N s2.1 s2.2)
    (fun o => ∃ m, o = Kc (nI n) m ∧ Fr [3] m0 m ∧ (∀ a, a < n → m.1 3 (60 * t + j + a) = m0.1 4 a) ∧ (∀ y, y < 60 * t + j ∨ 60 * t + j + n ≤ y → m.1 3 y = m0.1 3 y))
    (fun r s2 => ∃ v, r = n - v ∧ v ≤ n ∧ s2.1 = nI v ∧ Fr [3] m0 s2.2 ∧ (∀ a, a < v → s2.2.1 3 (60 * t + j + a) = m0.1 4 a) ∧ (∀ y, y < 60 * t + j ∨ 60 * t + j + n ≤ y → s2.2.1 3 y = m0.1 3 y)) ?_ n 100 (0, m0) (by omega)
    ⟨0, rfl, by omega, rfl, Fr.rf, fun i hi => absurd hi (by omega), fun y _ => rfl⟩
  · exact key
  rintro N r ⟨x, h⟩ ⟨v, rfl, hv, rfl, hF, a1, a2⟩
  dsimp only at *
  rw [f_X10_copy_L2]
  by_cases e : v = n
  · subst e
    left
    rw [if_pos (by rw [i_le]; omega)]
    exact ⟨h, rfl, hF, a1, a2⟩
  right
  rw [if_neg (by rw [i_le, n_int (by omega), n_int (by omega)]; omega), n_60, nI_add, if_pos (ix_n (by omega) (by omega)), if_pos (ix_n (by omega) (by omega)), l_let, l_let, nI_1, n_cl (by omega), n_cl (by omega), hF.1 4 (by decide)]
  refine ⟨n - (v + 1), (nI (v + 1), hw h 3 (60 * t + j + v) (m0.1 4 v)), by omega, ⟨v + 1, rfl, by omega, rfl, hF.hw (by decide), fun a ha => ?_, fun y hy => ?_⟩, rfl⟩
  · dsimp only
    by_cases e2 : a = v
    · subst e2; rw [hw_s]
    · rw [hw_n _ _ _ _ (Or.inr (by omega))]; exact a1 a (by omega)
  · dsimp only
    rw [hw_n _ _ _ _ (Or.inr (by omega))]; exact a2 y hy
theorem copy_ok {Der : hp_T → Nat → (Nat → Nat) → Prop} (D : DerOK Der) {h m : hp_T} {p1 p2 p3 p4 p5 : Int32} (R : RelD Der h m) : stp (RelD Der) (f_X9_copy p1 p2 p3 p4 p5 h) (f_X10_copy p1 p2 p3 p4 p5 m) := by
  unfold f_X9_copy f_X10_copy
  by_cases cs : 0 ≤ p1.toInt ∧ p1.toInt ≤ 3
  case neg =>
    rw [(c_isSheet (h := h)).2 cs, (m_isSheet (h := m)).2 cs, c_some, c_some, if_pos p00, if_pos p00]
    exact ⟨_, h, m, rfl, rfl, R⟩
  rw [(c_isSheet (h := h)).1 cs, (m_isSheet (h := m)).1 cs, c_some, c_some, if_neg n10, if_neg n10]
  by_cases ct : 0 ≤ p3.toInt ∧ p3.toInt ≤ 3
  case neg =>
    rw [(c_isSheet (h := h)).2 ct, (m_isSheet (h := m)).2 ct, c_some, c_some, if_pos p00, if_pos p00]
    exact ⟨_, h, m, rfl, rfl, R⟩
  rw [(c_isSheet (h := h)).1 ct, (m_isSheet (h := m)).1 ct, c_some, c_some, if_neg n10, if_neg n10]
  obtain ⟨s, hs, rfl⟩ := sheet_of cs
  obtain ⟨t, ht, rfl⟩ := sheet_of ct
  have is := ix_n hs (show 4 ≤ 1000 by omega)
  have it := ix_n ht (show 4 ≤ 1000 by omega)
  have cs' : (nI s).toNatClampNeg = s := n_cl (by omega)
  have ct' : (nI t).toNatClampNeg = t := n_cl (by omega)
  simp only [is, it, if_true, cs', ct']
  obtain ⟨n0, K, -, -, -, -, hS, hf, -⟩ := id R
  have Ls := lost_iff hS hs
  have Lt := lost_iff hS ht
  obtain ⟨-, -, S3, ⟨z, hz, S4⟩, S5⟩ := hS s hs
  obtain ⟨-, -, T3, ⟨y, hy, T4⟩, T5⟩ := hS t ht
  by_cases c1 : h.1 (38 + s) 1 = 0
  case neg =>
    rw [if_neg c1, if_pos (show m.1 1 s < 0 by have := Ls.2 c1; rw [i_le] at this; rw [i_lt]; omega)]
    exact found_stp D 1 R
  rw [if_pos c1, if_neg (show ¬ m.1 1 s < 0 by have := (Ls.1 c1).1; rw [i_le] at this; rw [i_lt]; omega)]
  by_cases c2 : h.1 (38 + t) 1 = 0
  case neg =>
    rw [if_neg c2, if_neg (Lt.2 c2)]
    exact found_stp D 1 R
  rw [if_pos c2, if_pos (Lt.1 c2).1, (Ls.1 c1).2, (Lt.1 c2).2]
  by_cases c3 : h.1 (38 + s) 2 = h.1 (38 + t) 2
  case neg =>
    rw [if_neg c3, if_neg c3]
    exact found_stp D 4 R
  rw [if_pos c3, if_pos c3]
  have Hs := c_has (a := p2) (b := p5) (h := h) hz (by rw [S3, S4])
  have Ht := c_has (a := p4) (b := p5) (h := h) hy (by rw [T3, T4])
  have z1 : (m.1 2 s).toInt64.toInt = z := by rw [x_l, S4, n_int (by omega)]
  have y1 : (m.1 2 t).toInt64.toInt = y := by rw [x_l, T4, n_int (by omega)]
  by_cases d1 : p2 < 0
  · rw [if_pos d1]
    rw [i_lt, t_0] at d1
    rw [Hs.2 (by omega), c_some, if_pos p00]
    exact found_stp D 2 R
  rw [if_neg d1]
  by_cases d2 : p4 < 0
  · rw [if_pos d2]
    rw [i_lt, t_0] at d2
    by_cases q : 0 ≤ p2.toInt ∧ 0 ≤ p5.toInt ∧ p2.toInt + p5.toInt ≤ z
    · rw [Hs.1 q, c_some, if_neg n10, Ht.2 (by omega), c_some, if_pos p00]
      exact found_stp D 2 R
    · rw [Hs.2 q, c_some, if_pos p00]
      exact found_stp D 2 R
  rw [if_neg d2]
  by_cases d3 : p5 < 0
  · rw [if_pos d3]
    rw [i_lt, t_0] at d3
    rw [Hs.2 (by omega), c_some, if_pos p00]
    exact found_stp D 2 R
  rw [if_neg d3]
  rw [i_lt, t_0] at d1 d2 d3
  by_cases d4 : 0 < lg_cmp (p2.toInt64 + p5.toInt64) (m.1 2 s).toInt64
  · rw [if_pos d4]
    rw [lc_gt, lg_sum, z1] at d4
    rw [Hs.2 (by omega), c_some, if_pos p00]
    exact found_stp D 2 R
  rw [if_neg d4]
  rw [lc_gt, lg_sum, z1] at d4
  rw [Hs.1 (by omega), c_some, if_neg n10]
  by_cases d5 : lg_cmp (p4.toInt64 + p5.toInt64) (m.1 2 t).toInt64 ≤ 0
  case neg =>
    rw [if_neg d5]
    rw [lc_le, lg_sum, y1] at d5
    rw [Ht.2 (by omega), c_some, if_pos p00]
    exact found_stp D 2 R
  rw [if_pos d5]
  rw [lc_le, lg_sum, y1] at d5
  rw [Ht.1 (by omega), c_some, if_neg n10]
  obtain ⟨i, hi, rfl⟩ := n_of (x := p2) (by omega)
  obtain ⟨j, hj, rfl⟩ := n_of (x := p4) (by omega)
  obtain ⟨n, hn, rfl⟩ := n_of (x := p5) (by omega)
  rw [n_int hi] at d1 d4
  rw [n_int hj] at d2 d5
  rw [n_int hn] at d3 d4 d5
  have ck : cpok (nI i) (nI j) (nI n) 60 60 = true := by
    unfold cpok
    rw [n_cl hi, n_cl hj, n_cl hn]
    simp only [Bool.and_eq_true, decide_eq_true_eq, i_lt, n_int hi, n_int hj, n_int hn, t_0]
    omega
  rw [if_pos ck, l_let, n_cl hi, n_cl hj, n_cl hn]
  obtain ⟨m1, E1, F1, a1⟩ := cp_L1 (m0 := m) (s := s) (i := i) (n := n) (Kc := fun (_ : Int32) (h44 : hp_T) => f_X10_copy_L2 (nI t) (nI j) (nI n) (fun (_ : Int32) (h51 : hp_T) => some ((1 : Int32), h51)) 100 (0 : Int32) h44) hs (by omega)
  obtain ⟨m2, E2, F2, b1, b2⟩ := cp_L2 (m0 := m1) (t := t) (j := j) (n := n) (Kc := fun (_ : Int32) (h51 : hp_T) => some ((1 : Int32), h51)) ht (by omega)
  rw [E1, E2]
  have hot : ∀ k, k ≠ 42 + t → (hwA h (42 + t) (va_cpy (h.1 (42 + s)) (h.1 (42 + t)) i j n)).1 k = h.1 k := fun k hk => hwA_ne _ _ hk
  refine ⟨1, _, m2, rfl, rfl, rel_s D R (fun k q1 q2 => hot k (by omega)) rfl (by rw [hot 0 (by omega)]) (fun k q1 q2 => by rw [F2.1 k (by simp <;> omega), F1.1 k (by simp <;> omega)]) (by rw [F2.1 0 (by decide), F1.1 0 (by decide)]) (by rw [F2.1 0 (by decide), F1.1 0 (by decide)]) (fun x hx => ?_) (by rw [hot 0 (by omega), F2.1 0 (by decide), F1.1 0 (by decide)]; exact hf)⟩
  have Sx := hS x hx
  rw [hot (38 + x) (by omega), F2.1 1 (by decide), F1.1 1 (by decide), F2.1 2 (by decide), F1.1 2 (by decide)]
  refine ⟨Sx.1, Sx.2.1, Sx.2.2.1, Sx.2.2.2.1, fun w hw1 => ?_⟩
  by_cases e : x = t
  · subst e
    rw [hwA_at]
    by_cases c : j ≤ w ∧ w < j + n
    · rw [pk_cpy_in c.1 c.2]
      have := b1 (w - j) (by omega)
      rw [show 60 * x + j + (w - j) = 60 * x + w by omega, a1 (w - j) (by omega)] at this
      rw [this, S5 (i + (w - j)) (by omega), show 60 * s + (i + (w - j)) = 60 * s + i + (w - j) by omega]
    · rw [pk_cpy_out (by omega), b2 _ (by omega), F1.1 3 (by decide)]
      exact Sx.2.2.2.2 w hw1
  · rw [hot (42 + x) (by omega), b2 _ (by omega), F1.1 3 (by decide)]
    exact Sx.2.2.2.2 w hw1
theorem lu_L {h : hp_T} {Kc : Int32 → hp_T → Option (Int32 × hp_T)} (hb : ∀ k, k < 48 → h.1 4 k = 0 ∨ h.1 4 k = 1) : ∃ k, k ≤ 48 ∧ (∀ y, y < k → h.1 4 y = 1) ∧ (k < 48 → h.1 4 k = 0) ∧ f_X7_leastUnused_L1 Kc 100 0 h = (if k = 48 then Kc (nI 48) h else some (nI k, h)) := by
  have key := loop_j (fun N (s2 : Int32 × hp_T) => f_X7_leastUnused_L1 Kc N s2.1 s2.2)
    (fun o => ∃ k, k ≤ 48 ∧ (∀ y, y < k → h.1 4 y = 1) ∧ (k < 48 → h.1 4 k = 0) ∧ o = (if k = 48 then Kc (nI 48) h else some (nI k, h)))
    (fun r s2 => ∃ v, r = 48 - v ∧ v ≤ 48 ∧ s2.1 = nI v ∧ s2.2 = h ∧ (∀ y, y < v → h.1 4 y = 1)) ?_ 48 100 (0, h) (by omega)
    ⟨0, rfl, by omega, rfl, rfl, fun i hi => absurd hi (by omega)⟩
  · exact key
  rintro N r ⟨x, g⟩ ⟨v, rfl, hv, rfl, rfl, a1⟩
  dsimp only at *
  rw [f_X7_leastUnused_L1]
  by_cases e : v = 48
  · subst e
    left
    rw [if_pos (by decide)]
    exact ⟨48, by omega, a1, fun q => absurd q (by omega), by rw [if_pos rfl]⟩
  rw [if_neg (by rw [i_le, n_int (by omega), t_48]; omega), if_pos (ix_n (by omega) (by omega)), n_cl (by omega)]
  rcases hb v (by omega) with z | z
  · left
    rw [if_pos z]
    exact ⟨v, hv, a1, fun _ => z, by rw [if_neg e]⟩
  · right
    rw [if_neg (by rw [z]; decide), l_let, nI_1]
    refine ⟨48 - (v + 1), (nI (v + 1), g), by omega, ⟨v + 1, rfl, by omega, rfl, rfl, fun y hy => ?_⟩, rfl⟩
    by_cases e2 : y = v
    · subst e2; exact z
    · exact a1 y (by omega)
theorem lk_L {m : hp_T} {Kc : Int32 → hp_T → Option (Int32 × hp_T)} {k : Nat} (hk : k ≤ 48) (h1 : ∀ y, y < k → m.1 5 y = 1) (h2 : k < 48 → m.1 5 k = 0) : f_X10_leastKey_L1 Kc 100 0 m = Kc (nI k) m := by
  have key := loop_j (fun N (s2 : Int32 × hp_T) => f_X10_leastKey_L1 Kc N s2.1 s2.2)
    (fun o => o = Kc (nI k) m)
    (fun r s2 => ∃ v, r = k - v ∧ v ≤ k ∧ s2.1 = nI v ∧ s2.2 = m) ?_ k 100 (0, m) (by omega)
    ⟨0, rfl, by omega, rfl, rfl⟩
  · exact key
  rintro N r ⟨x, g⟩ ⟨v, rfl, hv, rfl, rfl⟩
  dsimp only at *
  rw [f_X10_leastKey_L1]
  by_cases e : v = k
  · subst e
    left
    by_cases c : v = 48
    · rw [if_pos (by rw [i_le, n_int (by omega), t_48]; omega)]
    · rw [if_neg (by rw [i_le, n_int (by omega), t_48]; omega), if_pos (ix_n (by omega) (by omega)), n_cl (by omega), if_pos (h2 (by omega))]
  · right
    rw [if_neg (by rw [i_le, n_int (by omega), t_48]; omega), if_pos (ix_n (by omega) (by omega)), n_cl (by omega), if_neg (by rw [h1 v (by omega)]; decide), l_let, nI_1]
    exact ⟨k - (v + 1), (nI (v + 1), g), by omega, ⟨v + 1, rfl, by omega, rfl, rfl⟩, rfl⟩
theorem least_ok {h m : hp_T} (hB : RelB h m) : ∃ k, k ≤ 48 ∧ (k < 48 → h.1 4 k = 0) ∧ f_X7_leastUnused h = some ((if k = 48 then (-1 : Int32) else nI k), h) ∧ f_X10_leastKey m = some (nI k, m) := by
  obtain ⟨k, hk, a1, a2, E⟩ := lu_L (h := h) (Kc := fun _ h6 => some ((-1 : Int32), h6)) (fun k hk => (hB k hk).2.2.2.1)
  refine ⟨k, hk, a2, ?_, ?_⟩
  · unfold f_X7_leastUnused
    rw [E]
    split <;> rfl
  · unfold f_X10_leastKey
    exact lk_L hk (fun y hy => by rw [← (hB y (by omega)).1]; exact a1 y hy) (fun q => by rw [← (hB k q).1]; exact a2 q)
theorem fill_L {Der : hp_T → Nat → (Nat → Nat) → Prop} {j : Nat} (hj : j < 4) : ∀ (r f N1 N2 : Nat) (h m : hp_T), f + r = 31 → r < N1 → r + 1 < N2 → RelD Der h m → stp (RelD Der) (f_X9_fill_L1 j (fun (x : Int32) (_ : Int32) (h26 : hp_T) => some (x, h26)) N1 (nI f) (nI (2 * f)) h) (f_X10_fill_L1 (nI j) (fun (x : Int32) (_ : Int32) (h26 : hp_T) => some (x, h26)) N2 (nI f) 1 m) := by
  have ij := ix_n hj (show 4 ≤ 1000 by omega)
  have cj : (nI j).toNatClampNeg = j := n_cl (by omega)
  intro r
  induction r with
  | zero =>
    intro f N1 N2 h m hf hN1 hN2 R
    obtain ⟨A, rfl⟩ : ∃ A, N1 = A + 1 := ⟨N1 - 1, by omega⟩
    obtain ⟨B, rfl⟩ : ∃ B, N2 = B + 1 := ⟨N2 - 1, by omega⟩
    obtain ⟨n0, K, -, -, -, -, hS, -⟩ := id R
    obtain ⟨-, -, S3, ⟨z, hz, S4⟩, -⟩ := hS j hj
    rw [f_X9_fill_L1, f_X10_fill_L1, if_neg n10, if_pos ij, cj, S3, S4, nI_1 (2 * f), show (2 : Int32) * nI f + 2 = nI (2 * f + 2) by rw [show (2 : Int32) = nI 2 from rfl, pk_mul, nI_add], if_pos (by rw [i_le, n_int (by omega), n_int (by omega)]; omega), if_pos (by rw [i_lt, n_int (by omega), n_int (by omega)]; omega)]
    exact ⟨_, h, m, rfl, rfl, R⟩
  | succ r ih =>
    intro f N1 N2 h m hf hN1 hN2 R
    obtain ⟨A, rfl⟩ : ∃ A, N1 = A + 1 := ⟨N1 - 1, by omega⟩
    obtain ⟨B, rfl⟩ : ∃ B, N2 = B + 1 + 1 := ⟨N2 - 2, by omega⟩
    obtain ⟨n0, K, -, -, hB, -, hS, -⟩ := id R
    obtain ⟨-, -, S3, ⟨z, hz, S4⟩, S5⟩ := hS j hj
    rw [f_X9_fill_L1, f_X10_fill_L1, if_neg n10, if_pos ij, cj, S3, S4, nI_1 (2 * f), show (2 : Int32) * nI f + 2 = nI (2 * f + 2) by rw [show (2 : Int32) = nI 2 from rfl, pk_mul, nI_add]]
    by_cases c : z ≤ 2 * f + 1
    · rw [if_pos (by rw [i_le, n_int (by omega), n_int (by omega)]; omega), if_pos (by rw [i_lt, n_int (by omega), n_int (by omega)]; omega)]
      exact ⟨_, h, m, rfl, rfl, R⟩
    rw [if_neg (by rw [i_le, n_int (by omega), n_int (by omega)]; omega), if_neg (by rw [i_lt, n_int (by omega), n_int (by omega)]; omega), l_let]
    have ex : (60 : Int32) * nI j + (2 : Int32) * nI f = nI (60 * j + 2 * f) := by rw [show (2 : Int32) = nI 2 from rfl, pk_mul, n_60]
    rw [ex, nI_1 (60 * j + 2 * f)]
    obtain ⟨k, hk, hk0, E1, E2⟩ := least_ok hB
    rw [E1, E2, c_some, c_some, if_pos (ix_n (j := 60 * j + 2 * f) (by omega) (by omega)), if_pos (ix_n (j := 60 * j + 2 * f + 1) (by omega) (by omega)), n_cl (n := 60 * j + 2 * f) (by omega), n_cl (n := 60 * j + 2 * f + 1) (by omega)]
    have i1 := S5 (2 * f) (by omega)
    have i2 := S5 (2 * f + 1) (by omega)
    rw [show 60 * j + (2 * f + 1) = 60 * j + 2 * f + 1 by omega] at i2
    rw [← i1, ← i2]
    obtain ⟨a, ea⟩ : ∃ a, a = h.1 (42 + j) (2 * f) := ⟨_, rfl⟩
    obtain ⟨b, eb⟩ : ∃ b, b = h.1 (42 + j) (2 * f + 1) := ⟨_, rfl⟩
    -- the reference's put refuses: both loops end
    have bad : f_X10_put (nI k) a b m = some (-2, m) → ∀ o, o = some (nI f, h) → stp (RelD Der) o (o_call (f_X10_put (nI k) a b m) fun (r17 : Int32) (h16 : hp_T) => (if r17 < (0 : Int32) then o_let (nI f + (0 : Int32)) fun (x21 : Int32) => f_X10_fill_L1 (nI j) (fun (x : Int32) (_ : Int32) (h26 : hp_T) => some (x, h26)) (B + 1) x21 (0 : Int32) h16 else o_let (nI f + (1 : Int32)) fun (x23 : Int32) => f_X10_fill_L1 (nI j) (fun (x : Int32) (_ : Int32) (h26 : hp_T) => some (x, h26)) (B + 1) x23 (1 : Int32) h16)) := by
      intro E o eo
      rw [E, c_some, if_pos (by decide), l_let, Int32.add_zero, f_X10_fill_L1, if_pos p00, eo]
      exact ⟨_, h, m, rfl, rfl, R⟩
    rw [← ea, ← eb]
    by_cases ck : k = 48
    · subst ck
      rw [if_pos rfl, if_pos rfl]
      refine bad ?_ _ rfl
      unfold f_X10_put
      rw [(m_isKey (h := m)).2 (by decide), c_some, if_pos p00]
    have hkk : (nI k).toInt = k := n_int (by omega)
    rw [if_neg ck, if_neg (by rw [i_eq, hkk, t_m1]; omega), if_pos (ix_n (j := 2 * f) (by omega) (by omega)), if_pos (ix_n (j := 2 * f + 1) (by omega) (by omega)), n_cl (n := 2 * f) (by omega), n_cl (n := 2 * f + 1) (by omega), ← ea, ← eb]
    by_cases cv : vld a b
    case neg =>
      rw [(c_isStretch (h := h)).2 cv, c_some, if_pos p00]
      refine bad ?_ _ rfl
      unfold f_X10_put
      rw [(m_isKey (h := m)).1 (by rw [hkk]; omega), c_some, if_neg n10, (m_isStretch (h := m)).2 cv, c_some, if_pos p00]
    rw [(c_isStretch (h := h)).1 cv, c_some, if_neg n10, if_pos (ix_n (j := 2 * f) (by omega) (by omega)), if_pos (ix_n (j := 2 * f + 1) (by omega) (by omega)), ← ea, ← eb]
    obtain ⟨rr, h1, m1, F1, F2, R1⟩ := put_ok (p := nI k) (a := a) (b := b) R
    unfold f_X9_put at F1
    rw [(c_isKey (h := h)).1 (by rw [hkk]; omega), c_some, if_neg n10, (c_isStretch (h := h)).1 cv, c_some, if_neg n10, if_pos (ix_n (by omega) (by omega)), n_cl (by omega), if_pos (hk0 (by omega))] at F1
    obtain ⟨h1', G1, G2⟩ := o_cvE F1
    cases G2
    rw [G1, v_some, F2, c_some]
    obtain ⟨n1, K1, hI1, -⟩ := id R1
    rw [if_neg (by rw [hI1.2.1, i_lt, n_int (by have := hI1.1.le; omega), t_0]; omega), l_let, l_let, l_let, nI_1, show nI (2 * f) + 2 = nI (2 * (f + 1)) by rw [show (2 : Int32) = nI 2 from rfl, nI_add]; rfl]
    exact ih (f + 1) A (B + 1) h1 m1 (by omega) (by omega) (by omega) R1
theorem fill_ok {Der : hp_T → Nat → (Nat → Nat) → Prop} (D : DerOK Der) {h m : hp_T} {p1 : Int32} (R : RelD Der h m) : stp (RelD Der) (f_X9_fill p1 h) (f_X10_fill p1 m) := by
  unfold f_X9_fill f_X10_fill
  by_cases cs : 0 ≤ p1.toInt ∧ p1.toInt ≤ 3
  case neg =>
    rw [(c_isSheet (h := h)).2 cs, (m_isSheet (h := m)).2 cs, c_some, c_some, if_pos p00, if_pos p00]
    exact ⟨_, h, m, rfl, rfl, R⟩
  rw [(c_isSheet (h := h)).1 cs, (m_isSheet (h := m)).1 cs, c_some, c_some, if_neg n10, if_neg n10]
  obtain ⟨j, hj, rfl⟩ := sheet_of cs
  have ij := ix_n hj (show 4 ≤ 1000 by omega)
  have cj : (nI j).toNatClampNeg = j := n_cl (by omega)
  simp only [ij, if_true, cj]
  obtain ⟨n0, K, -, -, -, -, hS, hf, -⟩ := id R
  have L := lost_iff hS hj
  by_cases c : h.1 (38 + j) 1 = 0
  case neg =>
    rw [if_neg c, if_neg (L.2 c)]
    exact found_stp D 1 R
  rw [if_pos c, if_pos (L.1 c).1]
  exact fill_L hj 31 0 100 100 h m (by omega) (by omega) (by omega) R
theorem span_ok {Der : hp_T → Nat → (Nat → Nat) → Prop} {h m : hp_T} {p w : Int32} (R : RelD Der h m) : stp (RelD Der) (f_X9_span p w h) (f_X10_span p w m) := by
  have t1 : (1 : Int32).toInt = 1 := t_1
  unfold f_X9_span f_X10_span f_X9_isThere f_X10_has
  by_cases cp : 0 ≤ p.toInt ∧ p.toInt ≤ 47
  case neg =>
    rw [(c_isKey (h := h)).2 cp, (m_isKey (h := m)).2 cp, c_some, c_some, if_pos p00, if_pos p00, c_some, c_some, if_pos p00, if_pos p00]
    exact ⟨_, h, m, rfl, rfl, R⟩
  rw [(c_isKey (h := h)).1 cp, (m_isKey (h := m)).1 cp, c_some, c_some, if_neg n10, if_neg n10]
  obtain ⟨k, hk, rfl⟩ := key_of cp
  simp only [ix_n hk (show 48 ≤ 1000 by omega), if_true, n_cl (show k < 2147483648 by omega)]
  obtain ⟨n, K, hI, hn8, hB, hrest⟩ := id R
  have Bk := hB k hk
  rw [← Bk.1]
  by_cases ct : h.1 4 k = 0
  · rw [if_pos ct, if_pos ct, c_some, c_some, if_pos p00, if_pos p00]
    exact ⟨_, h, m, rfl, rfl, R⟩
  rw [if_neg ct, if_neg ct, c_some, c_some, if_neg n10, if_neg n10]
  have MT := m_isTwo (x := w) (h := m)
  by_cases c1 : w < 0
  · rw [if_pos c1]
    rw [i_lt, t_0] at c1
    rw [MT.2 (by omega), c_some, if_pos p00]
    exact ⟨_, h, m, rfl, rfl, R⟩
  rw [if_neg c1]
  by_cases c2 : w ≤ 1
  case neg =>
    rw [if_neg c2]
    rw [i_le, t1] at c2
    rw [MT.2 (by omega), c_some, if_pos p00]
    exact ⟨_, h, m, rfl, rfl, R⟩
  rw [if_pos c2]
  rw [i_lt, t_0] at c1
  rw [i_le, t1] at c2
  rw [MT.1 (by omega), c_some, if_neg n10, ← Bk.2.1, ← Bk.2.2.1]
  by_cases c3 : w = 0
  · rw [if_pos c3, if_pos c3]; exact ⟨_, h, m, rfl, rfl, R⟩
  · rw [if_neg c3, if_neg c3]; exact ⟨_, h, m, rfl, rfl, R⟩
