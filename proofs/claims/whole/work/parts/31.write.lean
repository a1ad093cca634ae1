/-! write -/
theorem m_lesser {a b : Int32} {m : hp_T} : f_X10_lesser a b m = some ((if b ≤ a then b else a), m) := by
  unfold f_X10_lesser
  split <;> rfl
theorem m_greater {a b : Int32} {m : hp_T} : f_X10_greater a b m = some ((if a ≤ b then b else a), m) := by
  unfold f_X10_greater
  split <;> rfl
theorem nth_at {p : Nat → Bool} {v : Nat} (hv : v < 1000) (h : p v = true) : nth p (nI (cnt p v)) (v + 1) = some v := by
  obtain ⟨r, h1, h2⟩ := nth_ex (p := p) (n := v + 1) (i := cnt p v) (by omega) (by rw [cnt_t h]; omega)
  obtain ⟨q1, q2, q3⟩ := nth_s h1
  by_cases e : r = v
  · rw [h1, e]
  · have := cnt_mono p (show r + 1 ≤ v by omega)
    rw [cnt_t q2] at this
    omega
theorem cw_L {h0 : hp_T} {n j z : Nat} {K : Nat → Nat} {f t : Nat → Int32} {a b : Int32} (V : CV h0 n K f t) (hj : j < 4) (hz : z ≤ 60) (hs : h0.1 (38 + j) 3 = nI z) :
    ∃ h w, w = min z (cnt (metB f t a b) n) ∧ f_X9_write_L1 j a b (fun (x24 : Int32) (x25 : Int32) (h26 : hp_T) => some (x24, h26)) 100 0 0 h0 = some (nI w, h) ∧ Fr [42 + j] h0 h ∧ (∀ i, i < w → h.1 (42 + j) i = cutv (h0.1 (38 + j) 2) (keyR K (nth (metB f t a b) (nI i) n))) ∧ (∀ i, w ≤ i → h.1 (42 + j) i = h0.1 (42 + j) i) := by
  have hn := V.1
  have key := loop_j (fun N (s : Int32 × Int32 × hp_T) => f_X9_write_L1 j a b (fun (x24 : Int32) (x25 : Int32) (h26 : hp_T) => some (x24, h26)) N s.1 s.2.1 s.2.2)
    (fun o => ∃ h w, w = min z (cnt (metB f t a b) n) ∧ o = some (nI w, h) ∧ Fr [42 + j] h0 h ∧ (∀ i, i < w → h.1 (42 + j) i = cutv (h0.1 (38 + j) 2) (keyR K (nth (metB f t a b) (nI i) n))) ∧ (∀ i, w ≤ i → h.1 (42 + j) i = h0.1 (42 + j) i))
    (fun r s => ∃ v, r = n - v ∧ v ≤ n ∧ cnt (metB f t a b) v ≤ z ∧ s.1 = nI (cnt (metB f t a b) v) ∧ s.2.1 = nI v ∧ Fr [42 + j] h0 s.2.2 ∧ (∀ i, i < cnt (metB f t a b) v → s.2.2.1 (42 + j) i = cutv (h0.1 (38 + j) 2) (keyR K (nth (metB f t a b) (nI i) n))) ∧ (∀ i, cnt (metB f t a b) v ≤ i → s.2.2.1 (42 + j) i = h0.1 (42 + j) i)) ?_ n 100 (0, 0, h0) (by omega)
    ⟨0, rfl, by omega, by simp [cnt], rfl, rfl, Fr.rf, fun i hi => absurd hi (by simp [cnt]), fun i _ => rfl⟩
  · exact key
  rintro N r ⟨x, y, g⟩ ⟨v, rfl, hv, hcz, rfl, rfl, hF, a1, a2⟩
  dsimp only at *
  have Vg : CV g n K f t := V.fr fun k k1 k2 => hF.1 k (by simp <;> omega)
  have hcv := cnt_le (metB f t a b) v
  rw [f_X9_write_L1, Vg.2.1, hF.1 (38 + j) (by simp <;> omega), hs]
  by_cases e : v = n
  · subst e
    left
    rw [if_pos (by rw [i_le]; omega)]
    exact ⟨g, _, by omega, rfl, hF, a1, a2⟩
  rw [if_neg (by rw [i_le, n_int (by omega), n_int (by omega)]; omega)]
  have hmo := cnt_mono (metB f t a b) (show v ≤ n by omega)
  by_cases e2 : cnt (metB f t a b) v = z
  · left
    rw [if_pos (by rw [i_le, e2]; omega)]
    exact ⟨g, _, by omega, rfl, hF, a1, a2⟩
  right
  rw [if_neg (by rw [i_le, n_int (by omega), n_int (by omega)]; omega), if_pos (ix_n (by omega) (by omega)), l_let, n_cl (by omega), (Vg.2.2 v (by omega)).1, c_met Vg (by omega), c_some]
  cases hp : metB f t a b v with
  | true =>
    rw [if_pos ptt, if_neg n10, c_setItem (by omega), v_some, l_let, l_let, nI_1, nI_1, hF.1 (38 + j) (by simp <;> omega)]
    refine ⟨n - (v + 1), (nI (cnt (metB f t a b) v + 1), nI (v + 1), hw g (42 + j) (cnt (metB f t a b) v) (cutv (h0.1 (38 + j) 2) (nI (K v)))), by omega, ⟨v + 1, rfl, by omega, by rw [cnt_t hp]; omega, by rw [cnt_t hp], rfl, hF.hw (by simp), fun i hi => ?_, fun i hi => ?_⟩, rfl⟩
    · dsimp only
      rw [cnt_t hp] at hi
      by_cases e3 : i = cnt (metB f t a b) v
      · subst e3
        rw [hw_s, nth_up (nth_at (by omega) hp) (by omega)]
        rfl
      · rw [hw_n _ _ _ _ (Or.inr e3)]; exact a1 i (by omega)
    · dsimp only
      rw [cnt_t hp] at hi
      rw [hw_n _ _ _ _ (Or.inr (by omega))]; exact a2 i (by omega)
  | false =>
    rw [if_neg nft, if_pos p00, l_let, nI_1]
    exact ⟨n - (v + 1), (nI (cnt (metB f t a b) v), nI (v + 1), g), by omega, ⟨v + 1, rfl, by omega, by rw [cnt_f hp]; omega, by rw [cnt_f hp], rfl, hF, by rw [cnt_f hp]; exact a1, by rw [cnt_f hp]; exact a2⟩, rfl⟩
theorem mw_L {m0 : hp_T} {n j w : Nat} {K : Nat → Nat} {f t : Nat → Int32} {a b : Int32} {Kc : Int32 → hp_T → Option (Int32 × hp_T)} (V : MV m0 n K f t) (hj : j < 4) (hw1 : w ≤ 60) :
    ∃ m, f_X10_write_L1 a b (nI j) (nI w) Kc 100 0 m0 = Kc (nI w) m ∧ Fr [3] m0 m ∧ (∀ i, i < w → m.1 3 (60 * j + i) = cutv (m0.1 1 j) (keyR K (nth (metB f t a b) (nI i) n))) ∧ (∀ y, y < 60 * j ∨ 60 * j + w ≤ y → m.1 3 y = m0.1 3 y) := by
  have key := loop_j (fun N (s : Int32 × hp_T) => f_X10_write_L1 a b (nI j) (nI w) Kc N s.1 s.2)
    (fun o => ∃ m, o = Kc (nI w) m ∧ Fr [3] m0 m ∧ (∀ i, i < w → m.1 3 (60 * j + i) = cutv (m0.1 1 j) (keyR K (nth (metB f t a b) (nI i) n))) ∧ (∀ y, y < 60 * j ∨ 60 * j + w ≤ y → m.1 3 y = m0.1 3 y))
    (fun r s => ∃ v, r = w - v ∧ v ≤ w ∧ s.1 = nI v ∧ Fr [3] m0 s.2 ∧ (∀ i, i < v → s.2.1 3 (60 * j + i) = cutv (m0.1 1 j) (keyR K (nth (metB f t a b) (nI i) n))) ∧ (∀ y, y < 60 * j ∨ 60 * j + w ≤ y → s.2.1 3 y = m0.1 3 y)) ?_ w 100 (0, m0) (by omega)
    ⟨0, rfl, by omega, rfl, Fr.rf, fun i hi => absurd hi (by omega), fun y _ => rfl⟩
  · exact key
  rintro N r ⟨x, g⟩ ⟨v, rfl, hv, rfl, hF, a1, a2⟩
  dsimp only at *
  have Vg : MV g n K f t := V.fr (by rw [hF.1 0 (by decide)]) ⟨hF.1 12 (by decide), hF.1 6 (by decide), hF.1 7 (by decide)⟩
  rw [f_X10_write_L1]
  by_cases e : v = w
  · subst e
    left
    rw [if_pos (by rw [i_le]; omega)]
    exact ⟨g, rfl, hF, a1, a2⟩
  right
  rw [if_neg (by rw [i_le, n_int (by omega), n_int (by omega)]; omega), if_pos (ix_n hj (by omega)), m_meetsBy Vg, c_some, n_cl (show j < 2147483648 by omega), hF.1 1 (by decide), m_cut, c_some, n_60, if_pos (ix_n (by omega) (by omega)), l_let, l_let, nI_1, n_cl (by omega), if_neg (show ¬ nI v = -1 by rw [i_eq, n_int (by omega), t_m1]; omega)]
  refine ⟨w - (v + 1), (nI (v + 1), hw g 3 (60 * j + v) (cutv (m0.1 1 j) (keyR K (nth (metB f t a b) (nI v) n)))), by omega, ⟨v + 1, rfl, by omega, rfl, hF.hw (by decide), fun i hi => ?_, fun y hy => ?_⟩, rfl⟩
  · dsimp only
    by_cases e2 : i = v
    · subst e2; rw [hw_s]
    · rw [hw_n _ _ _ _ (Or.inr (by omega))]; exact a1 i (by omega)
  · dsimp only
    rw [hw_n _ _ _ _ (Or.inr (by omega))]; exact a2 y hy
theorem write_ok {Der : hp_T → Nat → (Nat → Nat) → Prop} (D : DerOK Der) {h m : hp_T} {a b p : Int32} (R : RelD Der h m) : stp (RelD Der) (f_X9_write a b p h) (f_X10_write a b p m) := by
  unfold f_X9_write f_X10_write
  by_cases cv : vld a b
  case neg =>
    rw [(c_isStretch (h := h)).2 cv, (m_isStretch (h := m)).2 cv, c_some, c_some, if_pos p00, if_pos p00]
    exact ⟨_, h, m, rfl, rfl, R⟩
  rw [(c_isStretch (h := h)).1 cv, (m_isStretch (h := m)).1 cv, c_some, c_some, if_neg n10, if_neg n10]
  by_cases cs : 0 ≤ p.toInt ∧ p.toInt ≤ 3
  case neg =>
    rw [(c_isSheet (h := h)).2 cs, (m_isSheet (h := m)).2 cs, c_some, c_some, if_pos p00, if_pos p00]
    exact ⟨_, h, m, rfl, rfl, R⟩
  rw [(c_isSheet (h := h)).1 cs, (m_isSheet (h := m)).1 cs, c_some, c_some, if_neg n10, if_neg n10]
  obtain ⟨j, hj, rfl⟩ := sheet_of cs
  have ij := ix_n hj (show 4 ≤ 1000 by omega)
  have cj : (nI j).toNatClampNeg = j := n_cl (by omega)
  simp only [ij, if_true, cj]
  obtain ⟨_, _, -, -, -, -, hS, -, -⟩ := id R
  have L := lost_iff hS hj
  by_cases c : h.1 (38 + j) 1 = 0
  case neg =>
    rw [if_neg c, if_neg (L.2 c)]
    exact found_stp D 1 R
  rw [if_pos c, if_pos (L.1 c).1]
  obtain ⟨n, K, f, t, m1, hI, hC, hQ, E, hF, hM, hR, R1, -⟩ := rel_v R
  obtain ⟨_, _, -, -, -, -, hS1, hf1, -⟩ := id R1
  have L1 := (lost_iff hS1 hj).1 c
  obtain ⟨-, -, S3, ⟨z, hz, S4⟩, S5⟩ := hS1 j hj
  rw [E, v_some, m_meetsBy hM, c_some, if_pos rfl, m_lesser, c_some, S4]
  obtain ⟨h2, w, ew, E2, F2, b1, b2⟩ := cw_L (a := a) (b := b) hC hj hz (by rw [S3, S4])
  have hcl := cnt_le (metB f t a b) n
  have hn := hC.1
  have em : (if nI (cnt (metB f t a b) n) ≤ nI z then nI (cnt (metB f t a b) n) else nI z) = nI w := by
    split
    · rename_i q
      rw [i_le, n_int (by omega), n_int (by omega)] at q
      rw [ew, show min z (cnt (metB f t a b) n) = cnt (metB f t a b) n by omega]
    · rename_i q
      rw [i_le, n_int (by omega), n_int (by omega)] at q
      rw [ew, show min z (cnt (metB f t a b) n) = z by omega]
  rw [em]
  obtain ⟨m2, E3, F3, d1, d2⟩ := mw_L (a := a) (b := b) (Kc := fun (_ : Int32) (h32 : hp_T) => some (nI w, h32)) hM hj (show w ≤ 60 by omega)
  rw [E2, E3]
  refine ⟨_, h2, m2, rfl, rfl, rel_s D R1 (fun k q1 q2 => F2.1 k (by simp <;> omega)) F2.2 (by rw [F2.1 0 (by simp <;> omega)]) (fun k q1 q2 => F3.1 k (by simp <;> omega)) (by rw [F3.1 0 (by decide)]) (by rw [F3.1 0 (by decide)]) (fun y hy => ?_) (by rw [F2.1 0 (by simp <;> omega), F3.1 0 (by decide)]; exact hf1)⟩
  have Sy := hS1 y hy
  rw [F2.1 (38 + y) (by simp <;> omega), F3.1 1 (by decide), F3.1 2 (by decide)]
  refine ⟨Sy.1, Sy.2.1, Sy.2.2.1, Sy.2.2.2.1, fun i hi => ?_⟩
  by_cases e : y = j
  · subst e
    by_cases q : i < w
    · rw [b1 i q, d1 i q, L1.2]
    · rw [b2 i (by omega), d2 _ (by omega)]
      exact Sy.2.2.2.2 i hi
  · rw [F2.1 (42 + y) (by simp <;> omega), d2 _ (by omega)]
    exact Sy.2.2.2.2 i hi
