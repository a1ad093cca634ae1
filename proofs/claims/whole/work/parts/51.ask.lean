/-! the questions that settle, whole: of a settled class -/
theorem q_deep {m0 h m : hp_T} {O T : Prop} {n : Nat} {K : Nat → Nat} (V : VR m0 O T n K h m) : stp (VR m0 True T n K) (f_X9_deep h) (f_X10_deep m) := by
  obtain ⟨m1, E, V1⟩ := V.ord
  unfold f_X10_deep
  rw [E, v_some]
  exact stp_i (by_deep V1)
theorem q_point {m0 h m : hp_T} {O T : Prop} {n : Nat} {K : Nat → Nat} (V : VR m0 O T n K h m) : stp (VR m0 True T n K) (f_X9_point h) (f_X10_point m) := by
  obtain ⟨m1, E, V1⟩ := V.ord
  unfold f_X10_point
  rw [E, v_some]
  exact stp_i (by_point V1)
theorem q_clashes {m0 h m : hp_T} {O T : Prop} {n : Nat} {K : Nat → Nat} (V : VR m0 O T n K h m) : stp (VR m0 True T n K) (f_X9_clashes h) (f_X10_clashes m) := by
  obtain ⟨m1, E, V1⟩ := V.ord
  unfold f_X10_clashes
  rw [E, v_some]
  exact stp_i (by_clashes V1)
theorem q_alone {m0 h m : hp_T} {O T : Prop} {n : Nat} {K : Nat → Nat} (V : VR m0 O T n K h m) : stp (VR m0 True T n K) (f_X9_alone h) (f_X10_alone m) := by
  obtain ⟨m1, E, V1⟩ := V.ord
  unfold f_X10_alone
  rw [E, v_some]
  exact stp_i (by_alone V1)
theorem q_taken {m0 h m : hp_T} {O T : Prop} {n : Nat} {K : Nat → Nat} {a b : Int32} (V : VR m0 O T n K h m) : stp (VR m0 True T n K) (f_X9_taken a b h) (f_X10_taken a b m) := by
  obtain ⟨m1, E, V1⟩ := V.ord
  unfold f_X10_taken
  rw [E, v_some, d_isStretch, c_some]
  by_cases c : vld a b
  · rw [b01_t c, if_neg n10]
    exact stp_i (by_taken V1 c)
  · unfold f_X9_taken
    rw [e_isStretch, c_some, b01_f c, if_pos p00, if_pos p00]
    exact ⟨_, h, m1, rfl, rfl, V1⟩
theorem q_frees {m0 h m : hp_T} {O T : Prop} {n : Nat} {K : Nat → Nat} {a b : Int32} (V : VR m0 O T n K h m) : stp (VR m0 True T n K) (f_X9_frees a b h) (f_X10_frees a b m) := by
  obtain ⟨m1, E, V1⟩ := V.ord
  unfold f_X10_frees
  rw [E, v_some, d_isStretch, c_some]
  by_cases c : vld a b
  · rw [b01_t c, if_neg n10]
    exact stp_i (by_frees V1 c)
  · unfold f_X9_frees
    rw [e_isStretch, c_some, b01_f c, if_pos p00, if_pos p00]
    exact ⟨_, h, m1, rfl, rfl, V1⟩
theorem q_free {m0 h m : hp_T} {O T : Prop} {n : Nat} {K : Nat → Nat} {a b i w : Int32} (V : VR m0 O T n K h m) : stp (VR m0 True T n K) (f_X9_free a b i w h) (f_X10_free a b i w m) := by
  obtain ⟨m1, E, V1⟩ := V.ord
  unfold f_X10_free
  rw [E, v_some, d_isStretch, c_some]
  by_cases c : vld a b
  case neg =>
    unfold f_X9_free
    rw [e_isStretch, c_some, b01_f c, if_pos p00, if_pos p00]
    exact ⟨_, h, m1, rfl, rfl, V1⟩
  rw [b01_t c, if_neg n10, d_in (a := 0) (b := 48) (by decide) (by decide), c_some]
  by_cases ci : 0 ≤ i.toInt ∧ i.toInt ≤ 48
  case neg =>
    rw [b01_f ci, if_pos p00]
    unfold f_X9_free
    rw [e_isStretch, c_some, b01_t c, if_neg n10]
    by_cases c1 : i < 0
    · rw [if_pos c1]
      exact ⟨_, h, m1, rfl, rfl, V1⟩
    · rw [if_neg c1, if_pos (by rw [i_lt, t_0] at c1; rw [i_lt, t_48]; omega)]
      exact ⟨_, h, m1, rfl, rfl, V1⟩
  rw [b01_t ci, if_neg n10, d_isTwo, c_some]
  obtain ⟨j, hj, rfl⟩ := small_of (b := 48) ci
  by_cases cw : 0 ≤ w.toInt ∧ w.toInt ≤ 1
  case neg =>
    rw [b01_f cw, if_pos p00]
    unfold f_X9_free
    rw [e_isStretch, c_some, b01_t c, if_neg n10, if_neg (by rw [i_lt, t_0]; omega), if_neg (by rw [i_lt, t_48]; omega)]
    by_cases c1 : w < 0
    · rw [if_pos c1]
      exact ⟨_, h, m1, rfl, rfl, V1⟩
    · rw [if_neg c1, if_neg (by rw [i_lt, t_0] at c1; rw [i_le, t_1]; omega)]
      exact ⟨_, h, m1, rfl, rfl, V1⟩
  rw [b01_t cw, if_neg n10]
  exact stp_i (by_free V1 c hj cw)
theorem q_place {m0 h m : hp_T} {O T : Prop} {n : Nat} {K : Nat → Nat} {p z w : Int32} (V : VR m0 O T n K h m) : stp (VR m0 True T n K) (f_X9_place p z w h) (f_X10_place p z w m) := by
  obtain ⟨m1, E, V1⟩ := V.ord
  unfold f_X10_place
  rw [E, v_some, d_isPoint, c_some]
  by_cases c : pnt p
  case neg =>
    unfold f_X9_place
    rw [e_isPoint, c_some, b01_f c, if_pos p00, if_pos p00]
    exact ⟨_, h, m1, rfl, rfl, V1⟩
  rw [b01_t c, if_neg n10, d_in (a := 1) (b := 1000000000) (by decide) (by decide), c_some]
  by_cases ci : 1 ≤ z.toInt ∧ z.toInt ≤ 1000000000
  case neg =>
    rw [b01_f ci, if_pos p00]
    unfold f_X9_place
    rw [e_isPoint, c_some, b01_t c, if_neg n10]
    by_cases c1 : z < 1
    · rw [if_pos c1]
      exact ⟨_, h, m1, rfl, rfl, V1⟩
    · rw [if_neg c1, if_pos (by rw [i_lt, t_1] at c1; rw [i_lt, t_hi]; omega)]
      exact ⟨_, h, m1, rfl, rfl, V1⟩
  rw [b01_t ci, if_neg n10, d_in (a := 0) (b := 2) (by decide) (by decide), c_some]
  by_cases cw : 0 ≤ w.toInt ∧ w.toInt ≤ 2
  case neg =>
    rw [b01_f cw, if_pos p00]
    unfold f_X9_place
    rw [e_isPoint, c_some, b01_t c, if_neg n10, if_neg (by rw [i_lt, t_1]; omega), if_neg (by rw [i_lt, t_hi]; omega)]
    by_cases c1 : w < 0
    · rw [if_pos c1]
      exact ⟨_, h, m1, rfl, rfl, V1⟩
    · rw [if_neg c1, if_neg (by rw [i_lt, t_0] at c1; rw [i_le, t_2]; omega)]
      exact ⟨_, h, m1, rfl, rfl, V1⟩
  rw [b01_t cw, if_neg n10]
  refine stp_i (by_place V1 c ci ?_)
  obtain ⟨j, hj, rfl⟩ := small_of (b := 2) cw
  rcases (show j = 0 ∨ j = 1 ∨ j = 2 by omega) with rfl | rfl | rfl
  · exact Or.inl rfl
  · exact Or.inr (Or.inl rfl)
  · exact Or.inr (Or.inr rfl)
theorem q_room {m0 h m : hp_T} {O T : Prop} {n : Nat} {K : Nat → Nat} {p : Int32} (V : VR m0 O T n K h m) : stp (VR m0 True T n K) (f_X9_room p h) (f_X10_room p m) := by
  obtain ⟨m1, E, V1⟩ := V.ord
  unfold f_X10_room
  rw [E, v_some, d_in (a := -1) (b := 47) (by decide) (by decide), c_some]
  by_cases c : kn p
  · rw [b01_t c, if_neg n10]
    exact stp_i (by_room V1 c)
  · unfold f_X9_room
    rw [b01_f c, e_isKN, c_some, b01_f c, if_pos p00, if_pos p00]
    exact ⟨_, h, m1, rfl, rfl, V1⟩
theorem q_keep {m0 h m : hp_T} {O T : Prop} {n : Nat} {K : Nat → Nat} {p : Int32} (V : VR m0 O T n K h m) : stp (VR m0 True T n K) (f_X9_keep p h) (f_X10_keep p m) := by
  obtain ⟨m1, E, V1⟩ := V.ord
  unfold f_X10_keep
  rw [E, v_some, d_in (a := -1) (b := 47) (by decide) (by decide), c_some]
  by_cases c : kn p
  · rw [b01_t c, if_neg n10]
    exact stp_i (by_keep V1 c)
  · unfold f_X9_keep
    rw [b01_f c, e_isKN, c_some, b01_f c, if_pos p00, if_pos p00]
    exact ⟨_, h, m1, rfl, rfl, V1⟩
theorem q_clash {m0 h m : hp_T} {O T : Prop} {n : Nat} {K : Nat → Nat} {i w : Int32} (V : VR m0 O T n K h m) : stp (VR m0 True T n K) (f_X9_clash i w h) (f_X10_clash i w m) := by
  obtain ⟨m1, E, V1⟩ := V.ord
  unfold f_X10_clash
  rw [E, v_some, d_in (a := 0) (b := 1127) (by decide) (by decide), c_some]
  by_cases ci : 0 ≤ i.toInt ∧ i.toInt ≤ 1127
  case neg =>
    rw [b01_f ci, if_pos p00]
    unfold f_X9_clash
    by_cases c1 : i < 0
    · rw [if_pos c1]
      exact ⟨_, h, m1, rfl, rfl, V1⟩
    · rw [if_neg c1, if_pos (by rw [i_lt, t_0] at c1; rw [i_le, t_1128]; omega)]
      exact ⟨_, h, m1, rfl, rfl, V1⟩
  rw [b01_t ci, if_neg n10, d_in (a := 0) (b := 2) (by decide) (by decide), c_some]
  by_cases cw : 0 ≤ w.toInt ∧ w.toInt ≤ 2
  case neg =>
    rw [b01_f cw, if_pos p00]
    unfold f_X9_clash
    rw [if_neg (by rw [i_lt, t_0]; omega), if_neg (by rw [i_le, t_1128]; omega)]
    by_cases c1 : w < 0
    · rw [if_pos c1]
      exact ⟨_, h, m1, rfl, rfl, V1⟩
    · rw [if_neg c1, if_neg (by rw [i_lt, t_0] at c1; rw [i_le, t_2]; omega)]
      exact ⟨_, h, m1, rfl, rfl, V1⟩
  rw [b01_t cw, if_neg n10]
  obtain ⟨j, hj, rfl⟩ := small_of (b := 1127) ci
  exact stp_i (by_clash V1 (by omega) cw)
theorem q_group {m0 h m : hp_T} {O T : Prop} {n : Nat} {K : Nat → Nat} {p w : Int32} (V : VR m0 O T n K h m) : stp (VR m0 True T n K) (f_X9_group p w h) (f_X10_group p w m) := by
  obtain ⟨m1, E, V1⟩ := V.ord
  unfold f_X10_group
  rw [E, v_some, d_in (a := -1) (b := 47) (by decide) (by decide), c_some]
  by_cases c : kn p
  case neg =>
    unfold f_X9_group
    rw [b01_f c, e_isKN, c_some, b01_f c, if_pos p00, if_pos p00]
    exact ⟨_, h, m1, rfl, rfl, V1⟩
  rw [b01_t c, if_neg n10, d_isTwo, c_some]
  by_cases cw : 0 ≤ w.toInt ∧ w.toInt ≤ 1
  case neg =>
    rw [b01_f cw, if_pos p00]
    unfold f_X9_group
    rw [e_isKN, c_some, b01_t c, if_neg n10]
    by_cases c1 : w < 0
    · rw [if_pos c1]
      exact ⟨_, h, m1, rfl, rfl, V1⟩
    · rw [if_neg c1, if_neg (by rw [i_lt, t_0] at c1; rw [i_le, t_1]; omega)]
      exact ⟨_, h, m1, rfl, rfl, V1⟩
  rw [b01_t cw, if_neg n10]
  exact stp_i (by_group V1 c cw)
theorem q_looks {m0 h m : hp_T} {O T : Prop} {n : Nat} {K : Nat → Nat} {a b : Int32} (V : VR m0 O T n K h m) : stp (VR m0 True True n K) (f_X9_looks a b h) (f_X10_looks a b m) := by
  obtain ⟨m1, E, V1⟩ := V.grow
  unfold f_X10_looks
  rw [E, v_some, d_isStretch, c_some]
  by_cases c : vld a b
  · rw [b01_t c, if_neg n10]
    exact stp_i (by_looks V1 c)
  · unfold f_X9_looks
    rw [e_isStretch, c_some, b01_f c, if_pos p00, if_pos p00]
    exact ⟨_, h, m1, rfl, rfl, V1⟩
theorem m_keyAtO {m : hp_T} {n : Nat} {K : Nat → Nat} {f t : Nat → Int32} {o : Option Nat} (V : MV m n K f t) (ho : ∀ c, o = some c → c < n) : f_X10_keyAt (keyR rk o) m = some (keyR K o, m) := by
  cases o with
  | none =>
    unfold f_X10_keyAt
    rw [if_pos (show keyR rk none = -1 from rfl)]
    rfl
  | some c =>
    have h1 := V.1
    have h2 := ho c rfl
    rw [keyR_r, m_keyAt V (by omega), if_pos h2]
    rfl
theorem nP_lt {W : Nat → Nat} {n r : Nat} (hW : Wi W n) (hr : r < n) : ∀ c, nP W n r = some c → c < n := by
  intro c hc
  rcases nP_inv hW hr with ⟨h1, -⟩ | ⟨g, g1, g2, -⟩
  · rw [h1] at hc; cases hc
  · rw [g2] at hc; cases hc; exact g1
theorem t_5 : (5 : Int32).toInt = 5 := by decide
theorem q_tree {m0 h m : hp_T} {O T : Prop} {n : Nat} {K : Nat → Nat} {p w : Int32} (V : VR m0 O T n K h m) : stp (VR m0 True True n K) (f_X9_tree p w h) (f_X10_tree p w m) := by
  obtain ⟨m1, E, V1⟩ := V.grow
  obtain ⟨R, hI, hC, hQ, hK, hw, hT, ⟨dT, dG, dR, dK, dP, dM⟩, h9⟩ := V1.1
  have hn := hC.1
  have TM := V1.2.2.2 trivial
  have W := V1.1.wi
  unfold f_X9_tree f_X10_tree
  rw [E, v_some, e_isKey, d_isKey, c_some, c_some]
  by_cases cp : kb p
  case neg =>
    rw [b01_f cp, if_pos p00, if_pos p00]
    exact ⟨_, h, m1, rfl, rfl, V1⟩
  rw [b01_t cp, if_neg n10, if_neg n10, d_in (a := 0) (b := 5) (by decide) (by decide), c_some]
  by_cases cw : 0 ≤ w.toInt ∧ w.toInt ≤ 5
  case neg =>
    rw [b01_f cw, if_pos p00]
    by_cases c1 : w < 0
    · rw [if_pos c1]
      exact ⟨_, h, m1, rfl, rfl, V1⟩
    · rw [if_neg c1, if_neg (by rw [i_lt, t_0] at c1; rw [i_le, t_5]; omega)]
      exact ⟨_, h, m1, rfl, rfl, V1⟩
  rw [b01_t cw, if_neg n10, if_neg (by rw [i_lt, t_0]; omega), if_pos (by rw [i_le, t_5]; omega)]
  obtain ⟨k, hk, rfl⟩ := key_of cp
  simp only [ix_n hk (show 48 ≤ 1000 by omega), if_true, n_cl (show k < 2147483648 by omega), ← (V1.1.rb k hk).1]
  by_cases ct : h.1 4 k = 0
  · rw [if_pos ct, if_pos ct]
    exact ⟨_, h, m1, rfl, rfl, V1⟩
  obtain ⟨r, hr, rfl⟩ := there_of hT hk ct
  rw [if_neg ct, if_neg ct, V1.1.st, v_some, (V1.2.2.1 trivial).2 r hr]
  obtain ⟨a1, a2, a3, a4, a5, a6, a7⟩ := dT.2 r hr
  obtain ⟨b1, b2, b3, b4, s1, s2, s3⟩ := TM.2 r hr
  unfold f_X10_treeBy
  simp only [ix_n (show r < 48 by omega) (show 48 ≤ 1000 by omega), if_true, n_cl (show r < 2147483648 by omega), a1, a2, a3, a4, a5, a6, b1, b2, b3, b4, s1, s2]
  by_cases w0 : w = 0
  · rw [if_pos w0, if_pos w0, m_keyAtO V1.mv (nP_lt W hr), c_some, c_some]
    exact ⟨_, h, m1, rfl, rfl, V1⟩
  rw [if_neg w0, if_neg w0]
  by_cases w1 : w = 1
  · rw [if_pos w1, if_pos w1, m_keyAtO V1.mv (lch_lt W r hr), c_some, c_some]
    exact ⟨_, h, m1, rfl, rfl, V1⟩
  rw [if_neg w1, if_neg w1]
  by_cases w2 : w = 2
  · rw [if_pos w2, if_pos w2, m_keyAtO V1.mv (rch_lt W r hr), c_some, c_some]
    exact ⟨_, h, m1, rfl, rfl, V1⟩
  rw [if_neg w2, if_neg w2]
  by_cases w3 : w = 3
  · rw [if_pos w3, if_pos w3, c_some]
    exact ⟨_, h, m1, rfl, rfl, V1⟩
  rw [if_neg w3, if_neg w3]
  by_cases w4 : w = 4
  · rw [if_pos w4, if_pos w4, c_some]
    exact ⟨_, h, m1, rfl, rfl, V1⟩
  rw [if_neg w4, if_neg w4, c_some]
  exact ⟨_, h, m1, rfl, rfl, V1⟩
theorem qq_end {m0 h m : hp_T} {O T : Prop} {n : Nat} {K : Nat → Nat} {p : Int32} (V : VR m0 O T n K h m) : stp (VR m0 True True n K) (f_X9_end p h) (f_X10_end p m) := by
  obtain ⟨m1, E, V1⟩ := V.grow
  obtain ⟨R, hI, hC, hQ, hK, hw, hT, ⟨dT, dG, dR, dK, dP, dM⟩, h9⟩ := V1.1
  have hn := hC.1
  have TM := V1.2.2.2 trivial
  unfold f_X9_end f_X10_end f_X9_isThere f_X10_has
  rw [E, v_some, e_isKey, d_isKey, c_some, c_some]
  by_cases cp : kb p
  case neg =>
    rw [b01_f cp, if_pos p00, if_pos p00, c_some, c_some, if_pos p00, if_pos p00]
    exact ⟨_, h, m1, rfl, rfl, V1⟩
  rw [b01_t cp, if_neg n10, if_neg n10]
  obtain ⟨k, hk, rfl⟩ := key_of cp
  simp only [ix_n hk (show 48 ≤ 1000 by omega), if_true, n_cl (show k < 2147483648 by omega), ← (V1.1.rb k hk).1]
  by_cases ct : h.1 4 k = 0
  · rw [if_pos ct, if_pos ct, c_some, c_some, if_pos p00, if_pos p00]
    exact ⟨_, h, m1, rfl, rfl, V1⟩
  obtain ⟨r, hr, rfl⟩ := there_of hT hk ct
  obtain ⟨a1, a2, a3, a4, a5, a6, a7⟩ := dT.2 r hr
  obtain ⟨b1, b2, b3, b4, s1, s2, s3⟩ := TM.2 r hr
  have e : h.1 20 (K r) = m1.1 21 r := by rw [i_eq, a7, s3]
  rw [if_neg ct, if_neg ct, c_some, c_some, if_neg n10, if_neg n10, V1.1.st, v_some, (V1.2.2.1 trivial).2 r hr, if_pos (ix_n (by omega) (by omega)), n_cl (by omega), e]
  exact ⟨_, h, m1, rfl, rfl, V1⟩
theorem top_lt {W : Nat → Nat} {n : Nat} (hW : Wi W n) (n0 : 0 < n) : am W 0 n < n := (am_mx hW n0 (Nat.le_refl n)).2.1
theorem rt_s {W : Nat → Nat} {n : Nat} (n0 : 0 < n) : rt W n = some (am W 0 n) := by unfold rt; rw [if_pos n0]
theorem rt_n {W : Nat → Nat} {n : Nat} (n0 : ¬ 0 < n) : rt W n = none := by unfold rt; rw [if_neg n0]
theorem cl0 : (0 : Int32).toNatClampNeg = 0 := by decide
theorem ix0 : ix (0 : Int32) 48 = true := by decide
theorem q_root {m0 h m : hp_T} {O T : Prop} {n : Nat} {K : Nat → Nat} (V : VR m0 O T n K h m) : stp (VR m0 True True n K) (f_X9_root h) (f_X10_root m) := by
  obtain ⟨m1, E, V1⟩ := V.grow
  obtain ⟨R, hI, hC, hQ, hK, hw, hT, ⟨dT, dG, dR, dK, dP, dM⟩, h9⟩ := V1.1
  have hn := hC.1
  have TM := V1.2.2.2 trivial
  unfold f_X9_root f_X10_root
  rw [E, v_some, V1.1.st, v_some, V1.1.n8, dT.1]
  by_cases n0 : 0 < n
  · have ht := top_lt V1.1.wi n0
    rw [if_neg (by rw [i_eq, n_int (by omega), t_0]; omega), if_pos ix0, cl0, TM.1 n0, if_pos (ix_n (by omega) (by omega)), n_cl (by omega), (V1.2.2.1 trivial).1 _ ht, rt_s n0, keyR_s]
    exact ⟨_, h, m1, rfl, rfl, V1⟩
  · rw [if_pos (by rw [show n = 0 by omega]; rfl), rt_n n0]
    exact ⟨_, h, m1, rfl, rfl, V1⟩
theorem kn1 : kn (-1) := by unfold kn; decide
theorem q_count {m0 h m : hp_T} {O T : Prop} {n : Nat} {K : Nat → Nat} {w : Int32} (V : VR m0 O T n K h m) : stp (VR m0 True True n K) (f_X9_count w h) (f_X10_count w m) := by
  obtain ⟨m1, E, V1⟩ := V.grow
  obtain ⟨R, hI, hC, hQ, hK, hw, hT, ⟨dT, dG, dR, dK, dP, dM⟩, h9⟩ := V1.1
  have hn := hC.1
  have TM := V1.2.2.2 trivial
  obtain ⟨-, -, -, -, -, ⟨d, nx, -, -, -, x5, x9, -⟩, -, hf, -, -⟩ := R
  unfold f_X9_count f_X10_count
  rw [E, v_some, V1.1.st, v_some]
  by_cases w0 : w = 0
  · rw [if_pos w0, if_pos w0, V1.1.n8, hC.2.1]
    exact ⟨_, h, m1, rfl, rfl, V1⟩
  rw [if_neg w0, if_neg w0]
  by_cases w1 : w = 1
  · rw [if_pos w1, if_pos w1, x5, x9]
    exact ⟨_, h, m1, rfl, rfl, V1⟩
  rw [if_neg w1, if_neg w1]
  by_cases w2 : w = 2
  · rw [if_pos w2, if_pos w2, V1.1.n8, dT.1]
    by_cases n0 : 0 < n
    · have ht := top_lt V1.1.wi n0
      have kt := hK.2.1 _ ht
      obtain ⟨a1, a2, a3, a4, a5, a6, a7⟩ := dT.2 _ ht
      obtain ⟨b1, b2, b3, b4, s1, s2, s3⟩ := TM.2 _ ht
      rw [rt_s n0, keyR_s, if_neg (km1 kt), if_pos (ix_n kt (by omega)), n_cl (by omega), a6, if_neg (by rw [i_eq, n_int (by omega), t_0]; omega), if_pos ix0, cl0, TM.1 n0, if_pos (ix_n (by omega) (by omega)), n_cl (by omega), s2]
      exact ⟨_, h, m1, rfl, rfl, V1⟩
    · rw [rt_n n0, if_pos keyR_n, if_pos (by rw [show n = 0 by omega]; rfl)]
      exact ⟨_, h, m1, rfl, rfl, V1⟩
  rw [if_neg w2, if_neg w2]
  by_cases w3 : w = 3
  · rw [if_pos w3, if_pos w3, by_deepest V1, if_pos p00, c_some]
    exact ⟨_, h, m1, rfl, rfl, V1⟩
  rw [if_neg w3, if_neg w3]
  by_cases w4 : w = 4
  · rw [if_pos w4, if_pos w4]
    have e : f_X9_room (-1) h = some (h.1 25 2, h) := by
      unfold f_X9_room
      rw [e_isKN, c_some, b01_t kn1, if_neg n10, if_pos rfl, V1.1.st, v_some, if_pos rfl]
    have S := by_room V1 kn1
    rw [e] at S
    exact stp_i S
  rw [if_neg w4, if_neg w4]
  by_cases w5 : w = 5
  · rw [if_pos w5, if_pos w5]
    have e : f_X9_keep (-1) h = some (h.1 28 2, h) := by
      unfold f_X9_keep
      rw [e_isKN, c_some, b01_t kn1, if_neg n10, V1.1.st, v_some, if_pos rfl]
    have S := by_keep V1 kn1
    rw [e] at S
    exact stp_i S
  rw [if_neg w5, if_neg w5]
  by_cases w6 : w = 6
  · rw [if_pos w6, if_pos w6]
    have e : f_X9_group (-1) 0 h = some (h.1 33 3, h) := by
      unfold f_X9_group
      rw [e_isKN, c_some, b01_t kn1, if_neg n10, if_neg (by decide), if_pos (by decide), if_pos rfl, V1.1.st, v_some, if_pos rfl]
    have S := by_group V1 kn1 (w := 0) (by decide)
    rw [e] at S
    exact stp_i S
  rw [if_neg w6, if_neg w6]
  by_cases w7 : w = 7
  · rw [if_pos w7, if_pos w7]
    have e : f_X9_clashes h = some (h.1 31 1, h) := by
      unfold f_X9_clashes
      rw [V1.1.st, v_some]
    have S := by_clashes V1
    rw [e] at S
    exact stp_i S
  rw [if_neg w7, if_neg w7]
  by_cases w8 : w = 8
  · rw [if_pos w8, if_pos w8, hf]
    exact ⟨_, h, m1, rfl, rfl, V1⟩
  rw [if_neg w8, if_neg w8]
  exact ⟨_, h, m1, rfl, rfl, V1⟩
