/-! what the class answers once settled, and what the reference works out from its order -/
theorem by_deepest {m0 h m : hp_T} {T : Prop} {n : Nat} {K : Nat → Nat} {p : Int32} (V : VR m0 True T n K h m) : f_X10_deepest p m = some ((if p = 0 then h.1 25 3 else h.1 25 4), m) := by
  obtain ⟨R, hI, hC, hQ, hK, hw, hT, ⟨dT, dG, dR, dK, dP, dM⟩, h9⟩ := V.1
  obtain ⟨-, M, P, e3, -, e4, RM⟩ := dR
  obtain ⟨M2, P2, -, R2, E⟩ := m_deepest (p := p) V.mv hQ
  obtain ⟨eM, eP⟩ := dp_eq hQ RM R2
  rw [E, e3, e4, eM, eP]
theorem by_deep {m0 h m : hp_T} {T : Prop} {n : Nat} {K : Nat → Nat} (V : VR m0 True T n K h m) : stp (VR m0 True T n K) (f_X9_deep h) (f_X10_deepest 0 m) := by
  unfold f_X9_deep
  rw [V.1.st, v_some, by_deepest V, if_pos p00]
  exact ⟨_, h, m, rfl, rfl, V⟩
theorem by_point {m0 h m : hp_T} {T : Prop} {n : Nat} {K : Nat → Nat} (V : VR m0 True T n K h m) : stp (VR m0 True T n K) (f_X9_point h) (f_X10_deepest 1 m) := by
  unfold f_X9_point
  rw [V.1.st, v_some, by_deepest V, if_neg n10]
  exact ⟨_, h, m, rfl, rfl, V⟩
theorem by_taken {m0 h m : hp_T} {T : Prop} {n : Nat} {K : Nat → Nat} {a b : Int32} (V : VR m0 True T n K h m) (c : vld a b) : stp (VR m0 True T n K) (f_X9_taken a b h) (f_X10_takenIn a b m) := by
  obtain ⟨R, hI, hC, hQ, hK, hw, hT, ⟨dT, dG, dR, dK, dP, dM⟩, h9⟩ := V.1
  obtain ⟨m2, E2, F2⟩ := m_takenIn V.mv hQ c
  unfold f_X9_taken
  rw [e_isStretch, c_some, b01_t c, if_neg n10, V.1.st, v_some, c_takes hC.1 dG, c_some, E2]
  exact ⟨_, h, m2, rfl, rfl, V.fr (F2.mono (by decide))⟩
theorem by_frees {m0 h m : hp_T} {T : Prop} {n : Nat} {K : Nat → Nat} {a b : Int32} (V : VR m0 True T n K h m) (c : vld a b) : stp (VR m0 True T n K) (f_X9_frees a b h) (f_X10_parts a b m) := by
  obtain ⟨R, hI, hC, hQ, hK, hw, hT, ⟨dT, dG, dR, dK, dP, dM⟩, h9⟩ := V.1
  obtain ⟨m2, E2, F2, -⟩ := parts_ok V.mv hQ c
  unfold f_X9_frees
  rw [e_isStretch, c_some, b01_t c, if_neg n10, V.1.st, v_some, c_frees hC.1 dG, c_some, E2]
  exact ⟨_, h, m2, rfl, rfl, V.fr (F2.mono (by decide))⟩
theorem by_free {m0 h m : hp_T} {T : Prop} {n i : Nat} {K : Nat → Nat} {a b w : Int32} (V : VR m0 True T n K h m) (c : vld a b) (hi : i ≤ 48) (hw01 : 0 ≤ w.toInt ∧ w.toInt ≤ 1) : stp (VR m0 True T n K) (f_X9_free a b (nI i) w h) (f_X10_freeBy a b (nI i) w m) := by
  obtain ⟨R, hI, hC, hQ, hK, hw, hT, ⟨dT, dG, dR, dK, dP, dM⟩, h9⟩ := V.1
  have hn := hC.1
  obtain ⟨m2, E2, F2⟩ := m_freeBy (w := w) V.mv hQ c hi
  unfold f_X9_free
  rw [e_isStretch, c_some, b01_t c, if_neg n10, if_neg (by rw [i_lt, n_int (by omega), t_0]; omega), if_neg (by rw [i_lt, n_int (by omega), t_48]; omega), if_neg (by rw [i_lt, t_0]; omega), if_pos (by rw [i_le, t_1]; omega), V.1.st, v_some, c_freeAt hn dG, c_some, E2]
  unfold freeV
  cases hx : nth (qB n (fC h K) (tC h K) a b) (nI i) (n + 1) with
  | none =>
    rw [if_pos (show keyR (fun g => g) (Option.map (cnt (gp n (fC h K) (tC h K))) none) = -1 from rfl)]
    exact ⟨_, h, m2, rfl, rfl, V.fr (F2.mono (by decide))⟩
  | some r =>
    obtain ⟨q1, q2, q3⟩ := nth_s hx
    have hc := cnt_le (gp n (fC h K) (tC h K)) r
    have hg : gp n (fC h K) (tC h K) r = true := by
      unfold qB at q2
      cases hz : gp n (fC h K) (tC h K) r with
      | true => rfl
      | false => rw [hz] at q2; exact absurd q2 (by simp)
    have g2 := dG.2 r (by omega) hg
    have ek : keyR (fun g => g) (Option.map (cnt (gp n (fC h K) (tC h K))) (some r)) = nI (cnt (gp n (fC h K) (tC h K)) r) := rfl
    rw [ek, if_neg (by rw [i_eq, n_int (by omega), t_m1]; omega)]
    simp only [ix_n (show cnt (gp n (fC h K) (tC h K)) r < 49 by omega) (show 49 ≤ 1000 by omega), if_true, n_cl (show cnt (gp n (fC h K) (tC h K)) r < 2147483648 by omega), g2.1, g2.2]
    by_cases cw : w = 0
    · rw [if_pos cw, if_pos cw]
      exact ⟨_, h, m2, rfl, rfl, V.fr (F2.mono (by decide))⟩
    · rw [if_neg cw, if_neg cw]
      exact ⟨_, h, m2, rfl, rfl, V.fr (F2.mono (by decide))⟩
theorem t_2 : (2 : Int32).toInt = 2 := by decide
theorem by_place {m0 h m : hp_T} {T : Prop} {n : Nat} {K : Nat → Nat} {p z w : Int32} (V : VR m0 True T n K h m) (c : pnt p) (hz : 1 ≤ z.toInt ∧ z.toInt ≤ 1000000000) (hw3 : w = 0 ∨ w = 1 ∨ w = 2) : stp (VR m0 True T n K) (f_X9_place p z w h) (f_X10_placeBy p z w m) := by
  obtain ⟨R, hI, hC, hQ, hK, hw, hT, ⟨dT, dG, dR, dK, dP, dM⟩, h9⟩ := V.1
  unfold f_X9_place
  have w1 : 0 ≤ w.toInt ∧ w.toInt ≤ 2 := by rcases hw3 with rfl | rfl | rfl <;> decide
  rw [e_isPoint, c_some, b01_t c, if_neg n10, if_neg (by rw [i_lt, t_1]; omega), if_neg (by rw [i_lt, t_hi]; omega), if_neg (by rw [i_lt, t_0]; omega), if_pos (by rw [i_le, t_2]; omega), V.1.st, v_some]
  rcases hw3 with rfl | rfl | rfl
  · obtain ⟨x, E1, E2⟩ := place_0 V.mv hQ dG hz c
    rw [if_pos rfl, E1, c_some, E2]
    exact ⟨_, h, m, rfl, rfl, V⟩
  · obtain ⟨x, E1, E2⟩ := place_1 V.mv hQ dG hz c
    rw [if_neg n10, if_pos rfl, E1, c_some, E2]
    exact ⟨_, h, m, rfl, rfl, V⟩
  · obtain ⟨x, E1, E2⟩ := place_2 V.mv hQ dG hz c
    rw [if_neg (by decide), if_neg (by decide), E1, c_some, E2]
    exact ⟨_, h, m, rfl, rfl, V⟩
theorem kn_of {x : Int32} (h : kn x) (e : ¬ x = -1) : ∃ k, k < 48 ∧ x = nI k := by
  unfold kn at h
  have : x.toInt ≠ -1 := fun q => e (by rw [i_eq, q, t_m1])
  exact key_of (by omega)
theorem there_of {h : hp_T} {n k : Nat} {K : Nat → Nat} (hT : HT h n K) (hk : k < 48) (c : ¬ h.1 4 k = 0) : ∃ r, r < n ∧ K r = k := Classical.byContradiction fun q => c ((hT k hk).mpr q)
theorem by_room {m0 h m : hp_T} {T : Prop} {n : Nat} {K : Nat → Nat} {p : Int32} (V : VR m0 True T n K h m) (hp : kn p) : stp (VR m0 True T n K) (f_X9_room p h) (f_X10_roomBy p m) := by
  obtain ⟨R, hI, hC, hQ, hK, hw, hT, ⟨dT, dG, dR, dK, dP, dM⟩, h9⟩ := V.1
  have hn := hC.1
  obtain ⟨⟨rm, S, r2, r26⟩, -⟩ := dR
  obtain ⟨m2, E2, F2, g⟩ := m_gives V.mv hQ S
  have V2 := V.fr (F2.mono (by decide) : Fr SB m m2)
  unfold f_X9_room f_X10_roomBy
  rw [e_isKN, c_some, b01_t hp, if_neg n10, E2, c_some]
  by_cases e : p = -1
  · rw [if_pos e, if_pos e, V.1.st, v_some, if_pos e, r2]
    exact ⟨_, h, m2, rfl, rfl, V2⟩
  rw [if_neg e, if_neg e]
  obtain ⟨k, hk, rfl⟩ := kn_of hp e
  simp only [ix_n hk (show 48 ≤ 1000 by omega), if_true, n_cl (show k < 2147483648 by omega), F2.1 5 (by decide), ← (V.1.rb k hk).1]
  by_cases ct : h.1 4 k = 0
  · rw [if_pos ct, if_pos ct]
    exact ⟨_, h, m2, rfl, rfl, V2⟩
  obtain ⟨r, hr, rfl⟩ := there_of hT hk ct
  rw [if_neg ct, if_neg ct, V.1.st, v_some, if_neg e, F2.1 13 (by decide), (V.2.2.1 trivial).2 r hr, if_pos (ix_n (by omega) (by omega)), n_cl (by omega), g r hr, r26 r hr]
  exact ⟨_, h, m2, rfl, rfl, V2⟩
theorem by_keep {m0 h m : hp_T} {T : Prop} {n : Nat} {K : Nat → Nat} {p : Int32} (V : VR m0 True T n K h m) (hp : kn p) : stp (VR m0 True T n K) (f_X9_keep p h) (f_X10_keepBy p m) := by
  obtain ⟨R, hI, hC, hQ, hK, hw, hT, ⟨dT, dG, dR, dK, dP, dM⟩, h9⟩ := V.1
  have hn := hC.1
  obtain ⟨E, hE, k2, k30⟩ := dK
  obtain ⟨m2, E2, F2, g⟩ := m_keeps V.mv hQ hE
  have V2 := V.fr (F2.mono (by decide) : Fr SB m m2)
  have hc := cnt_le (kpB (fC h K) (tC h K) E) n
  unfold f_X9_keep f_X10_keepBy
  rw [e_isKN, c_some, b01_t hp, if_neg n10, E2, c_some, V.1.st, v_some, k2]
  by_cases e : p = -1
  · rw [if_pos e, if_pos e]
    exact ⟨_, h, m2, rfl, rfl, V2⟩
  rw [if_neg e, if_neg e]
  obtain ⟨i, hi, rfl⟩ := kn_of hp e
  by_cases c : i < cnt (kpB (fC h K) (tC h K) E) n
  · obtain ⟨r, e1, e2⟩ := nth_ex (by omega) c
    obtain ⟨q1, q2, q3⟩ := nth_s e1
    have a1 := g r q1 q2
    have a2 := k30 r q1 q2
    have a3 := hE.lt q1
    rw [e2] at a1 a2
    have nle : ¬ nI (cnt (kpB (fC h K) (tC h K) E) n) ≤ nI i := by rw [i_le, n_int (by omega), n_int (by omega)]; omega
    rw [if_neg nle, if_neg nle]
    simp only [ix_n hi (show 48 ≤ 1000 by omega), if_true, n_cl (show i < 2147483648 by omega), a1, a2, ix_n (show E r < 48 by omega) (show 48 ≤ 1000 by omega), n_cl (show E r < 2147483648 by omega), F2.1 12 (by decide), (V.2.2.1 trivial).1 (E r) a3]
    exact ⟨_, h, m2, rfl, rfl, V2⟩
  · have le : nI (cnt (kpB (fC h K) (tC h K) E) n) ≤ nI i := by rw [i_le, n_int (by omega), n_int (by omega)]; omega
    rw [if_pos le, if_pos le]
    exact ⟨_, h, m2, rfl, rfl, V2⟩
theorem by_clashes {m0 h m : hp_T} {T : Prop} {n : Nat} {K : Nat → Nat} (V : VR m0 True T n K h m) : stp (VR m0 True T n K) (f_X9_clashes h) (f_X10_manyClashes m) := by
  obtain ⟨R, hI, hC, hQ, hK, hw, hT, ⟨dT, dG, dR, dK, dP, dM⟩, h9⟩ := V.1
  unfold f_X9_clashes
  rw [V.1.st, v_some, dP.1, m_many V.mv hQ]
  exact ⟨_, h, m, rfl, rfl, V⟩
theorem t_1128 : (1128 : Int32).toInt = 1128 := by decide
theorem by_clash {m0 h m : hp_T} {T : Prop} {n q : Nat} {K : Nat → Nat} {p : Int32} (V : VR m0 True T n K h m) (hq : q < 1128) (hp : 0 ≤ p.toInt ∧ p.toInt ≤ 2) : stp (VR m0 True T n K) (f_X9_clash (nI q) p h) (f_X10_clashBy (nI q) p m) := by
  obtain ⟨R, hI, hC, hQ, hK, hw, hT, ⟨dT, dG, dR, dK, dP, dM⟩, h9⟩ := V.1
  obtain ⟨W, hW, E⟩ := c_clash (p := p) hC hQ hq dP
  unfold f_X9_clash
  rw [if_neg (by rw [i_lt, n_int (by omega), t_0]; omega), if_neg (by rw [i_le, n_int (by omega), t_1128]; omega), if_neg (by rw [i_lt, t_0]; omega), if_pos (by rw [i_le, t_2]; omega), V.1.st, v_some, m_clashBy V.mv hQ hq hW]
  exact ⟨_, h, m, E, rfl, V⟩
theorem by_alone {m0 h m : hp_T} {T : Prop} {n : Nat} {K : Nat → Nat} (V : VR m0 True T n K h m) : stp (VR m0 True T n K) (f_X9_alone h) (f_X10_aloneNow m) := by
  obtain ⟨R, hI, hC, hQ, hK, hw, hT, ⟨dT, dG, dR, dK, dP, dM⟩, h9⟩ := V.1
  obtain ⟨x, E, A⟩ := m_alone V.mv
  unfold f_X9_alone
  rw [V.1.st, v_some, E, dM.2.eq A]
  exact ⟨_, h, m, rfl, rfl, V⟩
theorem by_group {m0 h m : hp_T} {T : Prop} {n : Nat} {K : Nat → Nat} {p w : Int32} (V : VR m0 True T n K h m) (hp : kn p) (hw01 : 0 ≤ w.toInt ∧ w.toInt ≤ 1) : stp (VR m0 True T n K) (f_X9_group p w h) (f_X10_groupBy p w m) := by
  obtain ⟨R, hI, hC, hQ, hK, hw, hT, ⟨dT, dG, dR, dK, dP, dM⟩, h9⟩ := V.1
  have hn := hC.1
  obtain ⟨⟨g33, g34, g35⟩, -⟩ := dM
  obtain ⟨m2, E2, F2, g⟩ := m_gathers V.mv hQ
  have V2 := V.fr (F2.mono (by decide) : Fr SB m m2)
  have hc := cnt_le (gs (fC h K) (tC h K)) n
  unfold f_X9_group f_X10_groupBy
  rw [e_isKN, c_some, b01_t hp, if_neg n10, if_neg (by rw [i_lt, t_0]; omega), if_pos (by rw [i_le, t_1]; omega), E2, c_some]
  by_cases e : p = -1
  · rw [if_pos e, if_pos e, V.1.st, v_some, if_pos e, g33]
    exact ⟨_, h, m2, rfl, rfl, V2⟩
  rw [if_neg e, if_neg e]
  obtain ⟨k, hk, rfl⟩ := kn_of hp e
  simp only [ix_n hk (show 48 ≤ 1000 by omega), if_true, n_cl (show k < 2147483648 by omega), F2.1 5 (by decide), ← (V.1.rb k hk).1]
  by_cases ct : h.1 4 k = 0
  · rw [if_pos ct, if_pos ct]
    exact ⟨_, h, m2, rfl, rfl, V2⟩
  obtain ⟨r, hr, rfl⟩ := there_of hT hk ct
  have hgl := gi_lt hQ hr (Nat.le_refl n)
  have g2 := g35 _ hgl
  rw [if_neg ct, if_neg ct, V.1.st, v_some, if_neg e, l_let, g34 r hr, m_groupOf V2.mv hr hK.2.2 (by rw [F2.1 13 (by decide)]; exact (V.2.2.1 trivial).2 r hr) g, c_some]
  simp only [ix_n (show gi (fC h K) (tC h K) r < 48 by omega) (show 48 ≤ 1000 by omega), if_true, n_cl (show gi (fC h K) (tC h K) r < 2147483648 by omega), g2.1, g2.2]
  by_cases cw : w = 0
  · rw [if_pos cw, if_pos cw]
    exact ⟨_, h, m2, rfl, rfl, V2⟩
  · rw [if_neg cw, if_neg cw]
    exact ⟨_, h, m2, rfl, rfl, V2⟩
theorem by_ranked {m0 h m : hp_T} {T : Prop} {n r : Nat} {K : Nat → Nat} (V : VR m0 True T n K h m) (hr : r < 48) : stp (VR m0 True T n K) (f_X9_ranked (nI r) h) (f_X10_keyAt (nI r) m) := by
  rw [c_ranked V.1.2.2.1 hr, m_keyAt V.mv hr]
  exact ⟨_, h, m, rfl, rfl, V⟩
theorem by_meets {m0 h m : hp_T} {T : Prop} {n : Nat} {K : Nat → Nat} {a b i : Int32} (V : VR m0 True T n K h m) (c : vld a b) (hp : kn i) : stp (VR m0 True T n K) (f_X9_meets a b i h) (f_X10_meetsBy a b i m) := by
  have hC := V.1.2.2.1
  unfold f_X9_meets
  rw [e_isStretch, c_some, b01_t c, if_neg n10, e_isKN, c_some, b01_t hp, if_neg n10, m_meetsBy V.mv]
  by_cases e : i = -1
  · rw [if_pos e, if_pos e, c_meeting hC, c_some]
    exact ⟨_, h, m, rfl, rfl, V⟩
  · rw [if_neg e, if_neg e, c_meetingAt hC, c_some]
    exact ⟨_, h, m, rfl, rfl, V⟩
theorem by_looks {m0 h m : hp_T} {n : Nat} {K : Nat → Nat} {a b : Int32} (V : VR m0 True True n K h m) (c : vld a b) : stp (VR m0 True True n K) (f_X9_looks a b h) (f_X10_looksAt a b m) := by
  obtain ⟨R, hI, hC, hQ, hK, hw, hT, ⟨dT, dG, dR, dK, dP, dM⟩, h9⟩ := V.1
  obtain ⟨m2, E2, F2⟩ := m_looksAt (a := a) (b := b) V.mv V.1.wi (V.2.2.2 trivial)
  obtain ⟨h2, E1, F1⟩ := c_looked (a := a) (b := b) hw hK hC hT dT
  unfold f_X9_looks
  rw [e_isStretch, c_some, b01_t c, if_neg n10, V.1.st, v_some, E1, c_some, E2]
  exact ⟨_, h2, m2, rfl, rfl, (V.h F1).fr (F2.mono (by decide))⟩
