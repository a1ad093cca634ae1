/-! move, undo -/
theorem lg_sum (a b : Int32) : (a.toInt64 + b.toInt64).toInt = a.toInt + b.toInt := by
  have h1 := i_rng a
  have h2 := i_rng b
  rw [Int64.toInt_add, x_l, x_l]
  exact Int.bmod_eq_of_le (by omega) (by omega)
theorem lg_cut (a b : Int32) : (a.toInt64 + b.toInt64).toInt32 = a + b := by
  rw [Int64.toInt32_add, Int32.toInt32_toInt64, Int32.toInt32_toInt64]
theorem lc_le {x y : Int64} : lg_cmp x y ≤ 0 ↔ x.toInt ≤ y.toInt := by
  rw [lg_cmp_le, Int64.le_iff_toInt_le]
theorem t64_lo : (-1000000000 : Int64).toInt = -1000000000 := by decide
theorem t64_hi : (1000000000 : Int64).toInt = 1000000000 := by decide
theorem move_ok {Der : hp_T → Nat → (Nat → Nat) → Prop} {h m : hp_T} {p by_ : Int32} (R : RelD Der h m) : stp (RelD Der) (f_X9_move p by_ h) (f_X10_move p by_ m) := by
  unfold f_X9_move f_X10_move
  by_cases cp : 0 ≤ p.toInt ∧ p.toInt ≤ 47
  case neg =>
    rw [(c_isKey (h := h)).2 cp, (m_isKey (h := m)).2 cp, c_some, c_some, if_pos p00, if_pos p00]
    exact ⟨_, h, m, rfl, rfl, R⟩
  rw [(c_isKey (h := h)).1 cp, (m_isKey (h := m)).1 cp, c_some, c_some, if_neg n10, if_neg n10]
  obtain ⟨k, hk, rfl⟩ := key_of cp
  simp only [ix_n hk (show 48 ≤ 1000 by omega), if_true, n_cl (show k < 2147483648 by omega), l_let]
  obtain ⟨n, K, hI, hn8, hB, hrest⟩ := id R
  have Bk := hB k hk
  rw [← Bk.1, ← Bk.2.1, ← Bk.2.2.1]
  by_cases ct : h.1 4 k = 0
  · rw [if_pos ct, if_pos ct]
    exact ⟨_, h, m, rfl, rfl, R⟩
  have ct1 : h.1 4 k = 1 := Bk.2.2.2.1.resolve_left ct
  rw [if_neg ct, if_neg ct]
  by_cases c1 : lg_cmp ((h.1 2 k).toInt64 + by_.toInt64) (-1000000000) < 0
  · rw [if_pos c1, if_pos c1]
    exact ⟨_, h, m, rfl, rfl, R⟩
  rw [if_neg c1, if_neg c1]
  by_cases c2 : lg_cmp ((h.1 3 k).toInt64 + by_.toInt64) 1000000000 ≤ 0
  case neg =>
    rw [if_neg c2, if_neg c2]
    exact ⟨_, h, m, rfl, rfl, R⟩
  rw [if_pos c2, if_pos c2, lg_cut, lg_cut]
  rw [lc_lt, lg_sum, t64_lo] at c1
  rw [lc_le, lg_sum, t64_hi] at c2
  have V := Bk.2.2.2.2 ct1
  have cv : vld (h.1 2 k + by_) (h.1 3 k + by_) := by
    unfold vld at *
    rw [i_add (by omega) (by omega), i_add (by omega) (by omega)]
    omega
  obtain ⟨d0, nx0, hd0, -, -, -, c90, -⟩ := hrest.1
  obtain ⟨m1, e2, E1, he, fF, f0, f9, f8, fy, ff, ft, fs⟩ := m_rem (m := m) (kind := 2) hk hd0 c90
  rw [E1, v_some, fF.1 6 (by decide), ← Bk.2.1]
  rw [hw_ne m1 (k := 6) (z := 7) _ _ (by decide), fF.1 7 (by decide), ← Bk.2.2.1]
  obtain ⟨m2, em⟩ : ∃ m2, m2 = hw (hw m1 6 k (h.1 2 k + by_)) 7 k (h.1 3 k + by_) := ⟨_, rfl⟩
  rw [← em]
  have aF : Fr [6, 7] m1 m2 := by rw [em]; exact (Fr.rf.hw (by decide)).hw (by decide)
  obtain ⟨h2, E, R2, en⟩ := chg_rel (m2 := m2) (k := k) (t := 1) (a := h.1 2 k + by_) (b := h.1 3 k + by_) (kind := 2) R hk (Or.inr rfl) (fun _ => cv) (fun d hd hd9 => by
      have : d = d0 := n_inj (by omega) (by omega) (hd9.symm.trans c90)
      subst this
      refine ⟨e2, m.1 6 k, m.1 7 k, he, by rw [aF.1 0 (by decide)]; exact f9, ?_, ?_, ?_, ?_, fun i hi => ?_, Or.inr ⟨Or.inr ⟨rfl, rfl⟩, ct1, rfl, rfl⟩⟩
      · rw [aF.1 8 (by decide)]; exact f8
      · rw [aF.1 9 (by decide)]; exact fy
      · rw [aF.1 10 (by decide)]; exact ff
      · rw [aF.1 11 (by decide)]; exact ft
      · rw [aF.1 8 (by decide), aF.1 9 (by decide), aF.1 10 (by decide), aF.1 11 (by decide)]
        exact fs i hi)
    (by rw [aF.1 5 (by decide), fF.1 5 (by decide), up_id (by rw [← Bk.1]; exact ct1)]) ⟨fun _ => ⟨by rw [em, hw_ne _ _ _ (by decide), hw_at, fF.1 6 (by decide)], by rw [em, hw_at, hw_ne _ _ _ (by decide), fF.1 7 (by decide)]⟩, fun q => absurd q (by decide)⟩ ⟨by rw [aF.1 1 (by decide), fF.1 1 (by decide)], by rw [aF.1 2 (by decide), fF.1 2 (by decide)], by rw [aF.1 3 (by decide), fF.1 3 (by decide)]⟩ (by rw [aF.1 0 (by decide), f0 4 (by decide)])
    (fun n n2 h8 hq => by
      rw [ct1] at hq
      simp at hq
      rw [aF.1 0 (by decide), f0 8 (by decide), h8, hq])
  rw [E, v_some]
  exact ⟨_, h2, m2, rfl, rfl, R2⟩
theorem c_take {h : hp_T} {d nx : Nat} (hn : nx < 64) (hd : d < 64) (h4 : h.1 7 4 = nI nx) (h5 : h.1 7 5 = nI (d + 1)) : ∃ h2, f_X0_takeLast h = some (nI ((nx + 63) % 64), h2) ∧ Fr [7] h h2 ∧ h2.1 7 4 = nI ((nx + 63) % 64) ∧ h2.1 7 5 = nI d := by
  unfold f_X0_takeLast
  rw [h4]
  have fin : ∀ (x : Int32) (y : Nat), x = nI y → y = (nx + 63) % 64 → ∃ h2, some ((hw (hw h 7 4 x) 7 5 ((hw h 7 4 x).1 7 5 - 1)).1 7 4, hw (hw h 7 4 x) 7 5 ((hw h 7 4 x).1 7 5 - 1)) = some (nI ((nx + 63) % 64), h2) ∧ Fr [7] h h2 ∧ h2.1 7 4 = nI ((nx + 63) % 64) ∧ h2.1 7 5 = nI d := by
    intro x y ex ey
    have e4 : (hw (hw h 7 4 x) 7 5 ((hw h 7 4 x).1 7 5 - 1)).1 7 4 = nI ((nx + 63) % 64) := by rw [hw_n _ _ _ _ (Or.inr (by decide)), hw_s, ex, ey]
    refine ⟨_, by rw [e4], (Fr.rf.hw (by decide)).hw (by decide), e4, ?_⟩
    rw [hw_s, hw_n _ _ _ _ (Or.inr (by decide)), h5]
    exact nI_pred d
  by_cases c : nx = 0
  · rw [if_pos (by rw [i_le, n_int (by omega), t_0]; omega), l_let, l_let]
    exact fin 63 63 rfl (by omega)
  · rw [if_neg (by rw [i_le, n_int (by omega), t_0]; omega), l_let, l_let, n_pred (by omega)]
    exact fin _ _ rfl (by omega)
theorem undo_ok {Der : hp_T → Nat → (Nat → Nat) → Prop} {h m : hp_T} (R : RelD Der h m) : stp (RelD Der) (f_X9_undo h) (f_X10_undo m) := by
  obtain ⟨n, K, hI, hn8, hB, ⟨d, nx, hd, hnx, c4, c5, c9, hE, P, p1, p2⟩, hS, hf, hw0, hst⟩ := id R
  unfold f_X9_undo f_X10_undo
  rw [c5, c9]
  rcases Nat.eq_zero_or_pos d with c | c
  · subst c
    rw [if_pos (by rfl), if_pos (by rfl)]
    exact ⟨_, h, m, rfl, rfl, R⟩
  obtain ⟨e, rfl⟩ : ∃ e, d = e + 1 := ⟨d - 1, by omega⟩
  have z0 : ¬ nI (e + 1) = 0 := by rw [i_eq, n_int (by omega), t_0]; omega
  rw [if_neg z0, if_neg z0]
  obtain ⟨g, Eg, gF, g4, g5⟩ := c_take (h := h) hnx (by omega) c4 c5
  rw [Eg, c_some]
  have is := ix_n (j := (nx + 63) % 64) (n := 64) (by omega) (by omega)
  have cs : (nI ((nx + 63) % 64)).toNatClampNeg = (nx + 63) % 64 := n_cl (by omega)
  have ie := ix_n (j := e) (n := 64) (by omega) (by omega)
  have ce : (nI e).toNatClampNeg = e := n_cl (by omega)
  obtain ⟨k, hk, k1, k2, kd⟩ := hE e (by omega)
  rw [show (nx + 64 - (e + 1) + e) % 64 = (nx + 63) % 64 by omega] at k1 kd
  obtain ⟨q1, q2, q3⟩ := p2 e (by omega) k hk k2
  rw [p1 k hk] at q1
  have Bk := hB k hk
  have gI : SpI g n K := hI.cg fun z z1 z2 => gF.1 z (by simp; omega)
  have ge4 : g.1 4 = h.1 4 := gF.1 4 (by decide)
  obtain ⟨m1, em1⟩ : ∃ m1, m1 = hw m 0 9 (nI (e + 1) - 1) := ⟨_, rfl⟩
  have F1 : Fr [0] m m1 := by rw [em1]; exact Fr.rf.hw (by decide)
  have m19 : m1.1 0 9 = nI e := by rw [em1, hw_s]; exact nI_pred e
  have m10 : ∀ i, i ≠ 9 → m1.1 0 i = m.1 0 i := fun i hi => by rw [em1, hw_n _ _ _ _ (Or.inr hi)]
  have f8 : m1.1 8 = m.1 8 := F1.1 8 (by decide)
  have f9 : m1.1 9 = m.1 9 := F1.1 9 (by decide)
  have f10 : m1.1 10 = m.1 10 := F1.1 10 (by decide)
  have f11 : m1.1 11 = m.1 11 := F1.1 11 (by decide)
  simp only [is, if_true, cs, l_let, ← em1, m19, ie, ce, gF.1 8 (by decide), gF.1 9 (by decide), gF.1 10 (by decide), gF.1 11 (by decide), k1, f8, f9, f10, f11, k2]
  -- the end, for a target t and the reference's heap behind it
  have fin : ∀ (t : Int32) (m2 : hp_T), (t = 0 ∨ t = 1) → t = (if m.1 8 e = 0 then 0 else 1) → h.1 9 ((nx + 63) % 64) = t → (t = 1 → h.1 10 ((nx + 63) % 64) = m.1 10 e ∧ h.1 11 ((nx + 63) % 64) = m.1 11 e ∧ vld (m.1 10 e) (m.1 11 e)) → Fr [0, 5, 6, 7] m1 m2 → (∀ i, i ≠ 8 → m2.1 0 i = m1.1 0 i) → m2.1 5 = upd (m.1 5) k t → ((t = 1 → m2.1 6 = upd (m.1 6) k (m.1 10 e) ∧ m2.1 7 = upd (m.1 7) k (m.1 11 e)) ∧ (t = 0 → m2.1 6 = m.1 6 ∧ m2.1 7 = m.1 7)) → (∀ n2 : Nat, n2 + (if h.1 4 k = 1 then 1 else 0) = n + (if t = 1 then 1 else 0) → m2.1 0 8 = nI n2) → stp (RelD Der) (o_cv (f_X9_setSpan (nI k) (h.1 9 ((nx + 63) % 64)) (h.1 10 ((nx + 63) % 64)) (h.1 11 ((nx + 63) % 64)) g) fun h9 => some (h9.1 7 5, h9)) (some (m2.1 0 9, m2)) := by
    intro t m2 ht tq e9 e1011 F2 m20 m25 m67 m28
    rw [e9]
    obtain ⟨h2, n2, K2, E2, s1, s2, s3, s4, s5, s6, s7, s8⟩ := c_setSpan (a := h.1 10 ((nx + 63) % 64)) (b := h.1 11 ((nx + 63) % 64)) gI hk (by rw [ge4]; exact Bk.2.2.2.1) ht
    rw [E2, v_some]
    rw [ge4] at s2 s8
    rw [gF.1 2 (by decide), gF.1 3 (by decide)] at s3 s4
    have r7 : h2.1 7 5 = nI e := by rw [s5.1 7 (by decide)]; exact g5
    have r9 : m2.1 0 9 = nI e := by rw [m20 9 (by decide)]; exact m19
    refine ⟨nI e, h2, m2, by rw [r7], by rw [r9], n2, K2, s1, m28 n2 s8, fun z hz => ?_, ?_, ?_, ?_, ?_, Or.inr s7⟩
    · have Bz := hB z hz
      rw [s2, m25]
      by_cases ez : z = k
      · subst ez
        rw [up_s, up_s]
        rcases ht with rfl | rfl
        · rw [(s4 rfl).1, (s4 rfl).2, (m67.2 rfl).1, (m67.2 rfl).2]
          exact ⟨rfl, Bz.2.1, Bz.2.2.1, Or.inl rfl, fun q => absurd q (by decide)⟩
        · obtain ⟨w1, w2, w3⟩ := e1011 rfl
          rw [(s3 rfl).1, (s3 rfl).2, (m67.1 rfl).1, (m67.1 rfl).2, up_s, up_s, up_s, up_s, w1, w2]
          exact ⟨rfl, rfl, rfl, Or.inr rfl, fun _ => w3⟩
      · rw [up_n _ _ ez, up_n _ _ ez]
        rcases ht with rfl | rfl
        · rw [(s4 rfl).1, (s4 rfl).2, (m67.2 rfl).1, (m67.2 rfl).2]
          exact Bz
        · rw [(s3 rfl).1, (s3 rfl).2, (m67.1 rfl).1, (m67.1 rfl).2, up_n _ _ ez, up_n _ _ ez, up_n _ _ ez, up_n _ _ ez]
          exact Bz
    · refine ⟨e, (nx + 63) % 64, by omega, by omega, by rw [s5.1 7 (by decide)]; exact g4, r7, r9, fun i hi => ?_, P, fun z hz => ?_, fun i hi z hz hzk => ?_⟩
      · have := hE i (by omega)
        rw [show ((nx + 63) % 64 + 64 - e + i) % 64 = (nx + 64 - (e + 1) + i) % 64 by omega]
        unfold Ent at *
        rw [s5.1 8 (by decide), s5.1 9 (by decide), s5.1 10 (by decide), s5.1 11 (by decide), gF.1 8 (by decide), gF.1 9 (by decide), gF.1 10 (by decide), gF.1 11 (by decide), F2.1 8 (by decide), F2.1 9 (by decide), F2.1 10 (by decide), F2.1 11 (by decide), f8, f9, f10, f11]
        exact this
      · rw [m25]
        by_cases ez : z = k
        · subst ez; rw [up_s, q2, tq]
        · rw [up_n _ _ ez, q3 z hz ez, p1 z hz]
      · rw [F2.1 9 (by decide), f9] at hzk
        rw [F2.1 8 (by decide), f8]
        exact p2 i (by omega) z hz hzk
    · exact hS.cg (fun j hj => by rw [s5.1 (38 + j) (by simp; omega), gF.1 (38 + j) (by simp; omega)]) ⟨by rw [F2.1 1 (by decide), F1.1 1 (by decide)], by rw [F2.1 2 (by decide), F1.1 2 (by decide)], by rw [F2.1 3 (by decide), F1.1 3 (by decide)]⟩
    · rw [s6 10 (by decide), gF.1 0 (by decide), hf, m20 4 (by decide), m10 4 (by decide)]
    · rw [s5.1 13 (by decide), gF.1 13 (by decide)]; exact hw0
  rcases kd with ⟨d1, d2⟩ | ⟨d1, d2, d3, d4, d5⟩
  · rw [if_pos d1]
    rw [d1, if_neg (by decide)] at q1
    obtain ⟨m2, E2, a5, a8, a0, aF⟩ := m_leaves (m := m1) hk
    rw [E2, v_some]
    refine fin 0 m2 (Or.inl rfl) (by rw [d1]; rfl) d2 (fun q => absurd q (by decide)) (aF.mono (by decide)) a0 (by rw [a5, F1.1 5 (by decide)]) ⟨fun q => absurd q (by decide), fun _ => ⟨by rw [aF.1 6 (by decide), F1.1 6 (by decide)], by rw [aF.1 7 (by decide), F1.1 7 (by decide)]⟩⟩ (fun n2 hq => ?_)
    rw [Bk.1, q1] at hq
    simp at hq
    rw [a8, m10 8 (by decide), hn8, ← hq]
    exact nI_pred n2
  · rcases d1 with d1 | d1
    · rw [d1, if_neg n10, if_pos (show (1 : Int32) = 1 from rfl)]
      rw [d1, if_pos rfl] at q1
      obtain ⟨m2, E2, a5, a6, a7, a8, a0, aF⟩ := m_comes (m := m1) (a := m.1 10 e) (b := m.1 11 e) hk
      rw [E2, v_some]
      refine fin 1 m2 (Or.inr rfl) (by rw [d1]; rfl) d2 (fun _ => ⟨d3, d4, d5⟩) aF a0 (by rw [a5, F1.1 5 (by decide)]) ⟨fun _ => ⟨by rw [a6, F1.1 6 (by decide)], by rw [a7, F1.1 7 (by decide)]⟩, fun q => absurd q (by decide)⟩ (fun n2 hq => ?_)
      rw [Bk.1, q1] at hq
      simp at hq
      rw [a8, m10 8 (by decide), hn8, hq]
      exact nI_1 n
    · rw [d1, if_neg (show ¬ (2 : Int32) = 0 by decide), if_neg (show ¬ (2 : Int32) = 1 by decide)]
      rw [d1, if_neg (by decide)] at q1
      have ik := ix_n hk (show 48 ≤ 1000 by omega)
      have ck : (nI k).toNatClampNeg = k := n_cl (by omega)
      simp only [ik, if_true, ck, hw_ne _ _ _ (show (0 : Nat) ≠ 6 by decide), m19, ie, ce, hw_ne _ _ _ (show (11 : Nat) ≠ 6 by decide), f11, hw_ne _ _ _ (show (0 : Nat) ≠ 7 by decide)]
      obtain ⟨m2, em2⟩ : ∃ m2, m2 = hw (hw m1 6 k (m.1 10 e)) 7 k (m.1 11 e) := ⟨_, rfl⟩
      rw [← em2]
      have aF : Fr [6, 7] m1 m2 := by rw [em2]; exact (Fr.rf.hw (by decide)).hw (by decide)
      have r9 : m2.1 0 9 = nI e := by rw [aF.1 0 (by decide)]; exact m19
      rw [← r9]
      refine fin 1 m2 (Or.inr rfl) (by rw [d1]; rfl) d2 (fun _ => ⟨d3, d4, d5⟩) (aF.mono (by decide)) (fun i _ => by rw [aF.1 0 (by decide)]) (by rw [aF.1 5 (by decide), F1.1 5 (by decide), up_id q1]) ⟨fun _ => ⟨by rw [em2, hw_ne _ _ _ (by decide), hw_at, F1.1 6 (by decide)], by rw [em2, hw_at, hw_ne _ _ _ (by decide), F1.1 7 (by decide)]⟩, fun q => absurd q (by decide)⟩ (fun n2 hq => ?_)
      rw [Bk.1, q1] at hq
      simp at hq
      rw [aF.1 0 (by decide), m10 8 (by decide), hn8, hq]
