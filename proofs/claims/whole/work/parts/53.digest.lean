/-! the digest: the same answers, mixed in the same order -/
theorem drun {ρ : Type} {R : hp_T → hp_T → Prop} {Lc Lm : (Int64 → Int32 → hp_T → Option ρ) → Nat → Int64 → Int32 → hp_T → Option ρ} {E : Nat} {c : Nat → Int32}
    (hs : ∀ v x h m, v < E → R h m → ∃ x2 h2 m2, R h2 m2 ∧ (∀ K N, Lc K (N + 1) x (c v) h = Lc K N x2 (c (v + 1)) h2) ∧ (∀ K N, Lm K (N + 1) x (c v) m = Lm K N x2 (c (v + 1)) m2))
    (he : ∀ K N x h, Lc K (N + 1) x (c E) h = K x (c E) h) (hm : ∀ K N x h, Lm K (N + 1) x (c E) h = K x (c E) h) :
    ∀ d v N x h m, v + d = E → d < N → R h m → ∃ x2 h2 m2, R h2 m2 ∧ (∀ K, Lc K N x (c v) h = K x2 (c E) h2) ∧ (∀ K, Lm K N x (c v) m = K x2 (c E) m2) := by
  intro d
  induction d with
  | zero =>
    intro v N x h m hv hN hR
    obtain ⟨N, rfl⟩ : ∃ k, N = k + 1 := ⟨N - 1, by omega⟩
    have e : v = E := by omega
    rw [e]
    exact ⟨x, h, m, hR, fun K => he K N x h, fun K => hm K N x m⟩
  | succ d ih =>
    intro v N x h m hv hN hR
    obtain ⟨N, rfl⟩ : ∃ k, N = k + 1 := ⟨N - 1, by omega⟩
    obtain ⟨x2, h2, m2, R2, e1, e2⟩ := hs v x h m (by omega) hR
    obtain ⟨x3, h3, m3, R3, f1, f2⟩ := ih (v + 1) N x2 h2 m2 (by omega) (by omega) R2
    exact ⟨x3, h3, m3, R3, fun K => (e1 K N).trans (f1 K), fun K => (e2 K N).trans (f2 K)⟩
theorem mix_e {p q : Int64} {h : hp_T} : f_X9_mixed p q h = some (31 * p + q, h) := rfl
theorem t_7 : (7 : Int32).toInt = 7 := by decide
theorem t_8 : (8 : Int32).toInt = 8 := by decide
theorem t_6 : (6 : Int32).toInt = 6 := by decide
theorem t_3 : (3 : Int32).toInt = 3 := by decide
theorem t_30 : (30 : Int32).toInt = 30 := by decide
theorem t_31 : (31 : Int32).toInt = 31 := by decide
theorem dg_1 {m0 h m : hp_T} {n : Nat} {K : Nat → Nat} {x : Int64} (V : VR m0 False False n K h m) : ∃ x2 h2 m2, VR m0 False False n K h2 m2 ∧ (∀ Kc, f_X9_digest_L1 Kc 100 x 0 h = Kc x2 (nI 8) h2) ∧ (∀ Kc, f_X10_digest_L1 Kc 100 x 0 m = Kc x2 (nI 8) m2) := by
  have key := drun (R := VR m0 False False n K) (Lc := f_X9_digest_L1) (Lm := f_X10_digest_L1) (E := 8) (c := nI) ?_ ?_ ?_ 8 0 100 x h m rfl (by omega) V
  · exact key
  · intro v x h m hv hR
    obtain ⟨r, h2, m2, e1, e2, V2⟩ := q_count (w := nI v) hR
    refine ⟨31 * x + r.toInt64, h2, m2, V2.dn, fun Kc N => ?_, fun Kc N => ?_⟩
    · rw [f_X9_digest_L1, if_neg (by rw [i_lt, n_int (by omega), t_7]; omega), e1, c_some, mix_e, c_some, l_let, nI_1]
    · rw [f_X10_digest_L1, if_neg (by rw [i_le, n_int (by omega), t_8]; omega), e2, c_some, l_let, l_let, nI_1]
  · intro Kc N x h
    rw [f_X9_digest_L1, if_pos (by decide)]
  · intro Kc N x h
    rw [f_X10_digest_L1, if_pos (by decide)]
theorem q_span {m0 h m : hp_T} {O T : Prop} {n : Nat} {K : Nat → Nat} {p w : Int32} (V : VR m0 O T n K h m) : stp (VR m0 O T n K) (f_X9_span p w h) (f_X10_span p w m) := by
  unfold f_X9_span f_X10_span f_X9_isThere f_X10_has
  rw [e_isKey, d_isKey, c_some, c_some]
  by_cases cp : kb p
  case neg =>
    rw [b01_f cp, if_pos p00, if_pos p00, c_some, c_some, if_pos p00, if_pos p00]
    exact ⟨_, h, m, rfl, rfl, V⟩
  rw [b01_t cp, if_neg n10, if_neg n10]
  obtain ⟨k, hk, rfl⟩ := key_of cp
  simp only [ix_n hk (show 48 ≤ 1000 by omega), if_true, n_cl (show k < 2147483648 by omega)]
  have Bk := V.1.rb k hk
  rw [← Bk.1]
  by_cases ct : h.1 4 k = 0
  · rw [if_pos ct, if_pos ct, c_some, c_some, if_pos p00, if_pos p00]
    exact ⟨_, h, m, rfl, rfl, V⟩
  rw [if_neg ct, if_neg ct, c_some, c_some, if_neg n10, if_neg n10, d_isTwo, c_some]
  by_cases c1 : w < 0
  · rw [if_pos c1]
    rw [i_lt, t_0] at c1
    rw [b01_f (by omega), if_pos p00]
    exact ⟨_, h, m, rfl, rfl, V⟩
  rw [if_neg c1]
  by_cases c2 : w ≤ 1
  case neg =>
    rw [if_neg c2]
    rw [i_le, t_1] at c2
    rw [b01_f (by omega), if_pos p00]
    exact ⟨_, h, m, rfl, rfl, V⟩
  rw [if_pos c2]
  rw [i_lt, t_0] at c1
  rw [i_le, t_1] at c2
  rw [b01_t (by omega), if_neg n10, ← Bk.2.1, ← Bk.2.2.1]
  by_cases c3 : w = 0
  · rw [if_pos c3, if_pos c3]; exact ⟨_, h, m, rfl, rfl, V⟩
  · rw [if_neg c3, if_neg c3]; exact ⟨_, h, m, rfl, rfl, V⟩
theorem q_rank {m0 h m : hp_T} {O T : Prop} {n : Nat} {K : Nat → Nat} {p : Int32} (V : VR m0 O T n K h m) : stp (VR m0 True T n K) (f_X9_rank p h) (f_X10_rank p m) := by
  obtain ⟨m1, E, V1⟩ := V.ord
  obtain ⟨R, hI, hC, hQ, hK, hw, hT, -, h9⟩ := V1.1
  unfold f_X9_rank f_X10_rank
  rw [E, v_some, e_isKey, d_isKey, c_some, c_some]
  by_cases cp : kb p
  case neg =>
    rw [b01_f cp, if_pos p00, if_pos p00]
    exact ⟨_, h, m1, rfl, rfl, V1⟩
  rw [b01_t cp, if_neg n10, if_neg n10]
  obtain ⟨k, hk, rfl⟩ := key_of cp
  simp only [ix_n hk (show 48 ≤ 1000 by omega), if_true, n_cl (show k < 2147483648 by omega), ← (V1.1.rb k hk).1]
  by_cases ct : h.1 4 k = 0
  · rw [if_pos ct, if_pos ct]
    exact ⟨_, h, m1, rfl, rfl, V1⟩
  obtain ⟨r, hr, rfl⟩ := there_of hT hk ct
  rw [if_neg ct, if_neg ct, hI.2.2.2 r hr, (V1.2.2.1 trivial).2 r hr]
  exact ⟨_, h, m1, rfl, rfl, V1⟩
theorem q_holds {m0 h m : hp_T} {O T : Prop} {n : Nat} {K : Nat → Nat} {a i : Int32} (V : VR m0 O T n K h m) : stp (VR m0 True T n K) (f_X9_holds a i h) (f_X10_holds a i m) := by
  obtain ⟨m1, E, V1⟩ := V.ord
  have hC := V1.1.2.2.1
  unfold f_X9_holds f_X10_holds
  rw [E, v_some, e_isPoint, d_isPoint, c_some, c_some]
  by_cases cv : pnt a
  case neg =>
    rw [b01_f cv, if_pos p00, if_pos p00]
    exact ⟨_, h, m1, rfl, rfl, V1⟩
  rw [b01_t cv, if_neg n10, if_neg n10]
  by_cases ci : kn i
  case neg =>
    rw [(c_isKN (h := h)).2 ci, (m_in47 (m := m1)).2 ci, c_some, c_some, if_pos p00, if_pos p00]
    exact ⟨_, h, m1, rfl, rfl, V1⟩
  rw [(c_isKN (h := h)).1 ci, (m_in47 (m := m1)).1 ci, c_some, c_some, if_neg n10, if_neg n10, m_meetsBy V1.mv, c_some]
  by_cases e : i = -1
  · rw [if_pos e, if_pos e, c_meeting hC, c_some]
    exact ⟨_, h, m1, rfl, rfl, V1⟩
  · rw [if_neg e, if_neg e, c_meetingAt hC, c_some]
    exact ⟨_, h, m1, rfl, rfl, V1⟩
theorem dk_1 {m0 h m : hp_T} {n : Nat} {K : Nat → Nat} {x : Int64} {p : Int32} (V : VR m0 True True n K h m) : ∃ x2 h2 m2, VR m0 True True n K h2 m2 ∧ (∀ Kc, f_X9_mixedKey_L1 p Kc 100 x 0 h = Kc x2 (nI 6) h2) ∧ (∀ Kc, f_X10_tellsKey_L1 p Kc 100 x 0 m = Kc x2 (nI 6) m2) := by
  have key := drun (R := VR m0 True True n K) (Lc := f_X9_mixedKey_L1 p) (Lm := f_X10_tellsKey_L1 p) (E := 6) (c := nI) ?_ ?_ ?_ 6 0 100 x h m rfl (by omega) V
  · exact key
  · intro v x h m hv hR
    obtain ⟨r, h2, m2, e1, e2, V2⟩ := q_tree (p := p) (w := nI v) hR
    refine ⟨31 * x + r.toInt64, h2, m2, V2, fun Kc N => ?_, fun Kc N => ?_⟩
    · rw [f_X9_mixedKey_L1, if_neg (by rw [i_lt, n_int (by omega), t_5]; omega), e1, c_some, mix_e, c_some, l_let, nI_1]
    · rw [f_X10_tellsKey_L1, if_neg (by rw [i_le, n_int (by omega), t_6]; omega), e2, c_some, l_let, l_let, nI_1]
  · intro Kc N x h
    rw [f_X9_mixedKey_L1, if_pos (by decide)]
  · intro Kc N x h
    rw [f_X10_tellsKey_L1, if_pos (by decide)]
theorem kn_n {k : Nat} (hk : k < 48) : kn (nI k) := by
  unfold kn
  rw [n_int (by omega)]
  omega
theorem dg_key {m0 h m : hp_T} {n k : Nat} {K : Nat → Nat} {x : Int64} (V : VR m0 True True n K h m) (hk : k < 48) : stp (VR m0 True True n K) (f_X9_mixedKey x (nI k) h) (f_X10_tellsKey x (nI k) m) := by
  unfold f_X9_mixedKey f_X10_tellsKey
  obtain ⟨r1, h1, m1, a1, b1, V1⟩ := q_span (p := nI k) (w := 0) V
  rw [a1, b1, c_some, c_some, mix_e, c_some, l_let]
  obtain ⟨r2, h2, m2, a2, b2, V2⟩ := q_span (p := nI k) (w := 1) V1
  rw [a2, b2, c_some, c_some, mix_e, c_some, l_let]
  obtain ⟨r3, h3, m3, a3, b3, V3⟩ := q_rank (p := nI k) V2
  rw [a3, b3, c_some, c_some, mix_e, c_some, l_let]
  obtain ⟨x4, h4, m4, V4, a4, b4⟩ := dk_1 (p := nI k) (x := 31 * (31 * (31 * x + r1.toInt64) + r2.toInt64) + r3.toInt64) V3
  rw [a4, b4]
  obtain ⟨r5, h5, m5, a5, b5, V5⟩ := qq_end (p := nI k) V4
  rw [a5, b5, c_some, c_some, mix_e, c_some, l_let]
  obtain ⟨r6, h6, m6, a6, b6, V6⟩ := by_room V5 (kn_n hk)
  rw [a6, b6, c_some, c_some, mix_e, c_some, l_let]
  obtain ⟨r7, h7, m7, a7, b7, V7⟩ := by_group V6 (kn_n hk) (w := 0) (by decide)
  rw [a7, b7, c_some, c_some, mix_e, c_some, l_let]
  obtain ⟨r8, h8, m8, a8, b8, V8⟩ := by_group V7 (kn_n hk) (w := 1) (by decide)
  rw [a8, b8, c_some, c_some, mix_e, c_some]
  exact ⟨_, h8, m8, rfl, rfl, V8⟩
theorem dp_1 {m0 h m : hp_T} {n : Nat} {K : Nat → Nat} {x : Int64} {p : Int32} (V : VR m0 True True n K h m) (hp : pnt p) : ∃ x2 h2 m2, VR m0 True True n K h2 m2 ∧ (∀ Kc, f_X9_mixedPoint_L1 p Kc 100 x 0 h = Kc x2 (nI 3) h2) ∧ (∀ Kc, f_X10_tellsPoint_L1 p Kc 100 x 0 m = Kc x2 (nI 3) m2) := by
  have key := drun (R := VR m0 True True n K) (Lc := f_X9_mixedPoint_L1 p) (Lm := f_X10_tellsPoint_L1 p) (E := 3) (c := nI) ?_ ?_ ?_ 3 0 100 x h m rfl (by omega) V
  · exact key
  · intro v x h m hv hR
    obtain ⟨r, h2, m2, e1, e2, V2⟩ := by_place (p := p) (z := 7) (w := nI v) hR hp (by decide) (by
      rcases (show v = 0 ∨ v = 1 ∨ v = 2 by omega) with rfl | rfl | rfl
      · exact Or.inl rfl
      · exact Or.inr (Or.inl rfl)
      · exact Or.inr (Or.inr rfl))
    refine ⟨31 * x + r.toInt64, h2, m2, V2, fun Kc N => ?_, fun Kc N => ?_⟩
    · rw [f_X9_mixedPoint_L1, if_neg (by rw [i_lt, n_int (by omega), t_2]; omega), e1, c_some, mix_e, c_some, l_let, nI_1]
    · rw [f_X10_tellsPoint_L1, if_neg (by rw [i_le, n_int (by omega), t_3]; omega), e2, c_some, l_let, l_let, nI_1]
  · intro Kc N x h
    rw [f_X9_mixedPoint_L1, if_pos (by decide)]
  · intro Kc N x h
    rw [f_X10_tellsPoint_L1, if_pos (by decide)]
theorem dg_point {m0 h m : hp_T} {n : Nat} {K : Nat → Nat} {x : Int64} {p : Int32} (V : VR m0 True True n K h m) (hp : pnt p) : stp (VR m0 True True n K) (f_X9_mixedPoint x p h) (f_X10_tellsPoint x p m) := by
  unfold f_X9_mixedPoint f_X10_tellsPoint
  obtain ⟨r1, h1, m1, a1, b1, V1⟩ := q_holds (a := p) (i := -1) V
  rw [a1, b1, c_some, c_some, mix_e, c_some, l_let]
  obtain ⟨r2, h2, m2, a2, b2, V2⟩ := q_holds (a := p) (i := 1) V1
  rw [a2, b2, c_some, c_some, mix_e, c_some, l_let]
  obtain ⟨x4, h4, m4, V4, a4, b4⟩ := dp_1 (p := p) (x := 31 * (31 * x + r1.toInt64) + r2.toInt64) V2 hp
  rw [a4, b4]
  exact ⟨_, h4, m4, rfl, rfl, V4⟩
theorem ds_1 {m0 h m : hp_T} {n : Nat} {K : Nat → Nat} {x : Int64} {a b : Int32} (V : VR m0 True True n K h m) (hv : vld a b) : ∃ x2 h2 m2, VR m0 True True n K h2 m2 ∧ (∀ Kc, f_X9_mixedStretch_L1 a b Kc 100 x 0 h = Kc x2 (nI 2) h2) ∧ (∀ Kc, f_X10_tellsStretch_L1 a b Kc 100 x 0 m = Kc x2 (nI 2) m2) := by
  have key := drun (R := VR m0 True True n K) (Lc := f_X9_mixedStretch_L1 a b) (Lm := f_X10_tellsStretch_L1 a b) (E := 2) (c := nI) ?_ ?_ ?_ 2 0 100 x h m rfl (by omega) V
  · exact key
  · intro v x h m hv2 hR
    obtain ⟨r, h2, m2, e1, e2, V2⟩ := by_free (i := v) (w := 0) hR hv (by omega) (by decide)
    obtain ⟨r3, h3, m3, e3, e4, V3⟩ := by_free (i := v) (w := 1) V2 hv (by omega) (by decide)
    refine ⟨31 * (31 * x + r.toInt64) + r3.toInt64, h3, m3, V3, fun Kc N => ?_, fun Kc N => ?_⟩
    · rw [f_X9_mixedStretch_L1, if_neg (by rw [i_lt, n_int (by omega), t_1]; omega), e1, c_some, mix_e, c_some, e3, c_some, mix_e, c_some, l_let, nI_1]
    · rw [f_X10_tellsStretch_L1, if_neg (by rw [i_le, n_int (by omega), t_2]; omega), e2, c_some, l_let, e4, c_some, l_let, l_let, nI_1]
  · intro Kc N x h
    rw [f_X9_mixedStretch_L1, if_pos (by decide)]
  · intro Kc N x h
    rw [f_X10_tellsStretch_L1, if_pos (by decide)]
theorem dg_stretch {m0 h m : hp_T} {n : Nat} {K : Nat → Nat} {x : Int64} {a b : Int32} (V : VR m0 True True n K h m) (hv : vld a b) : stp (VR m0 True True n K) (f_X9_mixedStretch x a b h) (f_X10_tellsStretch x a b m) := by
  unfold f_X9_mixedStretch f_X10_tellsStretch
  obtain ⟨r1, h1, m1, a1, b1, V1⟩ := by_looks V hv
  rw [a1, b1, c_some, c_some, mix_e, c_some, l_let]
  obtain ⟨r2, h2, m2, a2, b2, V2⟩ := by_meets (i := -1) V1 hv kn1
  rw [a2, b2, c_some, c_some, mix_e, c_some, l_let]
  obtain ⟨r3, h3, m3, a3, b3, V3⟩ := by_meets (i := 0) V2 hv (kn_n (k := 0) (by omega))
  rw [a3, b3, c_some, c_some, mix_e, c_some, l_let]
  obtain ⟨r4, h4, m4, a4, b4, V4⟩ := by_taken V3 hv
  rw [a4, b4, c_some, c_some, mix_e, c_some, l_let]
  obtain ⟨r5, h5, m5, a5, b5, V5⟩ := by_frees V4 hv
  rw [a5, b5, c_some, c_some, mix_e, c_some, l_let]
  obtain ⟨x6, h6, m6, V6, a6, b6⟩ := ds_1 (x := 31 * (31 * (31 * (31 * (31 * x + r1.toInt64) + r2.toInt64) + r3.toInt64) + r4.toInt64) + r5.toInt64) V5 hv
  rw [a6, b6]
  exact ⟨_, h6, m6, rfl, rfl, V6⟩
theorem dg_2 {m0 h m : hp_T} {n : Nat} {K : Nat → Nat} {x : Int64} (V : VR m0 True True n K h m) : ∃ x2 h2 m2, VR m0 True True n K h2 m2 ∧ (∀ Kc, f_X9_digest_L2 Kc 100 x 0 h = Kc x2 (nI 48) h2) ∧ (∀ Kc, f_X10_digest_L2 Kc 100 x 0 m = Kc x2 (nI 48) m2) := by
  have key := drun (R := VR m0 True True n K) (Lc := f_X9_digest_L2) (Lm := f_X10_digest_L2) (E := 48) (c := nI) ?_ ?_ ?_ 48 0 100 x h m rfl (by omega) V
  · exact key
  · intro v x h m hv hR
    obtain ⟨r, h2, m2, e1, e2, V2⟩ := dg_key (x := x) hR hv
    refine ⟨r, h2, m2, V2, fun Kc N => ?_, fun Kc N => ?_⟩
    · rw [f_X9_digest_L2, if_neg (by rw [i_le, n_int (by omega), t_48]; omega), e1, c_some, l_let, nI_1]
    · rw [f_X10_digest_L2, if_neg (by rw [i_le, n_int (by omega), t_48]; omega), e2, c_some, l_let, nI_1]
  · intro Kc N x h
    rw [f_X9_digest_L2, if_pos (by decide)]
  · intro Kc N x h
    rw [f_X10_digest_L2, if_pos (by decide)]
theorem dg_3 {m0 h m : hp_T} {n : Nat} {K : Nat → Nat} {x : Int64} (V : VR m0 True True n K h m) : ∃ x2 h2 m2, VR m0 True True n K h2 m2 ∧ (∀ Kc, f_X9_digest_L3 Kc 100 x 0 h = Kc x2 (nI 48) h2) ∧ (∀ Kc, f_X10_digest_L3 Kc 100 x 0 m = Kc x2 (nI 48) m2) := by
  have key := drun (R := VR m0 True True n K) (Lc := f_X9_digest_L3) (Lm := f_X10_digest_L3) (E := 48) (c := nI) ?_ ?_ ?_ 48 0 100 x h m rfl (by omega) V
  · exact key
  · intro v x h m hv hR
    obtain ⟨r, h2, m2, e1, e2, V2⟩ := by_ranked hR hv
    obtain ⟨r3, h3, m3, e3, e4, V3⟩ := by_keep V2 (kn_n hv)
    refine ⟨31 * (31 * x + r.toInt64) + r3.toInt64, h3, m3, V3, fun Kc N => ?_, fun Kc N => ?_⟩
    · rw [f_X9_digest_L3, if_neg (by rw [i_le, n_int (by omega), t_48]; omega), e1, c_some, mix_e, c_some, e3, c_some, mix_e, c_some, l_let, nI_1]
    · rw [f_X10_digest_L3, if_neg (by rw [i_le, n_int (by omega), t_48]; omega), e2, c_some, l_let, e4, c_some, l_let, l_let, nI_1]
  · intro Kc N x h
    rw [f_X9_digest_L3, if_pos (by decide)]
  · intro Kc N x h
    rw [f_X10_digest_L3, if_pos (by decide)]
theorem dg_5 {m0 h m : hp_T} {n q : Nat} {K : Nat → Nat} {x : Int64} (V : VR m0 True True n K h m) (hq : q < 31) : ∃ x2 h2 m2, VR m0 True True n K h2 m2 ∧ (∀ Kc, f_X9_digest_L5 (nI q) Kc 100 x 0 h = Kc x2 (nI 3) h2) ∧ (∀ Kc, f_X10_digest_L5 (nI q) Kc 100 x 0 m = Kc x2 (nI 3) m2) := by
  have key := drun (R := VR m0 True True n K) (Lc := f_X9_digest_L5 (nI q)) (Lm := f_X10_digest_L5 (nI q)) (E := 3) (c := nI) ?_ ?_ ?_ 3 0 100 x h m rfl (by omega) V
  · exact key
  · intro v x h m hv hR
    obtain ⟨r, h2, m2, e1, e2, V2⟩ := by_clash (q := q) (p := nI v) hR (by omega) (by rw [n_int (by omega)]; omega)
    refine ⟨31 * x + r.toInt64, h2, m2, V2, fun Kc N => ?_, fun Kc N => ?_⟩
    · rw [f_X9_digest_L5, if_neg (by rw [i_lt, n_int (by omega), t_2]; omega), e1, c_some, mix_e, c_some, l_let, nI_1]
    · rw [f_X10_digest_L5, if_neg (by rw [i_le, n_int (by omega), t_3]; omega), e2, c_some, l_let, l_let, nI_1]
  · intro Kc N x h
    rw [f_X9_digest_L5, if_pos (by decide)]
  · intro Kc N x h
    rw [f_X10_digest_L5, if_pos (by decide)]
theorem dg_4 {m0 h m : hp_T} {n : Nat} {K : Nat → Nat} {x : Int64} (V : VR m0 True True n K h m) : ∃ x2 h2 m2, VR m0 True True n K h2 m2 ∧ (∀ Kc, f_X9_digest_L4 Kc 100 x 0 h = Kc x2 (nI 31) h2) ∧ (∀ Kc, f_X10_digest_L4 Kc 100 x 0 m = Kc x2 (nI 31) m2) := by
  have key := drun (R := VR m0 True True n K) (Lc := f_X9_digest_L4) (Lm := f_X10_digest_L4) (E := 31) (c := nI) ?_ ?_ ?_ 31 0 100 x h m rfl (by omega) V
  · exact key
  · intro v x h m hv hR
    obtain ⟨x2, h2, m2, V2, e1, e2⟩ := dg_5 (x := x) hR hv
    refine ⟨x2, h2, m2, V2, fun Kc N => ?_, fun Kc N => ?_⟩
    · rw [f_X9_digest_L4, if_neg (by rw [i_lt, n_int (by omega), t_30]; omega), e1, l_let, nI_1]
    · rw [f_X10_digest_L4, if_neg (by rw [i_le, n_int (by omega), t_31]; omega), e2, l_let, nI_1]
  · intro Kc N x h
    rw [f_X9_digest_L4, if_pos (by decide)]
  · intro Kc N x h
    rw [f_X10_digest_L4, if_pos (by decide)]
def c6 (v : Nat) : Int32 := nI (20 * v) - 50
def c7 (v : Nat) : Int32 := nI (40 * v) - 60
theorem c6_i {v : Nat} (h : v ≤ 11) : (c6 v).toInt = 20 * (v : Int) - 50 := by
  unfold c6
  have e : (50 : Int32).toInt = 50 := by decide
  rw [i_sub (by rw [n_int (by omega), e]; omega) (by rw [n_int (by omega), e]; omega), n_int (by omega), e]
  omega
theorem c7_i {v : Nat} (h : v ≤ 4) : (c7 v).toInt = 40 * (v : Int) - 60 := by
  unfold c7
  have e : (60 : Int32).toInt = 60 := by decide
  rw [i_sub (by rw [n_int (by omega), e]; omega) (by rw [n_int (by omega), e]; omega), n_int (by omega), e]
  omega
theorem c6_s {v : Nat} (h : v < 11) : c6 v + 20 = c6 (v + 1) := by
  have e : (20 : Int32).toInt = 20 := by decide
  rw [i_eq, i_add (by rw [c6_i (by omega), e]; omega) (by rw [c6_i (by omega), e]; omega), c6_i (by omega), c6_i (by omega), e]
  omega
theorem c7_s {v : Nat} (h : v < 4) : c7 v + 40 = c7 (v + 1) := by
  have e : (40 : Int32).toInt = 40 := by decide
  rw [i_eq, i_add (by rw [c7_i (by omega), e]; omega) (by rw [c7_i (by omega), e]; omega), c7_i (by omega), c7_i (by omega), e]
  omega
theorem c6_0 : c6 0 = -50 := by decide
theorem c7_0 : c7 0 = -60 := by decide
theorem t_150 : (150 : Int32).toInt = 150 := by decide
theorem dg_6 {m0 h m : hp_T} {n : Nat} {K : Nat → Nat} {x : Int64} (V : VR m0 True True n K h m) : ∃ x2 h2 m2, VR m0 True True n K h2 m2 ∧ (∀ Kc, f_X9_digest_L6 Kc 100 x (-50) h = Kc x2 (c6 11) h2) ∧ (∀ Kc, f_X10_digest_L6 Kc 100 x (-50) m = Kc x2 (c6 11) m2) := by
  have key := drun (R := VR m0 True True n K) (Lc := f_X9_digest_L6) (Lm := f_X10_digest_L6) (E := 11) (c := c6) ?_ ?_ ?_ 11 0 100 x h m rfl (by omega) V
  · rw [c6_0] at key
    exact key
  · intro v x h m hv hR
    obtain ⟨r, h2, m2, e1, e2, V2⟩ := dg_point (x := x) (p := c6 v) hR (by unfold pnt; rw [c6_i (by omega)]; omega)
    refine ⟨r, h2, m2, V2, fun Kc N => ?_, fun Kc N => ?_⟩
    · rw [f_X9_digest_L6, if_neg (by rw [i_lt, c6_i (by omega), t_150]; omega), e1, c_some, l_let, c6_s hv]
    · rw [f_X10_digest_L6, if_neg (by rw [i_lt, c6_i (by omega), t_150]; omega), e2, c_some, l_let, c6_s hv]
  · intro Kc N x h
    rw [f_X9_digest_L6, if_pos (by rw [i_lt, c6_i (by omega), t_150]; omega)]
  · intro Kc N x h
    rw [f_X10_digest_L6, if_pos (by rw [i_lt, c6_i (by omega), t_150]; omega)]
theorem c7_v {v : Nat} (h : v < 4) : vld (c7 v) (c7 v + 90) := by
  have e : (90 : Int32).toInt = 90 := by decide
  unfold vld
  rw [i_add (by rw [c7_i (by omega), e]; omega) (by rw [c7_i (by omega), e]; omega), c7_i (by omega), e]
  omega
theorem dg_7 {m0 h m : hp_T} {n : Nat} {K : Nat → Nat} {x : Int64} (V : VR m0 True True n K h m) : ∃ x2 h2 m2, VR m0 True True n K h2 m2 ∧ (∀ Kc, f_X9_digest_L7 Kc 100 x (-60) h = Kc x2 (c7 4) h2) ∧ (∀ Kc, f_X10_digest_L7 Kc 100 x (-60) m = Kc x2 (c7 4) m2) := by
  have key := drun (R := VR m0 True True n K) (Lc := f_X9_digest_L7) (Lm := f_X10_digest_L7) (E := 4) (c := c7) ?_ ?_ ?_ 4 0 100 x h m rfl (by omega) V
  · rw [c7_0] at key
    exact key
  · intro v x h m hv hR
    obtain ⟨r, h2, m2, e1, e2, V2⟩ := dg_stretch (x := x) (a := c7 v) (b := c7 v + 90) hR (c7_v hv)
    refine ⟨r, h2, m2, V2, fun Kc N => ?_, fun Kc N => ?_⟩
    · rw [f_X9_digest_L7, if_neg (by rw [i_lt, c7_i (by omega), t_60]; omega), e1, c_some, l_let, c7_s hv]
    · rw [f_X10_digest_L7, if_neg (by rw [i_lt, c7_i (by omega), t_60]; omega), e2, c_some, l_let, c7_s hv]
  · intro Kc N x h
    rw [f_X9_digest_L7, if_pos (by rw [i_lt, c7_i (by omega), t_60]; omega)]
  · intro Kc N x h
    rw [f_X10_digest_L7, if_pos (by rw [i_lt, c7_i (by omega), t_60]; omega)]
theorem q_digest {m0 h m : hp_T} {n : Nat} {K : Nat → Nat} (V : VR m0 False False n K h m) : stp (VR m0 True True n K) (f_X9_digest h) (f_X10_digest m) := by
  unfold f_X9_digest f_X10_digest
  obtain ⟨x1, h1, m1, V1, a1, b1⟩ := dg_1 (x := 17) V
  rw [a1, b1]
  obtain ⟨r2, h2, m2, a2, b2, V2⟩ := q_root V1
  rw [a2, b2, c_some, c_some, mix_e, c_some, l_let]
  obtain ⟨r3, h3, m3, a3, b3, V3⟩ := by_point V2
  rw [a3, b3, c_some, c_some, mix_e, c_some, l_let]
  obtain ⟨r4, h4, m4, a4, b4, V4⟩ := by_alone V3
  rw [a4, b4, c_some, c_some, mix_e, c_some, l_let]
  obtain ⟨x5, h5, m5, V5, a5, b5⟩ := dg_2 (x := 31 * (31 * (31 * x1 + r2.toInt64) + r3.toInt64) + r4) V4
  rw [a5, b5]
  obtain ⟨x6, h6, m6, V6, a6, b6⟩ := dg_3 (x := x5) V5
  rw [a6, b6]
  obtain ⟨x7, h7, m7, V7, a7, b7⟩ := dg_4 (x := x6) V6
  rw [a7, b7]
  obtain ⟨x8, h8, m8, V8, a8, b8⟩ := dg_6 (x := x7) V7
  rw [a8, b8]
  obtain ⟨x9, h9, m9, V9, a9, b9⟩ := dg_7 (x := x8) V8
  rw [a9, b9]
  exact ⟨_, h9, m9, rfl, rfl, V9⟩
theorem digest_ok {h m : hp_T} (R : RelD DerAll h m) : stp (RelD DerAll) (f_X9_digest h) (f_X10_digest m) := by
  obtain ⟨h2, n, K, E, e4, V⟩ := rel_vr R
  refine step_of (h2 := h2) R (Or.inr ?_) (q_digest V)
  have e : ∀ w, f_X9_count w h = f_X9_count w h2 := fun w => by
    unfold f_X9_count
    rw [E, V.1.st]
  have e2 : ∀ (Kc : Int64 → Int32 → hp_T → Option (Int64 × hp_T)) N x, f_X9_digest_L1 Kc (N + 1) x 0 h = f_X9_digest_L1 Kc (N + 1) x 0 h2 := fun Kc N x => by
    rw [f_X9_digest_L1, f_X9_digest_L1, if_neg (by decide), if_neg (by decide), e 0]
  unfold f_X9_digest
  exact e2 _ 99 17
