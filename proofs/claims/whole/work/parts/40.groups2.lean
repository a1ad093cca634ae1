/-! the reference's groups -/
theorem m_fillg {m : hp_T} {a b : Nat} {u : Int32} {Kc : Int32 → hp_T → Option (Int32 × hp_T)} (hb : b < 48) (hab : a ≤ b) : ∃ m2, f_X10_gathers_L2 (nI b) u Kc 100 (nI a) m = Kc (nI (b + 1)) m2 ∧ Fr [30] m m2 ∧ (∀ i, a ≤ i → i ≤ b → m2.1 30 i = u) ∧ (∀ i, i < a ∨ b < i → m2.1 30 i = m.1 30 i) := by
  have key := loop_j (fun N (s : Int32 × hp_T) => f_X10_gathers_L2 (nI b) u Kc N s.1 s.2)
    (fun o => ∃ m2, o = Kc (nI (b + 1)) m2 ∧ Fr [30] m m2 ∧ (∀ i, a ≤ i → i ≤ b → m2.1 30 i = u) ∧ (∀ i, i < a ∨ b < i → m2.1 30 i = m.1 30 i))
    (fun r s => ∃ v, r = b + 1 - v ∧ v ≤ b + 1 ∧ a ≤ v ∧ s.1 = nI v ∧ Fr [30] m s.2 ∧ (∀ i, a ≤ i → i < v → s.2.1 30 i = u) ∧ (∀ i, i < a ∨ v ≤ i → s.2.1 30 i = m.1 30 i)) ?_ (b + 1 - a) 100 (nI a, m) (by omega)
    ⟨a, rfl, by omega, by omega, rfl, Fr.rf, fun i q1 q2 => absurd q1 (by omega), fun _ _ => rfl⟩
  · exact key
  rintro N r ⟨x, g⟩ ⟨v, rfl, hv, hav, e1, hF, h1, h2⟩
  dsimp only at e1 hF h1 h2
  subst e1
  dsimp only
  rw [f_X10_gathers_L2]
  by_cases e : v = b + 1
  · left
    subst e
    rw [if_pos (by rw [i_lt, n_int (by omega), n_int (by omega)]; omega)]
    exact ⟨g, rfl, hF, fun i q1 q2 => h1 i q1 (by omega), fun i q => h2 i (by omega)⟩
  right
  rw [if_neg (by rw [i_lt, n_int (by omega), n_int (by omega)]; omega), if_pos (ix_n (show v < 48 by omega) (by omega)), l_let, l_let, nI_1, n_cl (show v < 2147483648 by omega)]
  refine ⟨b + 1 - (v + 1), (nI (v + 1), hw g 30 v u), by omega, ⟨v + 1, rfl, by omega, by omega, rfl, hF.hw (by decide), fun i q1 q2 => ?_, fun i q => ?_⟩, rfl⟩
  · dsimp only
    by_cases ei : i = v
    · subst ei; rw [hw_s]
    · rw [hw_n _ _ _ _ (Or.inr ei)]; exact h1 i q1 (by omega)
  · dsimp only
    rw [hw_n _ _ _ _ (Or.inr (by omega))]; exact h2 i (by omega)
theorem gt_self {x : Int32} : (if x ≤ x then x else x) = x := by split <;> rfl
theorem ls_n {a b : Nat} (ha : a < 2147483648) (hb : b < 2147483648) : (if nI b ≤ nI a then nI b else nI a) = nI (min a b) := by
  split
  · rename_i q
    rw [i_le, n_int (by omega), n_int (by omega)] at q
    rw [show min a b = b by omega]
  · rename_i q
    rw [i_le, n_int (by omega), n_int (by omega)] at q
    rw [show min a b = a by omega]
def GaI (m : hp_T) (v s0 : Nat) (K : Nat → Nat) (f t : Nat → Int32) : Prop := (∀ r, r < v → m.1 30 r = nI (lkf K f t (gi f t r) v)) ∧ (0 < v → s0 < v ∧ gs f t s0 = true ∧ ∀ j, s0 < j → j < v → gs f t j = false)
theorem rc_start {n v : Nat} {f t : Nat → Int32} (Q : Sq n f t) (hv : v < n) (h : gs f t v = true) : rc t (v + 1) = t v := by
  rw [gs_i] at h
  have := Q.1 v hv
  unfold vld at this
  rw [i_eq, rc_s]
  omega
theorem ga_start {m m2 : hp_T} {n v s0 : Nat} {K : Nat → Nat} {f t : Nat → Int32} (Q : Sq n f t) (hv : v < n) (hK : ∀ i, i < n → K i < 48) (h : gs f t v = true) (G : GaI m v s0 K f t) (h1 : m2.1 30 v = nI (K v)) (h2 : ∀ i, i < v → m2.1 30 i = m.1 30 i) : GaI m2 (v + 1) v K f t := by
  have nw : ∀ r, r < v → gi f t r ≠ gi f t v := fun r hr q => by have := gi_lt Q hr (show v ≤ n by omega); have := gi_t h; omega
  refine ⟨fun r hr => ?_, fun _ => ⟨by omega, h, fun j a b => absurd a (by omega)⟩⟩
  have hs : lkf K f t (gi f t r) (v + 1) = if gi f t v = gi f t r then min (lkf K f t (gi f t r) v) (K v) else lkf K f t (gi f t r) v := rfl
  by_cases e : r = v
  · subst e
    have := hK r hv
    rw [h1, hs, if_pos rfl, lkf_n nw, show min 48 (K r) = K r by omega]
  · rw [h2 r (by omega), hs, if_neg (fun q => nw r (by omega) q.symm)]
    exact G.1 r (by omega)
theorem ga_in {m m2 : hp_T} {n v s0 : Nat} {K : Nat → Nat} {f t : Nat → Int32} (Q : Sq n f t) (hv : v < n) (v0 : 0 < v) (h : gs f t v = false) (G : GaI m v s0 K f t) (h1 : ∀ i, s0 ≤ i → i ≤ v → m2.1 30 i = nI (min (lkf K f t (gi f t s0) v) (K v))) (h2 : ∀ i, i < s0 ∨ v < i → m2.1 30 i = m.1 30 i) : GaI m2 (v + 1) s0 K f t := by
  obtain ⟨s1, s2, s3⟩ := G.2 v0
  have ns : ∀ j, s0 < j → j ≤ v → gs f t j = false := fun j a b => by
    by_cases e : j = v
    · subst e; exact h
    · exact s3 j a (by omega)
  refine ⟨fun r hr => ?_, fun _ => ⟨by omega, s2, fun j a b => ns j a (by omega)⟩⟩
  have hs : lkf K f t (gi f t r) (v + 1) = if gi f t v = gi f t r then min (lkf K f t (gi f t r) v) (K v) else lkf K f t (gi f t r) v := rfl
  have ev : gi f t v = gi f t s0 := gi_same (by omega) ns
  by_cases c : s0 ≤ r
  · have er : gi f t r = gi f t s0 := gi_same c (fun j a b => ns j a (by omega))
    rw [h1 r c (by omega), hs, if_pos (by rw [ev, er]), er]
  · have hl := gi_lt Q (show r < s0 by omega) (show s0 ≤ n by omega)
    have et := gi_t s2
    rw [h2 r (by omega), hs, if_neg (by omega)]
    exact G.1 r (by omega)
theorem m_gathers {m : hp_T} {n : Nat} {K : Nat → Nat} {f t : Nat → Int32} (V : MV m n K f t) (Q : Sq n f t) : ∃ m2, f_X10_gathers m = some (nI (cnt (gs f t) n), m2) ∧ Fr [30] m m2 ∧ ∀ r, r < n → m2.1 30 r = nI (lkf K f t (gi f t r) n) := by
  have hn := V.1
  have hK : ∀ i, i < n → K i < 48 := fun i hi => (V.2.2 i hi).2.1
  unfold f_X10_gathers
  have key := loop_j (fun N (s : Int32 × Int32 × Int32 × Int32 × hp_T) => f_X10_gathers_L1 (fun (x54 : Int32) (x55 : Int32) (x56 : Int32) (x57 : Int32) (h58 : hp_T) => some (x54, h58)) N s.1 s.2.1 s.2.2.1 s.2.2.2.1 s.2.2.2.2)
    (fun o => ∃ m2, o = some (nI (cnt (gs f t) n), m2) ∧ Fr [30] m m2 ∧ ∀ r, r < n → m2.1 30 r = nI (lkf K f t (gi f t r) n))
    (fun r s => ∃ v s0, r = n - v ∧ v ≤ n ∧ s0 ≤ v ∧ s.1 = nI (cnt (gs f t) v) ∧ s.2.1 = rc t v ∧ s.2.2.1 = nI s0 ∧ s.2.2.2.1 = nI v ∧ Fr [30] m s.2.2.2.2 ∧ GaI s.2.2.2.2 v s0 K f t) ?_ n 100 (0, -1000000000, 0, 0, m) (by omega)
    ⟨0, 0, rfl, by omega, by omega, rfl, rfl, rfl, rfl, Fr.rf, fun r hr => absurd hr (by omega), fun q => absurd q (by omega)⟩
  · exact key
  rintro N r ⟨x, y, z, w, g⟩ ⟨v, s0, rfl, hv, hs0, e1, e2, e3, e4, hF, hG⟩
  dsimp only at e1 e2 e3 e4 hF hG
  subst e1; subst e2; subst e3; subst e4
  dsimp only
  have Vg : MV g n K f t := V.fr (by rw [hF.1 0 (by decide)]) ⟨hF.1 12 (by decide), hF.1 6 (by decide), hF.1 7 (by decide)⟩
  rw [f_X10_gathers_L1, Vg.2.1]
  by_cases e : v = n
  · left
    subst e
    rw [if_pos (by rw [i_le]; omega)]
    exact ⟨g, rfl, hF, hG.1⟩
  right
  obtain ⟨e1, e2, e3, e4⟩ := Vg.2.2 v (by omega)
  rw [if_neg (by rw [i_le, n_int (by omega), n_int (by omega)]; omega), if_pos (ix_n (show v < 48 by omega) (by omega)), n_cl (show v < 2147483648 by omega), l_let, e1]
  obtain ⟨g2, eg2⟩ : ∃ g2, g2 = hw g 30 v (nI (K v)) := ⟨_, rfl⟩
  have k7 : g2.1 7 = g.1 7 := by rw [eg2, hw_ne _ _ _ (by decide)]
  have k30 : g2.1 30 v = nI (K v) := by rw [eg2, hw_s]
  have gF : Fr [30] m g2 := by rw [eg2]; exact hF.hw (by decide)
  obtain ⟨m2, E2, F2, a1, a2⟩ := m_fillg (m := g2) (u := nI (K v)) (a := v) (b := v) (Kc := fun (x22 : Int32) (h23 : hp_T) => o_let (nI v + (1 : Int32)) fun (x24 : Int32) => f_X10_gathers_L1 (fun (x54 : Int32) (x55 : Int32) (x56 : Int32) (x57 : Int32) (h58 : hp_T) => some (x54, h58)) N (nI (cnt (gs f t) v + 1)) (t v) (nI v) x24 h23) (show v < 48 by omega) (Nat.le_refl v)
  have st : gs f t v = true → GaI m2 (v + 1) v K f t := fun hp => ga_start Q (show v < n by omega) hK hp hG (a1 v (by omega) (by omega)) (fun i hi => by rw [a2 i (by omega), eg2, hw_n _ _ _ _ (Or.inr (by omega))])
  by_cases v0 : v = 0
  · have hp : gs f t v = true := by rw [v0]; exact gs_0 Q (by omega)
    rw [if_pos (by rw [v0]; rfl), l_let, nI_1 (cnt (gs f t) v), if_pos (ix_n e2 (by omega)), l_let, n_cl (show K v < 2147483648 by omega), e4, if_pos (ix_n (show v < 48 by omega) (by omega)), l_let, ← eg2, if_pos (ix_n e2 (by omega)), k7, e4, m_greater, c_some, gt_self, if_pos (ix_n (show v < 48 by omega) (by omega)), k30, m_lesser, c_some, gt_self, E2, l_let, nI_1 v]
    exact ⟨n - (v + 1), (nI (cnt (gs f t) v + 1), t v, nI v, nI (v + 1), m2), by omega, ⟨v + 1, v, rfl, by omega, by omega, by rw [cnt_t hp], (rc_start Q (by omega) hp).symm, rfl, rfl, gF.tr F2, st hp⟩, rfl⟩
  rw [if_neg (by rw [i_eq, n_int (by omega), t_0]; omega), if_pos (ix_n e2 (by omega)), n_cl (show K v < 2147483648 by omega), e3]
  cases hp : gs f t v with
  | false =>
    have q : f v < rc t v := by simpa [gs] using hp
    obtain ⟨s1, s2, s3⟩ := hG.2 (by omega)
    have em : (if t v ≤ rc t v then rc t v else t v) = rc t (v + 1) := by
      rw [i_eq, rc_s]
      split
      · rename_i q; rw [i_le] at q; omega
      · rename_i q; rw [i_le] at q; omega
    have lk := lkf_le (K := K) (f := f) (t := t) (g := gi f t s0) (v := v)
    obtain ⟨m3, E3, F3, b1, b2⟩ := m_fillg (m := g) (u := nI (min (lkf K f t (gi f t s0) v) (K v))) (a := s0) (b := v) (Kc := fun (x35 : Int32) (h36 : hp_T) => o_let (nI v + (1 : Int32)) fun (x37 : Int32) => f_X10_gathers_L1 (fun (x54 : Int32) (x55 : Int32) (x56 : Int32) (x57 : Int32) (h58 : hp_T) => some (x54, h58)) N (nI (cnt (gs f t) v)) (rc t (v + 1)) (nI s0) x37 h36) (show v < 48 by omega) (by omega)
    rw [if_pos q, if_pos (ix_n e2 (by omega)), e4, m_greater, c_some, em, if_pos (ix_n (show s0 < 48 by omega) (by omega)), n_cl (show s0 < 2147483648 by omega), hG.1 s0 s1, m_lesser, c_some, ls_n (by omega) (by omega), E3, l_let, nI_1]
    exact ⟨n - (v + 1), (nI (cnt (gs f t) v), rc t (v + 1), nI s0, nI (v + 1), m3), by omega, ⟨v + 1, s0, rfl, by omega, by omega, by rw [cnt_f hp], rfl, rfl, rfl, hF.tr F3, ga_in Q (by omega) (by omega) hp hG b1 b2⟩, rfl⟩
  | true =>
    have q : ¬ f v < rc t v := by simpa [gs] using hp
    rw [if_neg q, l_let, nI_1 (cnt (gs f t) v), if_pos (ix_n e2 (by omega)), l_let, e4, if_pos (ix_n (show v < 48 by omega) (by omega)), l_let, ← eg2, if_pos (ix_n e2 (by omega)), k7, e4, m_greater, c_some, gt_self, if_pos (ix_n (show v < 48 by omega) (by omega)), k30, m_lesser, c_some, gt_self, E2, l_let, nI_1 v]
    exact ⟨n - (v + 1), (nI (cnt (gs f t) v + 1), t v, nI v, nI (v + 1), m2), by omega, ⟨v + 1, v, rfl, by omega, by omega, by rw [cnt_t hp], (rc_start Q (by omega) hp).symm, rfl, rfl, gF.tr F2, st hp⟩, rfl⟩
theorem m_groupOf {m : hp_T} {n r : Nat} {K : Nat → Nat} {f t : Nat → Int32} {p : Int32} (V : MV m n K f t) (hr : r < n) (hKi : ∀ i j, i < n → j < n → K i = K j → i = j) (h13 : m.1 13 (K r) = nI r) (h30 : ∀ r, r < n → m.1 30 r = nI (lkf K f t (gi f t r) n)) : f_X10_groupOf (nI (K r)) p m = some ((if p = 0 then nI (lkf K f t (gi f t r) n) else nI (cnt (giB f t (gi f t r)) n)), m) := by
  have hn := V.1
  have hK : ∀ i, i < n → K i < 48 := fun i hi => (V.2.2 i hi).2.1
  have hkr := hK r hr
  unfold f_X10_groupOf
  rw [if_pos (ix_n hkr (by omega)), n_cl (show K r < 2147483648 by omega), h13, if_pos (ix_n (show r < 48 by omega) (by omega)), l_let, n_cl (show r < 2147483648 by omega), h30 r hr]
  have key := loop_j (fun N (s : Int32 × Int32 × hp_T) => f_X10_groupOf_L1 (nI (lkf K f t (gi f t r) n)) (fun (x11 : Int32) (x12 : Int32) (h13 : hp_T) => (if p = (0 : Int32) then some (nI (lkf K f t (gi f t r) n), h13) else some (x11, h13))) N s.1 s.2.1 s.2.2)
    (fun o => o = some ((if p = 0 then nI (lkf K f t (gi f t r) n) else nI (cnt (giB f t (gi f t r)) n)), m))
    (fun z s => ∃ v, z = n - v ∧ v ≤ n ∧ s.1 = nI (cnt (giB f t (gi f t r)) v) ∧ s.2.1 = nI v ∧ s.2.2 = m) ?_ n 100 (0, 0, m) (by omega) ⟨0, rfl, by omega, rfl, rfl, rfl⟩
  · exact key
  rintro N z ⟨x, y, g⟩ ⟨v, rfl, hv, e1, e2, e3⟩
  dsimp only at e1 e2 e3
  subst e3; subst e1; subst e2
  dsimp only
  rw [f_X10_groupOf_L1, V.2.1]
  by_cases e : v = n
  · left
    subst e
    rw [if_pos (by rw [i_le]; omega)]
    split <;> rfl
  right
  rw [if_neg (by rw [i_le, n_int (by omega), n_int (by omega)]; omega), if_pos (ix_n (show v < 48 by omega) (by omega)), n_cl (show v < 2147483648 by omega), h30 v (by omega)]
  have l1 := lkf_le (K := K) (f := f) (t := t) (g := gi f t v) (v := n)
  have l2 := lkf_le (K := K) (f := f) (t := t) (g := gi f t r) (v := n)
  by_cases c : gi f t v = gi f t r
  · have hp := giB_i.mpr c
    rw [if_pos (by rw [c]), l_let, l_let, nI_1, nI_1]
    exact ⟨n - (v + 1), (nI (cnt (giB f t (gi f t r)) v + 1), nI (v + 1), g), by omega, ⟨v + 1, rfl, by omega, by rw [cnt_t hp], rfl, rfl⟩, rfl⟩
  · have hp : giB f t (gi f t r) v = false := by simp [giB, c]
    have ne : ¬ nI (lkf K f t (gi f t v) n) = nI (lkf K f t (gi f t r) n) := by
      intro q
      have q2 := n_inj (by omega) (by omega) q
      obtain ⟨a, a1, a2, a3⟩ := lkf_ex (g := gi f t v) (f := f) (t := t) hK (show v < n by omega) rfl
      obtain ⟨b, b1, b2, b3⟩ := lkf_ex (g := gi f t r) (f := f) (t := t) hK hr rfl
      have := hKi a b a1 b1 (by rw [← a3, ← b3, q2])
      subst this
      exact c (a2.symm.trans b2)
    rw [if_neg ne, l_let, l_let, Int32.add_zero, nI_1]
    exact ⟨n - (v + 1), (nI (cnt (giB f t (gi f t r)) v), nI (v + 1), g), by omega, ⟨v + 1, rfl, by omega, by rw [cnt_f hp], rfl, rfl⟩, rfl⟩
theorem m_alone {m : hp_T} {n : Nat} {K : Nat → Nat} {f t : Nat → Int32} (V : MV m n K f t) : ∃ x, f_X10_aloneNow m = some (x, m) ∧ DerA x n K f t := by
  have hn := V.1
  unfold f_X10_aloneNow
  have key := loop_j (fun N (s : Int64 × Int32 × hp_T) => f_X10_aloneNow_L1 (fun (x14 : Int64) (x15 : Int32) (h16 : hp_T) => some (x14, h16)) N s.1 s.2.1 s.2.2)
    (fun o => ∃ x, o = some (x, m) ∧ DerA x n K f t)
    (fun z s => ∃ v, z = n - v ∧ v ≤ n ∧ s.2.1 = nI v ∧ s.2.2 = m ∧ ∀ i, i < 64 → (bt s.1 i = true ↔ ∃ r, r < v ∧ K r = i ∧ alB n f t r = true)) ?_ n 100 (0, 0, m) (by omega) ⟨0, rfl, by omega, rfl, rfl, fun i _ => ⟨fun q => absurd (show bt 0 i = true from q) (by rw [bt_0]; exact nft), fun ⟨r, hr, _⟩ => absurd hr (by omega)⟩⟩
  · exact key
  rintro N z ⟨x, y, g⟩ ⟨v, rfl, hv, e1, e2, hb⟩
  dsimp only at e1 e2 hb
  subst e1; subst e2
  dsimp only
  rw [f_X10_aloneNow_L1, V.2.1]
  by_cases e : v = n
  · left
    subst e
    rw [if_pos (by rw [i_le]; omega)]
    exact ⟨x, rfl, hb⟩
  right
  have om1 : n - (v + 1) < n - v := by omega
  have om2 : v + 1 ≤ n := by omega
  obtain ⟨e1, e2, e3, e4⟩ := V.2.2 v (by omega)
  have cl := cnt_le (metB f t (f v) (t v)) n
  rw [if_neg (by rw [i_le, n_int (by omega), n_int (by omega)]; omega), if_pos (ix_n (show v < 48 by omega) (by omega)), n_cl (show v < 2147483648 by omega), l_let, e1, if_pos (ix_n e2 (by omega)), if_pos (ix_n e2 (by omega)), n_cl (show K v < 2147483648 by omega), e3, e4, m_meetsBy V, c_some, if_pos rfl]
  by_cases c : cnt (metB f t (f v) (t v)) n = 1
  · rw [c, if_pos (show nI 1 = 1 from rfl), l_let, l_let, nI_1]
    refine ⟨n - (v + 1), (x ||| ((1 : Int64) <<< ((nI (K v)).toInt64 &&& 63)), nI (v + 1), g), om1, ⟨v + 1, rfl, om2, rfl, rfl, fun i hi => ?_⟩, rfl⟩
    dsimp only
    rw [bt_or e2 hi, Bool.or_eq_true, hb i hi, decide_eq_true_eq]
    constructor
    · rintro (⟨r, r1, r2, r3⟩ | q)
      · exact ⟨r, by omega, r2, r3⟩
      · exact ⟨v, by omega, q.symm, by unfold alB; rw [decide_eq_true_eq]; exact c⟩
    · rintro ⟨r, r1, r2, r3⟩
      by_cases er : r = v
      · subst er; exact Or.inr r2.symm
      · exact Or.inl ⟨r, by omega, r2, r3⟩
  · rw [if_neg (fun q => c (n_inj (by omega) (by omega) (q.trans (show (1 : Int32) = nI 1 from rfl)))), l_let, l_let, or_0, nI_1]
    refine ⟨n - (v + 1), (x, nI (v + 1), g), om1, ⟨v + 1, rfl, om2, rfl, rfl, fun i hi => ?_⟩, rfl⟩
    dsimp only
    rw [hb i hi]
    constructor
    · rintro ⟨r, r1, r2, r3⟩; exact ⟨r, by omega, r2, r3⟩
    · rintro ⟨r, r1, r2, r3⟩
      refine ⟨r, ?_, r2, r3⟩
      apply Nat.lt_of_le_of_ne (by omega)
      intro er
      subst er
      unfold alB at r3
      rw [decide_eq_true_eq] at r3
      exact c r3
