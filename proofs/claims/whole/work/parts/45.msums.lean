/-! the reference's sums -/
def Sd (m : hp_T) (W : Nat → Nat) (n : Nat) (t : Nat → Int32) (g : Nat) : Prop := m.1 19 g = nI (sz W n g) ∧ m.1 20 g = nI (nH W n g) ∧ (m.1 21 g).toInt = fe t (nA W n g) (nB W n g)
theorem gr_i (a b : Int32) : (if a ≤ b then b else a).toInt = max a.toInt b.toInt := by
  split
  · rename_i q; rw [i_le] at q; omega
  · rename_i q; rw [i_le] at q; omega
theorem gr_n {a b : Nat} (ha : a < 2147483648) (hb : b < 2147483648) : (if nI a ≤ nI b then nI b else nI a) = nI (max b a) := by
  rw [i_eq, gr_i, n_int ha, n_int hb, n_int (by omega)]
  omega
/-- a child added to a node's sums -/
theorem m_addc {m : hp_T} {n x c a b : Nat} {e : Int} {W : Nat → Nat} {t : Nat → Int32} (hn : n ≤ 48) (hx : x < n) (hc : c < n) (hne : c ≠ x) (ha : a ≤ 48) (hb : b ≤ 48) (hh : nH W n c ≤ 48) (h19 : m.1 19 x = nI a) (h20 : m.1 20 x = nI b) (h21 : (m.1 21 x).toInt = e) (S : Sd m W n t c) :
    ∃ m2 : hp_T, hw (hw (hw m 19 x (m.1 19 x + m.1 19 c)) 20 x (if m.1 20 c + 1 ≤ m.1 20 x then m.1 20 x else m.1 20 c + 1)) 21 x (if m.1 21 c ≤ m.1 21 x then m.1 21 x else m.1 21 c) = m2 ∧ Fr [19, 20, 21] m m2 ∧ (∀ g, g ≠ x → m2.1 19 g = m.1 19 g ∧ m2.1 20 g = m.1 20 g ∧ m2.1 21 g = m.1 21 g) ∧ m2.1 19 x = nI (a + oM W n (some c)) ∧ m2.1 20 x = nI (max b (oH W n (some c) + 1)) ∧ (m2.1 21 x).toInt = max e (oE W n t (some c)) := by
  refine ⟨_, rfl, ((Fr.rf.hw (by decide)).hw (by decide)).hw (by decide), fun g hg => ?_, ?_, ?_, ?_⟩
  · rw [hw_n _ _ _ _ (Or.inr hg), hw_n _ _ _ _ (Or.inr hg), hw_n _ _ _ _ (Or.inr hg), hw_n _ _ _ _ (Or.inr hg), hw_n _ _ _ _ (Or.inr hg), hw_n _ _ _ _ (Or.inr hg), hw_n _ _ _ _ (Or.inr hg), hw_n _ _ _ _ (Or.inr hg), hw_n _ _ _ _ (Or.inr hg)]
    exact ⟨rfl, rfl, rfl⟩
  · rw [hw_ne _ _ _ (by decide), hw_ne _ _ _ (by decide), hw_s, h19, S.1, nI_add]
    rfl
  · rw [hw_ne _ _ _ (by decide), hw_s, h20, S.2.1, nI_1, gr_n (by omega) (by omega)]
    rfl
  · rw [hw_s, gr_i, h21, S.2.2]
    show max (oE W n t (some c)) e = _
    omega
theorem m_side {m : hp_T} {n x a b : Nat} {e : Int} {W : Nat → Nat} {t : Nat → Int32} {o : Option Nat} {N : Nat} {Kc : Int32 → hp_T → Option hp_T} {v2 v3 : Int32} (hn : n ≤ 48) (hx : x < n) (hv : (v2 = 0 ∧ v3 = 1 ∧ m.1 16 x = keyR rk o) ∨ (v2 = 1 ∧ v3 = 2 ∧ m.1 17 x = keyR rk o)) (ho : ∀ c, o = some c → c < n ∧ c ≠ x ∧ nH W n c ≤ 48 ∧ Sd m W n t c) (ha : a ≤ 48) (hb1 : 1 ≤ b) (hb : b ≤ 48) (he : -2147483648 ≤ e) (h19 : m.1 19 x = nI a) (h20 : m.1 20 x = nI b) (h21 : (m.1 21 x).toInt = e) :
    ∃ m2, f_X10_sums_L1 (nI x) Kc (N + 1) v2 m = f_X10_sums_L1 (nI x) Kc N v3 m2 ∧ Fr [19, 20, 21] m m2 ∧ (∀ g, g ≠ x → m2.1 19 g = m.1 19 g ∧ m2.1 20 g = m.1 20 g ∧ m2.1 21 g = m.1 21 g) ∧ m2.1 19 x = nI (a + oM W n o) ∧ m2.1 20 x = nI (max b (oH W n o + 1)) ∧ (m2.1 21 x).toInt = max e (oE W n t o) := by
  have x48 : x < 48 := by omega
  have ixx := ix_n x48 (show 48 ≤ 1000 by omega)
  have clx := n_cl (show x < 2147483648 by omega)
  have nn : o = none → ∃ m2 : hp_T, m = m2 ∧ Fr [19, 20, 21] m m2 ∧ (∀ g, g ≠ x → m2.1 19 g = m.1 19 g ∧ m2.1 20 g = m.1 20 g ∧ m2.1 21 g = m.1 21 g) ∧ m2.1 19 x = nI (a + oM W n o) ∧ m2.1 20 x = nI (max b (oH W n o + 1)) ∧ (m2.1 21 x).toInt = max e (oE W n t o) := by
    intro q
    subst q
    refine ⟨m, rfl, Fr.rf, fun g _ => ⟨rfl, rfl, rfl⟩, h19, ?_, ?_⟩
    · rw [h20]; show nI b = nI (max b (0 + 1)); congr 1; omega
    · rw [h21]; show e = max e (-2147483648); omega
  rcases hv with ⟨q1, q2, q3⟩ | ⟨q1, q2, q3⟩
  · subst q1; subst q2
    rw [f_X10_sums_L1, if_neg (show ¬ (2 : Int32) ≤ 0 by decide), if_pos rfl]
    simp only [if_pos ixx, clx, l_let]
    rw [q3]
    cases o with
    | none =>
      obtain ⟨m2, e2, r⟩ := nn rfl
      rw [keyR_n, if_pos rfl, show (0 : Int32) + 1 = 1 from by decide]
      exact ⟨m2, by rw [← e2], r⟩
    | some c =>
      obtain ⟨c1, c2, c3, c4⟩ := ho c rfl
      obtain ⟨m2, e2, r⟩ := m_addc hn hx c1 c2 ha hb c3 h19 h20 h21 c4
      rw [keyR_r, if_neg (km1 (by omega))]
      simp only [if_pos (ix_n (show c < 48 by omega) (show 48 ≤ 1000 by omega)), n_cl (show c < 2147483648 by omega), m_greater, c_some, hw_ne _ (z := 20) (k := 19) _ _ (by decide), hw_ne _ (z := 21) (k := 20) _ _ (by decide), hw_ne _ (z := 21) (k := 19) _ _ (by decide)]
      rw [e2, show (0 : Int32) + 1 = 1 from by decide]
      exact ⟨m2, rfl, r⟩
  · subst q1; subst q2
    rw [f_X10_sums_L1, if_neg (show ¬ (2 : Int32) ≤ 1 by decide), if_neg (show ¬ (1 : Int32) = 0 by decide)]
    simp only [if_pos ixx, clx, l_let]
    rw [q3]
    cases o with
    | none =>
      obtain ⟨m2, e2, r⟩ := nn rfl
      rw [keyR_n, if_pos rfl, show (1 : Int32) + 1 = 2 from by decide]
      exact ⟨m2, by rw [← e2], r⟩
    | some c =>
      obtain ⟨c1, c2, c3, c4⟩ := ho c rfl
      obtain ⟨m2, e2, r⟩ := m_addc hn hx c1 c2 ha hb c3 h19 h20 h21 c4
      rw [keyR_r, if_neg (km1 (by omega))]
      simp only [if_pos (ix_n (show c < 48 by omega) (show 48 ≤ 1000 by omega)), n_cl (show c < 2147483648 by omega), m_greater, c_some, hw_ne _ (z := 20) (k := 19) _ _ (by decide), hw_ne _ (z := 21) (k := 20) _ _ (by decide), hw_ne _ (z := 21) (k := 19) _ _ (by decide)]
      rw [e2, show (1 : Int32) + 1 = 2 from by decide]
      exact ⟨m2, rfl, r⟩
theorem m_sums {m : hp_T} {n x : Nat} {K : Nat → Nat} {f t : Nat → Int32} (V : MV m n K f t) (hW : Wi (wK K) n) (hx : x < n) (h16 : m.1 16 x = keyR rk (lch (wK K) n x)) (h17 : m.1 17 x = keyR rk (rch (wK K) n x)) (hc : ∀ c, lch (wK K) n x = some c ∨ rch (wK K) n x = some c → Sd m (wK K) n t c) :
    ∃ m2, f_X10_sums (nI x) m = some m2 ∧ Fr [19, 20, 21] m m2 ∧ (∀ g, g ≠ x → Sd m (wK K) n t g → Sd m2 (wK K) n t g) ∧ Sd m2 (wK K) n t x := by
  have hn := V.1
  have x48 : x < 48 := by omega
  obtain ⟨e1, e2, e3, e4⟩ := V.2.2 x hx
  unfold f_X10_sums
  simp only [if_pos (ix_n x48 (show 48 ≤ 1000 by omega)), l_let, n_cl (show x < 2147483648 by omega), hw_ne _ (z := 12) (k := 20) _ _ (by decide), hw_ne _ (z := 12) (k := 19) _ _ (by decide), hw_ne _ (z := 7) (k := 20) _ _ (by decide), hw_ne _ (z := 7) (k := 19) _ _ (by decide)]
  rw [e1, if_pos (ix_n e2 (by omega)), n_cl (show K x < 2147483648 by omega), e4]
  obtain ⟨g, eg⟩ : ∃ g, g = hw (hw (hw m 19 x 1) 20 x 1) 21 x (t x) := ⟨_, rfl⟩
  rw [← eg]
  have F0 : Fr [19, 20, 21] m g := by rw [eg]; exact ((Fr.rf.hw (by decide)).hw (by decide)).hw (by decide)
  have o0 : ∀ z, z ≠ x → g.1 19 z = m.1 19 z ∧ g.1 20 z = m.1 20 z ∧ g.1 21 z = m.1 21 z := by
    intro z hz
    rw [eg, hw_n _ _ _ _ (Or.inr hz), hw_n _ _ _ _ (Or.inr hz), hw_n _ _ _ _ (Or.inr hz), hw_n _ _ _ _ (Or.inr hz), hw_n _ _ _ _ (Or.inr hz), hw_n _ _ _ _ (Or.inr hz), hw_n _ _ _ _ (Or.inr hz), hw_n _ _ _ _ (Or.inr hz), hw_n _ _ _ _ (Or.inr hz)]
    exact ⟨rfl, rfl, rfl⟩
  have keep : ∀ (p q : hp_T), (∀ z, z ≠ x → q.1 19 z = p.1 19 z ∧ q.1 20 z = p.1 20 z ∧ q.1 21 z = p.1 21 z) → ∀ z, z ≠ x → Sd p (wK K) n t z → Sd q (wK K) n t z := by
    intro p q h z hz S
    unfold Sd at *
    rw [(h z hz).1, (h z hz).2.1, (h z hz).2.2]
    exact S
  have lneq : ∀ c, lch (wK K) n x = some c → c < n ∧ c ≠ x ∧ nH (wK K) n c ≤ 48 := fun c q => ⟨lch_lt hW x hx c q, by have := (lch_s hW hx q).2.1; omega, by have := nH_le hW (lch_lt hW x hx c q); omega⟩
  have rneq : ∀ c, rch (wK K) n x = some c → c < n ∧ c ≠ x ∧ nH (wK K) n c ≤ 48 := fun c q => ⟨rch_lt hW x hx c q, by have := (rch_s hW hx q).1; omega, by have := nH_le hW (rch_lt hW x hx c q); omega⟩
  have s := sub_le hW hx (fun _ => true)
  have ft : ∀ o, flt (fun _ => true) o = o := fun o => by cases o <;> rfl
  rw [ft, ft] at s
  have t0 := (i_rng (t x)).1
  obtain ⟨g1, E1, F1, o1, a1, a2, a3⟩ := m_side (m := g) (W := wK K) (t := t) (a := 1) (b := 1) (e := (t x).toInt) (o := lch (wK K) n x) (N := 99) (Kc := fun (x57 : Int32) (h58 : hp_T) => some h58) hn hx (Or.inl ⟨rfl, rfl, by rw [F0.1 16 (by decide)]; exact h16⟩)
    (fun c q => ⟨(lneq c q).1, (lneq c q).2.1, (lneq c q).2.2, keep m g o0 c (lneq c q).2.1 (hc c (Or.inl q))⟩) (by omega) (by omega) (by omega) t0 (by rw [eg, hw_ne _ _ _ (by decide), hw_ne _ _ _ (by decide), hw_s]; rfl) (by rw [eg, hw_ne _ _ _ (by decide), hw_s]; rfl) (by rw [eg, hw_s])
  obtain ⟨g2, E2, F2, o2, b1, b2, b3⟩ := m_side (m := g1) (W := wK K) (t := t) (o := rch (wK K) n x) (N := 98) (Kc := fun (x57 : Int32) (h58 : hp_T) => some h58) hn hx (Or.inr ⟨rfl, rfl, by rw [F1.1 17 (by decide), F0.1 17 (by decide)]; exact h17⟩)
    (fun c q => ⟨(rneq c q).1, (rneq c q).2.1, (rneq c q).2.2, keep g g1 o1 c (rneq c q).2.1 (keep m g o0 c (rneq c q).2.1 (hc c (Or.inr q)))⟩) (by omega) (by omega) (by omega) (by omega) a1 a2 a3
  rw [E1, E2, f_X10_sums_L1, if_pos (show (2 : Int32) ≤ 2 by decide)]
  refine ⟨g2, rfl, (F0.tr F1).tr F2, fun z hz S => keep g1 g2 o2 z hz (keep g g1 o1 z hz (keep m g o0 z hz S)), ?_, ?_, ?_⟩
  · rw [b1]; unfold sz; rw [nM_rec hW hx]
  · rw [b2, nH_rec hW hx]; congr 1; omega
  · rw [b3, nE_rec hW hx]; omega
theorem m_grow2 {m : hp_T} {n : Nat} {K X : Nat → Nat} {f t : Nat → Int32} (V : MV m n K f t) (hW : Wi (wK K) n) (I : GwI m n n n K X) :
    ∃ m2, f_X10_grows_L2 (fun (x52 : Int32) (h53 : hp_T) => some h53) 100 (pI n) m = some m2 ∧ Fr [19, 20, 21] m m2 ∧ ∀ i, i < n → Sd m2 (wK K) n t (X i) := by
  have hn := V.1
  obtain ⟨I1, I2, I3, I4, I5, I6⟩ := I
  have key := loop_j (fun N (s : Int32 × hp_T) => f_X10_grows_L2 (fun (x52 : Int32) (h53 : hp_T) => some h53) N s.1 s.2)
    (fun o => ∃ m2, o = some m2 ∧ Fr [19, 20, 21] m m2 ∧ ∀ i, i < n → Sd m2 (wK K) n t (X i))
    (fun r s => ∃ v, r = v ∧ v ≤ n ∧ s.1 = pI v ∧ Fr [19, 20, 21] m s.2 ∧ ∀ i, v ≤ i → i < n → Sd s.2 (wK K) n t (X i)) ?_ n 100 (pI n, m) (by omega) ⟨n, rfl, Nat.le_refl _, rfl, Fr.rf, fun i a b => absurd a (by omega)⟩
  · exact key
  rintro N r ⟨x, g⟩ ⟨v, rfl, hv, e1, hF, hS⟩
  dsimp only at e1 hF hS
  subst e1
  dsimp only
  rw [f_X10_grows_L2]
  cases r with
  | zero =>
    left
    rw [if_pos (show pI 0 < 0 from (by decide : (-1 : Int32) < 0))]
    exact ⟨g, rfl, hF, fun i hi => hS i (by omega) hi⟩
  | succ v =>
    right
    have e0 : pI (v + 1) = nI v := rfl
    have Vg : MV g n K f t := V.fr (by rw [hF.1 0 (by decide)]) ⟨hF.1 12 (by decide), hF.1 6 (by decide), hF.1 7 (by decide)⟩
    obtain ⟨q14, xn⟩ := I2 v (by omega)
    obtain ⟨p1, p2, p3⟩ := I4 v (by omega)
    obtain ⟨m2, E, F2, k1, k2⟩ := m_sums (x := X v) Vg hW xn (by rw [hF.1 16 (by decide)]; exact p1) (by rw [hF.1 17 (by decide)]; exact p2) (fun c hc => by
      obtain ⟨j, w1, w2, w3⟩ := p3 c hc
      rw [← w3]
      exact hS j (by omega) w2)
    rw [e0, if_neg (by rw [i_lt, n_int (by omega), t_0]; omega), if_pos (ix_n (show v < 48 by omega) (by omega)), n_cl (show v < 2147483648 by omega), hF.1 14 (by decide), q14, E, v_some, l_let, pI_s]
    refine ⟨v, (pI v, m2), by omega, ⟨v, rfl, by omega, rfl, hF.tr F2, fun i a b => ?_⟩, rfl⟩
    dsimp only
    by_cases q : X i = X v
    · rw [q]; exact k2
    · exact k1 _ q (hS i (by
        apply Nat.lt_of_le_of_ne a
        intro z
        exact q (by rw [← z])) b)
def TrM (m : hp_T) (n : Nat) (K : Nat → Nat) (t : Nat → Int32) : Prop := (0 < n → m.1 14 0 = nI (am (wK K) 0 n)) ∧ ∀ r, r < n → m.1 15 r = keyR rk (nP (wK K) n r) ∧ m.1 16 r = keyR rk (lch (wK K) n r) ∧ m.1 17 r = keyR rk (rch (wK K) n r) ∧ m.1 18 r = nI (nD (wK K) n r) ∧ Sd m (wK K) n t r
abbrev GM : List Nat := [14, 15, 16, 17, 18, 19, 20, 21, 22, 23]
theorem GwI.all {m : hp_T} {n : Nat} {K X : Nat → Nat} (hW : Wi (wK K) n) (I : GwI m n n n K X) : ∀ r, r < n → ∃ i, i < n ∧ X i = r := by
  obtain ⟨I1, I2, I3, I4, I5, I6⟩ := I
  refine nd_ind hW (S := fun r => ∃ i, i < n ∧ X i = r) (fun n0 => ⟨0, n0, (I6 n0).2⟩) (fun g hg ⟨i, i1, i2⟩ q => ?_) (fun g hg ⟨i, i1, i2⟩ q => ?_)
  · obtain ⟨j, w1, w2, w3⟩ := (I4 i i1).2.2 (am (wK K) (nA (wK K) n g) g) (Or.inl (by rw [i2]; simp [lch, q]))
    exact ⟨j, w2, w3⟩
  · obtain ⟨j, w1, w2, w3⟩ := (I4 i i1).2.2 (am (wK K) (g + 1) (nB (wK K) n g)) (Or.inr (by rw [i2]; simp [rch, q]))
    exact ⟨j, w2, w3⟩
theorem grow_end {m m2 : hp_T} {n : Nat} {K X : Nat → Nat} {t : Nat → Int32} (hW : Wi (wK K) n) (I : GwI m n n n K X) (F : Fr [19, 20, 21] m m2) (S : ∀ i, i < n → Sd m2 (wK K) n t (X i)) : TrM m2 n K t := by
  refine ⟨fun n0 => by rw [F.1 14 (by decide), (I.2.1 0 n0).1, (I.2.2.2.2.2 n0).2], fun r hr => ?_⟩
  obtain ⟨i, i1, i2⟩ := I.all hW r hr
  have a := I.2.2.1 i i1
  have b := I.2.2.2.1 i i1
  have c := S i i1
  rw [i2] at a b c
  rw [F.1 15 (by decide), F.1 16 (by decide), F.1 17 (by decide), F.1 18 (by decide)]
  exact ⟨a.1, b.1, b.2.1, a.2.2.2, c⟩
/-- the tree of the reference, once its spans stand in order -/
theorem m_grows {m m1 : hp_T} {n : Nat} {K : Nat → Nat} {f t : Nat → Int32} (E : f_X10_orders m = some m1) (V : MV m1 n K f t) (hW : Wi (wK K) n) : ∃ m2, f_X10_grows m = some m2 ∧ Fr GM m1 m2 ∧ TrM m2 n K t := by
  have hn := V.1
  unfold f_X10_grows
  rw [E, v_some, V.2.1]
  rcases Nat.eq_zero_or_pos n with n0 | n0
  · rw [if_pos (by rw [n0]; decide)]
    have I0 : GwI m1 0 0 n K (fun _ => 0) := ⟨Nat.le_refl _, fun i hi => absurd hi (by omega), fun i hi => absurd hi (by omega), fun i hi => absurd hi (by omega), by rw [n0]; rfl, fun q => absurd q (by omega)⟩
    obtain ⟨m2, X, E2, F2, I2⟩ := m_grow1 (Kc := fun (x43 : Int32) (x44 : Int32) (h45 : hp_T) => o_let ((x43 - (1 : Int32))) fun (x46 : Int32) => (f_X10_grows_L2 (fun (x52 : Int32) (h53 : hp_T) => some h53) 100 x46 h45)) V hW I0
    have V2 : MV m2 n K f t := V.fr (by rw [F2.1 0 (by decide)]) ⟨F2.1 12 (by decide), F2.1 6 (by decide), F2.1 7 (by decide)⟩
    obtain ⟨m3, E3, F3, S3⟩ := m_grow2 V2 hW I2
    have e1 : nI n - 1 = pI n := by rw [n0]; decide
    have E2' : f_X10_grows_L1 (fun (x43 : Int32) (x44 : Int32) (h45 : hp_T) => o_let ((x43 - (1 : Int32))) fun (x46 : Int32) => (f_X10_grows_L2 (fun (x52 : Int32) (h53 : hp_T) => some h53) 100 x46 h45)) 100 0 0 m1 = _ := E2
    rw [E2', l_let, e1, E3]
    exact ⟨m3, rfl, (F2.mono (by decide)).tr (F3.mono (by decide)), grow_end hW I2 F3 S3⟩
  · rw [if_neg (by rw [i_le, n_int (by omega), t_0]; omega)]
    obtain ⟨g, E1, F1, k1, k2⟩ := m_hangs (p := none) (d := 0) V hW (show 0 ≤ n by omega) (Nat.le_refl n) (fun _ => nd_root n0)
    have eo : amO (wK K) 0 n = some (am (wK K) 0 n) := by unfold amO; rw [if_pos n0]
    have hm := am_mx hW n0 (Nat.le_refl n)
    rw [eo, keyR_n, keyR_r] at E1
    have E1' : f_X10_hangs (-1) 0 (nI n) 0 m1 = _ := E1
    rw [E1', c_some, if_pos (show ix 0 48 = true by decide), l_let, show (0 : Int32).toNatClampNeg = 0 from by decide]
    obtain ⟨g2, eg2⟩ : ∃ g2, g2 = hw g 14 0 (nI (am (wK K) 0 n)) := ⟨_, rfl⟩
    rw [← eg2]
    have Fg : Fr GC m1 g2 := by rw [eg2]; exact (F1.mono (by decide)).hw (by decide)
    have Vg : MV g2 n K f t := V.fr (by rw [Fg.1 0 (by decide)]) ⟨Fg.1 12 (by decide), Fg.1 6 (by decide), Fg.1 7 (by decide)⟩
    have R := nd_root (W := wK K) n0
    have I0 : GwI g2 1 0 n K (fun _ => am (wK K) 0 n) := by
      refine ⟨by omega, fun i hi => ?_, fun i hi => ?_, fun i hi => absurd hi (by omega), ?_, fun _ => ⟨by omega, rfl⟩⟩
      · have : i = 0 := by omega
        subst this
        rw [eg2, hw_s]
        exact ⟨rfl, hm.2.1⟩
      · exact (k2 _ eo).fr (by rw [eg2]; exact ⟨hw_ne _ _ _ (by decide), hw_ne _ _ _ (by decide), hw_ne _ _ _ (by decide), hw_ne _ _ _ (by decide)⟩)
      · show 0 + uv (sz (wK K) n) 0 (fun _ => am (wK K) 0 n) 0 = n
        unfold uv sz
        rw [if_neg (by omega), R.1, R.2.1]
        omega
    obtain ⟨m2, X, E2, F2, I2⟩ := m_grow1 (Kc := fun (x59 : Int32) (x60 : Int32) (h61 : hp_T) => o_let ((x59 - (1 : Int32))) fun (x62 : Int32) => (f_X10_grows_L2 (fun (x63 : Int32) (h64 : hp_T) => some h64) 100 x62 h61)) Vg hW I0
    have V2 : MV m2 n K f t := Vg.fr (by rw [F2.1 0 (by decide)]) ⟨F2.1 12 (by decide), F2.1 6 (by decide), F2.1 7 (by decide)⟩
    obtain ⟨m3, E3, F3, S3⟩ := m_grow2 V2 hW I2
    have e1 : nI n - 1 = pI n := by
      obtain ⟨k, rfl⟩ : ∃ k, n = k + 1 := ⟨n - 1, by omega⟩
      rw [n_pred (by omega)]
      rfl
    have E2' : f_X10_grows_L1 (fun (x59 : Int32) (x60 : Int32) (h61 : hp_T) => o_let ((x59 - (1 : Int32))) fun (x62 : Int32) => (f_X10_grows_L2 (fun (x63 : Int32) (h64 : hp_T) => some h64) 100 x62 h61)) 100 1 0 g2 = _ := E2
    rw [E2', l_let, e1, E3]
    exact ⟨m3, rfl, ((Fg.mono (by decide)).tr (F2.mono (by decide))).tr (F3.mono (by decide)), grow_end hW I2 F3 S3⟩
