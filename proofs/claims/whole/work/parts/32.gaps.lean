/-! the class's FREE parts of THE RANGE -/
theorem mx_i (x y : Int32) : (mx x y).toInt = max x.toInt y.toInt := by
  unfold mx
  split
  · rename_i c; rw [i_lt] at c; omega
  · rename_i c; rw [i_lt] at c; omega
theorem mn_i (x y : Int32) : (mn x y).toInt = min x.toInt y.toInt := by
  unfold mn
  split
  · rename_i c; rw [i_lt] at c; omega
  · rename_i c; rw [i_lt] at c; omega
def rc (t : Nat → Int32) : Nat → Int32
  | 0 => -1000000000
  | r + 1 => mx (rc t r) (t r)
def fx (n : Nat) (f : Nat → Int32) (r : Nat) : Int32 := if r < n then f r else 1000000000
def gp (n : Nat) (f t : Nat → Int32) (r : Nat) : Bool := !(decide (fx n f r ≤ rc t r))
def DerG (h : hp_T) (n : Nat) (f t : Nat → Int32) : Prop := h.1 22 2 = nI (cnt (gp n f t) (n + 1)) ∧ ∀ r, r ≤ n → gp n f t r = true → h.1 23 (cnt (gp n f t) r) = rc t r ∧ h.1 24 (cnt (gp n f t) r) = fx n f r
theorem c_addPart {h : hp_T} {g : Nat} {x y : Int32} (hg : g ≤ 48) (hs : h.1 22 2 = nI g) : f_X1_addPart x y h = some (if y ≤ x then h else hw (hw (hw h 23 g x) 24 g y) 22 2 (nI (g + 1))) := by
  unfold f_X1_addPart
  by_cases c : y ≤ x
  · rw [if_pos c, if_pos c]
  · rw [if_neg c, if_neg c, hs, if_neg (by rw [i_lt, n_int (by omega), t_48]; omega), if_pos (ix_n (by omega) (by omega)), l_let, hw_ne _ (z := 22) _ _ (by decide), hs, if_pos (ix_n (by omega) (by omega)), l_let, l_let, n_cl (by omega), hw_ne _ (z := 22) _ _ (by decide), hw_ne _ (z := 22) _ _ (by decide), hs, nI_1]
/-- a part more, or none -/
theorem gp_step {h : hp_T} {n v : Nat} {f t : Nat → Int32} (hv : v ≤ n) (hn : n ≤ 48) (hs : h.1 22 2 = nI (cnt (gp n f t) v)) (ha : ∀ r, r < v → gp n f t r = true → h.1 23 (cnt (gp n f t) r) = rc t r ∧ h.1 24 (cnt (gp n f t) r) = fx n f r) :
    ∃ h2, f_X1_addPart (rc t v) (fx n f v) h = some h2 ∧ Fr [22, 23, 24] h h2 ∧ h2.1 22 2 = nI (cnt (gp n f t) (v + 1)) ∧ (∀ r, r < v + 1 → gp n f t r = true → h2.1 23 (cnt (gp n f t) r) = rc t r ∧ h2.1 24 (cnt (gp n f t) r) = fx n f r) := by
  have hc := cnt_le (gp n f t) v
  rw [c_addPart (by omega) hs]
  cases hp : gp n f t v with
  | true =>
    have c : ¬ fx n f v ≤ rc t v := by simpa [gp] using hp
    rw [if_neg c]
    refine ⟨_, rfl, ((Fr.rf.hw (by decide)).hw (by decide)).hw (by decide), by rw [hw_s, cnt_t hp], fun r hr hpr => ?_⟩
    rw [hw_ne _ _ _ (by decide), hw_ne _ _ _ (by decide), hw_ne _ (z := 24) _ _ (by decide)]
    by_cases e : r = v
    · subst e
      rw [hw_s, hw_s]; exact ⟨rfl, rfl⟩
    · have h1 := cnt_mono (gp n f t) (show r + 1 ≤ v by omega)
      rw [cnt_t hpr] at h1
      rw [hw_n _ _ _ _ (Or.inr (by omega)), hw_n _ _ _ _ (Or.inr (by omega)), hw_ne _ (z := 24) _ _ (by decide)]
      exact ha r (by omega) hpr
  | false =>
    have c : fx n f v ≤ rc t v := by simpa [gp] using hp
    rw [if_pos c]
    refine ⟨h, rfl, Fr.rf, by rw [cnt_f hp]; exact hs, fun r hr hpr => ?_⟩
    by_cases e : r = v
    · subst e; rw [hp] at hpr; cases hpr
    · exact ha r (by omega) hpr
theorem gaps_build {h : hp_T} {n : Nat} {K : Nat → Nat} {f t : Nat → Int32} (V : CV h n K f t) : ∃ h2, f_X1_build h = some h2 ∧ Fr [22, 23, 24] h h2 ∧ DerG h2 n f t := by
  have hn := V.1
  unfold f_X1_build
  rw [l_let]
  obtain ⟨h0, e0⟩ : ∃ h0, h0 = hw h 22 2 0 := ⟨_, rfl⟩
  rw [← e0]
  have F0 : Fr [22, 23, 24] h h0 := by rw [e0]; exact Fr.rf.hw (by decide)
  have key := loop_j (fun N (s : Int32 × Int32 × hp_T) => f_X1_build_L1 (fun (x11 : Int32) (x12 : Int32) (h13 : hp_T) => o_cv (f_X1_addPart x11 (1000000000 : Int32) h13) fun (h14 : hp_T) => some h14) N s.1 s.2.1 s.2.2)
    (fun o => ∃ h2, o = some h2 ∧ Fr [22, 23, 24] h h2 ∧ DerG h2 n f t)
    (fun r s => ∃ v, r = n - v ∧ v ≤ n ∧ s.1 = rc t v ∧ s.2.1 = nI v ∧ Fr [22, 23, 24] h s.2.2 ∧ s.2.2.1 22 2 = nI (cnt (gp n f t) v) ∧ (∀ r, r < v → gp n f t r = true → s.2.2.1 23 (cnt (gp n f t) r) = rc t r ∧ s.2.2.1 24 (cnt (gp n f t) r) = fx n f r)) ?_ n 100 (-1000000000, 0, h0) (by omega)
    ⟨0, rfl, by omega, rfl, rfl, F0, by rw [e0, hw_s]; rfl, fun r hr => absurd hr (by omega)⟩
  · exact key
  rintro N r ⟨x, y, g⟩ ⟨v, rfl, hv, rfl, rfl, hF, hs, ha⟩
  dsimp only at *
  have Vg : CV g n K f t := V.fr fun k k1 k2 => hF.1 k (by simp <;> omega)
  rw [f_X1_build_L1, Vg.2.1]
  obtain ⟨h2, E, F2, s2, a2⟩ := gp_step hv hn hs ha
  by_cases e : v = n
  · subst e
    left
    rw [if_pos (by rw [i_le]; omega), show (1000000000 : Int32) = fx v f v by simp [fx], E, v_some]
    exact ⟨h2, rfl, hF.tr F2, s2, fun r hr => a2 r (by omega)⟩
  right
  obtain ⟨e1, e2, e3, e4⟩ := Vg.2.2 v (by omega)
  have efx : fx n f v = f v := by simp [fx, show v < n by omega]
  rw [efx] at E
  rw [if_neg (by rw [i_le, n_int (by omega), n_int (by omega)]; omega), if_pos (ix_n (by omega) (by omega)), l_let, n_cl (show v < 2147483648 by omega), e1, if_pos (ix_n e2 (by omega)), n_cl (show K v < 2147483648 by omega), e3, E, v_some, if_pos (ix_n e2 (by omega)), F2.1 3 (by decide), e4, l_let, l_let, nI_1]
  exact ⟨n - (v + 1), (rc t (v + 1), nI (v + 1), h2), by omega, ⟨v + 1, rfl, by omega, rfl, rfl, hF.tr F2, s2, a2⟩, rfl⟩
/-! sums over parts -/
def acc (w : Nat → Int32) : Nat → Int32
  | 0 => 0
  | n + 1 => acc w n + w n
theorem cnt_sub {p q : Nat → Bool} (φ : Nat → Bool) {N : Nat} (h1 : ∀ r, r < N → q r = true → p r = true) (h2 : ∀ r, r < N → p r = true → φ (cnt p r) = q r) : ∀ r, r ≤ N → cnt φ (cnt p r) = cnt q r := by
  intro r
  induction r with
  | zero => intro _; rfl
  | succ r ih =>
    intro hr
    have := ih (by omega)
    cases hp : p r with
    | true =>
      rw [cnt_t hp]
      have e := h2 r (by omega) hp
      cases hq : q r with
      | true => rw [cnt_t hq, cnt_t (by rw [e, hq]), this]
      | false => rw [cnt_f hq, cnt_f (by rw [e, hq]), this]
    | false =>
      have hq : q r = false := by
        cases hq : q r with
        | false => rfl
        | true => rw [h1 r (by omega) hq] at hp; cases hp
      rw [cnt_f hp, cnt_f hq, this]
theorem acc_sub {p : Nat → Bool} (w w2 : Nat → Int32) {N : Nat} (h2 : ∀ r, r < N → p r = true → w (cnt p r) = w2 r) : ∀ r, r ≤ N → acc w (cnt p r) = acc (fun i => if p i = true then w2 i else 0) r := by
  intro r
  induction r with
  | zero => intro _; rfl
  | succ r ih =>
    intro hr
    have := ih (by omega)
    cases hp : p r with
    | true => rw [cnt_t hp]; simp only [acc, this, h2 r (by omega) hp, hp, if_true]
    | false => rw [cnt_f hp, this]; simp [acc, hp]
theorem acc_cg {w w2 : Nat → Int32} {n : Nat} (h : ∀ r, r < n → w r = w2 r) : acc w n = acc w2 n := by
  induction n with
  | zero => rfl
  | succ n ih => unfold acc; rw [ih (fun r hr => h r (by omega)), h n (by omega)]
theorem nth_sub {p q : Nat → Bool} (φ : Nat → Bool) {N : Nat} {i : Int32} (h1 : ∀ r, r < N → q r = true → p r = true) (h2 : ∀ r, r < N → p r = true → φ (cnt p r) = q r) : ∀ r, r ≤ N → nth φ i (cnt p r) = (nth q i r).map (cnt p) := by
  intro r
  induction r with
  | zero => intro _; rfl
  | succ r ih =>
    intro hr
    have := ih (by omega)
    have hc := cnt_sub φ h1 h2 r (by omega)
    cases hp : p r with
    | true =>
      have e := h2 r (by omega) hp
      rw [cnt_t hp]
      conv => lhs; unfold nth
      conv => rhs; unfold nth
      rw [this]
      cases hx : nth q i r with
      | some z => rfl
      | none =>
        simp only [Option.map_none, e, hc]
        by_cases c : q r = true ∧ nI (cnt q r) = i
        · rw [if_pos c, if_pos c]; rfl
        · rw [if_neg c, if_neg c]; rfl
    | false =>
      have hq : q r = false := by
        cases hq : q r with
        | false => rfl
        | true => rw [h1 r (by omega) hq] at hp; cases hp
      rw [cnt_f hp, this]
      conv => rhs; unfold nth
      cases hx : nth q i r with
      | some z => rfl
      | none => simp [hq]
/-! the class's own sums -/
def pts (h : hp_T) (a b : Int32) (g : Nat) : Int32 := mx (mn (h.1 24 g) b - mx (h.1 23 g) a) 0
def ptB (h : hp_T) (a b : Int32) (g : Nat) : Bool := !(decide (pts h a b g ≤ 0))
theorem c_pts {h : hp_T} {g : Nat} {a b : Int32} (hg : g < 49) : f_X1_pointsOf (nI g) a b h = some (pts h a b g, h) := by
  unfold f_X1_pointsOf
  rw [if_pos (ix_n hg (by omega)), if_pos (ix_n hg (by omega)), n_cl (by omega)]
  rfl
theorem c_points {h : hp_T} {G : Nat} {a b : Int32} (hG : G ≤ 49) (hs : h.1 22 2 = nI G) : f_X1_pointsWithin a b h = some (acc (pts h a b) G, h) := by
  unfold f_X1_pointsWithin
  have key := loop_j (fun N (s : Int32 × Int32 × hp_T) => f_X1_pointsWithin_L1 a b (fun (x7 : Int32) (x8 : Int32) (h9 : hp_T) => some (x7, h9)) N s.1 s.2.1 s.2.2)
    (fun o => o = some (acc (pts h a b) G, h))
    (fun r s => ∃ v, r = G - v ∧ v ≤ G ∧ s.1 = acc (pts h a b) v ∧ s.2.1 = nI v ∧ s.2.2 = h) ?_ G 100 (0, 0, h) (by omega) ⟨0, rfl, by omega, rfl, rfl, rfl⟩
  · exact key
  rintro N r ⟨x, y, g⟩ ⟨v, rfl, hv, e1, e2, e3⟩
  dsimp only at e1 e2 e3
  subst e3; subst e1; subst e2
  dsimp only at *
  rw [f_X1_pointsWithin_L1, hs]
  by_cases e : v = G
  · subst e
    left
    rw [if_pos (by rw [i_le]; omega)]
  right
  rw [if_neg (by rw [i_le, n_int (by omega), n_int (by omega)]; omega), c_pts (by omega), c_some, l_let, l_let, nI_1]
  exact ⟨G - (v + 1), (acc (pts g a b) (v + 1), nI (v + 1), g), by omega, ⟨v + 1, rfl, by omega, rfl, rfl, rfl⟩, rfl⟩
theorem c_parts {h : hp_T} {G : Nat} {a b : Int32} (hG : G ≤ 49) (hs : h.1 22 2 = nI G) : f_X1_partsWithin a b h = some (nI (cnt (ptB h a b) G), h) := by
  unfold f_X1_partsWithin
  have key := loop_j (fun N (s : Int32 × Int32 × hp_T) => f_X1_partsWithin_L1 a b (fun (x10 : Int32) (x11 : Int32) (h12 : hp_T) => some (x10, h12)) N s.1 s.2.1 s.2.2)
    (fun o => o = some (nI (cnt (ptB h a b) G), h))
    (fun r s => ∃ v, r = G - v ∧ v ≤ G ∧ s.1 = nI (cnt (ptB h a b) v) ∧ s.2.1 = nI v ∧ s.2.2 = h) ?_ G 100 (0, 0, h) (by omega) ⟨0, rfl, by omega, rfl, rfl, rfl⟩
  · exact key
  rintro N r ⟨x, y, g⟩ ⟨v, rfl, hv, e1, e2, e3⟩
  dsimp only at e1 e2 e3
  subst e3; subst e1; subst e2
  dsimp only at *
  rw [f_X1_partsWithin_L1, hs]
  by_cases e : v = G
  · subst e
    left
    rw [if_pos (by rw [i_le]; omega)]
  right
  rw [if_neg (by rw [i_le, n_int (by omega), n_int (by omega)]; omega), c_pts (by omega), c_some]
  cases hp : ptB g a b v with
  | true =>
    have c : ¬ pts g a b v ≤ 0 := by simpa [ptB] using hp
    rw [if_neg c, l_let, l_let, nI_1, nI_1]
    exact ⟨G - (v + 1), (nI (cnt (ptB g a b) v + 1), nI (v + 1), g), by omega, ⟨v + 1, rfl, by omega, by rw [cnt_t hp], rfl, rfl⟩, rfl⟩
  | false =>
    have c : pts g a b v ≤ 0 := by simpa [ptB] using hp
    rw [if_pos c, l_let, l_let, Int32.add_zero, nI_1]
    exact ⟨G - (v + 1), (nI (cnt (ptB g a b) v), nI (v + 1), g), by omega, ⟨v + 1, rfl, by omega, by rw [cnt_f hp], rfl, rfl⟩, rfl⟩
theorem c_partAt {h : hp_T} {G : Nat} {a b i : Int32} (hG : G ≤ 49) (hs : h.1 22 2 = nI G) : f_X1_partAt a b i h = some (keyR (fun g => g) (nth (ptB h a b) i G), h) := by
  unfold f_X1_partAt
  have key := loop_j (fun N (s : Int32 × Int32 × hp_T) => f_X1_partAt_L1 a b i (fun (x10 : Int32) (x11 : Int32) (h12 : hp_T) => some ((-1 : Int32), h12)) N s.1 s.2.1 s.2.2)
    (fun o => o = some (keyR (fun g => g) (nth (ptB h a b) i G), h))
    (fun r s => ∃ v, r = G - v ∧ v ≤ G ∧ s.1 = nI (cnt (ptB h a b) v) ∧ s.2.1 = nI v ∧ s.2.2 = h ∧ nth (ptB h a b) i v = none) ?_ G 100 (0, 0, h) (by omega) ⟨0, rfl, by omega, rfl, rfl, rfl, rfl⟩
  · exact key
  rintro N r ⟨x, y, g⟩ ⟨v, rfl, hv, e1, e2, e3, hno⟩
  dsimp only at e1 e2 e3
  subst e3; subst e1; subst e2
  dsimp only at *
  rw [f_X1_partAt_L1, hs]
  by_cases e : v = G
  · subst e
    left
    rw [if_pos (by rw [i_le]; omega), hno]
    rfl
  rw [if_neg (by rw [i_le, n_int (by omega), n_int (by omega)]; omega), c_pts (by omega), c_some]
  cases hp : ptB g a b v with
  | true =>
    have c : ¬ pts g a b v ≤ 0 := by simpa [ptB] using hp
    rw [if_neg c]
    by_cases ei : nI (cnt (ptB g a b) v) = i
    · left
      have : nth (ptB g a b) i (v + 1) = some v := by unfold nth; rw [hno]; simp [hp, ei]
      rw [if_pos ei, nth_up this (by omega)]
      rfl
    · right
      rw [if_neg ei, l_let, l_let, nI_1, nI_1]
      refine ⟨G - (v + 1), (nI (cnt (ptB g a b) v + 1), nI (v + 1), g), by omega, ⟨v + 1, rfl, by omega, by rw [cnt_t hp], rfl, rfl, ?_⟩, rfl⟩
      unfold nth; rw [hno]; simp [ei]
  | false =>
    right
    have c : pts g a b v ≤ 0 := by simpa [ptB] using hp
    rw [if_pos c, l_let, nI_1]
    refine ⟨G - (v + 1), (nI (cnt (ptB g a b) v), nI (v + 1), g), by omega, ⟨v + 1, rfl, by omega, by rw [cnt_f hp], rfl, rfl, ?_⟩, rfl⟩
    unfold nth; rw [hno]; simp [hp]
