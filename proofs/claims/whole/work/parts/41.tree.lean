/-! the tree, by itself -/
def am (W : Nat → Nat) (a : Nat) : Nat → Nat
  | 0 => a
  | b + 1 => if b ≤ a then a else if W b ≤ W (am W a b) then am W a b else b
def Wi (W : Nat → Nat) (n : Nat) : Prop := ∀ i j, i < n → j < n → W i = W j → i = j
theorem am_mx {W : Nat → Nat} {n a b : Nat} (hW : Wi W n) (hab : a < b) (hb : b ≤ n) : a ≤ am W a b ∧ am W a b < b ∧ ∀ i, a ≤ i → i < b → i ≠ am W a b → W i < W (am W a b) := by
  induction b with
  | zero => omega
  | succ b ih =>
    have e : am W a (b + 1) = if b ≤ a then a else if W b ≤ W (am W a b) then am W a b else b := rfl
    rw [e]
    by_cases c : b ≤ a
    · rw [if_pos c]
      exact ⟨by omega, by omega, fun i h1 h2 h3 => absurd h3 (by omega)⟩
    · obtain ⟨i1, i2, i3⟩ := ih (by omega) (by omega)
      rw [if_neg c]
      by_cases q : W b ≤ W (am W a b)
      · rw [if_pos q]
        refine ⟨i1, by omega, fun i h1 h2 h3 => ?_⟩
        by_cases eb : i = b
        · subst eb
          apply Nat.lt_of_le_of_ne q
          intro h
          exact h3 (hW _ _ (by omega) (by omega) h)
        · exact i3 i h1 (by omega) h3
      · rw [if_neg q]
        refine ⟨by omega, by omega, fun i h1 h2 h3 => ?_⟩
        by_cases ei : i = am W a b
        · rw [ei]; omega
        · have := i3 i h1 (by omega) ei; omega
theorem am_u {W : Nat → Nat} {n a b g : Nat} (hW : Wi W n) (hab : a < b) (hb : b ≤ n) (h1 : a ≤ g) (h2 : g < b) (h3 : ∀ i, a ≤ i → i < b → i ≠ g → W i < W g) : am W a b = g := by
  obtain ⟨i1, i2, i3⟩ := am_mx hW hab hb
  apply Decidable.byContradiction
  intro ne
  have a1 := h3 _ i1 i2 ne
  have a2 := i3 g h1 h2 (fun q => ne q.symm)
  omega
def fd (W : Nat → Nat) : Nat → Nat → Nat → Option Nat → Nat → Nat → Nat × Nat × Option Nat × Nat
  | 0, a, b, p, d, _ => (a, b, p, d)
  | F + 1, a, b, p, d, r => if r = am W a b then (a, b, p, d) else if r < am W a b then fd W F a (am W a b) (some (am W a b)) (d + 1) r else fd W F (am W a b + 1) b (some (am W a b)) (d + 1) r
theorem fd_F {W : Nat → Nat} {n : Nat} (hW : Wi W n) : ∀ F F2 a b p d r, b - a ≤ F → b - a ≤ F2 → a ≤ r → r < b → b ≤ n → fd W F a b p d r = fd W F2 a b p d r := by
  intro F
  induction F with
  | zero => intro F2 a b p d r h1 h2 h3 h4; omega
  | succ F ih =>
    intro F2 a b p d r h1 h2 h3 h4 h5
    obtain ⟨F3, rfl⟩ : ∃ F3, F2 = F3 + 1 := ⟨F2 - 1, by omega⟩
    obtain ⟨i1, i2, i3⟩ := am_mx hW (show a < b by omega) h5
    unfold fd
    by_cases c : r = am W a b
    · rw [if_pos c, if_pos c]
    · rw [if_neg c, if_neg c]
      by_cases c2 : r < am W a b
      · rw [if_pos c2, if_pos c2]
        exact ih _ _ _ _ _ _ (by omega) (by omega) h3 c2 (by omega)
      · rw [if_neg c2, if_neg c2]
        exact ih _ _ _ _ _ _ (by omega) (by omega) (by omega) h4 h5
/-- the place found is the greatest of its own stretch, and all of the stretch is found through it -/
theorem fd_at {W : Nat → Nat} {n : Nat} (hW : Wi W n) : ∀ F a b p d g, b - a ≤ F → a ≤ g → g < b → b ≤ n → ∀ a2 b2 p2 d2, fd W F a b p d g = (a2, b2, p2, d2) → am W a2 b2 = g ∧ a ≤ a2 ∧ a2 ≤ g ∧ g < b2 ∧ b2 ≤ b ∧ d2 + (b2 - a2) ≤ d + (b - a) ∧ ∀ r F2, a2 ≤ r → r < b2 → b2 - a2 ≤ F2 → fd W F a b p d r = fd W F2 a2 b2 p2 d2 r := by
  intro F
  induction F with
  | zero => intro a b p d g h1 h2 h3; omega
  | succ F ih =>
    intro a b p d g h1 h2 h3 h4 a2 b2 p2 d2 hf
    obtain ⟨i1, i2, i3⟩ := am_mx hW (show a < b by omega) h4
    unfold fd at hf
    by_cases c : g = am W a b
    · rw [if_pos c] at hf
      cases hf
      refine ⟨c.symm, Nat.le_refl _, h2, h3, Nat.le_refl _, Nat.le_refl _, fun r F2 r1 r2 r3 => fd_F hW _ _ _ _ _ _ _ h1 r3 r1 r2 h4⟩
    · rw [if_neg c] at hf
      by_cases c2 : g < am W a b
      · rw [if_pos c2] at hf
        obtain ⟨j1, j2, j3, j4, j5, j7, j6⟩ := ih _ _ _ _ _ (by omega) h2 c2 (by omega) _ _ _ _ hf
        refine ⟨j1, j2, j3, j4, by omega, by omega, fun r F2 r1 r2 r3 => ?_⟩
        rw [← j6 r F2 r1 r2 r3]
        conv => lhs; unfold fd
        rw [if_neg (by omega), if_pos (by omega)]
      · rw [if_neg c2] at hf
        obtain ⟨j1, j2, j3, j4, j5, j7, j6⟩ := ih _ _ _ _ _ (by omega) (by omega) h3 h4 _ _ _ _ hf
        refine ⟨j1, by omega, j3, j4, j5, by omega, fun r F2 r1 r2 r3 => ?_⟩
        rw [← j6 r F2 r1 r2 r3]
        conv => lhs; unfold fd
        rw [if_neg (by omega), if_neg (by omega)]
def nd (W : Nat → Nat) (n r : Nat) : Nat × Nat × Option Nat × Nat := fd W n 0 n none 0 r
def nA (W : Nat → Nat) (n r : Nat) : Nat := (nd W n r).1
def nB (W : Nat → Nat) (n r : Nat) : Nat := (nd W n r).2.1
def nP (W : Nat → Nat) (n r : Nat) : Option Nat := (nd W n r).2.2.1
def nD (W : Nat → Nat) (n r : Nat) : Nat := (nd W n r).2.2.2
def IsN (W : Nat → Nat) (n a b : Nat) (p : Option Nat) (d r : Nat) : Prop := nA W n r = a ∧ nB W n r = b ∧ nP W n r = p ∧ nD W n r = d
theorem isN_of {W : Nat → Nat} {n a b d r : Nat} {p : Option Nat} (h : nd W n r = (a, b, p, d)) : IsN W n a b p d r := by
  unfold IsN nA nB nP nD
  rw [h]
  exact ⟨rfl, rfl, rfl, rfl⟩
theorem nd_at {W : Nat → Nat} {n g : Nat} (hW : Wi W n) (hg : g < n) : am W (nA W n g) (nB W n g) = g ∧ nA W n g ≤ g ∧ g < nB W n g ∧ nB W n g ≤ n ∧ nD W n g + (nB W n g - nA W n g) ≤ n ∧ ∀ r F2, nA W n g ≤ r → r < nB W n g → nB W n g - nA W n g ≤ F2 → nd W n r = fd W F2 (nA W n g) (nB W n g) (nP W n g) (nD W n g) r := by
  obtain ⟨j1, j2, j3, j4, j5, j7, j6⟩ := fd_at hW n 0 n none 0 g (by omega) (by omega) hg (Nat.le_refl _) (nA W n g) (nB W n g) (nP W n g) (nD W n g) rfl
  exact ⟨j1, j3, j4, j5, by omega, j6⟩
theorem nd_root {W : Nat → Nat} {n : Nat} (hn : 0 < n) : IsN W n 0 n none 0 (am W 0 n) := by
  apply isN_of
  unfold nd
  obtain ⟨m, rfl⟩ : ∃ m, n = m + 1 := ⟨n - 1, by omega⟩
  unfold fd
  rw [if_pos rfl]
theorem nd_L {W : Nat → Nat} {n g : Nat} (hW : Wi W n) (hg : g < n) (h : nA W n g < g) : IsN W n (nA W n g) g (some g) (nD W n g + 1) (am W (nA W n g) g) := by
  obtain ⟨j1, j2, j3, j4, j5, j6⟩ := nd_at hW hg
  obtain ⟨i1, i2, i3⟩ := am_mx hW h (by omega)
  apply isN_of
  rw [j6 _ (nB W n g - nA W n g) i1 (by omega) (Nat.le_refl _)]
  obtain ⟨m, e⟩ : ∃ m, nB W n g - nA W n g = m + 1 + 1 := ⟨nB W n g - nA W n g - 2, by omega⟩
  rw [e]
  unfold fd
  rw [j1, if_neg (by omega), if_pos i2]
  unfold fd
  rw [if_pos rfl]
theorem nd_R {W : Nat → Nat} {n g : Nat} (hW : Wi W n) (hg : g < n) (h : g + 1 < nB W n g) : IsN W n (g + 1) (nB W n g) (some g) (nD W n g + 1) (am W (g + 1) (nB W n g)) := by
  obtain ⟨j1, j2, j3, j4, j5, j6⟩ := nd_at hW hg
  obtain ⟨i1, i2, i3⟩ := am_mx hW h (by omega)
  apply isN_of
  rw [j6 _ (nB W n g - nA W n g) (by omega) i2 (Nat.le_refl _)]
  obtain ⟨m, e⟩ : ∃ m, nB W n g - nA W n g = m + 1 + 1 := ⟨nB W n g - nA W n g - 2, by omega⟩
  rw [e]
  unfold fd
  rw [j1, if_neg (by omega), if_neg (by omega)]
  unfold fd
  rw [if_pos rfl]
def lch (W : Nat → Nat) (n g : Nat) : Option Nat := if nA W n g < g then some (am W (nA W n g) g) else none
def rch (W : Nat → Nat) (n g : Nat) : Option Nat := if g + 1 < nB W n g then some (am W (g + 1) (nB W n g)) else none
/-- what holds of the root and goes on to children holds of all -/
theorem nd_ind {W : Nat → Nat} {n : Nat} (hW : Wi W n) {S : Nat → Prop} (h0 : 0 < n → S (am W 0 n)) (hL : ∀ g, g < n → S g → nA W n g < g → S (am W (nA W n g) g)) (hR : ∀ g, g < n → S g → g + 1 < nB W n g → S (am W (g + 1) (nB W n g))) : ∀ r, r < n → S r := by
  have main : ∀ k g, nB W n g - nA W n g ≤ k → g < n → S g → ∀ r, nA W n g ≤ r → r < nB W n g → S r := by
    intro k
    induction k with
    | zero =>
      intro g h1 hg hS r h2 h3
      omega
    | succ k ih =>
      intro g h1 hg hS r h2 h3
      obtain ⟨j1, j2, j3, j4, -, -⟩ := nd_at hW hg
      rcases Nat.lt_trichotomy r g with c | c | c
      · have hl := nd_L hW hg (by omega)
        obtain ⟨i1, i2, i3⟩ := am_mx hW (show nA W n g < g by omega) (by omega)
        exact ih _ (by rw [hl.1, hl.2.1]; omega) (by omega) (hL g hg hS (by omega)) r (by rw [hl.1]; exact h2) (by rw [hl.2.1]; exact c)
      · rw [c]; exact hS
      · have hl := nd_R hW hg (by omega)
        obtain ⟨i1, i2, i3⟩ := am_mx hW (show g + 1 < nB W n g by omega) j4
        exact ih _ (by rw [hl.1, hl.2.1]; omega) (by omega) (hR g hg hS (by omega)) r (by rw [hl.1]; omega) (by rw [hl.2.1]; exact h3)
  intro r hr
  have n0 : 0 < n := by omega
  have R := nd_root (W := W) n0
  have i := am_mx hW n0 (Nat.le_refl n)
  exact main n _ (by rw [R.1, R.2.1]; omega) i.2.1 (h0 n0) r (by rw [R.1]; omega) (by rw [R.2.1]; exact hr)
theorem lch_s {W : Nat → Nat} {n g c : Nat} (hW : Wi W n) (hg : g < n) (h : lch W n g = some c) : nA W n g ≤ c ∧ c < g ∧ IsN W n (nA W n g) g (some g) (nD W n g + 1) c ∧ W c < W g := by
  unfold lch at h
  split at h
  · rename_i q
    cases h
    obtain ⟨j1, j2, j3, j4, -, -⟩ := nd_at hW hg
    obtain ⟨i1, i2, i3⟩ := am_mx hW q (by omega)
    refine ⟨i1, i2, nd_L hW hg q, ?_⟩
    have := (am_mx hW (show nA W n g < nB W n g by omega) j4).2.2 _ i1 (by omega) (by rw [j1]; omega)
    rw [j1] at this
    exact this
  · cases h
theorem rch_s {W : Nat → Nat} {n g c : Nat} (hW : Wi W n) (hg : g < n) (h : rch W n g = some c) : g < c ∧ c < nB W n g ∧ c < n ∧ IsN W n (g + 1) (nB W n g) (some g) (nD W n g + 1) c ∧ W c < W g := by
  unfold rch at h
  split at h
  · rename_i q
    cases h
    obtain ⟨j1, j2, j3, j4, -, -⟩ := nd_at hW hg
    obtain ⟨i1, i2, i3⟩ := am_mx hW q j4
    refine ⟨by omega, i2, by omega, nd_R hW hg q, ?_⟩
    have := (am_mx hW (show nA W n g < nB W n g by omega) j4).2.2 _ (by omega) i2 (by rw [j1]; omega)
    rw [j1] at this
    exact this
  · cases h
theorem nP_inv {W : Nat → Nat} {n r : Nat} (hW : Wi W n) (hr : r < n) : (nP W n r = none ∧ r = am W 0 n) ∨ ∃ g, g < n ∧ nP W n r = some g ∧ (lch W n g = some r ∨ rch W n g = some r) := by
  refine nd_ind hW (S := fun r => (nP W n r = none ∧ r = am W 0 n) ∨ ∃ g, g < n ∧ nP W n r = some g ∧ (lch W n g = some r ∨ rch W n g = some r)) (fun n0 => Or.inl ⟨(nd_root n0).2.2.1, rfl⟩) (fun g hg _ q => ?_) (fun g hg _ q => ?_) r hr
  · exact Or.inr ⟨g, hg, (nd_L hW hg q).2.2.1, Or.inl (by simp [lch, q])⟩
  · exact Or.inr ⟨g, hg, (nd_R hW hg q).2.2.1, Or.inr (by simp [rch, q])⟩
/-! sizes, heights, ends -/
def hg (W : Nat → Nat) : Nat → Nat → Nat → Nat
  | 0, _, _ => 0
  | F + 1, a, b => if a < b then 1 + max (hg W F a (am W a b)) (hg W F (am W a b + 1) b) else 0
theorem hg_F {W : Nat → Nat} {n : Nat} (hW : Wi W n) : ∀ F F2 a b, b - a ≤ F → b - a ≤ F2 → b ≤ n → hg W F a b = hg W F2 a b ∧ hg W F a b ≤ b - a := by
  intro F
  induction F with
  | zero =>
    intro F2 a b h1 h2 h3
    have : ¬ a < b := by omega
    cases F2 with
    | zero => exact ⟨rfl, by unfold hg; omega⟩
    | succ F2 => unfold hg; rw [if_neg this]; exact ⟨rfl, by omega⟩
  | succ F ih =>
    intro F2 a b h1 h2 h3
    by_cases c : a < b
    · obtain ⟨F3, rfl⟩ : ∃ F3, F2 = F3 + 1 := ⟨F2 - 1, by omega⟩
      obtain ⟨i1, i2, i3⟩ := am_mx hW c h3
      have q1 := ih F3 a (am W a b) (by omega) (by omega) (by omega)
      have q2 := ih F3 (am W a b + 1) b (by omega) (by omega) h3
      unfold hg
      rw [if_pos c, if_pos c, q1.1, q2.1]
      rw [q1.1] at q1
      rw [q2.1] at q2
      exact ⟨rfl, by omega⟩
    · have e1 : hg W (F + 1) a b = 0 := by unfold hg; rw [if_neg c]
      have e2 : hg W F2 a b = 0 := by
        cases F2 with
        | zero => rfl
        | succ F2 => unfold hg; rw [if_neg c]
      rw [e1, e2]
      exact ⟨rfl, by omega⟩
def nH (W : Nat → Nat) (n r : Nat) : Nat := hg W n (nA W n r) (nB W n r)
def oH (W : Nat → Nat) (n : Nat) : Option Nat → Nat
  | some c => nH W n c
  | none => 0
def oM (W : Nat → Nat) (n : Nat) : Option Nat → Nat
  | some c => nB W n c - nA W n c
  | none => 0
theorem oM_L {W : Nat → Nat} {n g : Nat} (hW : Wi W n) (hg : g < n) : oM W n (lch W n g) = g - nA W n g := by
  unfold lch
  split
  · rename_i q
    have := nd_L hW hg q
    unfold oM
    simp only
    rw [this.1, this.2.1]
  · unfold oM; simp only; omega
theorem oM_R {W : Nat → Nat} {n g : Nat} (hW : Wi W n) (hg : g < n) : oM W n (rch W n g) = nB W n g - (g + 1) := by
  unfold rch
  split
  · rename_i q
    have := nd_R hW hg q
    unfold oM
    simp only
    rw [this.1, this.2.1]
  · unfold oM; simp only; omega
theorem nM_rec {W : Nat → Nat} {n g : Nat} (hW : Wi W n) (hg : g < n) : nB W n g - nA W n g = 1 + oM W n (lch W n g) + oM W n (rch W n g) := by
  rw [oM_L hW hg, oM_R hW hg]
  obtain ⟨j1, j2, j3, j4, -, -⟩ := nd_at hW hg
  omega
theorem nH_rec {W : Nat → Nat} {n g : Nat} (hW : Wi W n) (hgn : g < n) : nH W n g = 1 + max (oH W n (lch W n g)) (oH W n (rch W n g)) := by
  obtain ⟨j1, j2, j3, j4, -, -⟩ := nd_at hW hgn
  have e1 : oH W n (lch W n g) = hg W n (nA W n g) g := by
    unfold lch
    split
    · rename_i q
      have := nd_L hW hgn q
      unfold oH nH
      simp only
      rw [this.1, this.2.1]
    · unfold oH
      simp only
      have := (hg_F hW n n (nA W n g) g (by omega) (by omega) (by omega)).2
      omega
  have e2 : oH W n (rch W n g) = hg W n (g + 1) (nB W n g) := by
    unfold rch
    split
    · rename_i q
      have := nd_R hW hgn q
      unfold oH nH
      simp only
      rw [this.1, this.2.1]
    · unfold oH
      simp only
      have := (hg_F hW n n (g + 1) (nB W n g) (by omega) (by omega) j4).2
      omega
  rw [e1, e2]
  unfold nH
  rw [(hg_F hW n (n + 1) (nA W n g) (nB W n g) (by omega) (by omega) j4).1]
  conv => lhs; unfold hg
  rw [if_pos (by omega), j1]
theorem nH_le {W : Nat → Nat} {n g : Nat} (hW : Wi W n) (hgn : g < n) : nH W n g ≤ n := by
  obtain ⟨j1, j2, j3, j4, -, -⟩ := nd_at hW hgn
  have := (hg_F hW n n (nA W n g) (nB W n g) (by omega) (by omega) j4).2
  unfold nH
  omega
/-- the farthest end in a stretch -/
def fe (t : Nat → Int32) (a : Nat) : Nat → Int
  | 0 => -2147483648
  | b + 1 => if b < a then -2147483648 else max (fe t a b) (t b).toInt
theorem fe_ge {t : Nat → Int32} {a b i : Nat} (h1 : a ≤ i) (h2 : i < b) : (t i).toInt ≤ fe t a b := by
  induction b with
  | zero => omega
  | succ b ih =>
    unfold fe
    rw [if_neg (by omega)]
    by_cases e : i = b
    · subst e; omega
    · have := ih (by omega); omega
theorem fe_le {t : Nat → Int32} {a b : Nat} {x : Int} (hx : -2147483648 ≤ x) (h : ∀ i, a ≤ i → i < b → (t i).toInt ≤ x) : fe t a b ≤ x := by
  induction b with
  | zero => exact hx
  | succ b ih =>
    unfold fe
    split
    · exact hx
    · have := ih (fun i q1 q2 => h i q1 (by omega))
      have := h b (by omega) (by omega)
      omega
theorem fe_lo {t : Nat → Int32} {a b : Nat} : -2147483648 ≤ fe t a b := by
  induction b with
  | zero => exact Int.le_refl _
  | succ b ih =>
    unfold fe
    split
    · exact Int.le_refl _
    · omega
def oE (W : Nat → Nat) (n : Nat) (t : Nat → Int32) : Option Nat → Int
  | some c => fe t (nA W n c) (nB W n c)
  | none => -2147483648
theorem oE_L {W : Nat → Nat} {n g : Nat} {t : Nat → Int32} (hW : Wi W n) (hg : g < n) : oE W n t (lch W n g) = fe t (nA W n g) g := by
  unfold lch
  split
  · rename_i q
    have := nd_L hW hg q
    unfold oE
    simp only
    rw [this.1, this.2.1]
  · rename_i q
    have h1 := fe_le (t := t) (a := nA W n g) (b := g) (Int.le_refl _) (fun i q1 q2 => absurd q1 (by omega))
    have h2 := fe_lo (t := t) (a := nA W n g) (b := g)
    show (-2147483648 : Int) = _
    omega
theorem oE_R {W : Nat → Nat} {n g : Nat} {t : Nat → Int32} (hW : Wi W n) (hg : g < n) : oE W n t (rch W n g) = fe t (g + 1) (nB W n g) := by
  unfold rch
  split
  · rename_i q
    have := nd_R hW hg q
    unfold oE
    simp only
    rw [this.1, this.2.1]
  · rename_i q
    have h1 := fe_le (t := t) (a := g + 1) (b := nB W n g) (Int.le_refl _) (fun i q1 q2 => absurd q1 (by omega))
    have h2 := fe_lo (t := t) (a := g + 1) (b := nB W n g)
    show (-2147483648 : Int) = _
    omega
theorem nE_rec {W : Nat → Nat} {n g : Nat} {t : Nat → Int32} (hW : Wi W n) (hg : g < n) : fe t (nA W n g) (nB W n g) = max (t g).toInt (max (oE W n t (lch W n g)) (oE W n t (rch W n g))) := by
  rw [oE_L hW hg, oE_R hW hg]
  obtain ⟨j1, j2, j3, j4, -, -⟩ := nd_at hW hg
  have l1 := fe_lo (t := t) (a := nA W n g) (b := g)
  have l2 := fe_lo (t := t) (a := g + 1) (b := nB W n g)
  have u := fe_le (t := t) (a := nA W n g) (b := nB W n g) (x := max (t g).toInt (max (fe t (nA W n g) g) (fe t (g + 1) (nB W n g)))) (by omega) (fun i q1 q2 => by
    rcases Nat.lt_trichotomy i g with c | c | c
    · have := fe_ge (t := t) q1 c; omega
    · subst c; omega
    · have := fe_ge (t := t) (show g + 1 ≤ i by omega) q2; omega)
  have d1 := fe_ge (t := t) (a := nA W n g) (b := nB W n g) (i := g) (by omega) (by omega)
  have d2 := fe_le (t := t) (a := nA W n g) (b := g) (x := fe t (nA W n g) (nB W n g)) fe_lo (fun i q1 q2 => fe_ge q1 (by omega))
  have d3 := fe_le (t := t) (a := g + 1) (b := nB W n g) (x := fe t (nA W n g) (nB W n g)) fe_lo (fun i q1 q2 => fe_ge (by omega) q2)
  omega
