/-! what may be: the tests of both sides -/
theorem x_l (x : Int32) : x.toInt64.toInt = x.toInt := Int32.toInt_toInt64 x
theorem lc_lt {x y : Int64} : lg_cmp x y < 0 ↔ x.toInt < y.toInt := by
  rw [← Int64.lt_iff_toInt_lt]
  constructor
  · intro h
    rcases Int64.le_or_lt y x with c | c
    · have := (lg_cmp_ge x y).mpr c
      exact absurd this (by rw [i_le]; rw [i_lt] at h; omega)
    · exact c
  · intro h
    rcases Int32.le_or_lt 0 (lg_cmp x y) with c | c
    · have := (lg_cmp_ge x y).mp c
      rw [Int64.le_iff_toInt_le] at this
      rw [Int64.lt_iff_toInt_lt] at h
      omega
    · exact c
theorem lc_gt {x y : Int64} : 0 < lg_cmp x y ↔ y.toInt < x.toInt := by
  rw [← Int64.lt_iff_toInt_lt]
  constructor
  · intro h
    rcases Int64.le_or_lt x y with c | c
    · have := (lg_cmp_le x y).mpr c
      exact absurd this (by rw [i_le]; rw [i_lt] at h; omega)
    · exact c
  · intro h
    rcases Int32.le_or_lt (lg_cmp x y) 0 with c | c
    · have := (lg_cmp_le x y).mp c
      rw [Int64.le_iff_toInt_le] at this
      rw [Int64.lt_iff_toInt_lt] at h
      omega
    · exact c
theorem m_in {x lo hi : Int64} {a b : Int} {h : hp_T} (ea : lo.toInt = a) (eb : hi.toInt = b) : (a ≤ x.toInt ∧ x.toInt ≤ b → f_X10_in x lo hi h = some (1, h)) ∧ (¬ (a ≤ x.toInt ∧ x.toInt ≤ b) → f_X10_in x lo hi h = some (0, h)) := by
  unfold f_X10_in
  constructor <;> intro hl <;> (repeat' split) <;> first | rfl | (exfalso; simp only [lc_lt, lc_gt] at *; omega)
theorem bz0 : bz 0 = true := by decide
theorem bz1 : bz 1 = true := by decide
theorem m_isTwo {x : Int32} {h : hp_T} : (0 ≤ x.toInt ∧ x.toInt ≤ 1 → f_X10_isTwo x h = some (1, h)) ∧ (¬ (0 ≤ x.toInt ∧ x.toInt ≤ 1) → f_X10_isTwo x h = some (0, h)) := by
  have H := m_in (x := x.toInt64) (lo := 0) (hi := 1) (a := 0) (b := 1) (h := h) (by decide) (by decide)
  rw [x_l] at H
  unfold f_X10_isTwo
  exact ⟨fun c => by rw [H.1 c, c_some, if_pos bz1], fun c => by rw [H.2 c, c_some, if_pos bz0]⟩
theorem m_isKey {x : Int32} {h : hp_T} : (0 ≤ x.toInt ∧ x.toInt ≤ 47 → f_X10_isKey x h = some (1, h)) ∧ (¬ (0 ≤ x.toInt ∧ x.toInt ≤ 47) → f_X10_isKey x h = some (0, h)) := by
  have H := m_in (x := x.toInt64) (lo := 0) (hi := 47) (a := 0) (b := 47) (h := h) (by decide) (by decide)
  rw [x_l] at H
  unfold f_X10_isKey
  exact ⟨fun c => by rw [H.1 c, c_some, if_pos bz1], fun c => by rw [H.2 c, c_some, if_pos bz0]⟩
theorem m_isSheet {x : Int32} {h : hp_T} : (0 ≤ x.toInt ∧ x.toInt ≤ 3 → f_X10_isSheet x h = some (1, h)) ∧ (¬ (0 ≤ x.toInt ∧ x.toInt ≤ 3) → f_X10_isSheet x h = some (0, h)) := by
  have H := m_in (x := x.toInt64) (lo := 0) (hi := 3) (a := 0) (b := 3) (h := h) (by decide) (by decide)
  rw [x_l] at H
  unfold f_X10_isSheet
  exact ⟨fun c => by rw [H.1 c, c_some, if_pos bz1], fun c => by rw [H.2 c, c_some, if_pos bz0]⟩
theorem m_isPoint {x : Int32} {h : hp_T} : (-1000000000 ≤ x.toInt ∧ x.toInt ≤ 1000000000 → f_X10_isPoint x h = some (1, h)) ∧ (¬ (-1000000000 ≤ x.toInt ∧ x.toInt ≤ 1000000000) → f_X10_isPoint x h = some (0, h)) := by
  have H := m_in (x := x.toInt64) (lo := -1000000000) (hi := 1000000000) (a := -1000000000) (b := 1000000000) (h := h) (by decide) (by decide)
  rw [x_l] at H
  unfold f_X10_isPoint
  exact ⟨fun c => by rw [H.1 c, c_some, if_pos bz1], fun c => by rw [H.2 c, c_some, if_pos bz0]⟩
def vld (a b : Int32) : Prop := -1000000000 ≤ a.toInt ∧ a.toInt < b.toInt ∧ b.toInt ≤ 1000000000
theorem m_isStretch {a b : Int32} {h : hp_T} : (vld a b → f_X10_isStretch a b h = some (1, h)) ∧ (¬ vld a b → f_X10_isStretch a b h = some (0, h)) := by
  have H1 := m_isPoint (x := a) (h := h)
  have H2 := m_isPoint (x := b) (h := h)
  unfold f_X10_isStretch vld
  constructor
  · intro c
    rw [H1.1 (by omega), c_some, if_neg (by decide), H2.1 (by omega), c_some, if_neg (by decide), if_neg (by rw [i_le]; omega)]
  · intro c
    by_cases c1 : -1000000000 ≤ a.toInt ∧ a.toInt ≤ 1000000000
    · rw [H1.1 c1, c_some, if_neg (by decide)]
      by_cases c2 : -1000000000 ≤ b.toInt ∧ b.toInt ≤ 1000000000
      · rw [H2.1 c2, c_some, if_neg (by decide), if_pos (by rw [i_le]; omega)]
      · rw [H2.2 c2, c_some, if_pos rfl]
    · rw [H1.2 c1, c_some, if_pos rfl]
theorem c_isKey {x : Int32} {h : hp_T} : (0 ≤ x.toInt ∧ x.toInt ≤ 47 → f_X9_isKey x h = some (1, h)) ∧ (¬ (0 ≤ x.toInt ∧ x.toInt ≤ 47) → f_X9_isKey x h = some (0, h)) := by
  unfold f_X9_isKey
  constructor <;> intro hl <;> (repeat' split) <;> first | rfl | (exfalso; simp only [i_lt, i_le, t_0, t_48] at *; omega)
theorem c_isSheet {x : Int32} {h : hp_T} : (0 ≤ x.toInt ∧ x.toInt ≤ 3 → f_X9_isSheet x h = some (1, h)) ∧ (¬ (0 ≤ x.toInt ∧ x.toInt ≤ 3) → f_X9_isSheet x h = some (0, h)) := by
  have t4 : (4 : Int32).toInt = 4 := by decide
  unfold f_X9_isSheet
  constructor <;> intro hl <;> (repeat' split) <;> first | rfl | (exfalso; simp only [i_lt, i_le, t_0, t4] at *; omega)
theorem c_isForm {x : Int32} {h : hp_T} : (0 ≤ x.toInt ∧ x.toInt ≤ 2 → f_X9_isForm x h = some (1, h)) ∧ (¬ (0 ≤ x.toInt ∧ x.toInt ≤ 2) → f_X9_isForm x h = some (0, h)) := by
  have t2 : (2 : Int32).toInt = 2 := by decide
  unfold f_X9_isForm
  constructor <;> intro hl <;> (repeat' split) <;> first | rfl | (exfalso; simp only [i_lt, i_le, t_0, t2] at *; omega)
theorem c_isPoint {x : Int32} {h : hp_T} : (-1000000000 ≤ x.toInt ∧ x.toInt ≤ 1000000000 → f_X9_isPoint x h = some (1, h)) ∧ (¬ (-1000000000 ≤ x.toInt ∧ x.toInt ≤ 1000000000) → f_X9_isPoint x h = some (0, h)) := by
  unfold f_X9_isPoint
  constructor <;> intro hl <;> (repeat' split) <;> first | rfl | (exfalso; simp only [i_lt, i_le, t_lo, t_hi] at *; omega)
theorem c_isStretch {a b : Int32} {h : hp_T} : (vld a b → f_X9_isStretch a b h = some (1, h)) ∧ (¬ vld a b → f_X9_isStretch a b h = some (0, h)) := by
  unfold f_X9_isStretch vld
  constructor <;> intro hl <;> (repeat' split) <;> first | rfl | (exfalso; simp only [i_lt, i_le, t_lo, t_hi] at *; omega)
theorem c_isKN {x : Int32} {h : hp_T} : (-1 ≤ x.toInt ∧ x.toInt ≤ 47 → f_X9_isKeyOrNone x h = some (1, h)) ∧ (¬ (-1 ≤ x.toInt ∧ x.toInt ≤ 47) → f_X9_isKeyOrNone x h = some (0, h)) := by
  have H := c_isKey (x := x) (h := h)
  unfold f_X9_isKeyOrNone
  by_cases e : x = -1
  · subst e
    rw [if_pos rfl]
    exact ⟨fun _ => rfl, fun c => absurd (by decide) c⟩
  · have e2 : x.toInt ≠ -1 := fun q => e (by rw [i_eq, q, t_m1])
    rw [if_neg e]
    constructor
    · intro c; rw [H.1 (by omega), c_some, if_neg (by decide)]
    · intro c; rw [H.2 (by omega), c_some, if_pos rfl]
/-- an int of a range is a small number -/
theorem key_of {x : Int32} (h : 0 ≤ x.toInt ∧ x.toInt ≤ 47) : ∃ k, k < 48 ∧ x = nI k := by
  obtain ⟨j, h1, rfl⟩ := n_of h.1
  rw [n_int h1] at h
  exact ⟨j, by omega, rfl⟩
theorem small_of {x : Int32} {b : Nat} (h : 0 ≤ x.toInt ∧ x.toInt ≤ b) : ∃ k, k ≤ b ∧ x = nI k := by
  obtain ⟨j, h1, rfl⟩ := n_of h.1
  rw [n_int h1] at h
  exact ⟨j, by omega, rfl⟩
