/-! numbers -/
theorem i_lt {x y : Int32} : x < y ↔ x.toInt < y.toInt := Int32.lt_iff_toInt_lt
theorem i_le {x y : Int32} : x ≤ y ↔ x.toInt ≤ y.toInt := Int32.le_iff_toInt_le
theorem i_eq {x y : Int32} : x = y ↔ x.toInt = y.toInt := Int32.toInt_inj.symm
theorem i_rng (x : Int32) : -2147483648 ≤ x.toInt ∧ x.toInt < 2147483648 := ⟨Int32.le_toInt x, Int32.toInt_lt x⟩
theorem i_add {x y : Int32} (h1 : -2147483648 ≤ x.toInt + y.toInt) (h2 : x.toInt + y.toInt < 2147483648) : (x + y).toInt = x.toInt + y.toInt := by
  rw [Int32.toInt_add]
  exact Int.bmod_eq_of_le (by omega) (by omega)
theorem i_sub {x y : Int32} (h1 : -2147483648 ≤ x.toInt - y.toInt) (h2 : x.toInt - y.toInt < 2147483648) : (x - y).toInt = x.toInt - y.toInt := by
  rw [Int32.toInt_sub]
  exact Int.bmod_eq_of_le (by omega) (by omega)
theorem n_int {n : Nat} (h : n < 2147483648) : (nI n).toInt = (n : Int) := nI_toInt h
theorem n_cl {n : Nat} (h : n < 2147483648) : (nI n).toNatClampNeg = n := nI_clamp h
theorem ix_iff {x : Int32} {n : Nat} : ix x n = true ↔ 0 ≤ x.toInt ∧ x.toInt < n := by
  constructor
  · intro h
    exact vp_in_iff.mp (ix_vp h)
  · intro h
    have := vp_in_iff.mpr h
    unfold vp_in at this
    unfold ix
    simp only [not_or] at this
    simp [this.1, this.2]
theorem ix_n {j n : Nat} (h : j < n) (hn : n ≤ 1000) : ix (nI j) n = true := ix_iff.mpr (by rw [n_int (by omega)]; omega)
theorem ix_of {x : Int32} {n : Nat} (hn : n ≤ 1000) (h : ix x n = true) : ∃ j, j < n ∧ x = nI j := vp_in_of (ix_vp h) (by omega)
theorem ix_no {x : Int32} {n : Nat} (h : ¬ (0 ≤ x.toInt ∧ x.toInt < n)) : ix x n = false := by
  cases hx : ix x n with
  | false => rfl
  | true => exact absurd (ix_iff.mp hx) h
theorem n_inj {a b : Nat} (ha : a < 2147483648) (hb : b < 2147483648) (h : nI a = nI b) : a = b := (nI_eq ha hb).mp h
theorem n_of {x : Int32} (h : 0 ≤ x.toInt) : ∃ j : Nat, j < 2147483648 ∧ x = nI j := nI_of (by rw [i_lt]; show ¬ x.toInt < 0; omega)
theorem t_0 : (0 : Int32).toInt = 0 := by decide
theorem t_1 : (1 : Int32).toInt = 1 := by decide
theorem t_m1 : (-1 : Int32).toInt = -1 := by decide
theorem t_48 : (48 : Int32).toInt = 48 := by decide
theorem t_lo : (-1000000000 : Int32).toInt = -1000000000 := by decide
theorem t_hi : (1000000000 : Int32).toInt = 1000000000 := by decide
theorem t_least : (-2147483648 : Int32).toInt = -2147483648 := by decide
theorem n_pred {j : Nat} (h : 0 < j) : nI j - 1 = nI (j - 1) := by
  obtain ⟨i, rfl⟩ : ∃ i, j = i + 1 := ⟨j - 1, by omega⟩
  exact nI_pred i
theorem n_m1 {j : Nat} (h : 0 < j) : nI j + (-1) = nI (j - 1) := by
  obtain ⟨i, rfl⟩ : ∃ i, j = i + 1 := ⟨j - 1, by omega⟩
  exact pk_m1 i
/-! cells -/
theorem hwA_at (h : hp_T) (k : Nat) (f : Nat → Int32) : (hwA h k f).1 k = f := by simp [hwA]
theorem hwA_ne (h : hp_T) {k z : Nat} (f : Nat → Int32) (hz : z ≠ k) : (hwA h k f).1 z = h.1 z := by simp [hwA, hz]
theorem hw_at (h : hp_T) (k i : Nat) (x : Int32) : (hw h k i x).1 k = upd (h.1 k) i x := by simp [hw, hwA]
theorem hw_ne (h : hp_T) {k z : Nat} (i : Nat) (x : Int32) (hz : z ≠ k) : (hw h k i x).1 z = h.1 z := by simp [hw, hwA, hz]
theorem hw_2 (h : hp_T) (k i : Nat) (x : Int32) : (hw h k i x).2 = h.2 := rfl
theorem up_s (f : Nat → Int32) (k : Nat) (x : Int32) : upd f k x k = x := pk_us
theorem up_n (f : Nat → Int32) {k j : Nat} (x : Int32) (h : j ≠ k) : upd f k x j = f j := pk_un h
theorem hw_s (h : hp_T) (k i : Nat) (x : Int32) : (hw h k i x).1 k i = x := by rw [hw_at, up_s]
theorem hw_n (h : hp_T) (k i : Nat) (x : Int32) {z j : Nat} (hz : z ≠ k ∨ j ≠ i) : (hw h k i x).1 z j = h.1 z j := by
  by_cases e : z = k
  · subst e
    rcases hz with hz | hz
    · exact absurd rfl hz
    · rw [hw_at, up_n _ _ hz]
  · rw [hw_ne h i x e]
/-- what is outside the listed cells stays -/
def Fr (S : List Nat) (h h2 : hp_T) : Prop := (∀ k, k ∉ S → h2.1 k = h.1 k) ∧ h2.2 = h.2
theorem Fr.rf {S : List Nat} {h : hp_T} : Fr S h h := ⟨fun _ _ => rfl, rfl⟩
theorem Fr.tr {S : List Nat} {a b c : hp_T} (h1 : Fr S a b) (h2 : Fr S b c) : Fr S a c := ⟨fun k hk => (h2.1 k hk).trans (h1.1 k hk), h2.2.trans h1.2⟩
theorem Fr.hw {S : List Nat} {a b : hp_T} (h1 : Fr S a b) {k i : Nat} {x : Int32} (hk : k ∈ S) : Fr S a (hw b k i x) := ⟨fun z hz => by
  have e : z ≠ k := fun e => hz (by rw [e]; exact hk)
  rw [hw_ne b i x e]
  exact h1.1 z hz, h1.2⟩
theorem Fr.mono {S S2 : List Nat} {a b : hp_T} (h : Fr S a b) (hs : ∀ x ∈ S, x ∈ S2) : Fr S2 a b := ⟨fun k hk => h.1 k (fun hh => hk (hs k hh)), h.2⟩
/-! loops -/
theorem loop_j {σ ρ : Type} (g : Nat → σ → ρ) (J : ρ → Prop) (I : Nat → σ → Prop) (hs : ∀ n m s, I m s → J (g (n + 1) s) ∨ ∃ m' s', m' < m ∧ I m' s' ∧ g (n + 1) s = g n s') : ∀ m n s, m < n → I m s → J (g n s) := by
  intro m
  induction m using Nat.strongRecOn with
  | ind m ih =>
    intro n s hn hI
    obtain ⟨k, rfl⟩ : ∃ k, n = k + 1 := ⟨n - 1, by omega⟩
    rcases hs k m s hI with h | ⟨m', s', hm, hI', e⟩
    · exact h
    · rw [e]
      exact ih m' hm k s' (by omega) hI'
theorem c_some {α ρ : Type} (r : α) (h : hp_T) (K : α → hp_T → Option ρ) : o_call (some (r, h)) K = K r h := rfl
theorem v_some {ρ : Type} (h : hp_T) (K : hp_T → Option ρ) : o_cv (some h) K = K h := rfl
theorem l_let {α β : Type} (a : α) (K : α → β) : o_let a K = K a := rfl
