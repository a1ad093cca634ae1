/-! pairs -/
theorem cnt_iv {p : Nat → Bool} {a b n : Nat} (hab : a ≤ b) (h : ∀ k, k < n → (p k = true ↔ a ≤ k ∧ k < b)) : cnt p n = min n b - a := by
  induction n with
  | zero => rw [cnt_0]; omega
  | succ n ih =>
    have h1 := ih (fun k hk => h k (by omega))
    have h2 := h n (by omega)
    cases hq : p n with
    | true => rw [cnt_t hq, h1]; have := h2.mp hq; omega
    | false =>
      rw [cnt_f hq, h1]
      have : ¬ (a ≤ n ∧ n < b) := fun q => by rw [h2.mpr q] at hq; cases hq
      omega
def sm (g : Nat → Nat) : Nat → Nat
  | 0 => 0
  | n + 1 => sm g n + g n
theorem sm_s (g : Nat → Nat) (n : Nat) : sm g (n + 1) = sm g n + g n := rfl
theorem sm_le {g : Nat → Nat} {c : Nat} (h : ∀ i, g i ≤ c) : ∀ n, sm g n ≤ n * c
  | 0 => by simp [sm]
  | n + 1 => by
    have := sm_le h n
    have h2 := h n
    rw [sm_s, Nat.add_mul]; omega
theorem sm_mono (g : Nat → Nat) {a b : Nat} (h : a ≤ b) : sm g a ≤ sm g b := by
  induction b with
  | zero => have : a = 0 := by omega
            subst this; exact Nat.le_refl _
  | succ b ih =>
    rcases Nat.eq_or_lt_of_le h with e | e
    · rw [e]; exact Nat.le_refl _
    · have := ih (by omega)
      rw [sm_s]; omega
theorem sm_cg {g g2 : Nat → Nat} {n : Nat} (h : ∀ i, i < n → g i = g2 i) : sm g n = sm g2 n := by
  induction n with
  | zero => rfl
  | succ n ih => rw [sm_s, sm_s, ih (fun i hi => h i (by omega)), h n (by omega)]
def pb (f t : Nat → Int32) (i j : Nat) : Bool := decide (i < j) && !(decide (t i ≤ f j))
theorem pb_i {f t : Nat → Int32} {i j : Nat} : pb f t i j = true ↔ i < j ∧ (f j).toInt < (t i).toInt := by
  unfold pb
  simp only [Bool.and_eq_true, decide_eq_true_eq, Bool.not_eq_true', decide_eq_false_iff_not, i_le]
  omega
def pc (n : Nat) (f t : Nat → Int32) (i : Nat) : Nat := cnt (pb f t i) n
def sP (n : Nat) (f t : Nat → Int32) (i : Nat) : Nat := sm (pc n f t) i
theorem sP_s (n : Nat) (f t : Nat → Int32) (i : Nat) : sP n f t (i + 1) = sP n f t i + pc n f t i := rfl
theorem sP_0 (n : Nat) (f t : Nat → Int32) : sP n f t 0 = 0 := rfl
theorem sP_mono (n : Nat) (f t : Nat → Int32) {a b : Nat} (h : a ≤ b) : sP n f t a ≤ sP n f t b := sm_mono _ h
theorem cnt_head {p : Nat → Bool} {a : Nat} (h : ∀ k, k < a → p k = false) : ∀ n, cnt p n ≤ n - a
  | 0 => by rw [cnt_0]; omega
  | n + 1 => by
    have h1 := cnt_head h n
    by_cases c : n < a
    · rw [cnt_f (h n c)]; omega
    · cases hq : p n with
      | true => rw [cnt_t hq]; omega
      | false => rw [cnt_f hq]; omega
theorem pc_lt {n : Nat} {f t : Nat → Int32} (i : Nat) : pc n f t i ≤ n - (i + 1) := cnt_head (fun k hk => by
  cases hq : pb f t i k with
  | false => rfl
  | true => rw [pb_i] at hq; omega) n
theorem pc_le {n : Nat} {f t : Nat → Int32} (i : Nat) : pc n f t i ≤ n := cnt_le _ _
theorem sP_le {n : Nat} {f t : Nat → Int32} (hn : n ≤ 48) {v : Nat} (hv : v ≤ n) : sP n f t v ≤ 2304 := by
  have h1 := sm_le (g := pc n f t) (c := n) (fun i => pc_le i) v
  have h2 : v * n ≤ 48 * 48 := Nat.mul_le_mul (by omega) hn
  unfold sP
  omega
theorem pb_c {n : Nat} {f t : Nat → Int32} (Q : Sq n f t) {i j : Nat} (hj : j < n) (h : pb f t i j = true) : cnt (pb f t i) j = j - (i + 1) := by
  rw [pb_i] at h
  rw [cnt_iv (a := i + 1) (b := j) (by omega) (fun k hk => ?_)]
  · omega
  · rw [pb_i]
    have := Q.2 k j (by omega) hj
    omega
theorem pb_met {n : Nat} {f t : Nat → Int32} (Q : Sq n f t) {i j : Nat} (hij : i < j) (hj : j < n) : metB f t (f j) (t j) i = pb f t i j := b_ext (by
  rw [met_lt Q (by omega) hj, pb_i]
  omega)
def DerP (h : hp_T) (n : Nat) (f t : Nat → Int32) : Prop := h.1 31 1 = nI (sP n f t n) ∧ ∀ i, i < n → h.1 32 i = nI (sP n f t i)
theorem c_pairs2 {h : hp_T} {n i : Nat} {K : Nat → Nat} {f t : Nat → Int32} {Kc : Int32 → hp_T → Option hp_T} (V : CV h n K f t) (Q : Sq n f t) (hi : i < n) : f_X4_build_L2 (t i) Kc 100 (nI (i + 1)) h = Kc (nI (i + 1 + pc n f t i)) h := by
  have hn := V.1
  have key := loop_j (fun N (s : Int32 × hp_T) => f_X4_build_L2 (t i) Kc N s.1 s.2)
    (fun o => o = Kc (nI (i + 1 + pc n f t i)) h)
    (fun r s => ∃ v, r = n - v ∧ v ≤ n ∧ i < v ∧ s.1 = nI v ∧ s.2 = h ∧ ∀ j, i < j → j < v → (f j).toInt < (t i).toInt) ?_ (n - (i + 1)) 100 (nI (i + 1), h) (by omega)
    ⟨i + 1, rfl, by omega, by omega, rfl, rfl, fun j a b => absurd a (by omega)⟩
  · exact key
  rintro N r ⟨x, g⟩ ⟨v, rfl, hv, hiv, e1, e2, ha⟩
  dsimp only at e1 e2
  subst e1; subst e2
  dsimp only
  rw [f_X4_build_L2, V.2.1]
  by_cases e : v = n
  · left
    subst e
    rw [if_pos (by rw [i_le]; omega)]
    have : pc v f t i = v - (i + 1) := by
      unfold pc
      rw [cnt_iv (a := i + 1) (b := v) (by omega) (fun k hk => ?_)]
      · omega
      · rw [pb_i]
        constructor
        · intro q; omega
        · intro q; exact ⟨by omega, ha k (by omega) hk⟩
    rw [this, show i + 1 + (v - (i + 1)) = v by omega]
  obtain ⟨e1, e2, e3, e4⟩ := V.2.2 v (by omega)
  rw [if_neg (by rw [i_le, n_int (by omega), n_int (by omega)]; omega), if_pos (ix_n (show v < 48 by omega) (by omega)), n_cl (show v < 2147483648 by omega), e1, if_pos (ix_n e2 (by omega)), n_cl (show K v < 2147483648 by omega), e3]
  by_cases q : t i ≤ f v
  · left
    rw [if_pos q]
    rw [i_le] at q
    have : pc n f t i = v - (i + 1) := by
      unfold pc
      rw [cnt_iv (a := i + 1) (b := v) (by omega) (fun k hk => ?_)]
      · omega
      · rw [pb_i]
        constructor
        · intro q2
          refine ⟨by omega, ?_⟩
          apply Nat.lt_of_not_le
          intro q3
          have := Q.2 v k q3 hk
          omega
        · intro q2; exact ⟨by omega, ha k (by omega) (by omega)⟩
    rw [this, show i + 1 + (v - (i + 1)) = v by omega]
  · right
    rw [if_neg q, l_let, nI_1]
    rw [i_le] at q
    refine ⟨n - (v + 1), (nI (v + 1), g), by omega, ⟨v + 1, rfl, by omega, by omega, rfl, rfl, fun j a b => ?_⟩, rfl⟩
    by_cases ej : j = v
    · subst ej; omega
    · exact ha j a (by omega)
theorem nI_sub {a b : Nat} (h : b ≤ a) (ha : a < 2147483648) : nI a - nI b = nI (a - b) := by
  rw [i_eq, i_sub (by rw [n_int ha, n_int (by omega)]; omega) (by rw [n_int ha, n_int (by omega)]; omega), n_int ha, n_int (by omega), n_int (by omega)]
  omega
theorem pairs_build {h : hp_T} {n : Nat} {K : Nat → Nat} {f t : Nat → Int32} (V : CV h n K f t) (Q : Sq n f t) : ∃ h2, f_X4_build h = some h2 ∧ Fr [31, 32] h h2 ∧ DerP h2 n f t := by
  have hn := V.1
  unfold f_X4_build
  rw [l_let]
  obtain ⟨h0, e0⟩ : ∃ h0, h0 = hw h 31 1 0 := ⟨_, rfl⟩
  rw [← e0]
  have F0 : Fr [31, 32] h h0 := by rw [e0]; exact Fr.rf.hw (by decide)
  have key := loop_j (fun N (s : Int32 × hp_T) => f_X4_build_L1 (fun (x18 : Int32) (h19 : hp_T) => some h19) N s.1 s.2)
    (fun o => ∃ h2, o = some h2 ∧ Fr [31, 32] h h2 ∧ DerP h2 n f t)
    (fun r s => ∃ v, r = n - v ∧ v ≤ n ∧ s.1 = nI v ∧ Fr [31, 32] h s.2 ∧ s.2.1 31 1 = nI (sP n f t v) ∧ ∀ i, i < v → s.2.1 32 i = nI (sP n f t i)) ?_ n 100 (0, h0) (by omega)
    ⟨0, rfl, by omega, rfl, F0, by rw [e0, hw_s]; rfl, fun i hi => absurd hi (by omega)⟩
  · exact key
  rintro N r ⟨x, g⟩ ⟨v, rfl, hv, e1, hF, hs, ha⟩
  dsimp only at e1 hF hs ha
  subst e1
  dsimp only
  have Vg : CV g n K f t := V.fr fun k k1 k2 => hF.1 k (by simp <;> omega)
  rw [f_X4_build_L1, Vg.2.1]
  by_cases e : v = n
  · left
    subst e
    rw [if_pos (by rw [i_le]; omega)]
    exact ⟨g, rfl, hF, hs, ha⟩
  right
  obtain ⟨e1, e2, e3, e4⟩ := Vg.2.2 v (by omega)
  have V2 : CV (hw g 32 v (nI (sP n f t v))) n K f t := Vg.fr fun k k1 k2 => hw_ne _ _ _ (by omega)
  rw [if_neg (by rw [i_le, n_int (by omega), n_int (by omega)]; omega), if_pos (ix_n (show v < 48 by omega) (by omega)), n_cl (show v < 2147483648 by omega), l_let, hs, if_pos (ix_n (show v < 48 by omega) (by omega)), (V2.2.2 v (by omega)).1, if_pos (ix_n e2 (by omega)), n_cl (show K v < 2147483648 by omega), (V2.2.2 v (by omega)).2.2.2, l_let, l_let, nI_1, c_pairs2 V2 Q (show v < n by omega), l_let, l_let]
  have b1 := sP_le (f := f) (t := t) hn hv
  have b2 := pc_le (n := n) (f := f) (t := t) v
  have ee : (hw g 32 v (nI (sP n f t v))).1 31 1 + (nI (v + 1 + pc n f t v) - nI v - 1) = nI (sP n f t (v + 1)) := by
    rw [hw_ne _ _ _ (by decide), hs, nI_sub (by omega) (by omega), show v + 1 + pc n f t v - v = pc n f t v + 1 by omega, n_pred (by omega), show pc n f t v + 1 - 1 = pc n f t v by omega, nI_add, sP_s]
  rw [ee]
  refine ⟨n - (v + 1), (nI (v + 1), hw (hw g 32 v (nI (sP n f t v))) 31 1 (nI (sP n f t (v + 1)))), by omega, ⟨v + 1, rfl, by omega, rfl, (hF.hw (by decide)).hw (by decide), hw_s _ _ _ _, fun i hi => ?_⟩, rfl⟩
  dsimp only
  rw [hw_ne _ _ _ (by decide)]
  by_cases ei : i = v
  · subst ei; rw [hw_s]
  · rw [hw_n _ _ _ _ (Or.inr ei)]; exact ha i (by omega)
def clv (K : Nat → Nat) (f t : Nat → Int32) (p : Int32) (i j : Nat) : Int32 := if p = 0 then nI (K i) else if p = 1 then nI (K j) else mn (t i) (t j) - f j
def clW (n : Nat) (K : Nat → Nat) (f t : Nat → Int32) (p : Int32) (q : Nat) (W : Int32) : Prop := ∀ i j, i < n → j < n → pb f t i j = true → sP n f t i + cnt (pb f t i) j = q → clv K f t p i j = W
theorem clW_u {n : Nat} {K : Nat → Nat} {f t : Nat → Int32} {p : Int32} {q i : Nat} (Q : Sq n f t) (hi : i < n) (h1 : sP n f t i ≤ q) (h2 : q < sP n f t (i + 1)) : clW n K f t p q (clv K f t p i (i + 1 + (q - sP n f t i))) ∧ i + 1 + (q - sP n f t i) < n := by
  constructor
  · intro i2 j hi2 hj hp hq
    have hlt := cnt_mono (pb f t i2) (show j + 1 ≤ n by omega)
    rw [cnt_t hp] at hlt
    have hpc : cnt (pb f t i2) n = pc n f t i2 := rfl
    have e : i2 = i := by
      rcases Nat.lt_trichotomy i2 i with c | c | c
      · have := sP_mono n f t (show i2 + 1 ≤ i by omega)
        rw [sP_s] at this
        omega
      · exact c
      · have := sP_mono n f t (show i + 1 ≤ i2 by omega)
        omega
    subst e
    have := pb_c Q hj hp
    rw [pb_i] at hp
    rw [show i2 + 1 + (q - sP n f t i2) = j by omega]
  · rw [sP_s] at h2
    have := pc_lt (n := n) (f := f) (t := t) i
    omega
theorem c_rankAhead {h : hp_T} {n q : Nat} {f t : Nat → Int32} (hn : n ≤ 48) (hq : q < 2000) (D : DerP h n f t) : (sP n f t n ≤ q ∧ f_X4_rankAhead (nI q) (nI n) h = some (-1, h)) ∨ ∃ i, i < n ∧ sP n f t i ≤ q ∧ q < sP n f t (i + 1) ∧ f_X4_rankAhead (nI q) (nI n) h = some (nI i, h) := by
  unfold f_X4_rankAhead
  have b0 := sP_le (f := f) (t := t) hn (Nat.le_refl n)
  rw [D.1]
  by_cases c : sP n f t n ≤ q
  · left
    rw [if_neg (by rw [i_lt, n_int (by omega), n_int (by omega)]; omega)]
    exact ⟨c, rfl⟩
  right
  have n0 : 0 < n := by
    apply Nat.pos_of_ne_zero
    intro e
    subst e
    rw [sP_0] at c
    omega
  rw [if_pos (by rw [i_lt, n_int (by omega), n_int (by omega)]; omega), l_let, n_pred n0]
  have key := loop_j (fun N (s : Int32 × hp_T) => f_X4_rankAhead_L1 (nI q) (fun (x7 : Int32) (h8 : hp_T) => some ((-1 : Int32), h8)) N s.1 s.2)
    (fun o => ∃ i, i < n ∧ sP n f t i ≤ q ∧ q < sP n f t (i + 1) ∧ o = some (nI i, h))
    (fun r s => ∃ v, r = v ∧ v < n ∧ s.1 = nI v ∧ s.2 = h ∧ q < sP n f t (v + 1)) ?_ (n - 1) 100 (nI (n - 1), h) (by omega)
    ⟨n - 1, rfl, by omega, rfl, rfl, by rw [show n - 1 + 1 = n by omega]; omega⟩
  · exact key
  rintro N r ⟨x, g⟩ ⟨v, rfl, hv, e1, e2, ha⟩
  dsimp only at e1 e2
  subst e1; subst e2
  dsimp only
  have b1 := sP_le (f := f) (t := t) hn (show r ≤ n by omega)
  rw [f_X4_rankAhead_L1, if_neg (by rw [i_lt, n_int (by omega), t_0]; omega), if_pos (ix_n (show r < 48 by omega) (by omega)), n_cl (show r < 2147483648 by omega), D.2 r hv]
  by_cases c2 : q < sP n f t r
  · right
    have r0 : 0 < r := by
      apply Nat.pos_of_ne_zero
      intro e
      subst e
      rw [sP_0] at c2
      omega
    rw [if_pos (by rw [i_lt, n_int (by omega), n_int (by omega)]; omega), l_let, n_m1 r0]
    exact ⟨r - 1, (nI (r - 1), g), by omega, ⟨r - 1, rfl, by omega, rfl, rfl, by rw [show r - 1 + 1 = r by omega]; exact c2⟩, rfl⟩
  · left
    rw [if_neg (by rw [i_lt, n_int (by omega), n_int (by omega)]; omega)]
    exact ⟨r, hv, by omega, ha, rfl⟩
theorem c_shared {h : hp_T} {n i j : Nat} {K : Nat → Nat} {f t : Nat → Int32} (V : CV h n K f t) (hi : i < n) (hj : j < n) : f_X7_shared (nI i) (nI j) h = some (mn (t i) (t j) - f j, h) := by
  have hn := V.1
  obtain ⟨e1, e2, e3, e4⟩ := V.2.2 i hi
  obtain ⟨g1, g2, g3, g4⟩ := V.2.2 j hj
  unfold f_X7_shared
  rw [if_pos (ix_n (show i < 48 by omega) (by omega)), l_let, if_pos (ix_n (show j < 48 by omega) (by omega)), l_let, n_cl (show i < 2147483648 by omega), n_cl (show j < 2147483648 by omega), e1, g1, if_pos (ix_n e2 (by omega)), if_pos (ix_n g2 (by omega)), if_pos (ix_n g2 (by omega)), n_cl (show K i < 2147483648 by omega), n_cl (show K j < 2147483648 by omega), e4, g4, g3]
/-- the class's answer, once settled -/
theorem c_clash {h : hp_T} {n q : Nat} {K : Nat → Nat} {f t : Nat → Int32} {p : Int32} (V : CV h n K f t) (Q : Sq n f t) (hq : q < 1128) (D : DerP h n f t) : ∃ W, clW n K f t p q W ∧ (o_call (f_X4_rankAhead (nI q) (h.1 1 5) h) fun (r8 : Int32) (h7 : hp_T) => (if r8 = (-1 : Int32) then some ((-1 : Int32), h7) else if ix r8 48 = true then o_let ((((r8 + (1 : Int32)) + (nI q)) - (h7.1 32 r8.toNatClampNeg))) fun (x12 : Int32) => (if p = (0 : Int32) then if ix r8 48 = true then some ((h7.1 5 r8.toNatClampNeg), h7) else none else (if p = (1 : Int32) then if ix x12 48 = true then some ((h7.1 5 x12.toNatClampNeg), h7) else none else o_call (f_X7_shared r8 x12 h7) fun (r16 : Int32) (h15 : hp_T) => some (r16, h15))) else none)) = some ((if q < sP n f t n then W else -1), h) := by
  have hn := V.1
  rw [V.2.1]
  rcases c_rankAhead (q := q) hn (by omega) D with ⟨c, E⟩ | ⟨i, hi, c1, c2, E⟩
  · refine ⟨-1, ?_, ?_⟩
    · intro i j hi hj hp hs
      have h1 := cnt_mono (pb f t i) (show j + 1 ≤ n by omega)
      rw [cnt_t hp] at h1
      have h2 := sP_mono n f t (show i + 1 ≤ n by omega)
      rw [sP_s] at h2
      unfold pc at h2
      omega
    · rw [E, c_some, if_pos rfl, if_neg (by omega)]
  · obtain ⟨w1, w2⟩ := clW_u (K := K) (p := p) Q hi c1 c2
    refine ⟨_, w1, ?_⟩
    have h2 := sP_mono n f t (show i + 1 ≤ n by omega)
    have b1 := sP_le (f := f) (t := t) hn (show i ≤ n by omega)
    rw [E, c_some, if_neg (by rw [i_eq, n_int (by omega), t_m1]; omega), if_pos (ix_n (show i < 48 by omega) (by omega)), n_cl (show i < 2147483648 by omega), D.2 i hi, nI_1, nI_add, nI_sub (by omega) (by omega), l_let, show i + 1 + q - sP n f t i = i + 1 + (q - sP n f t i) by omega, if_pos (show q < sP n f t n by omega)]
    obtain ⟨j, ej⟩ : ∃ j, j = i + 1 + (q - sP n f t i) := ⟨_, rfl⟩
    rw [← ej] at w2 ⊢
    unfold clv
    by_cases p0 : p = 0
    · rw [if_pos p0, if_pos p0, if_pos (ix_n (show i < 48 by omega) (by omega)), (V.2.2 i hi).1]
    · rw [if_neg p0, if_neg p0]
      by_cases p1 : p = 1
      · rw [if_pos p1, if_pos p1, if_pos (ix_n (show j < 48 by omega) (by omega)), n_cl (show j < 2147483648 by omega), (V.2.2 j w2).1]
      · rw [if_neg p1, if_neg p1, c_shared V hi w2, c_some]
/-! the reference -/
theorem m_many2 {m : hp_T} {n i : Nat} {K : Nat → Nat} {f t : Nat → Int32} {Kc : Int32 → Int32 → hp_T → Option (Int32 × hp_T)} (V : MV m n K f t) (Q : Sq n f t) (hi : i < n) : f_X10_manyClashes_L2 (nI i) Kc 100 (nI (sP n f t i)) (nI (i + 1)) m = Kc (nI (sP n f t (i + 1))) (nI n) m := by
  have hn := V.1
  have z : cnt (pb f t i) (i + 1) = 0 := by
    have := cnt_head (p := pb f t i) (a := i + 1) (fun k hk => by
      cases hq : pb f t i k with
      | false => rfl
      | true => rw [pb_i] at hq; omega) (i + 1)
    omega
  have key := loop_j (fun N (s : Int32 × Int32 × hp_T) => f_X10_manyClashes_L2 (nI i) Kc N s.1 s.2.1 s.2.2)
    (fun o => o = Kc (nI (sP n f t (i + 1))) (nI n) m)
    (fun r s => ∃ v, r = n - v ∧ v ≤ n ∧ i < v ∧ s.1 = nI (sP n f t i + cnt (pb f t i) v) ∧ s.2.1 = nI v ∧ s.2.2 = m) ?_ (n - (i + 1)) 100 (nI (sP n f t i), nI (i + 1), m) (by omega)
    ⟨i + 1, rfl, by omega, by omega, by rw [z]; rfl, rfl, rfl⟩
  · exact key
  rintro N r ⟨x, y, g⟩ ⟨v, rfl, hv, hiv, e1, e2, e3⟩
  dsimp only at e1 e2 e3
  subst e3; subst e1; subst e2
  dsimp only
  rw [f_X10_manyClashes_L2, V.2.1]
  by_cases e : v = n
  · left
    subst e
    rw [if_pos (by rw [i_le]; omega)]
    rfl
  right
  rw [if_neg (by rw [i_le, n_int (by omega), n_int (by omega)]; omega), m_meetsRank V hi (show v < n by omega), c_some, pb_met Q hiv (by omega)]
  cases hp : pb f t i v with
  | true =>
    rw [if_pos ptt, if_neg n10, l_let, l_let, nI_1, nI_1]
    exact ⟨n - (v + 1), (nI (sP n f t i + cnt (pb f t i) v + 1), nI (v + 1), g), by omega, ⟨v + 1, rfl, by omega, by omega, by rw [cnt_t hp]; rfl, rfl, rfl⟩, rfl⟩
  | false =>
    rw [if_neg nft, if_pos p00, l_let, l_let, Int32.add_zero, nI_1]
    exact ⟨n - (v + 1), (nI (sP n f t i + cnt (pb f t i) v), nI (v + 1), g), by omega, ⟨v + 1, rfl, by omega, by omega, by rw [cnt_f hp], rfl, rfl⟩, rfl⟩
theorem m_many {m : hp_T} {n : Nat} {K : Nat → Nat} {f t : Nat → Int32} (V : MV m n K f t) (Q : Sq n f t) : f_X10_manyClashes m = some (nI (sP n f t n), m) := by
  have hn := V.1
  unfold f_X10_manyClashes
  have key := loop_j (fun N (s : Int32 × Int32 × hp_T) => f_X10_manyClashes_L1 (fun (x16 : Int32) (x17 : Int32) (h18 : hp_T) => some (x16, h18)) N s.1 s.2.1 s.2.2)
    (fun o => o = some (nI (sP n f t n), m))
    (fun r s => ∃ v, r = n - v ∧ v ≤ n ∧ s.1 = nI (sP n f t v) ∧ s.2.1 = nI v ∧ s.2.2 = m) ?_ n 100 (0, 0, m) (by omega) ⟨0, rfl, by omega, rfl, rfl, rfl⟩
  · exact key
  rintro N r ⟨x, y, g⟩ ⟨v, rfl, hv, e1, e2, e3⟩
  dsimp only at e1 e2 e3
  subst e3; subst e1; subst e2
  dsimp only
  rw [f_X10_manyClashes_L1, V.2.1]
  by_cases e : v = n
  · left
    subst e
    rw [if_pos (by rw [i_le]; omega)]
  right
  rw [if_neg (by rw [i_le, n_int (by omega), n_int (by omega)]; omega), l_let, nI_1, m_many2 V Q (show v < n by omega), l_let]
  exact ⟨n - (v + 1), (nI (sP n f t (v + 1)), nI (v + 1), g), by omega, ⟨v + 1, rfl, by omega, rfl, rfl, rfl⟩, rfl⟩
theorem m_clashOf {m : hp_T} {n i j : Nat} {K : Nat → Nat} {f t : Nat → Int32} {p : Int32} (V : MV m n K f t) (Q : Sq n f t) (hi : i < n) (hj : j < n) (hij : i < j) : f_X10_clashOf (nI i) (nI j) p m = some (clv K f t p i j, m) := by
  have hn := V.1
  obtain ⟨e1, e2, e3, e4⟩ := V.2.2 i hi
  obtain ⟨g1, g2, g3, g4⟩ := V.2.2 j hj
  unfold f_X10_clashOf clv
  rw [if_pos (ix_n (show i < 48 by omega) (by omega)), l_let, if_pos (ix_n (show j < 48 by omega) (by omega)), l_let, n_cl (show i < 2147483648 by omega), n_cl (show j < 2147483648 by omega), e1, g1]
  by_cases p0 : p = 0
  · rw [if_pos p0, if_pos p0]
  rw [if_neg p0, if_neg p0]
  by_cases p1 : p = 1
  · rw [if_pos p1, if_pos p1]
  rw [if_neg p1, if_neg p1, if_pos (ix_n e2 (by omega)), if_pos (ix_n g2 (by omega)), m_lesser, c_some, if_pos (ix_n e2 (by omega)), if_pos (ix_n g2 (by omega)), m_greater, c_some, n_cl (show K i < 2147483648 by omega), n_cl (show K j < 2147483648 by omega), e3, e4, g3, g4]
  have hf := Q.2 i j (by omega) hj
  rw [if_pos (show f i ≤ f j by rw [i_le]; exact hf)]
  have em : (if t j ≤ t i then t j else t i) = mn (t i) (t j) := by
    rw [i_eq, mn_i]
    split
    · rename_i q; rw [i_le] at q; omega
    · rename_i q; rw [i_le] at q; omega
  rw [em]
def rsv (q : Nat) (W : Int32) (c : Nat) : Int32 := if q < c then W else -1
theorem m_cby2 {m : hp_T} {n i q : Nat} {K : Nat → Nat} {f t : Nat → Int32} {p W : Int32} {Kc : Int32 → Int32 → Int32 → hp_T → Option (Int32 × hp_T)} (V : MV m n K f t) (Q : Sq n f t) (hi : i < n) (hq : q < 1128) (hW : clW n K f t p q W) : f_X10_clashBy_L2 (nI q) p (nI i) Kc 100 (nI (sP n f t i)) (rsv q W (sP n f t i)) (nI (i + 1)) m = Kc (nI (sP n f t (i + 1))) (rsv q W (sP n f t (i + 1))) (nI n) m := by
  have hn := V.1
  have z : cnt (pb f t i) (i + 1) = 0 := by
    have := cnt_head (p := pb f t i) (a := i + 1) (fun k hk => by
      cases hq : pb f t i k with
      | false => rfl
      | true => rw [pb_i] at hq; omega) (i + 1)
    omega
  have key := loop_j (fun N (s : Int32 × Int32 × Int32 × hp_T) => f_X10_clashBy_L2 (nI q) p (nI i) Kc N s.1 s.2.1 s.2.2.1 s.2.2.2)
    (fun o => o = Kc (nI (sP n f t (i + 1))) (rsv q W (sP n f t (i + 1))) (nI n) m)
    (fun r s => ∃ v, r = n - v ∧ v ≤ n ∧ i < v ∧ s.1 = nI (sP n f t i + cnt (pb f t i) v) ∧ s.2.1 = rsv q W (sP n f t i + cnt (pb f t i) v) ∧ s.2.2.1 = nI v ∧ s.2.2.2 = m) ?_ (n - (i + 1)) 100 (nI (sP n f t i), rsv q W (sP n f t i), nI (i + 1), m) (by omega)
    ⟨i + 1, rfl, by omega, by omega, by rw [z]; rfl, by rw [z]; rfl, rfl, rfl⟩
  · exact key
  rintro N r ⟨x, u, y, g⟩ ⟨v, rfl, hv, hiv, e1, e2, e3, e4⟩
  dsimp only at e1 e2 e3 e4
  subst e4; subst e1; subst e2; subst e3
  dsimp only
  rw [f_X10_clashBy_L2, V.2.1]
  by_cases e : v = n
  · left
    subst e
    rw [if_pos (by rw [i_le]; omega)]
    rfl
  right
  have b1 := sP_le (f := f) (t := t) hn (show i ≤ n by omega)
  have b2 := cnt_le (pb f t i) v
  rw [if_neg (by rw [i_le, n_int (by omega), n_int (by omega)]; omega), m_meetsRank V hi (show v < n by omega), c_some, pb_met Q hiv (by omega)]
  cases hp : pb f t i v with
  | true =>
    rw [if_pos ptt, if_neg n10]
    by_cases ec : sP n f t i + cnt (pb f t i) v = q
    · rw [if_pos (by rw [ec]), m_clashOf V Q hi (show v < n by omega) hiv, c_some, l_let, l_let, nI_1, nI_1]
      refine ⟨n - (v + 1), (nI (sP n f t i + cnt (pb f t i) v + 1), clv K f t p i v, nI (v + 1), g), by omega, ⟨v + 1, rfl, by omega, by omega, by rw [cnt_t hp]; rfl, ?_, rfl, rfl⟩, rfl⟩
      dsimp only
      rw [cnt_t hp, hW i v hi (by omega) hp ec]
      unfold rsv
      rw [if_pos (by omega)]
    · rw [if_neg (fun h => ec (n_inj (by omega) (by omega) h)), l_let, l_let, nI_1, nI_1]
      refine ⟨n - (v + 1), (nI (sP n f t i + cnt (pb f t i) v + 1), rsv q W (sP n f t i + cnt (pb f t i) v), nI (v + 1), g), by omega, ⟨v + 1, rfl, by omega, by omega, by rw [cnt_t hp]; rfl, ?_, rfl, rfl⟩, rfl⟩
      dsimp only
      rw [cnt_t hp]
      unfold rsv
      by_cases c : q < sP n f t i + cnt (pb f t i) v
      · rw [if_pos c, if_pos (by omega)]
      · rw [if_neg c, if_neg (by omega)]
  | false =>
    rw [if_neg nft, if_pos p00, l_let, nI_1]
    exact ⟨n - (v + 1), (nI (sP n f t i + cnt (pb f t i) v), rsv q W (sP n f t i + cnt (pb f t i) v), nI (v + 1), g), by omega, ⟨v + 1, rfl, by omega, by omega, by rw [cnt_f hp], by rw [cnt_f hp], rfl, rfl⟩, rfl⟩
theorem m_clashBy {m : hp_T} {n q : Nat} {K : Nat → Nat} {f t : Nat → Int32} {p W : Int32} (V : MV m n K f t) (Q : Sq n f t) (hq : q < 1128) (hW : clW n K f t p q W) : f_X10_clashBy (nI q) p m = some ((if q < sP n f t n then W else -1), m) := by
  have hn := V.1
  unfold f_X10_clashBy
  have key := loop_j (fun N (s : Int32 × Int32 × Int32 × hp_T) => f_X10_clashBy_L1 (nI q) p (fun (x22 : Int32) (x23 : Int32) (x24 : Int32) (h25 : hp_T) => some (x23, h25)) N s.1 s.2.1 s.2.2.1 s.2.2.2)
    (fun o => o = some (rsv q W (sP n f t n), m))
    (fun r s => ∃ v, r = n - v ∧ v ≤ n ∧ s.1 = nI (sP n f t v) ∧ s.2.1 = rsv q W (sP n f t v) ∧ s.2.2.1 = nI v ∧ s.2.2.2 = m) ?_ n 100 (0, -1, 0, m) (by omega) ⟨0, rfl, by omega, rfl, by rw [sP_0]; unfold rsv; rw [if_neg (by omega)], rfl, rfl⟩
  · exact key
  rintro N r ⟨x, u, y, g⟩ ⟨v, rfl, hv, e1, e2, e3, e4⟩
  dsimp only at e1 e2 e3 e4
  subst e4; subst e1; subst e2; subst e3
  dsimp only
  rw [f_X10_clashBy_L1, V.2.1]
  by_cases e : v = n
  · left
    subst e
    rw [if_pos (by rw [i_le]; omega)]
  right
  rw [if_neg (by rw [i_le, n_int (by omega), n_int (by omega)]; omega), l_let, nI_1, m_cby2 V Q (show v < n by omega) hq hW, l_let]
  exact ⟨n - (v + 1), (nI (sP n f t (v + 1)), rsv q W (sP n f t (v + 1)), nI (v + 1), g), by omega, ⟨v + 1, rfl, by omega, rfl, rfl, rfl, rfl⟩, rfl⟩
