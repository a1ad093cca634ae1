/-! questions: what both sides see of the spans in ORDER -/
def CV (h : hp_T) (n : Nat) (K : Nat → Nat) (f t : Nat → Int32) : Prop := n ≤ 48 ∧ h.1 1 5 = nI n ∧ ∀ i, i < n → h.1 5 i = nI (K i) ∧ K i < 48 ∧ h.1 2 (K i) = f i ∧ h.1 3 (K i) = t i
def MV (m : hp_T) (n : Nat) (K : Nat → Nat) (f t : Nat → Int32) : Prop := n ≤ 48 ∧ m.1 0 8 = nI n ∧ ∀ i, i < n → m.1 12 i = nI (K i) ∧ K i < 48 ∧ m.1 6 (K i) = f i ∧ m.1 7 (K i) = t i
def Sq (n : Nat) (f t : Nat → Int32) : Prop := (∀ i, i < n → vld (f i) (t i)) ∧ (∀ i j, i ≤ j → j < n → (f i).toInt ≤ (f j).toInt)
abbrev SC : List Nat := [4, 12, 13, 14, 15, 16, 17, 18, 19, 20, 21, 22, 23, 24, 25, 26, 27, 28, 29, 30]
theorem rel_m {Der : hp_T → Nat → (Nat → Nat) → Prop} {h m m2 : hp_T} (R : RelD Der h m) (hF : Fr SC m m2) : RelD Der h m2 := by
  obtain ⟨n, K, hI, hn8, hB, ⟨d, nx, hd, hnx, x4, x5, x9, hE, P, p1, p2⟩, hS, hf, hw, hst⟩ := R
  have e0 := hF.1 0 (by decide)
  have e5 := hF.1 5 (by decide)
  have e8 := hF.1 8 (by decide)
  have e9 := hF.1 9 (by decide)
  refine ⟨n, K, hI, by rw [e0]; exact hn8, ?_, ⟨d, nx, hd, hnx, x4, x5, by rw [e0]; exact x9, ?_, P, by rw [e5]; exact p1, by rw [e8, e9]; exact p2⟩, hS.cg (fun _ _ => rfl) ⟨hF.1 1 (by decide), hF.1 2 (by decide), hF.1 3 (by decide)⟩, by rw [e0]; exact hf, hw, hst⟩
  · intro k hk
    rw [e5, hF.1 6 (by decide), hF.1 7 (by decide)]
    exact hB k hk
  · intro i hi
    have := hE i hi
    unfold Ent at *
    rw [e8, e9, hF.1 10 (by decide), hF.1 11 (by decide)]
    exact this
theorem MV.fr {m m2 : hp_T} {n : Nat} {K : Nat → Nat} {f t : Nat → Int32} (h : MV m n K f t) (e0 : m2.1 0 8 = m.1 0 8) (e : m2.1 12 = m.1 12 ∧ m2.1 6 = m.1 6 ∧ m2.1 7 = m.1 7) : MV m2 n K f t := by
  unfold MV at *
  rw [e0, e.1, e.2.1, e.2.2]
  exact h
theorem CV.fr {h h2 : hp_T} {n : Nat} {K : Nat → Nat} {f t : Nat → Int32} (hc : CV h n K f t) (e : ∀ k, 1 ≤ k → k ≤ 5 → h2.1 k = h.1 k) : CV h2 n K f t := by
  unfold CV at *
  rw [e 1 (by omega) (by omega), e 5 (by omega) (by omega), e 2 (by omega) (by omega), e 3 (by omega) (by omega)]
  exact hc
/-- class and reference, the spans in order -/
theorem rel_v {Der : hp_T → Nat → (Nat → Nat) → Prop} {h m : hp_T} (R : RelD Der h m) : ∃ n K f t m1, SpI h n K ∧ CV h n K f t ∧ Sq n f t ∧ f_X10_orders m = some m1 ∧ Fr [12, 13] m m1 ∧ MV m1 n K f t ∧ OrM m1 n K ∧ RelD Der h m1 ∧ (∀ k, k < 48 → h.1 4 k = m1.1 5 k) := by
  obtain ⟨n, K, hI, hn8, hB, hrest⟩ := id R
  have hO := hI.1
  have hOm : Ord (m.1 5) (m.1 6) (m.1 7) n K := hO.cg fun k hk => ⟨(hB k hk).1.symm, fun _ => ⟨(hB k hk).2.1.symm, (hB k hk).2.2.1.symm⟩⟩
  obtain ⟨m1, E, hF, hM⟩ := orders_ok hOm (fun k hk => by rw [← (hB k hk).1]; exact (hB k hk).2.2.2.1)
  refine ⟨n, K, fun i => h.1 2 (K i), fun i => h.1 3 (K i), m1, hI, ⟨hO.le, hI.2.1, fun i hi => ⟨hI.2.2.1 i hi, (hO.1 i hi).1, rfl, rfl⟩⟩, ⟨fun i hi => (hB _ (hO.1 i hi).1).2.2.2.2 (hO.1 i hi).2, fun i j hij hj => ?_⟩, E, hF, ⟨hO.le, by rw [hF.1 0 (by decide)]; exact hn8, fun i hi => ⟨hM.1 i hi, (hO.1 i hi).1, ?_, ?_⟩⟩, hM, rel_m R (hF.mono (by decide)), fun k hk => by rw [hF.1 5 (by decide)]; exact (hB k hk).1⟩
  · rcases Nat.eq_or_lt_of_le hij with e | e
    · subst e; exact Int.le_refl _
    · exact la_le (hO.2.1 i j e hj)
  · rw [hF.1 6 (by decide)]; exact (hB _ (hO.1 i hi).1).2.1.symm
  · rw [hF.1 7 (by decide)]; exact (hB _ (hO.1 i hi).1).2.2.1.symm
/-! counting -/
theorem nft : ¬ (false = true) := by decide
theorem ptt : true = true := rfl
def cnt (p : Nat → Bool) : Nat → Nat
  | 0 => 0
  | n + 1 => cnt p n + (if p n = true then 1 else 0)
theorem cnt_le (p : Nat → Bool) : ∀ n, cnt p n ≤ n
  | 0 => Nat.le_refl 0
  | n + 1 => by
    have := cnt_le p n
    unfold cnt
    split <;> omega
theorem cnt_t {p : Nat → Bool} {n : Nat} (h : p n = true) : cnt p (n + 1) = cnt p n + 1 := by simp [cnt, h]
theorem cnt_f {p : Nat → Bool} {n : Nat} (h : p n = false) : cnt p (n + 1) = cnt p n := by simp [cnt, h]
theorem cnt_mono (p : Nat → Bool) {a b : Nat} (h : a ≤ b) : cnt p a ≤ cnt p b := by
  induction b with
  | zero => have : a = 0 := by omega
            subst this; exact Nat.le_refl _
  | succ b ih =>
    rcases Nat.eq_or_lt_of_le h with e | e
    · rw [e]; exact Nat.le_refl _
    · have := ih (by omega)
      cases hq : p b with
      | true => rw [cnt_t hq]; omega
      | false => rw [cnt_f hq]; omega
theorem cnt_cg {p q : Nat → Bool} {n : Nat} (h : ∀ i, i < n → p i = q i) : cnt p n = cnt q n := by
  induction n with
  | zero => rfl
  | succ n ih =>
    unfold cnt
    rw [ih (fun i hi => h i (by omega)), h n (by omega)]
/-- the i-th of those with p -/
def nth (p : Nat → Bool) (i : Int32) : Nat → Option Nat
  | 0 => none
  | n + 1 => match nth p i n with
    | some r => some r
    | none => if p n = true ∧ nI (cnt p n) = i then some n else none
theorem nth_up {p : Nat → Bool} {i : Int32} {v n r : Nat} (h : nth p i v = some r) (hv : v ≤ n) : nth p i n = some r := by
  induction n with
  | zero => have : v = 0 := by omega
            subst this; exact h
  | succ n ih =>
    rcases Nat.eq_or_lt_of_le hv with e | e
    · rw [← e]; exact h
    · unfold nth; rw [ih (by omega)]
theorem nth_s {p : Nat → Bool} {i : Int32} {n r : Nat} (h : nth p i n = some r) : r < n ∧ p r = true ∧ nI (cnt p r) = i := by
  induction n with
  | zero => cases h
  | succ n ih =>
    unfold nth at h
    split at h
    · rename_i x hx
      cases h
      have := ih hx
      exact ⟨by omega, this.2⟩
    · split at h
      · rename_i c
        cases h
        exact ⟨by omega, c⟩
      · cases h
theorem nth_ex {p : Nat → Bool} {n i : Nat} (hn : n ≤ 1000) (h : i < cnt p n) : ∃ r, nth p (nI i) n = some r ∧ cnt p r = i := by
  induction n with
  | zero => exact absurd h (by simp [cnt])
  | succ n ih =>
    by_cases c : i < cnt p n
    · obtain ⟨r, h1, h2⟩ := ih (by omega) c
      exact ⟨r, nth_up h1 (by omega), h2⟩
    · have hp : p n = true := by
        cases hq : p n with
        | true => rfl
        | false => rw [cnt_f hq] at h; exact absurd h c
      rw [cnt_t hp] at h
      have e : cnt p n = i := by omega
      cases hx : nth p (nI i) n with
      | some r =>
        have := nth_s hx
        have h3 := cnt_le p r
        have h4 := n_inj (by omega) (by have := cnt_le p n; omega) this.2.2
        exact ⟨r, nth_up hx (by omega), h4⟩
      | none =>
        refine ⟨n, ?_, e⟩
        unfold nth
        rw [hx, e]
        simp [hp]
def keyR (K : Nat → Nat) (o : Option Nat) : Int32 := match o with
  | some r => nI (K r)
  | none => -1
/-! meets -/
def metB (f t : Nat → Int32) (a b : Int32) (r : Nat) : Bool := !(decide (b ≤ f r)) && !(decide (t r ≤ a))
theorem c_met {h : hp_T} {n : Nat} {K : Nat → Nat} {f t : Nat → Int32} {a b : Int32} {r : Nat} (V : CV h n K f t) (hr : r < n) : f_X7_meetsStretch (nI (K r)) a b h = some ((if metB f t a b r = true then 1 else 0), h) := by
  obtain ⟨e1, e2, e3, e4⟩ := V.2.2 r hr
  unfold f_X7_meetsStretch metB
  simp only [ix_n e2 (show 48 ≤ 1000 by omega), if_true, n_cl (show K r < 2147483648 by omega), e3, e4]
  by_cases c1 : b ≤ f r
  · simp [c1]
  · by_cases c2 : t r ≤ a <;> simp [c1, c2]
theorem m_met {h : hp_T} {n : Nat} {K : Nat → Nat} {f t : Nat → Int32} {a b : Int32} {r : Nat} (V : MV h n K f t) (hr : r < n) : f_X10_isMet (nI (K r)) a b h = some ((if metB f t a b r = true then 1 else 0), h) := by
  obtain ⟨e1, e2, e3, e4⟩ := V.2.2 r hr
  unfold f_X10_isMet metB
  simp only [ix_n e2 (show 48 ≤ 1000 by omega), if_true, n_cl (show K r < 2147483648 by omega), e3, e4]
  by_cases c1 : b ≤ f r
  · simp [c1]
  · by_cases c2 : t r ≤ a <;> simp [c1, c2]
theorem c_meeting {h : hp_T} {n : Nat} {K : Nat → Nat} {f t : Nat → Int32} {a b : Int32} (V : CV h n K f t) : f_X7_meeting a b h = some (nI (cnt (metB f t a b) n), h) := by
  unfold f_X7_meeting
  have hn := V.1
  have key := loop_j (fun N (s : Int32 × Int32 × hp_T) => f_X7_meeting_L1 a b (fun (x10 : Int32) (x11 : Int32) (h12 : hp_T) => some (x10, h12)) N s.1 s.2.1 s.2.2)
    (fun o => o = some (nI (cnt (metB f t a b) n), h))
    (fun r s => ∃ v, r = n - v ∧ v ≤ n ∧ s.1 = nI (cnt (metB f t a b) v) ∧ s.2.1 = nI v ∧ s.2.2 = h) ?_ n 100 (0, 0, h) (by omega) ⟨0, rfl, by omega, rfl, rfl, rfl⟩
  · exact key
  rintro N r ⟨x, y, g⟩ ⟨v, rfl, hv, rfl, rfl, rfl⟩
  dsimp only at *
  rw [f_X7_meeting_L1, V.2.1]
  by_cases e : v = n
  · subst e
    left
    rw [if_pos (by rw [i_le]; omega)]
  right
  rw [if_neg (by rw [i_le, n_int (by omega), n_int (by omega)]; omega), if_pos (ix_n (by omega) (by omega)), n_cl (by omega), (V.2.2 v (by omega)).1, c_met V (by omega), c_some]
  cases hp : metB f t a b v with
  | true =>
    rw [if_pos ptt, if_neg n10, l_let, l_let, nI_1, nI_1]
    exact ⟨n - (v + 1), (nI (cnt (metB f t a b) v + 1), nI (v + 1), g), by omega, ⟨v + 1, rfl, by omega, by rw [cnt_t hp], rfl, rfl⟩, rfl⟩
  | false =>
    rw [if_neg nft, if_pos p00, l_let, nI_1]
    exact ⟨n - (v + 1), (nI (cnt (metB f t a b) v), nI (v + 1), g), by omega, ⟨v + 1, rfl, by omega, by rw [cnt_f hp], rfl, rfl⟩, rfl⟩
theorem c_meetingAt {h : hp_T} {n : Nat} {K : Nat → Nat} {f t : Nat → Int32} {a b i : Int32} (V : CV h n K f t) : f_X7_meetingAt a b i h = some (keyR K (nth (metB f t a b) i n), h) := by
  unfold f_X7_meetingAt
  have hn := V.1
  have key := loop_j (fun N (s : Int32 × Int32 × hp_T) => f_X7_meetingAt_L1 a b i (fun (x12 : Int32) (x13 : Int32) (h14 : hp_T) => some ((-1 : Int32), h14)) N s.1 s.2.1 s.2.2)
    (fun o => o = some (keyR K (nth (metB f t a b) i n), h))
    (fun r s => ∃ v, r = n - v ∧ v ≤ n ∧ s.1 = nI (cnt (metB f t a b) v) ∧ s.2.1 = nI v ∧ s.2.2 = h ∧ nth (metB f t a b) i v = none) ?_ n 100 (0, 0, h) (by omega) ⟨0, rfl, by omega, rfl, rfl, rfl, rfl⟩
  · exact key
  rintro N r ⟨x, y, g⟩ ⟨v, rfl, hv, rfl, rfl, rfl, hno⟩
  dsimp only at *
  rw [f_X7_meetingAt_L1, V.2.1]
  by_cases e : v = n
  · subst e
    left
    rw [if_pos (by rw [i_le]; omega), hno]
    rfl
  rw [if_neg (by rw [i_le, n_int (by omega), n_int (by omega)]; omega), if_pos (ix_n (by omega) (by omega)), n_cl (by omega), (V.2.2 v (by omega)).1, c_met V (by omega), c_some]
  cases hp : metB f t a b v with
  | true =>
    rw [if_pos ptt, if_neg n10]
    by_cases ei : nI (cnt (metB f t a b) v) = i
    · left
      have : nth (metB f t a b) i (v + 1) = some v := by unfold nth; rw [hno]; simp [hp, ei]
      rw [if_pos ei, if_pos (ix_n (by omega) (by omega)), (V.2.2 v (by omega)).1, nth_up this (by omega)]
      rfl
    · right
      rw [if_neg ei, l_let, l_let, nI_1, nI_1]
      refine ⟨n - (v + 1), (nI (cnt (metB f t a b) v + 1), nI (v + 1), g), by omega, ⟨v + 1, rfl, by omega, by rw [cnt_t hp], rfl, rfl, ?_⟩, rfl⟩
      unfold nth; rw [hno]; simp [ei]
  | false =>
    right
    rw [if_neg nft, if_pos p00, l_let, nI_1]
    refine ⟨n - (v + 1), (nI (cnt (metB f t a b) v), nI (v + 1), g), by omega, ⟨v + 1, rfl, by omega, by rw [cnt_f hp], rfl, rfl, ?_⟩, rfl⟩
    unfold nth; rw [hno]; simp [hp]
theorem m_meetsBy {h : hp_T} {n : Nat} {K : Nat → Nat} {f t : Nat → Int32} {a b i : Int32} (V : MV h n K f t) : f_X10_meetsBy a b i h = some ((if i = -1 then nI (cnt (metB f t a b) n) else keyR K (nth (metB f t a b) i n)), h) := by
  unfold f_X10_meetsBy
  have hn := V.1
  have key := loop_j (fun N (s : Int32 × Int32 × Int32 × hp_T) => f_X10_meetsBy_L1 a b i (fun (x15 : Int32) (x16 : Int32) (x17 : Int32) (h18 : hp_T) => (if i = (-1 : Int32) then some (x15, h18) else some (x16, h18))) N s.1 s.2.1 s.2.2.1 s.2.2.2)
    (fun o => o = some ((if i = -1 then nI (cnt (metB f t a b) n) else keyR K (nth (metB f t a b) i n)), h))
    (fun r s => ∃ v, r = n - v ∧ v ≤ n ∧ s.1 = nI (cnt (metB f t a b) v) ∧ s.2.1 = keyR K (nth (metB f t a b) i v) ∧ s.2.2.1 = nI v ∧ s.2.2.2 = h) ?_ n 100 (0, -1, 0, h) (by omega) ⟨0, rfl, by omega, rfl, rfl, rfl, rfl⟩
  · exact key
  rintro N r ⟨x, z, y, g⟩ ⟨v, rfl, hv, rfl, rfl, rfl, rfl⟩
  dsimp only at *
  rw [f_X10_meetsBy_L1, V.2.1]
  by_cases e : v = n
  · subst e
    left
    rw [if_pos (by rw [i_le]; omega)]
    split <;> rfl
  right
  have hc := cnt_le (metB f t a b) v
  rw [if_neg (by rw [i_le, n_int (by omega), n_int (by omega)]; omega), if_pos (ix_n (by omega) (by omega)), n_cl (by omega), (V.2.2 v (by omega)).1, m_met V (by omega), c_some]
  cases hp : metB f t a b v with
  | true =>
    rw [if_pos ptt, if_neg n10]
    by_cases ei : nI (cnt (metB f t a b) v) = i
    · have hno : nth (metB f t a b) i v = none := by
        cases hx : nth (metB f t a b) i v with
        | none => rfl
        | some r =>
          obtain ⟨q1, q2, q3⟩ := nth_s hx
          have h1 := cnt_mono (metB f t a b) (show r + 1 ≤ v by omega)
          rw [cnt_t q2] at h1
          have := n_inj (by omega) (by omega) (q3.trans ei.symm)
          omega
      have : nth (metB f t a b) i (v + 1) = some v := by unfold nth; rw [hno]; simp [hp, ei]
      rw [if_pos ei, if_pos (ix_n (by omega) (by omega)), (V.2.2 v (by omega)).1, l_let, l_let, l_let, nI_1, nI_1]
      exact ⟨n - (v + 1), (nI (cnt (metB f t a b) v + 1), nI (K v), nI (v + 1), g), by omega, ⟨v + 1, rfl, by omega, by rw [cnt_t hp], by rw [this]; rfl, rfl, rfl⟩, rfl⟩
    · rw [if_neg ei, l_let, l_let, nI_1, nI_1]
      refine ⟨n - (v + 1), (nI (cnt (metB f t a b) v + 1), keyR K (nth (metB f t a b) i v), nI (v + 1), g), by omega, ⟨v + 1, rfl, by omega, by rw [cnt_t hp], ?_, rfl, rfl⟩, rfl⟩
      dsimp only
      have : nth (metB f t a b) i (v + 1) = nth (metB f t a b) i v := by
        conv => lhs; unfold nth
        cases nth (metB f t a b) i v <;> simp [ei]
      rw [this]
  | false =>
    rw [if_neg nft, if_pos p00, l_let, nI_1]
    refine ⟨n - (v + 1), (nI (cnt (metB f t a b) v), keyR K (nth (metB f t a b) i v), nI (v + 1), g), by omega, ⟨v + 1, rfl, by omega, by rw [cnt_f hp], ?_, rfl, rfl⟩, rfl⟩
    dsimp only
    have : nth (metB f t a b) i (v + 1) = nth (metB f t a b) i v := by
      conv => lhs; unfold nth
      cases nth (metB f t a b) i v <;> simp [hp]
    rw [this]
theorem m_in47 {x : Int32} {m : hp_T} : (-1 ≤ x.toInt ∧ x.toInt ≤ 47 → f_X10_in x.toInt64 (-1) 47 m = some (1, m)) ∧ (¬ (-1 ≤ x.toInt ∧ x.toInt ≤ 47) → f_X10_in x.toInt64 (-1) 47 m = some (0, m)) := by
  have H := m_in (x := x.toInt64) (lo := -1) (hi := 47) (a := -1) (b := 47) (h := m) (by decide) (by decide)
  rw [x_l] at H
  exact H
theorem meets_ok {Der : hp_T → Nat → (Nat → Nat) → Prop} {h m : hp_T} {a b i : Int32} (R : RelD Der h m) : stp (RelD Der) (f_X9_meets a b i h) (f_X10_meets a b i m) := by
  obtain ⟨n, K, f, t, m1, hI, hC, hQ, E, hF, hM, hR, R1, -⟩ := rel_v R
  unfold f_X9_meets f_X10_meets
  rw [E, v_some]
  by_cases cv : vld a b
  case neg =>
    rw [(c_isStretch (h := h)).2 cv, (m_isStretch (h := m1)).2 cv, c_some, c_some, if_pos p00, if_pos p00]
    exact ⟨_, h, m1, rfl, rfl, R1⟩
  rw [(c_isStretch (h := h)).1 cv, (m_isStretch (h := m1)).1 cv, c_some, c_some, if_neg n10, if_neg n10]
  by_cases ci : -1 ≤ i.toInt ∧ i.toInt ≤ 47
  case neg =>
    rw [(c_isKN (h := h)).2 ci, (m_in47 (m := m1)).2 ci, c_some, c_some, if_pos p00, if_pos p00]
    exact ⟨_, h, m1, rfl, rfl, R1⟩
  rw [(c_isKN (h := h)).1 ci, (m_in47 (m := m1)).1 ci, c_some, c_some, if_neg n10, if_neg n10, m_meetsBy hM, c_some]
  by_cases e : i = -1
  · rw [if_pos e, if_pos e, c_meeting hC, c_some]
    exact ⟨_, h, m1, rfl, rfl, R1⟩
  · rw [if_neg e, if_neg e, c_meetingAt hC, c_some]
    exact ⟨_, h, m1, rfl, rfl, R1⟩
theorem holds_ok {Der : hp_T → Nat → (Nat → Nat) → Prop} {h m : hp_T} {a i : Int32} (R : RelD Der h m) : stp (RelD Der) (f_X9_holds a i h) (f_X10_holds a i m) := by
  obtain ⟨n, K, f, t, m1, hI, hC, hQ, E, hF, hM, hR, R1, -⟩ := rel_v R
  unfold f_X9_holds f_X10_holds
  rw [E, v_some]
  by_cases cv : -1000000000 ≤ a.toInt ∧ a.toInt ≤ 1000000000
  case neg =>
    rw [(c_isPoint (h := h)).2 cv, (m_isPoint (h := m1)).2 cv, c_some, c_some, if_pos p00, if_pos p00]
    exact ⟨_, h, m1, rfl, rfl, R1⟩
  rw [(c_isPoint (h := h)).1 cv, (m_isPoint (h := m1)).1 cv, c_some, c_some, if_neg n10, if_neg n10]
  by_cases ci : -1 ≤ i.toInt ∧ i.toInt ≤ 47
  case neg =>
    rw [(c_isKN (h := h)).2 ci, (m_in47 (m := m1)).2 ci, c_some, c_some, if_pos p00, if_pos p00]
    exact ⟨_, h, m1, rfl, rfl, R1⟩
  rw [(c_isKN (h := h)).1 ci, (m_in47 (m := m1)).1 ci, c_some, c_some, if_neg n10, if_neg n10, m_meetsBy hM, c_some]
  by_cases e : i = -1
  · rw [if_pos e, if_pos e, c_meeting hC, c_some]
    exact ⟨_, h, m1, rfl, rfl, R1⟩
  · rw [if_neg e, if_neg e, c_meetingAt hC, c_some]
    exact ⟨_, h, m1, rfl, rfl, R1⟩
theorem rank_ok {Der : hp_T → Nat → (Nat → Nat) → Prop} {h m : hp_T} {p : Int32} (R : RelD Der h m) : stp (RelD Der) (f_X9_rank p h) (f_X10_rank p m) := by
  obtain ⟨n, K, f, t, m1, hI, hC, hQ, E, hF, hM, hR, R1, h5⟩ := rel_v R
  unfold f_X9_rank f_X10_rank
  rw [E, v_some]
  by_cases cp : 0 ≤ p.toInt ∧ p.toInt ≤ 47
  case neg =>
    rw [(c_isKey (h := h)).2 cp, (m_isKey (h := m1)).2 cp, c_some, c_some, if_pos p00, if_pos p00]
    exact ⟨_, h, m1, rfl, rfl, R1⟩
  rw [(c_isKey (h := h)).1 cp, (m_isKey (h := m1)).1 cp, c_some, c_some, if_neg n10, if_neg n10]
  obtain ⟨k, hk, rfl⟩ := key_of cp
  simp only [ix_n hk (show 48 ≤ 1000 by omega), if_true, n_cl (show k < 2147483648 by omega), ← h5 k hk]
  by_cases c : h.1 4 k = 0
  · rw [if_pos c, if_pos c]
    exact ⟨_, h, m1, rfl, rfl, R1⟩
  · rw [if_neg c, if_neg c]
    obtain ⟨_, _, _, _, hB, _⟩ := id R1
    obtain ⟨i, hi, rfl⟩ := hI.1.2.2 k hk ((hB k hk).2.2.2.1.resolve_left c)
    rw [hI.2.2.2 i hi, hR.2 i hi]
    exact ⟨_, h, m1, rfl, rfl, R1⟩
/-- the key of a rank (below 48), of both sides -/
theorem m_keyAt {m : hp_T} {n : Nat} {K : Nat → Nat} {f t : Nat → Int32} {r : Nat} (V : MV m n K f t) (hr : r < 48) : f_X10_keyAt (nI r) m = some ((if r < n then nI (K r) else -1), m) := by
  have hn := V.1
  unfold f_X10_keyAt
  rw [if_neg (by rw [i_eq, n_int (by omega), t_m1]; omega), V.2.1]
  by_cases c : r < n
  · rw [if_pos (by rw [i_lt, n_int (by omega), n_int (by omega)]; omega), if_pos (ix_n (by omega) (by omega)), n_cl (by omega), (V.2.2 r c).1, if_pos c]
  · rw [if_neg (by rw [i_lt, n_int (by omega), n_int (by omega)]; omega), if_neg c]
theorem c_ranked {h : hp_T} {n : Nat} {K : Nat → Nat} {f t : Nat → Int32} {r : Nat} (V : CV h n K f t) (hr : r < 48) : f_X9_ranked (nI r) h = some ((if r < n then nI (K r) else -1), h) := by
  have hn := V.1
  unfold f_X9_ranked
  rw [(c_isKey (h := h)).1 (by rw [n_int (by omega)]; omega), c_some, if_neg n10, V.2.1]
  by_cases c : r < n
  · rw [if_neg (by rw [i_le, n_int (by omega), n_int (by omega)]; omega), if_pos (ix_n (by omega) (by omega)), n_cl (by omega), (V.2.2 r c).1, if_pos c]
  · rw [if_pos (by rw [i_le, n_int (by omega), n_int (by omega)]; omega), if_neg c]
theorem ranked_ok {Der : hp_T → Nat → (Nat → Nat) → Prop} {h m : hp_T} {p : Int32} (R : RelD Der h m) : stp (RelD Der) (f_X9_ranked p h) (f_X10_ranked p m) := by
  obtain ⟨n, K, f, t, m1, hI, hC, hQ, E, hF, hM, hR, R1, h5⟩ := rel_v R
  have MI := m_in (x := p.toInt64) (lo := 0) (hi := 47) (a := 0) (b := 47) (h := m1) (by decide) (by decide)
  rw [x_l] at MI
  by_cases cp : 0 ≤ p.toInt ∧ p.toInt ≤ 47
  case neg =>
    unfold f_X9_ranked f_X10_ranked
    rw [E, v_some, (c_isKey (h := h)).2 cp, MI.2 cp, c_some, c_some, if_pos p00, if_pos p00]
    exact ⟨_, h, m1, rfl, rfl, R1⟩
  unfold f_X10_ranked
  rw [E, v_some, MI.1 cp, c_some, if_neg n10]
  obtain ⟨k, hk, rfl⟩ := key_of cp
  rw [c_ranked hC hk, m_keyAt hM hk, c_some]
  exact ⟨_, h, m1, rfl, rfl, R1⟩
