/-! kept: ranks by END -/
abbrev zr : Nat → Int32 := fun _ => 0
def En (v : Nat) (t : Nat → Int32) (E : Nat → Nat) : Prop := Ord (thk (fun _ => 1) v) t zr v E
theorem En.lt {v : Nat} {t : Nat → Int32} {E : Nat → Nat} (h : En v t E) {i : Nat} (hi : i < v) : E i < v := by
  have := (h.1 i hi).2
  unfold thk at this
  split at this
  · assumption
  · exact absurd this (by decide)
theorem En.le {v : Nat} {t : Nat → Int32} {E : Nat → Nat} (h : En v t E) {i j : Nat} (hi : i ≤ j) (hj : j < v) : (t (E i)).toInt ≤ (t (E j)).toInt := by
  rcases Nat.eq_or_lt_of_le hi with e | e
  · rw [e]; exact Int.le_refl _
  · exact la_le (h.2.1 i j e hj)
theorem En.ins {v p : Nat} {t : Nat → Int32} {E : Nat → Nat} (h : En v t E) (hv : v < 48) (hp : p ≤ v) (h1 : ∀ i, p ≤ i → i < v → (t v).toInt < (t (E i)).toInt) (h2 : 0 < p → (t (E (p - 1))).toInt ≤ (t v).toInt) : En (v + 1) t (insK E p v) := by
  unfold En
  rw [thk_s1 rfl]
  refine Ord.ins h hv hp (fun i a b => Or.inl (h1 i a b)) (fun i a => ?_)
  have b1 := h2 (by omega)
  have b2 := h.le (show i ≤ p - 1 by omega) (by omega)
  have b3 := h.lt (show i < v by omega)
  unfold la zr
  omega
theorem En.nil (t : Nat → Int32) (E : Nat → Nat) : En 0 t E := ⟨fun i hi => absurd hi (by omega), fun i j _ hj => absurd hj (by omega), fun k _ hk => absurd hk (by simp [thk])⟩
theorem c_srt2 {h : hp_T} {n v : Nat} {K E : Nat → Nat} {f t : Nat → Int32} {Kc : Int32 → hp_T → Option hp_T} (V : CV h n K f t) (hv : v < n) (hE : En v t E) (hc : ∀ i, i < v → h.1 29 i = nI (K (E i))) :
    ∃ p h2, p ≤ v ∧ f_X3_sortByTo_L2 (nI (K v)) Kc 100 (nI v) h = Kc (nI p) h2 ∧ Fr [29] h h2 ∧ (∀ i, i < p → h2.1 29 i = nI (K (E i))) ∧ (∀ i, p < i → i ≤ v → h2.1 29 i = nI (K (E (i - 1)))) ∧ En (v + 1) t (insK E p v) := by
  have hn := V.1
  have key := loop_j (fun N (s : Int32 × hp_T) => f_X3_sortByTo_L2 (nI (K v)) Kc N s.1 s.2)
    (fun o => ∃ p h2, p ≤ v ∧ o = Kc (nI p) h2 ∧ Fr [29] h h2 ∧ (∀ i, i < p → h2.1 29 i = nI (K (E i))) ∧ (∀ i, p < i → i ≤ v → h2.1 29 i = nI (K (E (i - 1)))) ∧ En (v + 1) t (insK E p v))
    (fun p s => s.1 = nI p ∧ p ≤ v ∧ Fr [29] h s.2 ∧ (∀ i, i < p → s.2.1 29 i = nI (K (E i))) ∧ (∀ i, p < i → i ≤ v → s.2.1 29 i = nI (K (E (i - 1)))) ∧ (∀ i, p ≤ i → i < v → (t v).toInt < (t (E i)).toInt)) ?_ v 100 (nI v, h) (by omega)
    ⟨rfl, Nat.le_refl _, Fr.rf, hc, fun i a b => absurd a (by omega), fun i a b => absurd a (by omega)⟩
  · exact key
  rintro N p ⟨x, g⟩ ⟨e1, hp, hF, a1, a2, a5⟩
  dsimp only at e1 hF a1 a2
  subst e1
  dsimp only
  have Vg : CV g n K f t := V.fr fun k k1 k2 => hF.1 k (by simp <;> omega)
  rw [f_X3_sortByTo_L2]
  rcases Nat.eq_zero_or_pos p with c | c
  · subst c
    left
    rw [if_pos (by rw [i_le, n_int (by omega)]; decide)]
    exact ⟨0, g, hp, rfl, hF, a1, a2, hE.ins (by omega) hp a5 (fun q => absurd q (by omega))⟩
  have hl := hE.lt (show p - 1 < v by omega)
  obtain ⟨e1, e2, e3, e4⟩ := Vg.2.2 v hv
  obtain ⟨g1, g2, g3, g4⟩ := Vg.2.2 (E (p - 1)) (by omega)
  rw [if_neg (by rw [i_le, n_int (by omega), t_0]; omega), n_pred c, if_pos (ix_n (show p - 1 < 48 by omega) (by omega)), n_cl (show p - 1 < 2147483648 by omega), a1 (p - 1) (by omega), if_pos (ix_n g2 (by omega)), if_pos (ix_n e2 (by omega)), n_cl (show K (E (p - 1)) < 2147483648 by omega), n_cl (show K v < 2147483648 by omega), e4, g4]
  by_cases q : t (E (p - 1)) ≤ t v
  · left
    rw [if_pos q]
    rw [i_le] at q
    exact ⟨p, g, hp, rfl, hF, a1, a2, hE.ins (by omega) hp a5 (fun _ => q)⟩
  · right
    rw [if_neg q, if_pos (ix_n (show p - 1 < 48 by omega) (by omega)), if_pos (ix_n (show p < 48 by omega) (by omega)), l_let, l_let, n_m1 c, n_cl (show p < 2147483648 by omega)]
    rw [i_le] at q
    refine ⟨p - 1, (nI (p - 1), hw g 29 p (nI (K (E (p - 1))))), by omega, ⟨rfl, by omega, hF.hw (by decide), fun i hi => ?_, fun i hi hi2 => ?_, fun i hi hi2 => ?_⟩, rfl⟩
    · dsimp only
      rw [hw_n _ _ _ _ (Or.inr (by omega))]
      exact a1 i (by omega)
    · dsimp only
      by_cases e : i = p
      · subst e; rw [hw_s]
      · rw [hw_n _ _ _ _ (Or.inr e)]; exact a2 i (by omega) hi2
    · by_cases e : i = p - 1
      · subst e; omega
      · exact a5 i (by omega) hi2
theorem ins_all {X : Nat → Nat} {E : Nat → Nat} {g : Nat → Int32} {p v : Nat} (a1 : ∀ i, i < p → g i = nI (X (E i))) (a2 : ∀ i, p < i → i ≤ v → g i = nI (X (E (i - 1)))) : ∀ i, i < v + 1 → upd g p (nI (X v)) i = nI (X (insK E p v i)) := by
  intro i hi
  rcases Nat.lt_trichotomy i p with c | c | c
  · rw [up_n _ _ (by omega), ins_lt c]; exact a1 i c
  · subst c; rw [up_s, ins_eq]
  · rw [up_n _ _ (by omega), ins_gt c]; exact a2 i c (by omega)
theorem c_srt {h : hp_T} {n : Nat} {K : Nat → Nat} {f t : Nat → Int32} (V : CV h n K f t) : ∃ h2 E, f_X3_sortByTo h = some h2 ∧ Fr [29] h h2 ∧ En n t E ∧ ∀ i, i < n → h2.1 29 i = nI (K (E i)) := by
  have hn := V.1
  unfold f_X3_sortByTo
  have key := loop_j (fun N (s : Int32 × hp_T) => f_X3_sortByTo_L1 (fun (x18 : Int32) (h19 : hp_T) => some h19) N s.1 s.2)
    (fun o => ∃ h2 E, o = some h2 ∧ Fr [29] h h2 ∧ En n t E ∧ ∀ i, i < n → h2.1 29 i = nI (K (E i)))
    (fun r s => ∃ v E, r = n - v ∧ v ≤ n ∧ s.1 = nI v ∧ Fr [29] h s.2 ∧ En v t E ∧ ∀ i, i < v → s.2.1 29 i = nI (K (E i))) ?_ n 100 (0, h) (by omega)
    ⟨0, fun _ => 0, rfl, by omega, rfl, Fr.rf, En.nil _ _, fun i hi => absurd hi (by omega)⟩
  · exact key
  rintro N r ⟨x, g⟩ ⟨v, E, rfl, hv, e1, hF, hE, hc⟩
  dsimp only at e1 hF hc
  subst e1
  dsimp only
  have Vg : CV g n K f t := V.fr fun k k1 k2 => hF.1 k (by simp <;> omega)
  rw [f_X3_sortByTo_L1, Vg.2.1]
  by_cases e : v = n
  · subst e
    left
    rw [if_pos (by rw [i_le]; omega)]
    exact ⟨g, E, rfl, hF, hE, hc⟩
  right
  obtain ⟨e1, e2, e3, e4⟩ := Vg.2.2 v (by omega)
  rw [if_neg (by rw [i_le, n_int (by omega), n_int (by omega)]; omega), if_pos (ix_n (show v < 48 by omega) (by omega)), n_cl (show v < 2147483648 by omega), l_let, e1]
  obtain ⟨p, h2, hp, E2, F2, a1, a2, hE2⟩ := c_srt2 (Kc := fun (x13 : Int32) (h14 : hp_T) => if ix x13 48 = true then o_let (hw h14 29 x13.toNatClampNeg (nI (K v))) fun (h16 : hp_T) => o_let (nI v + (1 : Int32)) fun (x17 : Int32) => f_X3_sortByTo_L1 (fun (x18 : Int32) (h19 : hp_T) => some h19) N x17 h16 else none) Vg (show v < n by omega) hE hc
  rw [E2, if_pos (ix_n (show p < 48 by omega) (by omega)), l_let, l_let, nI_1, n_cl (show p < 2147483648 by omega)]
  refine ⟨n - (v + 1), (nI (v + 1), hw h2 29 p (nI (K v))), by omega, ⟨v + 1, insK E p v, rfl, by omega, rfl, (hF.tr F2).hw (by decide), hE2, ?_⟩, rfl⟩
  dsimp only
  rw [hw_at]
  exact ins_all a1 a2
def kpR (f t : Nat → Int32) (E : Nat → Nat) : Nat → Int32
  | 0 => -1000000000
  | i + 1 => if f (E i) < kpR f t E i then kpR f t E i else t (E i)
def kpB (f t : Nat → Int32) (E : Nat → Nat) (i : Nat) : Bool := !(decide (f (E i) < kpR f t E i))
def DerK (h : hp_T) (n : Nat) (K : Nat → Nat) (f t : Nat → Int32) : Prop := ∃ E, En n t E ∧ h.1 28 2 = nI (cnt (kpB f t E) n) ∧ ∀ i, i < n → kpB f t E i = true → h.1 30 (cnt (kpB f t E) i) = nI (K (E i))
theorem kept_build {h : hp_T} {n : Nat} {K : Nat → Nat} {f t : Nat → Int32} (V : CV h n K f t) : ∃ h2, f_X3_build h = some h2 ∧ Fr [28, 29, 30] h h2 ∧ DerK h2 n K f t := by
  have hn := V.1
  unfold f_X3_build
  obtain ⟨h1, E, E1, F1, hE, hc⟩ := c_srt V
  rw [E1, v_some, l_let]
  obtain ⟨h0, e0⟩ : ∃ h0, h0 = hw h1 28 2 0 := ⟨_, rfl⟩
  rw [← e0]
  have F0 : Fr [28, 29, 30] h h0 := by rw [e0]; exact (F1.mono (by decide)).hw (by decide)
  have key := loop_j (fun N (s : Int32 × Int32 × hp_T) => f_X3_build_L1 (fun (x16 : Int32) (x17 : Int32) (h18 : hp_T) => some h18) N s.1 s.2.1 s.2.2)
    (fun o => ∃ h2, o = some h2 ∧ Fr [28, 29, 30] h h2 ∧ DerK h2 n K f t)
    (fun r s => ∃ v, r = n - v ∧ v ≤ n ∧ s.1 = kpR f t E v ∧ s.2.1 = nI v ∧ Fr [28, 29, 30] h s.2.2 ∧ s.2.2.1 29 = h1.1 29 ∧ s.2.2.1 28 2 = nI (cnt (kpB f t E) v) ∧ ∀ i, i < v → kpB f t E i = true → s.2.2.1 30 (cnt (kpB f t E) i) = nI (K (E i))) ?_ n 100 (-1000000000, 0, h0) (by omega)
    ⟨0, rfl, by omega, rfl, rfl, F0, by rw [e0, hw_ne _ _ _ (by decide)], by rw [e0, hw_s]; rfl, fun i hi => absurd hi (by omega)⟩
  · exact key
  rintro N r ⟨x, y, g⟩ ⟨v, rfl, hv, e1, e2, hF, h29, hs, ha⟩
  dsimp only at e1 e2 hF h29 hs ha
  subst e1; subst e2
  dsimp only
  have Vg : CV g n K f t := V.fr fun k k1 k2 => hF.1 k (by simp <;> omega)
  rw [f_X3_build_L1, Vg.2.1]
  by_cases e : v = n
  · subst e
    left
    rw [if_pos (by rw [i_le]; omega)]
    exact ⟨g, rfl, hF, E, hE, hs, ha⟩
  right
  have hcl := cnt_le (kpB f t E) v
  have hl := hE.lt (show v < n by omega)
  obtain ⟨e1, e2, e3, e4⟩ := Vg.2.2 (E v) hl
  rw [if_neg (by rw [i_le, n_int (by omega), n_int (by omega)]; omega), if_pos (ix_n (show v < 48 by omega) (by omega)), n_cl (show v < 2147483648 by omega), l_let, h29, hc v (by omega), if_pos (ix_n e2 (by omega)), n_cl (show K (E v) < 2147483648 by omega), e3]
  have er : kpR f t E (v + 1) = if f (E v) < kpR f t E v then kpR f t E v else t (E v) := rfl
  by_cases q : f (E v) < kpR f t E v
  · have hp : kpB f t E v = false := by simp [kpB, q]
    rw [if_pos q] at er
    rw [if_pos q, l_let, nI_1]
    refine ⟨n - (v + 1), (kpR f t E v, nI (v + 1), g), by omega, ⟨v + 1, rfl, by omega, er.symm, rfl, hF, h29, by rw [cnt_f hp]; exact hs, fun i hi hpi => ?_⟩, rfl⟩
    by_cases ei : i = v
    · subst ei; rw [hp] at hpi; cases hpi
    · exact ha i (by omega) hpi
  · have hp : kpB f t E v = true := by simp [kpB, q]
    rw [if_neg q] at er
    rw [if_neg q, hs, if_pos (ix_n (show cnt (kpB f t E) v < 48 by omega) (by omega)), l_let, n_cl (show cnt (kpB f t E) v < 2147483648 by omega), l_let, hw_ne _ (z := 28) _ _ (by decide), hs, nI_1, if_pos (ix_n e2 (by omega)), l_let, l_let, nI_1, hw_ne _ (z := 3) _ _ (by decide), hw_ne _ (z := 3) _ _ (by decide), e4]
    refine ⟨n - (v + 1), (t (E v), nI (v + 1), hw (hw g 30 (cnt (kpB f t E) v) (nI (K (E v)))) 28 2 (nI (cnt (kpB f t E) v + 1))), by omega, ⟨v + 1, rfl, by omega, er.symm, rfl, (hF.hw (by decide)).hw (by decide), ?_, ?_, fun i hi hpi => ?_⟩, rfl⟩
    · dsimp only
      rw [hw_ne _ _ _ (by decide), hw_ne _ _ _ (by decide)]; exact h29
    · dsimp only
      rw [hw_s, cnt_t hp]
    · dsimp only
      rw [hw_ne _ _ _ (by decide)]
      by_cases ei : i = v
      · subst ei; rw [hw_s]
      · have h1 := cnt_mono (kpB f t E) (show i + 1 ≤ v by omega)
        rw [cnt_t hpi] at h1
        rw [hw_n _ _ _ _ (Or.inr (by omega))]
        exact ha i (by omega) hpi
/-! the reference -/
theorem m_srt2 {m : hp_T} {n v : Nat} {K E : Nat → Nat} {f t : Nat → Int32} {Kc : Int32 → hp_T → Option (Int32 × hp_T)} (V : MV m n K f t) (hv : v < n) (hE : En v t E) (hc : ∀ i, i < v → m.1 28 i = nI (E i)) :
    ∃ p h2, p ≤ v ∧ f_X10_keeps_L2 (nI v) Kc 100 (nI v) m = Kc (nI p) h2 ∧ Fr [28] m h2 ∧ (∀ i, i < p → h2.1 28 i = nI (E i)) ∧ (∀ i, p < i → i ≤ v → h2.1 28 i = nI (E (i - 1))) ∧ En (v + 1) t (insK E p v) := by
  have hn := V.1
  have key := loop_j (fun N (s : Int32 × hp_T) => f_X10_keeps_L2 (nI v) Kc N s.1 s.2)
    (fun o => ∃ p h2, p ≤ v ∧ o = Kc (nI p) h2 ∧ Fr [28] m h2 ∧ (∀ i, i < p → h2.1 28 i = nI (E i)) ∧ (∀ i, p < i → i ≤ v → h2.1 28 i = nI (E (i - 1))) ∧ En (v + 1) t (insK E p v))
    (fun p s => s.1 = nI p ∧ p ≤ v ∧ Fr [28] m s.2 ∧ (∀ i, i < p → s.2.1 28 i = nI (E i)) ∧ (∀ i, p < i → i ≤ v → s.2.1 28 i = nI (E (i - 1))) ∧ (∀ i, p ≤ i → i < v → (t v).toInt < (t (E i)).toInt)) ?_ v 100 (nI v, m) (by omega)
    ⟨rfl, Nat.le_refl _, Fr.rf, hc, fun i a b => absurd a (by omega), fun i a b => absurd a (by omega)⟩
  · exact key
  rintro N p ⟨x, g⟩ ⟨e1, hp, hF, a1, a2, a5⟩
  dsimp only at e1 hF a1 a2
  subst e1
  dsimp only
  have Vg : MV g n K f t := V.fr (by rw [hF.1 0 (by decide)]) ⟨hF.1 12 (by decide), hF.1 6 (by decide), hF.1 7 (by decide)⟩
  rw [f_X10_keeps_L2]
  rcases Nat.eq_zero_or_pos p with c | c
  · subst c
    left
    rw [if_pos (by rw [i_le, n_int (by omega)]; decide)]
    exact ⟨0, g, hp, rfl, hF, a1, a2, hE.ins (by omega) hp a5 (fun q => absurd q (by omega))⟩
  have hl := hE.lt (show p - 1 < v by omega)
  obtain ⟨e1, e2, e3, e4⟩ := Vg.2.2 v hv
  obtain ⟨g1, g2, g3, g4⟩ := Vg.2.2 (E (p - 1)) (by omega)
  rw [if_neg (by rw [i_le, n_int (by omega), t_0]; omega), if_pos (ix_n (show v < 48 by omega) (by omega)), n_cl (show v < 2147483648 by omega), e1, if_pos (ix_n e2 (by omega)), n_pred c, if_pos (ix_n (show p - 1 < 48 by omega) (by omega)), n_cl (show p - 1 < 2147483648 by omega), a1 (p - 1) (by omega), if_pos (ix_n (show E (p - 1) < 48 by omega) (by omega)), n_cl (show E (p - 1) < 2147483648 by omega), g1, if_pos (ix_n g2 (by omega)), n_cl (show K (E (p - 1)) < 2147483648 by omega), n_cl (show K v < 2147483648 by omega), e4, g4]
  by_cases q : t (E (p - 1)) ≤ t v
  · left
    rw [if_pos q]
    rw [i_le] at q
    exact ⟨p, g, hp, rfl, hF, a1, a2, hE.ins (by omega) hp a5 (fun _ => q)⟩
  · right
    rw [if_neg q, if_pos (ix_n (show p - 1 < 48 by omega) (by omega)), if_pos (ix_n (show p < 48 by omega) (by omega)), l_let, l_let, n_m1 c, n_cl (show p < 2147483648 by omega)]
    rw [i_le] at q
    refine ⟨p - 1, (nI (p - 1), hw g 28 p (nI (E (p - 1)))), by omega, ⟨rfl, by omega, hF.hw (by decide), fun i hi => ?_, fun i hi hi2 => ?_, fun i hi hi2 => ?_⟩, rfl⟩
    · dsimp only
      rw [hw_n _ _ _ _ (Or.inr (by omega))]
      exact a1 i (by omega)
    · dsimp only
      by_cases e : i = p
      · subst e; rw [hw_s]
      · rw [hw_n _ _ _ _ (Or.inr e)]; exact a2 i (by omega) hi2
    · by_cases e : i = p - 1
      · subst e; omega
      · exact a5 i (by omega) hi2
theorem m_srt {m : hp_T} {n : Nat} {K E : Nat → Nat} {f t : Nat → Int32} {Kc : Int32 → hp_T → Option (Int32 × hp_T)} (V : MV m n K f t) (hE0 : En n t E) : ∃ h2, f_X10_keeps_L1 Kc 100 0 m = Kc (nI n) h2 ∧ Fr [28] m h2 ∧ ∀ i, i < n → h2.1 28 i = nI (E i) := by
  have hn := V.1
  have key := loop_j (fun N (s : Int32 × hp_T) => f_X10_keeps_L1 Kc N s.1 s.2)
    (fun o => ∃ h2, o = Kc (nI n) h2 ∧ Fr [28] m h2 ∧ ∀ i, i < n → h2.1 28 i = nI (E i))
    (fun r s => ∃ v E, r = n - v ∧ v ≤ n ∧ s.1 = nI v ∧ Fr [28] m s.2 ∧ En v t E ∧ ∀ i, i < v → s.2.1 28 i = nI (E i)) ?_ n 100 (0, m) (by omega)
    ⟨0, fun _ => 0, rfl, by omega, rfl, Fr.rf, En.nil _ _, fun i hi => absurd hi (by omega)⟩
  · exact key
  rintro N r ⟨x, g⟩ ⟨v, E1, rfl, hv, e1, hF, hE, hc⟩
  dsimp only at e1 hF hc
  subst e1
  dsimp only
  have Vg : MV g n K f t := V.fr (by rw [hF.1 0 (by decide)]) ⟨hF.1 12 (by decide), hF.1 6 (by decide), hF.1 7 (by decide)⟩
  rw [f_X10_keeps_L1, Vg.2.1]
  by_cases e : v = n
  · subst e
    left
    rw [if_pos (by rw [i_le]; omega)]
    refine ⟨g, rfl, hF, fun i hi => ?_⟩
    rw [hc i hi, (Ord.uniq hE hE0).2 i hi]
  right
  rw [if_neg (by rw [i_le, n_int (by omega), n_int (by omega)]; omega)]
  obtain ⟨p, h2, hp, E2, F2, a1, a2, hE2⟩ := m_srt2 (Kc := fun (x13 : Int32) (h14 : hp_T) => if ix x13 48 = true then o_let (hw h14 28 x13.toNatClampNeg (nI v)) fun (h16 : hp_T) => o_let (nI v + (1 : Int32)) fun (x17 : Int32) => f_X10_keeps_L1 Kc N x17 h16 else none) Vg (show v < n by omega) hE hc
  rw [E2, if_pos (ix_n (show p < 48 by omega) (by omega)), l_let, l_let, nI_1, n_cl (show p < 2147483648 by omega)]
  refine ⟨n - (v + 1), (nI (v + 1), hw h2 28 p (nI v)), by omega, ⟨v + 1, insK E1 p v, rfl, by omega, rfl, (hF.tr F2).hw (by decide), hE2, ?_⟩, rfl⟩
  dsimp only
  rw [hw_at]
  exact ins_all (X := fun i => i) a1 a2
/-- the last kept ends last -/
theorem kpR_i {n : Nat} {f t : Nat → Int32} {E : Nat → Nat} (Q : Sq n f t) (hE : En n t E) : ∀ v, v ≤ n → (∀ i, i < v → kpB f t E i = true → (t (E i)).toInt ≤ (kpR f t E v).toInt) ∧ ((kpR f t E v).toInt = -1000000000 ∨ ∃ i, i < v ∧ kpB f t E i = true ∧ kpR f t E v = t (E i)) := by
  intro v
  induction v with
  | zero => intro _; exact ⟨fun i hi => absurd hi (by omega), Or.inl (by unfold kpR; exact t_lo)⟩
  | succ v ih =>
    intro hv
    obtain ⟨a1, a2⟩ := ih (by omega)
    have er : kpR f t E (v + 1) = if f (E v) < kpR f t E v then kpR f t E v else t (E v) := rfl
    by_cases q : f (E v) < kpR f t E v
    · have hp : kpB f t E v = false := by simp [kpB, q]
      rw [er, if_pos q]
      refine ⟨fun i hi hpi => ?_, a2.imp id fun ⟨i, i1, i2⟩ => ⟨i, by omega, i2⟩⟩
      by_cases e : i = v
      · subst e; rw [hp] at hpi; cases hpi
      · exact a1 i (by omega) hpi
    · have hp : kpB f t E v = true := by simp [kpB, q]
      rw [er, if_neg q]
      exact ⟨fun i hi hpi => hE.le (by omega) (by omega), Or.inr ⟨v, by omega, hp, rfl⟩⟩
theorem m_may {m : hp_T} {n v : Nat} {K E : Nat → Nat} {f t : Nat → Int32} {Kc : Int32 → Int32 → hp_T → Option (Int32 × hp_T)} (V : MV m n K f t) (Q : Sq n f t) (hE : En n t E) (hv : v < n) (h28 : ∀ i, i < n → m.1 28 i = nI (E i)) (h29 : ∀ i, i < v → kpB f t E i = true → m.1 29 (cnt (kpB f t E) i) = nI (E i)) :
    ∃ y, f_X10_keeps_L4 (nI (cnt (kpB f t E) v)) (nI v) Kc 100 1 0 m = Kc (if kpB f t E v = true then 1 else 0) y m := by
  have hn := V.1
  obtain ⟨c, ec⟩ : ∃ c, c = cnt (kpB f t E) v := ⟨_, rfl⟩
  have hc : c ≤ v := by rw [ec]; exact cnt_le _ _
  have hev := hE.lt hv
  -- the j-th kept
  have kj : ∀ j, j < c → ∃ i, i < v ∧ kpB f t E i = true ∧ cnt (kpB f t E) i = j := by
    intro j hj
    rw [ec] at hj
    obtain ⟨r, q1, q2⟩ := nth_ex (show v ≤ 1000 by omega) hj
    obtain ⟨s1, s2, -⟩ := nth_s q1
    exact ⟨r, s1, s2, q2⟩
  have met : ∀ i, i < v → (metB f t (f (E v)) (t (E v)) (E i) = true ↔ (f (E v)).toInt < (t (E i)).toInt) := by
    intro i hi
    rw [metB_i]
    have b1 := hE.le (show i ≤ v by omega) hv
    have b2 := Q.1 (E i) (hE.lt (by omega))
    unfold vld at b2
    omega
  obtain ⟨k1, k2⟩ := kpR_i Q hE v (by omega)
  have fin : (∀ i, i < v → kpB f t E i = true → metB f t (f (E v)) (t (E v)) (E i) = false) → kpB f t E v = true := by
    intro hall
    cases hq : kpB f t E v with
    | true => rfl
    | false =>
      have q : f (E v) < kpR f t E v := by simpa [kpB] using hq
      rw [i_lt] at q
      rcases k2 with k2 | ⟨i, i1, i2, i3⟩
      · have := Q.1 (E v) hev
        unfold vld at this
        omega
      · rw [i3] at q
        have h1 := hall i i1 i2
        rw [(met i i1).mpr q] at h1
        cases h1
  have bad : ∀ i, i < v → kpB f t E i = true → metB f t (f (E v)) (t (E v)) (E i) = true → kpB f t E v = false := by
    intro i hi hki hm
    rw [met i hi] at hm
    have b := k1 i hi hki
    have q : f (E v) < kpR f t E v := by rw [i_lt]; omega
    simp [kpB, q]
  rw [← ec]
  have key := loop_j (fun N (s : Int32 × Int32 × hp_T) => f_X10_keeps_L4 (nI c) (nI v) Kc N s.1 s.2.1 s.2.2)
    (fun o => ∃ y, o = Kc (if kpB f t E v = true then 1 else 0) y m)
    (fun r s => ∃ j, r = c - j ∧ j ≤ c ∧ s.2.1 = nI j ∧ s.2.2 = m ∧ ((s.1 = 0 ∧ kpB f t E v = false) ∨ (s.1 = 1 ∧ ∀ i, i < v → kpB f t E i = true → cnt (kpB f t E) i < j → metB f t (f (E v)) (t (E v)) (E i) = false))) ?_ c 100 (1, 0, m) (by omega)
    ⟨0, rfl, by omega, rfl, rfl, Or.inr ⟨rfl, fun i _ _ q => absurd q (by omega)⟩⟩
  · exact key
  rintro N r ⟨x, y, g⟩ ⟨j, rfl, hj, e1, e2, hd⟩
  dsimp only at e1 e2 hd
  subst e1; subst e2
  dsimp only
  rw [f_X10_keeps_L4]
  by_cases e : j = c
  · left
    subst e
    rw [if_pos (by rw [i_le]; omega)]
    refine ⟨nI j, ?_⟩
    rcases hd with ⟨d1, d2⟩ | ⟨d1, d2⟩
    · rw [d1, d2, if_neg nft]
    · rw [d1, fin (fun i hi hki => d2 i hi hki ?_), if_pos ptt]
      have h1 := cnt_mono (kpB f t E) (show i + 1 ≤ v by omega)
      rw [cnt_t hki] at h1
      omega
  right
  rw [if_neg (by rw [i_le, n_int (by omega), n_int (by omega)]; omega)]
  rcases hd with ⟨d1, d2⟩ | ⟨d1, d2⟩
  · rw [d1, if_pos p00, l_let, nI_1]
    exact ⟨c - (j + 1), (0, nI (j + 1), g), by omega, ⟨j + 1, rfl, by omega, rfl, rfl, Or.inl ⟨rfl, d2⟩⟩, rfl⟩
  obtain ⟨i, i1, i2, i3⟩ := kj j (by omega)
  have hei := hE.lt (show i < n by omega)
  have h9 := h29 i i1 i2
  rw [i3] at h9
  rw [d1, if_neg n10, if_pos (ix_n (show j < 48 by omega) (by omega)), if_pos (ix_n (show v < 48 by omega) (by omega)), n_cl (show j < 2147483648 by omega), n_cl (show v < 2147483648 by omega), h9, h28 v hv, m_meetsRank V hei hev, c_some]
  cases hm : metB f t (f (E v)) (t (E v)) (E i) with
  | true =>
    rw [if_pos ptt, if_neg n10, l_let, nI_1]
    exact ⟨c - (j + 1), (0, nI (j + 1), g), by omega, ⟨j + 1, rfl, by omega, rfl, rfl, Or.inl ⟨rfl, bad i i1 i2 hm⟩⟩, rfl⟩
  | false =>
    rw [if_neg nft, if_pos p00, l_let, nI_1]
    refine ⟨c - (j + 1), (1, nI (j + 1), g), by omega, ⟨j + 1, rfl, by omega, rfl, rfl, Or.inr ⟨rfl, fun z z1 z2 z3 => ?_⟩⟩, rfl⟩
    by_cases ez : cnt (kpB f t E) z < j
    · exact d2 z z1 z2 ez
    · have : z = i := by
        rcases Nat.lt_trichotomy z i with q | q | q
        · have h1 := cnt_mono (kpB f t E) (show z + 1 ≤ i by omega)
          rw [cnt_t z2] at h1
          omega
        · exact q
        · have h1 := cnt_mono (kpB f t E) (show i + 1 ≤ z by omega)
          rw [cnt_t i2] at h1
          omega
      rw [this]; exact hm
theorem m_keeps {m : hp_T} {n : Nat} {K E : Nat → Nat} {f t : Nat → Int32} (V : MV m n K f t) (Q : Sq n f t) (hE : En n t E) : ∃ m2, f_X10_keeps m = some (nI (cnt (kpB f t E) n), m2) ∧ Fr [28, 29] m m2 ∧ ∀ i, i < n → kpB f t E i = true → m2.1 29 (cnt (kpB f t E) i) = nI (E i) := by
  have hn := V.1
  unfold f_X10_keeps
  obtain ⟨m1, E1, F1, h28⟩ := m_srt (Kc := fun (x18 : Int32) (h19 : hp_T) => (f_X10_keeps_L3 (fun (x42 : Int32) (x43 : Int32) (h44 : hp_T) => some (x42, h44)) 100 (0 : Int32) (0 : Int32) h19)) V hE
  rw [E1]
  have key := loop_j (fun N (s : Int32 × Int32 × hp_T) => f_X10_keeps_L3 (fun (x42 : Int32) (x43 : Int32) (h44 : hp_T) => some (x42, h44)) N s.1 s.2.1 s.2.2)
    (fun o => ∃ m2, o = some (nI (cnt (kpB f t E) n), m2) ∧ Fr [28, 29] m m2 ∧ ∀ i, i < n → kpB f t E i = true → m2.1 29 (cnt (kpB f t E) i) = nI (E i))
    (fun r s => ∃ v, r = n - v ∧ v ≤ n ∧ s.1 = nI (cnt (kpB f t E) v) ∧ s.2.1 = nI v ∧ Fr [28, 29] m s.2.2 ∧ s.2.2.1 28 = m1.1 28 ∧ ∀ i, i < v → kpB f t E i = true → s.2.2.1 29 (cnt (kpB f t E) i) = nI (E i)) ?_ n 100 (0, 0, m1) (by omega)
    ⟨0, rfl, by omega, rfl, rfl, F1.mono (by decide), rfl, fun i hi => absurd hi (by omega)⟩
  · exact key
  rintro N r ⟨x, y, g⟩ ⟨v, rfl, hv, e1, e2, hF, g28, ha⟩
  dsimp only at e1 e2 hF g28 ha
  subst e1; subst e2
  dsimp only
  have Vg : MV g n K f t := V.fr (by rw [hF.1 0 (by decide)]) ⟨hF.1 12 (by decide), hF.1 6 (by decide), hF.1 7 (by decide)⟩
  rw [f_X10_keeps_L3, Vg.2.1]
  by_cases e : v = n
  · subst e
    left
    rw [if_pos (by rw [i_le]; omega)]
    exact ⟨g, rfl, hF, ha⟩
  right
  have hcl := cnt_le (kpB f t E) v
  rw [if_neg (by rw [i_le, n_int (by omega), n_int (by omega)]; omega)]
  obtain ⟨y, E2⟩ := m_may (Kc := fun (x32 : Int32) (x33 : Int32) (h34 : hp_T) => (if x32 = (0 : Int32) then o_let (nI v + (1 : Int32)) fun (x36 : Int32) => f_X10_keeps_L3 (fun (x42 : Int32) (x43 : Int32) (h44 : hp_T) => some (x42, h44)) N (nI (cnt (kpB f t E) v)) x36 h34 else if ix (nI v) 48 = true then if ix (nI (cnt (kpB f t E) v)) 48 = true then o_let (hw h34 29 (nI (cnt (kpB f t E) v)).toNatClampNeg (h34.1 28 (nI v).toNatClampNeg)) fun (h39 : hp_T) => o_let (nI (cnt (kpB f t E) v) + (1 : Int32)) fun (x40 : Int32) => o_let (nI v + (1 : Int32)) fun (x41 : Int32) => f_X10_keeps_L3 (fun (x42 : Int32) (x43 : Int32) (h44 : hp_T) => some (x42, h44)) N x40 x41 h39 else none else none)) Vg Q hE (show v < n by omega) (by rw [g28]; exact h28) ha
  rw [E2]
  cases hp : kpB f t E v with
  | true =>
    rw [if_pos ptt, if_neg n10, if_pos (ix_n (show v < 48 by omega) (by omega)), if_pos (ix_n (show cnt (kpB f t E) v < 48 by omega) (by omega)), n_cl (show v < 2147483648 by omega), n_cl (show cnt (kpB f t E) v < 2147483648 by omega), g28, h28 v (by omega), l_let, l_let, l_let, nI_1, nI_1]
    refine ⟨n - (v + 1), (nI (cnt (kpB f t E) v + 1), nI (v + 1), hw g 29 (cnt (kpB f t E) v) (nI (E v))), by omega, ⟨v + 1, rfl, by omega, by rw [cnt_t hp], rfl, hF.hw (by decide), by dsimp only; rw [hw_ne _ _ _ (by decide)]; exact g28, fun i hi hpi => ?_⟩, rfl⟩
    dsimp only
    by_cases ei : i = v
    · subst ei; rw [hw_s]
    · have h1 := cnt_mono (kpB f t E) (show i + 1 ≤ v by omega)
      rw [cnt_t hpi] at h1
      rw [hw_n _ _ _ _ (Or.inr (by omega))]
      exact ha i (by omega) hpi
  | false =>
    rw [if_neg nft, if_pos p00, l_let, nI_1]
    refine ⟨n - (v + 1), (nI (cnt (kpB f t E) v), nI (v + 1), g), by omega, ⟨v + 1, rfl, by omega, by rw [cnt_f hp], rfl, hF, g28, fun i hi hpi => ?_⟩, rfl⟩
    by_cases ei : i = v
    · subst ei; rw [hp] at hpi; cases hpi
    · exact ha i (by omega) hpi
