/-! settling -/
def fC (h : hp_T) (K : Nat → Nat) : Nat → Int32 := fun i => h.1 2 (K i)
def tC (h : hp_T) (K : Nat → Nat) : Nat → Int32 := fun i => h.1 3 (K i)
def DerAll (h : hp_T) (n : Nat) (K : Nat → Nat) : Prop := DerT h n K (tC h K) ∧ DerG h n (fC h K) (tC h K) ∧ DerR h n K (fC h K) (tC h K) ∧ DerK h n K (fC h K) (tC h K) ∧ DerP h n (fC h K) (tC h K) ∧ DerM h n K (fC h K) (tC h K)
theorem dT_cg {h h2 : hp_T} {n : Nat} {K : Nat → Nat} {t : Nat → Int32} (e : ∀ k, 12 ≤ k → k ≤ 20 → h2.1 k = h.1 k) (D : DerT h n K t) : DerT h2 n K t := by
  unfold DerT at *
  rw [e 12 (by omega) (by omega), e 14 (by omega) (by omega), e 15 (by omega) (by omega), e 16 (by omega) (by omega), e 17 (by omega) (by omega), e 18 (by omega) (by omega), e 19 (by omega) (by omega), e 20 (by omega) (by omega)]
  exact D
theorem dG_cg {h h2 : hp_T} {n : Nat} {f t : Nat → Int32} (e : ∀ k, 22 ≤ k → k ≤ 24 → h2.1 k = h.1 k) (D : DerG h n f t) : DerG h2 n f t := by
  unfold DerG at *
  rw [e 22 (by omega) (by omega), e 23 (by omega) (by omega), e 24 (by omega) (by omega)]
  exact D
theorem dR_cg {h h2 : hp_T} {n : Nat} {K : Nat → Nat} {f t : Nat → Int32} (e : ∀ k, 25 ≤ k → k ≤ 27 → h2.1 k = h.1 k) (D : DerR h n K f t) : DerR h2 n K f t := by
  unfold DerR at *
  rw [e 25 (by omega) (by omega), e 26 (by omega) (by omega)]
  exact D
theorem dK_cg {h h2 : hp_T} {n : Nat} {K : Nat → Nat} {f t : Nat → Int32} (e : ∀ k, 28 ≤ k → k ≤ 30 → h2.1 k = h.1 k) (D : DerK h n K f t) : DerK h2 n K f t := by
  unfold DerK at *
  rw [e 28 (by omega) (by omega), e 30 (by omega) (by omega)]
  exact D
theorem dP_cg {h h2 : hp_T} {n : Nat} {f t : Nat → Int32} (e : ∀ k, 31 ≤ k → k ≤ 32 → h2.1 k = h.1 k) (D : DerP h n f t) : DerP h2 n f t := by
  unfold DerP at *
  rw [e 31 (by omega) (by omega), e 32 (by omega) (by omega)]
  exact D
theorem dM_cg {h h2 : hp_T} {n : Nat} {K : Nat → Nat} {f t : Nat → Int32} (e : ∀ k, 33 ≤ k → k ≤ 36 → h2.1 k = h.1 k) (e2 : h2.2 = h.2) (D : DerM h n K f t) : DerM h2 n K f t := by
  unfold DerM GrI at *
  rw [e 33 (by omega) (by omega), e 34 (by omega) (by omega), e 35 (by omega) (by omega), e 36 (by omega) (by omega), e2]
  exact D
theorem der_cg {h h2 : hp_T} {n : Nat} {K : Nat → Nat} (e : ∀ k, 1 ≤ k → k ≤ 36 → k ≠ 21 → h2.1 k = h.1 k) (e2 : h2.2 = h.2) (D : DerAll h n K) : DerAll h2 n K := by
  have ef : fC h2 K = fC h K := by unfold fC; rw [e 2 (by omega) (by omega) (by omega)]
  have et : tC h2 K = tC h K := by unfold tC; rw [e 3 (by omega) (by omega) (by omega)]
  unfold DerAll at *
  rw [ef, et]
  obtain ⟨a, b, c, d, f, g⟩ := D
  exact ⟨dT_cg (fun k k1 k2 => e k (by omega) (by omega) (by omega)) a, dG_cg (fun k k1 k2 => e k (by omega) (by omega) (by omega)) b, dR_cg (fun k k1 k2 => e k (by omega) (by omega) (by omega)) c, dK_cg (fun k k1 k2 => e k (by omega) (by omega) (by omega)) d, dP_cg (fun k k1 k2 => e k (by omega) (by omega) (by omega)) f, dM_cg (fun k k1 k2 => e k (by omega) (by omega) (by omega)) e2 g⟩
theorem derOK : DerOK DerAll := fun _ _ _ _ e e2 D => der_cg (fun k k1 k2 _ => e k k1 k2) e2 D
abbrev HT (h : hp_T) (n : Nat) (K : Nat → Nat) : Prop := ∀ k, k < 48 → (h.1 4 k = 0 ↔ ¬ ∃ r, r < n ∧ K r = k)
theorem rel_w {Der : hp_T → Nat → (Nat → Nat) → Prop} {h m : hp_T} (R : RelD Der h m) : ∃ n K m1, SpI h n K ∧ CV h n K (fC h K) (tC h K) ∧ Sq n (fC h K) (tC h K) ∧ f_X10_orders m = some m1 ∧ Fr [12, 13] m m1 ∧ MV m1 n K (fC h K) (tC h K) ∧ OrM m1 n K ∧ RelD Der h m1 ∧ (∀ k, k < 48 → h.1 4 k = m1.1 5 k) ∧ Ks n K ∧ BwF (h.1 13) ∧ HT h n K ∧ (h.1 0 9 = 0 → Der h n K) := by
  obtain ⟨n, K, hI, hn8, hB, hD, hS, hf, hw, hst⟩ := id R
  have hO := hI.1
  have hOm : Ord (m.1 5) (m.1 6) (m.1 7) n K := hO.cg fun k hk => ⟨(hB k hk).1.symm, fun _ => ⟨(hB k hk).2.1.symm, (hB k hk).2.2.1.symm⟩⟩
  obtain ⟨m1, E, hF, hM⟩ := orders_ok hOm (fun k hk => by rw [← (hB k hk).1]; exact (hB k hk).2.2.2.1)
  refine ⟨n, K, m1, hI, ⟨hO.le, hI.2.1, fun i hi => ⟨hI.2.2.1 i hi, (hO.1 i hi).1, rfl, rfl⟩⟩, ⟨fun i hi => (hB _ (hO.1 i hi).1).2.2.2.2 (hO.1 i hi).2, fun i j hij hj => ?_⟩, E, hF, ⟨hO.le, by rw [hF.1 0 (by decide)]; exact hn8, fun i hi => ⟨hM.1 i hi, (hO.1 i hi).1, ?_, ?_⟩⟩, hM, rel_m R (hF.mono (by decide)), fun k hk => by rw [hF.1 5 (by decide)]; exact (hB k hk).1, ⟨hO.le, fun i hi => (hO.1 i hi).1, fun i j hi hj q => hO.inj hi hj q⟩, hw, fun k hk => ?_, fun q => ?_⟩
  · rcases Nat.eq_or_lt_of_le hij with e | e
    · subst e; exact Int.le_refl _
    · have q := la_le (hO.2.1 i j e hj)
      exact q
  · rw [hF.1 6 (by decide)]; exact (hB _ (hO.1 i hi).1).2.1.symm
  · rw [hF.1 7 (by decide)]; exact (hB _ (hO.1 i hi).1).2.2.1.symm
  · constructor
    · rintro q ⟨r, r1, r2⟩
      have := (hO.1 r r1).2
      rw [r2, q] at this
      exact absurd this (by decide)
    · intro q
      rcases (hB k hk).2.2.2.1 with z | z
      · exact z
      · exact absurd (hO.2.2 k hk z) q
  · rcases hst with z | z
    · exact z.2
    · rw [q] at z; exact absurd z (by decide)
theorem settle_ok {h m : hp_T} (R : RelD DerAll h m) : ∃ h2, f_X9_settle h = some h2 ∧ RelD DerAll h2 m ∧ h2.1 0 9 = 0 ∧ ∀ k, 1 ≤ k → k ≤ 6 → h2.1 k = h.1 k := by
  unfold f_X9_settle
  by_cases s : h.1 0 9 = 0
  · rw [if_pos s]
    exact ⟨h, rfl, R, s, fun _ _ _ => rfl⟩
  rw [if_neg s]
  obtain ⟨n, K, m1, hI, V, Q, -, -, -, -, -, -, hK, hw13, hT, -⟩ := rel_w R
  obtain ⟨h1, E1, F1, D1⟩ := tree_build hw13 hK V hI.2.2.2 hT
  have V1 : CV h1 n K (fC h K) (tC h K) := V.fr fun k k1 k2 => F1.1 k (by simp <;> omega)
  obtain ⟨h2, E2, F2, D2⟩ := gaps_build V1
  have V2 : CV h2 n K (fC h K) (tC h K) := V1.fr fun k k1 k2 => F2.1 k (by simp <;> omega)
  obtain ⟨h3, E3, F3, D3⟩ := rooms_build V2 Q hK.2.2
  have V3 : CV h3 n K (fC h K) (tC h K) := V2.fr fun k k1 k2 => F3.1 k (by simp <;> omega)
  obtain ⟨h4, E4, F4, D4⟩ := kept_build V3
  have V4 : CV h4 n K (fC h K) (tC h K) := V3.fr fun k k1 k2 => F4.1 k (by simp <;> omega)
  obtain ⟨h5, E5, F5, D5⟩ := pairs_build V4 Q
  have V5 : CV h5 n K (fC h K) (tC h K) := V4.fr fun k k1 k2 => F5.1 k (by simp <;> omega)
  obtain ⟨h6, E6, F6, D6⟩ := groups_build V5 Q hK.2.2 (by rw [F5.1 4 (by decide), F4.1 4 (by decide), F3.1 4 (by decide), F2.1 4 (by decide), F1.1 4 (by decide)]; exact hT)
  rw [E1, v_some, E2, v_some, E3, v_some, E4, v_some, E5, v_some, E6, v_some, l_let]
  obtain ⟨h7, e7⟩ : ∃ h7, h7 = hw h6 0 9 0 := ⟨_, rfl⟩
  rw [← e7]
  have p6 : ∀ k, k ≠ 0 → h7.1 k = h6.1 k := fun k hk => by rw [e7, hw_ne _ _ _ hk]
  have p5 : ∀ k, k ≠ 0 → k < 33 ∨ 36 < k → h7.1 k = h5.1 k := fun k hk q => by rw [p6 k hk, F6 k (by simp <;> omega)]
  have p4 : ∀ k, k ≠ 0 → k < 31 ∨ 36 < k → h7.1 k = h4.1 k := fun k hk q => by rw [p5 k hk (by omega), F5.1 k (by simp <;> omega)]
  have p3 : ∀ k, k ≠ 0 → k < 28 ∨ 36 < k → h7.1 k = h3.1 k := fun k hk q => by rw [p4 k hk (by omega), F4.1 k (by simp <;> omega)]
  have p2 : ∀ k, k ≠ 0 → k < 25 ∨ 36 < k → h7.1 k = h2.1 k := fun k hk q => by rw [p3 k hk (by omega), F3.1 k (by simp <;> omega)]
  have p1 : ∀ k, k ≠ 0 → k < 22 ∨ 36 < k → h7.1 k = h1.1 k := fun k hk q => by rw [p2 k hk (by omega), F2.1 k (by simp <;> omega)]
  have p0 : ∀ k, k ≠ 0 → k < 12 ∨ k = 13 ∨ 36 < k → h7.1 k = h.1 k := fun k hk q => by rw [p1 k hk (by omega), F1.1 k (by simp <;> omega)]
  have c0 : ∀ i, i ≠ 9 → h7.1 0 i = h.1 0 i := fun i hi => by rw [e7, hw_n _ _ _ _ (Or.inr hi), F6 0 (by decide), F5.1 0 (by decide), F4.1 0 (by decide), F3.1 0 (by decide), F2.1 0 (by decide), F1.1 0 (by decide)]
  have c9 : h7.1 0 9 = 0 := by rw [e7, hw_s]
  refine ⟨h7, rfl, ?_, c9, fun k k1 k2 => p0 k (by omega) (by omega)⟩
  obtain ⟨n2, K2, hI2, hn8, hB, hD, hS, hf, hw, hst⟩ := R
  have ef : fC h7 K = fC h K := by unfold fC; rw [p0 2 (by omega) (by omega)]
  have et : tC h7 K = tC h K := by unfold tC; rw [p0 3 (by omega) (by omega)]
  have en : n2 = n := (Ord.uniq hI2.1 hI.1).1
  subst en
  refine ⟨n2, K, hI.cg fun k a b => p0 k (by omega) (by omega), hn8, ?_, ?_, hS.cg (fun j hj => p0 (38 + j) (by omega) (by omega)) ⟨rfl, rfl, rfl⟩, by rw [c0 10 (by decide)]; exact hf, by rw [p0 13 (by omega) (by omega)]; exact hw, Or.inl ⟨c9, ?_⟩⟩
  · intro k hk
    rw [p0 4 (by omega) (by omega), p0 2 (by omega) (by omega), p0 3 (by omega) (by omega)]
    exact hB k hk
  · unfold RDt Ent at *
    rw [p0 7 (by omega) (by omega), p0 8 (by omega) (by omega), p0 9 (by omega) (by omega), p0 10 (by omega) (by omega), p0 11 (by omega) (by omega)]
    exact hD
  · unfold DerAll
    rw [ef, et]
    exact ⟨dT_cg (fun k a b => p1 k (by omega) (by omega)) D1, dG_cg (fun k a b => p2 k (by omega) (by omega)) D2, dR_cg (fun k a b => p3 k (by omega) (by omega)) D3, dK_cg (fun k a b => p4 k (by omega) (by omega)) D4, dP_cg (fun k a b => p5 k (by omega) (by omega)) D5, dM_cg (fun k a b => p6 k (by omega)) (by rw [e7]; rfl) D6⟩
