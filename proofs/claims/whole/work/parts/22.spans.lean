/-! the class's spans: put in, taken out -/
def SpI (h : hp_T) (n : Nat) (K : Nat → Nat) : Prop := Ord (h.1 4) (h.1 2) (h.1 3) n K ∧ h.1 1 5 = nI n ∧ (∀ i, i < n → h.1 5 i = nI (K i)) ∧ (∀ i, i < n → h.1 6 (K i) = nI i)
theorem c_setRank {h : hp_T} {a r : Nat} (ha : a < 48) (hr : r < 48) : f_X7_setRank (nI a) (nI r) h = some (hw (hw h 5 r (nI a)) 6 a (nI r)) := by
  unfold f_X7_setRank
  rw [if_pos (ix_n hr (by omega)), l_let, if_pos (ix_n ha (by omega)), l_let, n_cl (by omega), n_cl (by omega)]
theorem c_ahead {h : hp_T} {a b : Nat} (ha : a < 48) (hb : b < 48) : (la (h.1 2) (h.1 3) a b → f_X7_isAhead (nI a) (nI b) h = some (1, h)) ∧ (¬ la (h.1 2) (h.1 3) a b → f_X7_isAhead (nI a) (nI b) h = some (0, h)) := by
  have e1 := ix_n (j := a) (n := 48) ha (by omega)
  have e2 := ix_n (j := b) (n := 48) hb (by omega)
  have n1 : (nI a).toInt = a := n_int (by omega)
  have n2 : (nI b).toInt = b := n_int (by omega)
  constructor <;> intro hl <;> unfold f_X7_isAhead la at * <;> simp only [e1, e2, if_true, n_cl (show a < 2147483648 by omega), n_cl (show b < 2147483648 by omega)] <;> (repeat' split) <;> first | rfl | (exfalso; simp only [i_eq, i_le] at *; omega)
theorem add_L {h0 : hp_T} {n k : Nat} {K : Nat → Nat} {Kc : Int32 → hp_T → Option hp_T} (hk : k < 48) (hn : n < 48) (hO : ∀ i, i < n → K i < 48) (hj : ∀ i j, i < n → j < n → K i = K j → i = j) (hne : ∀ i, i < n → K i ≠ k) (hs : ∀ i j, i < j → j < n → la (h0.1 2) (h0.1 3) (K i) (K j)) (h1 : ∀ i, i < n → h0.1 5 i = nI (K i)) (h2 : ∀ i, i < n → h0.1 6 (K i) = nI i) :
    ∃ v h, f_X7_add_L1 (nI k) Kc 100 (nI n) h0 = Kc (nI v) h ∧ v ≤ n ∧ Fr [5, 6] h0 h ∧ (∀ i, i < v → h.1 5 i = nI (K i)) ∧ (∀ i, v < i → i ≤ n → h.1 5 i = nI (K (i - 1))) ∧ (∀ i, i < v → h.1 6 (K i) = nI i) ∧ (∀ i, v ≤ i → i < n → h.1 6 (K i) = nI (i + 1)) ∧ (∀ i, v ≤ i → i < n → la (h0.1 2) (h0.1 3) k (K i)) ∧ (∀ i, i < v → la (h0.1 2) (h0.1 3) (K i) k) := by
  have key := loop_j (fun N (s : Int32 × hp_T) => f_X7_add_L1 (nI k) Kc N s.1 s.2)
    (fun o => ∃ v h, o = Kc (nI v) h ∧ v ≤ n ∧ Fr [5, 6] h0 h ∧ (∀ i, i < v → h.1 5 i = nI (K i)) ∧ (∀ i, v < i → i ≤ n → h.1 5 i = nI (K (i - 1))) ∧ (∀ i, i < v → h.1 6 (K i) = nI i) ∧ (∀ i, v ≤ i → i < n → h.1 6 (K i) = nI (i + 1)) ∧ (∀ i, v ≤ i → i < n → la (h0.1 2) (h0.1 3) k (K i)) ∧ (∀ i, i < v → la (h0.1 2) (h0.1 3) (K i) k))
    (fun v s => s.1 = nI v ∧ v ≤ n ∧ Fr [5, 6] h0 s.2 ∧ (∀ i, i < v → s.2.1 5 i = nI (K i)) ∧ (∀ i, v < i → i ≤ n → s.2.1 5 i = nI (K (i - 1))) ∧ (∀ i, i < v → s.2.1 6 (K i) = nI i) ∧ (∀ i, v ≤ i → i < n → s.2.1 6 (K i) = nI (i + 1)) ∧ (∀ i, v ≤ i → i < n → la (h0.1 2) (h0.1 3) k (K i))) ?_ n 100 (nI n, h0) (by omega)
    ⟨rfl, Nat.le_refl _, Fr.rf, h1, fun i a b => absurd a (by omega), h2, fun i a b => absurd a (by omega), fun i a b => absurd a (by omega)⟩
  · exact key
  rintro N v ⟨x, h⟩ ⟨rfl, hv, hF, a1, a2, a3, a4, a5⟩
  dsimp only at *
  rw [f_X7_add_L1]
  rcases Nat.eq_zero_or_pos v with c | c
  · subst c
    left
    rw [if_pos (by rw [i_le, n_int (by omega)]; decide)]
    exact ⟨0, h, rfl, hv, hF, a1, a2, a3, a4, a5, fun i q => absurd q (by omega)⟩
  rw [if_neg (by rw [i_le, n_int (by omega), t_0]; omega), n_pred c, if_pos (ix_n (by omega) (by omega)), n_cl (by omega), a1 (v - 1) (by omega)]
  have f2 : h.1 2 = h0.1 2 := hF.1 2 (by decide)
  have f3 : h.1 3 = h0.1 3 := hF.1 3 (by decide)
  have hA := c_ahead (h := h) hk (hO (v - 1) (by omega))
  rw [f2, f3] at hA
  by_cases hl : la (h0.1 2) (h0.1 3) k (K (v - 1))
  · right
    rw [hA.1 hl, c_some, if_neg (by decide), if_pos (ix_n (by omega) (by omega)), a1 (v - 1) (by omega), c_setRank (hO _ (by omega)) (by omega), v_some, l_let, n_m1 c]
    refine ⟨v - 1, (nI (v - 1), hw (hw h 5 v (nI (K (v - 1)))) 6 (K (v - 1)) (nI v)), by omega, ⟨rfl, by omega, (hF.hw (by decide)).hw (by decide), fun i hi => ?_, fun i hi hi2 => ?_, fun i hi => ?_, fun i hi hi2 => ?_, fun i hi hi2 => ?_⟩, rfl⟩
    · dsimp only
      rw [hw_n _ _ _ _ (Or.inl (by decide)), hw_n _ _ _ _ (Or.inr (by omega))]
      exact a1 i (by omega)
    · dsimp only
      rw [hw_n _ _ _ _ (Or.inl (by decide))]
      by_cases e : i = v
      · subst e; rw [hw_s]
      · rw [hw_n _ _ _ _ (Or.inr e)]; exact a2 i (by omega) hi2
    · dsimp only
      have ne : K i ≠ K (v - 1) := fun q => absurd (hj i (v - 1) (by omega) (by omega) q) (by omega)
      rw [hw_n _ _ _ _ (Or.inr ne), hw_n _ _ _ _ (Or.inl (by decide))]
      exact a3 i (by omega)
    · dsimp only
      by_cases e : i = v - 1
      · subst e; rw [hw_s, show v - 1 + 1 = v by omega]
      · have ne : K i ≠ K (v - 1) := fun q => absurd (hj i (v - 1) (by omega) (by omega) q) e
        rw [hw_n _ _ _ _ (Or.inr ne), hw_n _ _ _ _ (Or.inl (by decide))]
        exact a4 i (by omega) hi2
    · by_cases e : i = v - 1
      · subst e; exact hl
      · exact a5 i (by omega) hi2
  · left
    rw [hA.2 hl, c_some, if_pos rfl]
    refine ⟨v, h, rfl, hv, hF, a1, a2, a3, a4, a5, fun i hi => ?_⟩
    have b1 := la_tot (fun q => hne (v - 1) (by omega) q.symm) hl
    by_cases e : i = v - 1
    · subst e; exact b1
    · exact la_tr (hs i (v - 1) (by omega) (by omega)) b1
theorem add_ok {h : hp_T} {n k : Nat} {K : Nat → Nat} {a b : Int32} (hI : SpI h n K) (hk : k < 48) (hth : h.1 4 k ≠ 1) :
    ∃ h2 K2, f_X7_add (nI k) a b h = some h2 ∧ SpI h2 (n + 1) K2 ∧ h2.1 4 = upd (h.1 4) k 1 ∧ h2.1 2 = upd (h.1 2) k a ∧ h2.1 3 = upd (h.1 3) k b ∧ Fr [1, 2, 3, 4, 5, 6] h h2 := by
  obtain ⟨hO, hsz, h5, h6⟩ := hI
  have hn : n < 48 := hO.lt hk hth
  have hne : ∀ i, i < n → K i ≠ k := fun i hi q => hth (q ▸ (hO.1 i hi).2)
  unfold f_X7_add
  simp only [ix_n hk (show 48 ≤ 1000 by omega), if_true, l_let, n_cl (show k < 2147483648 by omega)]
  obtain ⟨h0, e0⟩ : ∃ h0, h0 = hw (hw (hw h 2 k a) 3 k b) 4 k 1 := ⟨_, rfl⟩
  rw [← e0]
  have g2 : h0.1 2 = upd (h.1 2) k a := by rw [e0, hw_ne _ _ _ (by decide), hw_ne _ _ _ (by decide), hw_at]
  have g3 : h0.1 3 = upd (h.1 3) k b := by rw [e0, hw_ne _ _ _ (by decide), hw_at, hw_ne _ _ _ (by decide)]
  have g4 : h0.1 4 = upd (h.1 4) k 1 := by rw [e0, hw_at, hw_ne _ _ _ (by decide), hw_ne _ _ _ (by decide)]
  have gF : Fr [2, 3, 4] h h0 := by rw [e0]; exact ((Fr.rf.hw (by decide)).hw (by decide)).hw (by decide)
  have g1 : h0.1 1 5 = nI n := by rw [gF.1 1 (by decide)]; exact hsz
  have g5 : ∀ i, i < n → h0.1 5 i = nI (K i) := fun i hi => by rw [gF.1 5 (by decide)]; exact h5 i hi
  have g6 : ∀ i, i < n → h0.1 6 (K i) = nI i := fun i hi => by rw [gF.1 6 (by decide)]; exact h6 i hi
  have hs : ∀ i j, i < j → j < n → la (h0.1 2) (h0.1 3) (K i) (K j) := fun i j hij hj => by
    rw [g2, g3]
    refine la_cg ⟨?_, ?_⟩ ⟨?_, ?_⟩ (hO.2.1 i j hij hj) <;> apply up_n <;> apply hne <;> omega
  have hO0 : Ord (h.1 4) (h0.1 2) (h0.1 3) n K := ⟨hO.1, hs, hO.2.2⟩
  rw [g1]
  obtain ⟨v, h1, E, hv, hF, b1, b2, b3, b4, b5, b6⟩ := add_L (Kc := fun x18 h19 => o_cv (f_X7_setRank (nI k) x18 h19) fun h20 => some (hw h20 1 5 ((h20.1 1 5) + (1 : Int32)))) hk hn (fun i hi => (hO.1 i hi).1) (fun i j hi hj e => hO.inj hi hj e) hne hs g5 g6
  rw [E, c_setRank hk (by omega), v_some]
  refine ⟨_, insK K v k, rfl, ?_, ?_, ?_, ?_, ?_⟩
  · have f2 : h1.1 2 = h0.1 2 := hF.1 2 (by decide)
    have f3 : h1.1 3 = h0.1 3 := hF.1 3 (by decide)
    have f4 : h1.1 4 = h0.1 4 := hF.1 4 (by decide)
    refine ⟨?_, ?_, fun i hi => ?_, fun i hi => ?_⟩
    · rw [hw_ne _ _ _ (by decide), hw_ne _ _ _ (by decide), hw_ne _ _ _ (by decide), hw_ne _ _ _ (by decide), hw_ne _ _ _ (by decide), hw_ne _ _ _ (by decide), hw_ne _ _ _ (by decide), hw_ne _ _ _ (by decide), hw_ne _ _ _ (by decide), f2, f3, f4, g4]
      exact hO0.ins hk hv b5 b6
    · rw [hw_s, hw_ne _ _ _ (by decide), hw_ne _ _ _ (by decide), hF.1 1 (by decide), g1]
      exact nI_1 n
    · rw [hw_ne _ _ _ (by decide), hw_ne _ _ _ (by decide)]
      rcases Nat.lt_trichotomy i v with c | c | c
      · rw [hw_n _ _ _ _ (Or.inr (by omega)), ins_lt c]; exact b1 i c
      · subst c; rw [hw_s, ins_eq]
      · rw [hw_n _ _ _ _ (Or.inr (by omega)), ins_gt c]; exact b2 i c (by omega)
    · rw [hw_ne _ _ _ (by decide)]
      rcases Nat.lt_trichotomy i v with c | c | c
      · rw [ins_lt c, hw_n _ _ _ _ (Or.inr (hne i (by omega))), hw_ne _ _ _ (by decide)]; exact b3 i c
      · subst c; rw [ins_eq, hw_s]
      · rw [ins_gt c, hw_n _ _ _ _ (Or.inr (hne (i - 1) (by omega))), hw_ne _ _ _ (by decide), b4 (i - 1) (by omega) (by omega), show i - 1 + 1 = i by omega]
  · rw [hw_ne _ _ _ (by decide), hw_ne _ _ _ (by decide), hw_ne _ _ _ (by decide), hF.1 4 (by decide), g4]
  · rw [hw_ne _ _ _ (by decide), hw_ne _ _ _ (by decide), hw_ne _ _ _ (by decide), hF.1 2 (by decide), g2]
  · rw [hw_ne _ _ _ (by decide), hw_ne _ _ _ (by decide), hw_ne _ _ _ (by decide), hF.1 3 (by decide), g3]
  · exact ((((gF.mono (by decide)).tr (hF.mono (by decide))).hw (by decide)).hw (by decide)).hw (by decide)
theorem rem_L {h0 : hp_T} {n p : Nat} {K : Nat → Nat} {Kc : Int32 → hp_T → Option hp_T} (hn : n < 48) (hp : p ≤ n) (hO : ∀ i, i ≤ n → K i < 48) (hj : ∀ i j, i ≤ n → j ≤ n → K i = K j → i = j) (h1 : ∀ i, i ≤ n → h0.1 5 i = nI (K i)) (h2 : ∀ i, i ≤ n → h0.1 6 (K i) = nI i) (hsz : h0.1 1 5 = nI n) :
    ∃ h, f_X7_remove_L1 Kc 100 (nI p) h0 = Kc (nI n) h ∧ Fr [5, 6] h0 h ∧ (∀ i, i < n → h.1 5 i = nI (delK K p i)) ∧ (∀ i, i < n → h.1 6 (delK K p i) = nI i) := by
  have key := loop_j (fun N (s : Int32 × hp_T) => f_X7_remove_L1 Kc N s.1 s.2)
    (fun o => ∃ h, o = Kc (nI n) h ∧ Fr [5, 6] h0 h ∧ (∀ i, i < n → h.1 5 i = nI (delK K p i)) ∧ (∀ i, i < n → h.1 6 (delK K p i) = nI i))
    (fun m s => ∃ v, m = n - v ∧ p ≤ v ∧ v ≤ n ∧ s.1 = nI v ∧ Fr [5, 6] h0 s.2 ∧ (∀ i, i < v → s.2.1 5 i = nI (delK K p i)) ∧ (∀ i, v < i → i ≤ n → s.2.1 5 i = nI (K i)) ∧ (∀ i, i < v → s.2.1 6 (delK K p i) = nI i) ∧ (∀ i, v < i → i ≤ n → s.2.1 6 (K i) = nI i)) ?_ (n - p) 100 (nI p, h0) (by omega)
    ⟨p, rfl, Nat.le_refl _, hp, rfl, Fr.rf, fun i hi => by rw [h1 i (by omega)]; simp [delK, hi], fun i a b => h1 i b, fun i hi => by simp only [delK, hi, if_true]; exact h2 i (by omega), fun i a b => h2 i b⟩
  · exact key
  rintro N m ⟨x, h⟩ ⟨v, rfl, hpv, hv, rfl, hF, a1, a2, a3, a4⟩
  dsimp only at *
  rw [f_X7_remove_L1, hF.1 1 (by decide), hsz]
  by_cases c : v = n
  · subst c
    left
    rw [if_pos (by rw [i_le]; omega)]
    exact ⟨h, rfl, hF, a1, a3⟩
  right
  have hd : delK K p v = K (v + 1) := by simp [delK, show ¬ v < p by omega]
  rw [if_neg (by rw [i_le, n_int (by omega), n_int (by omega)]; omega), nI_1, if_pos (ix_n (by omega) (by omega)), n_cl (by omega), a2 (v + 1) (by omega) (by omega), c_setRank (hO _ (by omega)) (by omega), v_some, l_let]
  refine ⟨n - (v + 1), (nI (v + 1), hw (hw h 5 v (nI (K (v + 1)))) 6 (K (v + 1)) (nI v)), by omega, ⟨v + 1, rfl, by omega, by omega, rfl, (hF.hw (by decide)).hw (by decide), fun i hi => ?_, fun i hi hi2 => ?_, fun i hi => ?_, fun i hi hi2 => ?_⟩, rfl⟩
  · dsimp only
    rw [hw_n _ _ _ _ (Or.inl (by decide))]
    by_cases e : i = v
    · subst e; rw [hw_s, hd]
    · rw [hw_n _ _ _ _ (Or.inr e)]; exact a1 i (by omega)
  · dsimp only
    rw [hw_n _ _ _ _ (Or.inl (by decide)), hw_n _ _ _ _ (Or.inr (by omega))]
    exact a2 i (by omega) hi2
  · dsimp only
    by_cases e : i = v
    · subst e; rw [hd, hw_s]
    · have ne : delK K p i ≠ K (v + 1) := by
        unfold delK
        split
        · exact fun q => absurd (hj i (v + 1) (by omega) (by omega) q) (by omega)
        · exact fun q => absurd (hj (i + 1) (v + 1) (by omega) (by omega) q) (by omega)
      rw [hw_n _ _ _ _ (Or.inr ne), hw_n _ _ _ _ (Or.inl (by decide))]
      exact a3 i (by omega)
  · dsimp only
    have ne : K i ≠ K (v + 1) := fun q => absurd (hj i (v + 1) (by omega) (by omega) q) (by omega)
    rw [hw_n _ _ _ _ (Or.inr ne), hw_n _ _ _ _ (Or.inl (by decide))]
    exact a4 i (by omega) hi2
theorem rem_ok {h : hp_T} {n k : Nat} {K : Nat → Nat} (hI : SpI h n K) (hk : k < 48) (hth : h.1 4 k = 1) :
    ∃ h2 K2 n2, n = n2 + 1 ∧ f_X7_remove (nI k) h = some h2 ∧ SpI h2 n2 K2 ∧ h2.1 4 = upd (h.1 4) k 0 ∧ Fr [1, 4, 5, 6] h h2 := by
  obtain ⟨hO, hsz, h5, h6⟩ := hI
  obtain ⟨p, hp, ep⟩ := hO.2.2 k hk hth
  obtain ⟨n2, rfl⟩ : ∃ n2, n = n2 + 1 := ⟨n - 1, by omega⟩
  have hn := hO.le
  unfold f_X7_remove
  simp only [ix_n hk (show 48 ≤ 1000 by omega), if_true, l_let, n_cl (show k < 2147483648 by omega)]
  obtain ⟨h0, e0⟩ : ∃ h0, h0 = hw (hw h 4 k 0) 1 5 ((hw h 4 k 0).1 1 5 - 1) := ⟨_, rfl⟩
  rw [← e0]
  have g4 : h0.1 4 = upd (h.1 4) k 0 := by rw [e0, hw_ne _ _ _ (by decide), hw_at]
  have gF : Fr [1, 4] h h0 := by rw [e0]; exact (Fr.rf.hw (by decide)).hw (by decide)
  have g1 : h0.1 1 5 = nI n2 := by rw [e0, hw_s, hw_ne _ _ _ (by decide), hsz]; exact nI_pred n2
  rw [gF.1 6 (by decide), ← ep, h6 p hp]
  obtain ⟨h1, E, hF, b1, b2⟩ := rem_L (h0 := h0) (K := K) (p := p) (Kc := fun _ h12 => some h12) (by omega) (by omega) (fun i hi => (hO.1 i (by omega)).1) (fun i j hi hj e => hO.inj (by omega) (by omega) e) (fun i hi => by rw [gF.1 5 (by decide)]; exact h5 i (by omega)) (fun i hi => by rw [gF.1 6 (by decide)]; exact h6 i (by omega)) g1
  rw [E]
  refine ⟨h1, delK K p, n2, rfl, rfl, ⟨?_, ?_, b1, b2⟩, ?_, (gF.mono (by decide)).tr (hF.mono (by decide))⟩
  · rw [hF.1 4 (by decide), hF.1 2 (by decide), hF.1 3 (by decide), g4, gF.1 2 (by decide), gF.1 3 (by decide), ← ep]
    exact hO.del hp
  · rw [hF.1 1 (by decide)]; exact g1
  · rw [hF.1 4 (by decide), g4, ep]
