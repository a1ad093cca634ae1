/-! the start: weights in order, nothing there, all sheets lost -/
def tw (k : Nat) : Int32 := nI (65536 - wt k)
theorem tw_i (k : Nat) : (tw k).toInt = 65536 - (wt k : Int) := by
  have := wt_lt k
  unfold tw
  rw [n_int (by omega)]
  omega
theorem c_weight3 {k : Nat} {h : hp_T} (hk : k < 48) : f_X8_weight3 (nI k) h = some (nI (wt k), h) := by
  unfold f_X8_weight3
  rw [wtx hk]
theorem i_L2 {h : hp_T} {v : Nat} {E : Nat → Nat} {Kc : Int32 → hp_T → Option hp_T} (hv : v < 48) (hE : En v tw E) (hc : ∀ i, i < v → h.1 1 i = nI (E i)) :
    ∃ p h2, p ≤ v ∧ f_X8_init3_L2 (nI v) Kc 100 (nI v) h = Kc (nI p) h2 ∧ Fr [1] h h2 ∧ (∀ i, i < p → h2.1 1 i = nI (E i)) ∧ (∀ i, p < i → i ≤ v → h2.1 1 i = nI (E (i - 1))) ∧ En (v + 1) tw (insK E p v) := by
  have key := loop_j (fun N (s : Int32 × hp_T) => f_X8_init3_L2 (nI v) Kc N s.1 s.2)
    (fun o => ∃ p h2, p ≤ v ∧ o = Kc (nI p) h2 ∧ Fr [1] h h2 ∧ (∀ i, i < p → h2.1 1 i = nI (E i)) ∧ (∀ i, p < i → i ≤ v → h2.1 1 i = nI (E (i - 1))) ∧ En (v + 1) tw (insK E p v))
    (fun p s => s.1 = nI p ∧ p ≤ v ∧ Fr [1] h s.2 ∧ (∀ i, i < p → s.2.1 1 i = nI (E i)) ∧ (∀ i, p < i → i ≤ v → s.2.1 1 i = nI (E (i - 1))) ∧ (∀ i, p ≤ i → i < v → (tw v).toInt < (tw (E i)).toInt)) ?_ v 100 (nI v, h) (by omega)
    ⟨rfl, Nat.le_refl _, Fr.rf, hc, fun i a b => absurd a (by omega), fun i a b => absurd a (by omega)⟩
  · exact key
  rintro N p ⟨x, g⟩ ⟨e1, hp, hF, a1, a2, a5⟩
  dsimp only at e1 hF a1 a2
  subst e1
  dsimp only
  rw [f_X8_init3_L2]
  rcases Nat.eq_zero_or_pos p with c | c
  · subst c
    left
    rw [if_pos (by rw [i_le, n_int (by omega)]; decide)]
    exact ⟨0, g, hp, rfl, hF, a1, a2, hE.ins (by omega) hp a5 (fun q => absurd q (by omega))⟩
  have hl := hE.lt (show p - 1 < v by omega)
  have w1 := wt_lt v
  have w2 := wt_lt (E (p - 1))
  rw [if_neg (by rw [i_le, n_int (by omega), t_0]; omega), n_pred c, if_pos (ix_n (show p - 1 < 48 by omega) (by omega)), n_cl (show p - 1 < 2147483648 by omega), a1 (p - 1) (by omega), c_weight3 (by omega), c_some, c_weight3 hv, c_some]
  by_cases q : nI (wt v) ≤ nI (wt (E (p - 1)))
  · left
    rw [if_pos q]
    rw [i_le, n_int (by omega), n_int (by omega)] at q
    exact ⟨p, g, hp, rfl, hF, a1, a2, hE.ins (by omega) hp a5 (fun _ => by rw [tw_i, tw_i]; omega)⟩
  · right
    rw [if_neg q, if_pos (ix_n (show p - 1 < 48 by omega) (by omega)), if_pos (ix_n (show p < 48 by omega) (by omega)), l_let, l_let, n_m1 c, n_cl (show p < 2147483648 by omega), a1 (p - 1) (by omega)]
    rw [i_le, n_int (by omega), n_int (by omega)] at q
    refine ⟨p - 1, (nI (p - 1), hw g 1 p (nI (E (p - 1)))), by omega, ⟨rfl, by omega, hF.hw (by decide), fun i hi => ?_, fun i hi hi2 => ?_, fun i hi hi2 => ?_⟩, rfl⟩
    · dsimp only
      rw [hw_n _ _ _ _ (Or.inr (by omega))]
      exact a1 i (by omega)
    · dsimp only
      by_cases e : i = p
      · subst e; rw [hw_s]
      · rw [hw_n _ _ _ _ (Or.inr e)]; exact a2 i (by omega) hi2
    · by_cases e : i = p - 1
      · subst e; rw [tw_i, tw_i]; omega
      · exact a5 i (by omega) hi2
theorem wt_inj48 : ∀ a b : Fin 48, wt a.val = wt b.val → a = b := by decide +kernel
theorem init3_ok : ∃ h3, f_X8_init3 h30 = some h3 ∧ BwF (h3.1 1) := by
  unfold f_X8_init3
  have key := loop_j (fun N (s : Int32 × hp_T) => f_X8_init3_L1 (fun (x20 : Int32) (h21 : hp_T) => some h21) N s.1 s.2)
    (fun o => ∃ h2 E, o = some h2 ∧ En 48 tw E ∧ ∀ i, i < 48 → h2.1 1 i = nI (E i))
    (fun r s => ∃ v E, r = 48 - v ∧ v ≤ 48 ∧ s.1 = nI v ∧ En v tw E ∧ ∀ i, i < v → s.2.1 1 i = nI (E i)) ?_ 48 100 (0, h30) (by omega)
    ⟨0, fun _ => 0, rfl, by omega, rfl, En.nil _ _, fun i hi => absurd hi (by omega)⟩
  · obtain ⟨h3, E, e, hE, hc⟩ := key
    refine ⟨h3, e, E, fun i hi => ⟨hc i hi, hE.lt hi⟩, fun i j hij hj => ?_, fun k hk => ?_⟩
    · have h1 := hE.le (Nat.le_of_lt hij) hj
      rw [tw_i, tw_i] at h1
      have li := hE.lt (show i < 48 by omega)
      have lj := hE.lt hj
      have h2 : wt (E j) ≠ wt (E i) := fun q => by
        have := wt_inj48 ⟨E j, lj⟩ ⟨E i, li⟩ q
        have e2 : E j = E i := congrArg Fin.val this
        have := Ord.inj hE hj (show i < 48 by omega) e2
        omega
      omega
    · exact hE.2.2 k hk (by simp [thk, hk])
  rintro N r ⟨x, g⟩ ⟨v, E, rfl, hv, e1, hE, hc⟩
  dsimp only at e1 hc
  subst e1
  dsimp only
  rw [f_X8_init3_L1]
  by_cases e : v = 48
  · subst e
    left
    rw [if_pos (by decide)]
    exact ⟨g, E, rfl, hE, hc⟩
  right
  rw [if_neg (by rw [i_le, n_int (by omega), t_48]; omega)]
  obtain ⟨p, h2, hp, E2, F2, a1, a2, hE2⟩ := i_L2 (Kc := fun (x15 : Int32) (h16 : hp_T) => if ix x15 48 = true then o_let (hw h16 1 x15.toNatClampNeg (nI v)) fun (h18 : hp_T) => o_let (nI v + (1 : Int32)) fun (x19 : Int32) => f_X8_init3_L1 (fun (x20 : Int32) (h21 : hp_T) => some h21) N x19 h18 else none) (show v < 48 by omega) hE hc
  rw [E2, if_pos (ix_n (show p < 48 by omega) (by omega)), l_let, l_let, nI_1, n_cl (show p < 2147483648 by omega)]
  refine ⟨48 - (v + 1), (nI (v + 1), hw h2 1 p (nI v)), by omega, ⟨v + 1, insK E p v, rfl, by omega, rfl, hE2, ?_⟩, rfl⟩
  dsimp only
  rw [hw_at]
  exact ins_all (X := fun x => x) a1 a2
theorem t_4 : (4 : Int32).toInt = 4 := by decide
theorem init1_ok : ∃ hm1, f_X10_init1 hm0 = some hm1 ∧ Fr [1] hm0 hm1 ∧ ∀ j, j < 4 → hm1.1 1 j = -1 := by
  unfold f_X10_init1
  have key := loop_j (fun N (s : Int32 × hp_T) => f_X10_init1_L1 (fun (x5 : Int32) (h6 : hp_T) => some h6) N s.1 s.2)
    (fun o => ∃ hm1, o = some hm1 ∧ Fr [1] hm0 hm1 ∧ ∀ j, j < 4 → hm1.1 1 j = -1)
    (fun r s => ∃ v, r = 4 - v ∧ v ≤ 4 ∧ s.1 = nI v ∧ Fr [1] hm0 s.2 ∧ ∀ j, j < v → s.2.1 1 j = -1) ?_ 4 100 (0, hm0) (by omega)
    ⟨0, rfl, by omega, rfl, Fr.rf, fun j hj => absurd hj (by omega)⟩
  · exact key
  rintro N r ⟨x, g⟩ ⟨v, rfl, hv, e1, hF, hc⟩
  dsimp only at e1 hF hc
  subst e1
  dsimp only
  rw [f_X10_init1_L1]
  by_cases e : v = 4
  · subst e
    left
    rw [if_pos (by decide)]
    exact ⟨g, rfl, hF, hc⟩
  right
  rw [if_neg (by rw [i_le, n_int (by omega), t_4]; omega), if_pos (ix_n (by omega) (by omega)), l_let, l_let, nI_1, n_cl (by omega)]
  refine ⟨4 - (v + 1), (nI (v + 1), hw g 1 v (-1)), by omega, ⟨v + 1, rfl, by omega, rfl, hF.hw (by decide), fun j hj => ?_⟩, rfl⟩
  dsimp only
  by_cases q : j = v
  · subst q; rw [hw_s]
  · rw [hw_n _ _ _ _ (Or.inr q)]; exact hc j (by omega)
theorem init_rel : ∃ h3 hm1, f_X8_init3 h30 = some h3 ∧ f_X10_init1 hm0 = some hm1 ∧ RelD DerAll (hc0 h3) hm1 := by
  obtain ⟨h3, E3, hB⟩ := init3_ok
  obtain ⟨hm1, Em, hF, hc⟩ := init1_ok
  have z : ∀ k, k ≠ 1 → ∀ i, hm1.1 k i = 0 := fun k hk i => by
    rw [hF.1 k (by simp; exact hk)]
    cases k <;> rfl
  have c2 : (hc0 h3).1 2 = fun _ => 0 := rfl
  have c3 : (hc0 h3).1 3 = fun _ => 0 := rfl
  have c4 : (hc0 h3).1 4 = fun _ => 0 := rfl
  have n01 : ¬ ((0 : Int32) = 1) := by decide
  refine ⟨h3, hm1, E3, Em, 0, fun _ => 0, ⟨⟨fun i hi => absurd hi (by omega), fun i j _ hj => absurd hj (by omega), fun k _ hk => ?_⟩, rfl, fun i hi => absurd hi (by omega), fun i hi => absurd hi (by omega)⟩, z 0 (by decide) 8, fun k hk => ?_, ⟨0, 0, by omega, by omega, rfl, rfl, z 0 (by decide) 9, fun i hi => absurd hi (by omega), fun _ => hm1.1 5, fun k _ => rfl, fun i hi => absurd hi (by omega)⟩, fun j hj => ?_, ?_, hB, Or.inr rfl⟩
  · rw [c4] at hk
    exact absurd hk n01
  · rw [c2, c3, c4, z 5 (by decide), z 6 (by decide), z 7 (by decide)]
    exact ⟨rfl, rfl, rfl, Or.inl rfl, fun q => absurd q n01⟩
  · rw [hc j hj, z 2 (by decide)]
    have h38 : (hc0 h3).1 (38 + j) = fun i => if i = 1 then 1 else 0 := by
      rcases (show j = 0 ∨ j = 1 ∨ j = 2 ∨ j = 3 by omega) with rfl | rfl | rfl | rfl <;> rfl
    have h42 : (hc0 h3).1 (42 + j) = fun _ => 0 := by
      rcases (show j = 0 ∨ j = 1 ∨ j = 2 ∨ j = 3 by omega) with rfl | rfl | rfl | rfl <;> rfl
    rw [h38, h42]
    exact ⟨Or.inl ⟨rfl, rfl⟩, Or.inl rfl, rfl, ⟨0, by omega, rfl⟩, fun i _ => (z 3 (by decide) _).symm⟩
  · rw [z 0 (by decide)]
    rfl
theorem law_steps : LawSteps (RelD DerAll) :=
  ⟨fun _ _ _ _ _ R => put_ok R, fun _ _ _ R => drop_ok R, fun _ _ _ _ R => move_ok R, fun _ _ R => undo_ok R, fun _ _ _ R => fill_ok derOK R, fun _ _ _ _ R => span_ok R, fun _ _ _ R => rank_ok R, fun _ _ _ R => ranked_ok R, fun _ _ R => root_ok R, fun _ _ _ _ R => tree_ok R, fun _ _ _ R => end_ok R, fun _ _ _ _ R => looks_ok R, fun _ _ _ _ _ R => meets_ok R, fun _ _ _ _ R => holds_ok R, fun _ _ _ _ R => taken_ok R, fun _ _ _ _ R => frees_ok R, fun _ _ _ _ _ _ R => free_ok R, fun _ _ _ _ _ R => place_ok R, fun _ _ R => deep_ok R, fun _ _ R => point_ok R, fun _ _ _ R => room_ok R, fun _ _ _ R => keep_ok R, fun _ _ R => clashes_ok R, fun _ _ _ _ R => clash_ok R, fun _ _ R => alone_ok R, fun _ _ _ _ R => group_ok R, fun _ _ _ _ _ R => sheet_ok derOK R, fun _ _ _ R => lose_ok derOK R, fun _ _ _ _ _ _ R => lay_ok derOK R, fun _ _ _ _ _ R => get_ok derOK R, fun _ _ _ _ _ _ _ R => copy_ok derOK R, fun _ _ _ _ _ R => write_ok derOK R, fun _ _ _ R => count_ok R, fun _ _ R => digest_ok R⟩
