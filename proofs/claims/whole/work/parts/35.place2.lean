/-! the last place, the nearest; class and reference alike -/
theorem c_last {h : hp_T} {n : Nat} {f t : Nat → Int32} {pt z : Int32} (hn : n ≤ 48) (Q : Sq n f t) (G : DerG h n f t) (hz : 1 ≤ z.toInt ∧ z.toInt ≤ 1000000000) (ht : -1000000000 ≤ pt.toInt ∧ pt.toInt ≤ 2000000000) :
    ∃ x, f_X1_lastPlace pt z h = some (x, h) ∧ ((x = -2147483648 ∧ ∀ p, Pl n f t z.toInt p → p + z.toInt ≤ pt.toInt → False) ∨ (Pl n f t z.toInt x.toInt ∧ x.toInt + z.toInt ≤ pt.toInt ∧ (∀ p, Pl n f t z.toInt p → p + z.toInt ≤ pt.toInt → p ≤ x.toInt) ∧ (x.toInt = pt.toInt - z.toInt ∨ ∃ r, r ≤ n ∧ x.toInt = (fx n f r).toInt - z.toInt))) := by
  have hc := cnt_le (gp n f t) (n + 1)
  unfold f_X1_lastPlace
  rw [l_let, G.1]
  have inG : ∀ p, Pl n f t z.toInt p → ∃ r, r ≤ n ∧ gp n f t r = true ∧ (rc t r).toInt ≤ p ∧ p + z.toInt ≤ (fx n f r).toInt := by
    rintro p ⟨r, h1, h2, h3⟩
    exact ⟨r, h1, gp_iff.mpr (by omega), h2, h3⟩
  have key := loop_j (fun N (s : Int32 × hp_T) => f_X1_lastPlace_L1 pt z (fun (x8 : Int32) (h9 : hp_T) => some ((-2147483648 : Int32), h9)) N s.1 s.2)
    (fun o => ∃ x, o = some (x, h) ∧ ((x = -2147483648 ∧ ∀ p, Pl n f t z.toInt p → p + z.toInt ≤ pt.toInt → False) ∨ (Pl n f t z.toInt x.toInt ∧ x.toInt + z.toInt ≤ pt.toInt ∧ (∀ p, Pl n f t z.toInt p → p + z.toInt ≤ pt.toInt → p ≤ x.toInt) ∧ (x.toInt = pt.toInt - z.toInt ∨ ∃ r, r ≤ n ∧ x.toInt = (fx n f r).toInt - z.toInt))))
    (fun v s => v ≤ cnt (gp n f t) (n + 1) ∧ s.1 = nI v - 1 ∧ s.2 = h ∧ ∀ r, r ≤ n → gp n f t r = true → v ≤ cnt (gp n f t) r → min (fx n f r).toInt pt.toInt - z.toInt < (rc t r).toInt) ?_ (cnt (gp n f t) (n + 1)) 100 (nI (cnt (gp n f t) (n + 1)) - 1, h) (by omega)
    ⟨by omega, rfl, rfl, fun r r1 r2 q => ?_⟩
  · exact key
  · rintro N v ⟨x, g⟩ ⟨hv, e2, e3, hI⟩
    dsimp only at e2 e3 hI
    subst e3; subst e2
    dsimp only at *
    rw [f_X1_lastPlace_L1]
    rcases Nat.eq_zero_or_pos v with e | e
    · subst e
      left
      rw [if_pos (by decide)]
      refine ⟨_, rfl, Or.inl ⟨rfl, fun p hp hpt => ?_⟩⟩
      obtain ⟨r, r1, r2, r3, r4⟩ := inG p hp
      have := hI r r1 r2 (by omega)
      omega
    obtain ⟨r, r1, r2, r3⟩ := gap_of hn (show v - 1 < cnt (gp n f t) (n + 1) by omega)
    obtain ⟨b1, b2⟩ := G.2 r r1 r2
    rw [r3] at b1 b2
    have rb := fx_b Q r1
    have esub : (mn (fx n f r) pt - z).toInt = min (fx n f r).toInt pt.toInt - z.toInt := by
      rw [i_sub (by rw [mn_i]; omega) (by rw [mn_i]; omega), mn_i]
    rw [n_pred e, if_neg (by rw [i_lt, n_int (by omega), t_0]; omega), if_pos (ix_n (by omega) (by omega)), l_let, n_cl (by omega), b2, if_pos (ix_n (by omega) (by omega)), b1]
    by_cases c : mn (fx n f r) pt - z < rc t r
    · right
      rw [if_pos c, l_let, ← Int32.sub_eq_add_neg]
      rw [i_lt, esub] at c
      refine ⟨v - 1, (nI (v - 1) - 1, g), by omega, ⟨by omega, rfl, rfl, fun s s1 s2 s3 => ?_⟩, rfl⟩
      by_cases d : v ≤ cnt (gp n f t) s
      · exact hI s s1 s2 d
      · have : s = r := by
          rcases Nat.lt_trichotomy s r with q | q | q
          · have h1 := cnt_mono (gp n f t) (show s + 1 ≤ r by omega)
            rw [cnt_t s2] at h1
            omega
          · exact q
          · have h1 := cnt_mono (gp n f t) (show r + 1 ≤ s by omega)
            rw [cnt_t r2] at h1
            omega
        subst this; exact c
    · left
      rw [if_neg c]
      rw [i_lt, esub] at c
      refine ⟨_, rfl, Or.inr ⟨⟨r, r1, by rw [esub]; omega, by rw [esub]; omega⟩, by rw [esub]; omega, fun p hp hpt => ?_, ?_⟩⟩
      · obtain ⟨s, s1, s2, s3, s4⟩ := inG p hp
        by_cases d : v ≤ cnt (gp n f t) s
        · have := hI s s1 s2 d
          omega
        · have hrs : s ≤ r := by
            rcases Nat.lt_or_ge r s with q | q
            · have h1 := cnt_mono (gp n f t) (show r + 1 ≤ s by omega)
              rw [cnt_t r2] at h1
              omega
            · exact q
          have := fx_mono Q hrs r1
          rw [esub]; omega
      · rcases Int.le_total pt.toInt (fx n f r).toInt with q | q
        · exact Or.inl (by rw [esub]; omega)
        · exact Or.inr ⟨r, r1, by rw [esub]; omega⟩
  · have h1 := cnt_mono (gp n f t) (show r + 1 ≤ n + 1 by omega)
    rw [cnt_t r2] at h1
    omega
/-- what is best of all that may, and is a candidate, is what the candidates give -/
theorem best_eq {V C : Int → Prop} {P : Int} {x y : Int32} (hB : BI V C P x) (hA : (y = -2147483648 ∧ ∀ p, ¬ V p) ∨ (V y.toInt ∧ C y.toInt ∧ ∀ p, V p → leP P y.toInt p)) : x = y := by
  rcases hA with ⟨e, h⟩ | ⟨h1, h2, h3⟩
  · rcases hB with ⟨q, -⟩ | ⟨q, -⟩
    · rw [q, e]
    · exact absurd q (h _)
  · rcases hB with ⟨-, q⟩ | ⟨q1, q2⟩
    · exact absurd h1 (q _ h2)
    · exact Int32.toInt_inj.mp (leP_as (q2 _ h2 h1) (h3 _ q1))
theorem cand_rc {n : Nat} {f t : Nat → Int32} {w : Int32} {P z : Int} {r : Nat} (hr : r ≤ n) : candP n f t w P z (rc t r).toInt := by
  rcases rc_mem (t := t) r with e | ⟨s, hs, e⟩
  · rw [e, t_lo]; exact Or.inr (Or.inr (Or.inl rfl))
  · rw [e]; exact Or.inr (Or.inr (Or.inr (Or.inr ⟨s, by omega, Or.inl rfl⟩)))
theorem cand_fx {n : Nat} {f t : Nat → Int32} {w : Int32} {P z : Int} {r : Nat} (hr : r ≤ n) : candP n f t w P z ((fx n f r).toInt - z) := by
  rcases Nat.eq_or_lt_of_le hr with e | e
  · rw [e, fx_n, t_hi]; exact Or.inr (Or.inr (Or.inr (Or.inl rfl)))
  · rw [fx_lt e]; exact Or.inr (Or.inr (Or.inr (Or.inr ⟨r, e, Or.inr rfl⟩)))
theorem place_0 {h m : hp_T} {n : Nat} {K : Nat → Nat} {f t : Nat → Int32} {pt z : Int32} (V : MV m n K f t) (Q : Sq n f t) (G : DerG h n f t) (hz : 1 ≤ z.toInt ∧ z.toInt ≤ 1000000000) (ht : -1000000000 ≤ pt.toInt ∧ pt.toInt ≤ 1000000000) : ∃ x, f_X1_nextPlace pt z h = some (x, h) ∧ f_X10_placeBy pt z 0 m = some (x, m) := by
  obtain ⟨x, E, A⟩ := c_next V.1 Q G hz ht
  obtain ⟨b, E2, B⟩ := m_placeBy (w := 0) V Q hz ht (Or.inl rfl)
  refine ⟨x, E, ?_⟩
  rw [E2, best_eq B]
  rcases A with ⟨e, A⟩ | ⟨A1, A2, A3, A4⟩
  · refine Or.inl ⟨e, fun p hp => ?_⟩
    rcases hp.2 with q | ⟨-, q⟩ | ⟨q, -⟩
    · exact absurd q (by decide)
    · exact A p hp.1 q
    · exact absurd q (by decide)
  · refine Or.inr ⟨⟨A1, Or.inr (Or.inl ⟨rfl, A2⟩)⟩, ?_, fun p hp => ?_⟩
    · rcases A4 with q | ⟨r, r1, q⟩
      · exact Or.inr (Or.inl ⟨by decide, q⟩)
      · rw [q]; exact cand_rc r1
    · rcases hp.2 with q | ⟨-, q⟩ | ⟨q, -⟩
      · exact absurd q (by decide)
      · have := A3 p hp.1 q
        unfold leP; omega
      · exact absurd q (by decide)
theorem place_1 {h m : hp_T} {n : Nat} {K : Nat → Nat} {f t : Nat → Int32} {pt z : Int32} (V : MV m n K f t) (Q : Sq n f t) (G : DerG h n f t) (hz : 1 ≤ z.toInt ∧ z.toInt ≤ 1000000000) (ht : -1000000000 ≤ pt.toInt ∧ pt.toInt ≤ 1000000000) : ∃ x, f_X1_lastPlace pt z h = some (x, h) ∧ f_X10_placeBy pt z 1 m = some (x, m) := by
  obtain ⟨x, E, A⟩ := c_last V.1 Q G hz (show _ ∧ pt.toInt ≤ 2000000000 from ⟨ht.1, by omega⟩)
  obtain ⟨b, E2, B⟩ := m_placeBy (w := 1) V Q hz ht (Or.inr (Or.inl rfl))
  refine ⟨x, E, ?_⟩
  rw [E2, best_eq B]
  rcases A with ⟨e, A⟩ | ⟨A1, A2, A3, A4⟩
  · refine Or.inl ⟨e, fun p hp => ?_⟩
    rcases hp.2 with q | ⟨q, -⟩ | ⟨-, q⟩
    · exact absurd q (by decide)
    · exact absurd q (by decide)
    · exact A p hp.1 (by omega)
  · refine Or.inr ⟨⟨A1, Or.inr (Or.inr ⟨rfl, by omega⟩)⟩, ?_, fun p hp => ?_⟩
    · rcases A4 with q | ⟨r, r1, q⟩
      · exact Or.inl ⟨rfl, q⟩
      · rw [q]; exact cand_fx r1
    · rcases hp.2 with q | ⟨q, -⟩ | ⟨-, q⟩
      · exact absurd q (by decide)
      · exact absurd q (by decide)
      · have := A3 p hp.1 (by omega)
        unfold leP; omega
theorem place_2 {h m : hp_T} {n : Nat} {K : Nat → Nat} {f t : Nat → Int32} {pt z : Int32} (V : MV m n K f t) (Q : Sq n f t) (G : DerG h n f t) (hz : 1 ≤ z.toInt ∧ z.toInt ≤ 1000000000) (ht : -1000000000 ≤ pt.toInt ∧ pt.toInt ≤ 1000000000) : ∃ x, f_X1_nearestPlace pt z h = some (x, h) ∧ f_X10_placeBy pt z 2 m = some (x, m) := by
  have ep : (pt + z).toInt = pt.toInt + z.toInt := i_add (by omega) (by omega)
  obtain ⟨x, E, A⟩ := c_next V.1 Q G hz ht
  obtain ⟨y, E1, A'⟩ := c_last (pt := pt + z) V.1 Q G hz (by rw [ep]; omega)
  rw [ep] at A'
  obtain ⟨b, E2, B⟩ := m_placeBy (w := 2) V Q hz ht (Or.inr (Or.inr rfl))
  have rg : ∀ p, Pl n f t z.toInt p → -1000000000 ≤ p ∧ p ≤ 1000000000 := fun p hp => by
    have := pl_rng Q hp
    omega
  have least : ∀ u : Int32, Pl n f t z.toInt u.toInt → ¬ u = -2147483648 := fun u hu e => by
    have := rg _ hu
    rw [e, t_least] at this
    omega
  -- best of all, as a candidate
  have fin : ∀ u : Int32, ((u = -2147483648 ∧ ∀ p, ¬ Pl n f t z.toInt p) ∨ (Pl n f t z.toInt u.toInt ∧ candP n f t 2 pt.toInt z.toInt u.toInt ∧ ∀ p, Pl n f t z.toInt p → leP pt.toInt u.toInt p)) → b = u := fun u hu => by
    refine best_eq B ?_
    rcases hu with ⟨e, h⟩ | ⟨h1, h2, h3⟩
    · exact Or.inl ⟨e, fun p hp => h p hp.1⟩
    · exact Or.inr ⟨⟨h1, Or.inl rfl⟩, h2, fun p hp => h3 p hp.1⟩
  have cx : (x.toInt = pt.toInt ∨ ∃ r, r ≤ n ∧ x.toInt = (rc t r).toInt) → candP n f t 2 pt.toInt z.toInt x.toInt := fun q => by
    rcases q with q | ⟨r, r1, q⟩
    · exact Or.inr (Or.inl ⟨by decide, q⟩)
    · rw [q]; exact cand_rc r1
  have cy : (y.toInt = pt.toInt + z.toInt - z.toInt ∨ ∃ r, r ≤ n ∧ y.toInt = (fx n f r).toInt - z.toInt) → candP n f t 2 pt.toInt z.toInt y.toInt := fun q => by
    rcases q with q | ⟨r, r1, q⟩
    · exact Or.inr (Or.inl ⟨by decide, by omega⟩)
    · rw [q]; exact cand_fx r1
  unfold f_X1_nearestPlace
  rw [E, c_some, E1, c_some, E2]
  by_cases c1 : y = -2147483648
  · rw [if_pos c1]
    refine ⟨x, rfl, ?_⟩
    rw [fin x]
    have no : ∀ p, Pl n f t z.toInt p → p + z.toInt ≤ pt.toInt + z.toInt → False := by
      rcases A' with ⟨-, q⟩ | ⟨q, -⟩
      · exact q
      · exact absurd c1 (least y q)
    rcases A with ⟨e, A⟩ | ⟨A1, A2, A3, A4⟩
    · refine Or.inl ⟨e, fun p hp => ?_⟩
      rcases Int.le_total pt.toInt p with q | q
      · exact A p hp q
      · exact no p hp (by omega)
    · refine Or.inr ⟨A1, cx A4, fun p hp => ?_⟩
      rcases Int.le_total pt.toInt p with q | q
      · have := A3 p hp q
        unfold leP; omega
      · exact absurd (no p hp (by omega)) id
  · rw [if_neg c1]
    obtain ⟨D1, D2, D3, D4⟩ : Pl n f t z.toInt y.toInt ∧ y.toInt + z.toInt ≤ pt.toInt + z.toInt ∧ (∀ p, Pl n f t z.toInt p → p + z.toInt ≤ pt.toInt + z.toInt → p ≤ y.toInt) ∧ (y.toInt = pt.toInt + z.toInt - z.toInt ∨ ∃ r, r ≤ n ∧ y.toInt = (fx n f r).toInt - z.toInt) := A'.resolve_left fun q => c1 q.1
    by_cases c2 : x = -2147483648
    · rw [if_pos c2]
      refine ⟨y, rfl, ?_⟩
      rw [fin y]
      have no : ∀ p, Pl n f t z.toInt p → pt.toInt ≤ p → False := by
        rcases A with ⟨-, q⟩ | ⟨q, -⟩
        · exact q
        · exact absurd c2 (least x q)
      refine Or.inr ⟨D1, cy D4, fun p hp => ?_⟩
      rcases Int.le_total pt.toInt p with q | q
      · exact absurd (no p hp q) id
      · have := D3 p hp (by omega)
        unfold leP; omega
    · rw [if_neg c2]
      obtain ⟨A1, A2, A3, A4⟩ : Pl n f t z.toInt x.toInt ∧ pt.toInt ≤ x.toInt ∧ (∀ p, Pl n f t z.toInt p → pt.toInt ≤ p → x.toInt ≤ p) ∧ (x.toInt = pt.toInt ∨ ∃ r, r ≤ n ∧ x.toInt = (rc t r).toInt) := A.resolve_left fun q => c2 q.1
      have r1 := rg _ A1
      have r2 := rg _ D1
      have s1 : (x - pt).toInt = x.toInt - pt.toInt := i_sub (by omega) (by omega)
      have s2 : (pt - y).toInt = pt.toInt - y.toInt := i_sub (by omega) (by omega)
      by_cases c3 : x - pt < pt - y
      · rw [if_pos c3]
        rw [i_lt, s1, s2] at c3
        refine ⟨x, rfl, ?_⟩
        rw [fin x]
        refine Or.inr ⟨A1, cx A4, fun p hp => ?_⟩
        rcases Int.le_total pt.toInt p with q | q
        · have := A3 p hp q
          unfold leP; omega
        · have := D3 p hp (by omega)
          unfold leP; omega
      · rw [if_neg c3]
        rw [i_lt, s1, s2] at c3
        refine ⟨y, rfl, ?_⟩
        rw [fin y]
        refine Or.inr ⟨D1, cy D4, fun p hp => ?_⟩
        rcases Int.le_total pt.toInt p with q | q
        · have := A3 p hp q
          unfold leP; omega
        · have := D3 p hp (by omega)
          unfold leP; omega
