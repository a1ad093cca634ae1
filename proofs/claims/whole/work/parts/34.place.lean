/-! places -/
def Pl (n : Nat) (f t : Nat → Int32) (z p : Int) : Prop := ∃ r, r ≤ n ∧ (rc t r).toInt ≤ p ∧ p + z ≤ (fx n f r).toInt
theorem fx_mono {n : Nat} {f t : Nat → Int32} (Q : Sq n f t) {r s : Nat} (h : r ≤ s) (hs : s ≤ n) : (fx n f r).toInt ≤ (fx n f s).toInt := by
  rcases Nat.eq_or_lt_of_le hs with e | e
  · have := fx_b Q (show r ≤ n by omega)
    rw [e, fx_n, t_hi]; omega
  · rw [fx_lt e, fx_lt (by omega)]
    exact Q.2 r s h e
theorem pl_rng {n : Nat} {f t : Nat → Int32} (Q : Sq n f t) {z p : Int} (h : Pl n f t z p) : -1000000000 ≤ p ∧ p + z ≤ 1000000000 := by
  obtain ⟨r, h1, h2, h3⟩ := h
  have a := rc_b Q r h1
  have b := fx_b Q h1
  omega
theorem pl_iff {n : Nat} {f t : Nat → Int32} (Q : Sq n f t) {z p : Int} (h1 : -1000000000 ≤ p) (h2 : p + z ≤ 1000000000) : (∀ r, r < n → ¬ ((f r).toInt < p + z ∧ p < (t r).toInt)) ↔ Pl n f t z p := by
  constructor
  · intro hno
    -- the first that does not begin ahead of p and z
    have key : ∀ k, k ≤ n → (∃ r, r ≤ n ∧ (rc t r).toInt ≤ p ∧ p + z ≤ (fx n f r).toInt) ∨ (rc t k).toInt ≤ p := by
      intro k
      induction k with
      | zero => intro _; exact Or.inr (by show (-1000000000 : Int32).toInt ≤ p; rw [t_lo]; exact h1)
      | succ k ih =>
        intro hk
        rcases ih (by omega) with h | h
        · exact Or.inl h
        · by_cases c : p + z ≤ (f k).toInt
          · exact Or.inl ⟨k, by omega, h, by rw [fx_lt (by omega)]; exact c⟩
          · right
            have := hno k (by omega)
            rw [rc_s]; omega
    rcases key n (Nat.le_refl _) with h | h
    · exact h
    · exact ⟨n, Nat.le_refl _, h, by rw [fx_n, t_hi]; exact h2⟩
  · rintro ⟨r, hr, q1, q2⟩ s hs ⟨c1, c2⟩
    rcases Nat.lt_or_ge s r with d | d
    · have := rc_ge (t := t) d
      omega
    · have := fx_mono Q d (by omega)
      rw [fx_lt hs] at this
      omega
theorem m_isPlace {m : hp_T} {n : Nat} {K : Nat → Nat} {f t : Nat → Int32} {p z : Int32} (V : MV m n K f t) (Q : Sq n f t) (hz : 1 ≤ z.toInt ∧ z.toInt ≤ 1000000000) : (Pl n f t z.toInt p.toInt → f_X10_isPlace p z m = some (1, m)) ∧ (¬ Pl n f t z.toInt p.toInt → f_X10_isPlace p z m = some (0, m)) := by
  have hn := V.1
  have off : f_X10_isPlace_L1 p z (fun (x11 : Int32) (x12 : Int32) (h13 : hp_T) => if bz x11 = true then some (x11, h13) else none) 100 0 0 m = some (0, m) := by
    rw [show (100 : Nat) = 99 + 1 from rfl, f_X10_isPlace_L1]
    split
    · rw [if_pos bz0]
    · rw [if_pos p00, if_pos bz0]
  unfold f_X10_isPlace
  by_cases c1 : p < -1000000000
  · rw [if_pos c1, off]
    rw [i_lt, t_lo] at c1
    exact ⟨fun h => absurd (pl_rng Q h) (by omega), fun _ => rfl⟩
  rw [if_neg c1]
  have es : ((1000000000 : Int32) - z).toInt = 1000000000 - z.toInt := by rw [i_sub (by rw [t_hi]; omega) (by rw [t_hi]; omega), t_hi]
  by_cases c2 : (1000000000 : Int32) - z < p
  · rw [if_pos c2, off]
    rw [i_lt, es] at c2
    exact ⟨fun h => absurd (pl_rng Q h) (by omega), fun _ => rfl⟩
  rw [if_neg c2]
  rw [i_lt, t_lo] at c1
  rw [i_lt, es] at c2
  have ea : (p + z).toInt = p.toInt + z.toInt := i_add (by omega) (by omega)
  have hmet : ∀ r, metB f t p (p + z) r = true ↔ (f r).toInt < p.toInt + z.toInt ∧ p.toInt < (t r).toInt := by
    intro r
    unfold metB
    simp only [Bool.and_eq_true, Bool.not_eq_true', decide_eq_false_iff_not, i_le, ea]
    omega
  have P := pl_iff Q (z := z.toInt) (p := p.toInt) (by omega) (by omega)
  have key := loop_j (fun N (s : Int32 × Int32 × hp_T) => f_X10_isPlace_L1 p z (fun (x11 : Int32) (x12 : Int32) (h13 : hp_T) => if bz x11 = true then some (x11, h13) else none) N s.1 s.2.1 s.2.2)
    (fun o => (Pl n f t z.toInt p.toInt → o = some (1, m)) ∧ (¬ Pl n f t z.toInt p.toInt → o = some (0, m)))
    (fun r s => ∃ v, r = n + 1 - v ∧ v ≤ n ∧ s.2.1 = nI v ∧ s.2.2 = m ∧ ((s.1 = 1 ∧ ∀ r, r < v → ¬ ((f r).toInt < p.toInt + z.toInt ∧ p.toInt < (t r).toInt)) ∨ (s.1 = 0 ∧ ¬ Pl n f t z.toInt p.toInt))) ?_ (n + 1) 100 (1, 0, m) (by omega) ⟨0, rfl, by omega, rfl, rfl, Or.inl ⟨rfl, fun r hr => absurd hr (by omega)⟩⟩
  · exact key
  rintro N r ⟨x, y, g⟩ ⟨v, rfl, hv, e2, e3, hd⟩
  dsimp only at e2 e3 hd
  subst e3; subst e2
  dsimp only at *
  rw [f_X10_isPlace_L1, V.2.1]
  by_cases e : v = n
  · subst e
    left
    rw [if_pos (by rw [i_le]; omega)]
    rcases hd with ⟨rfl, h2⟩ | ⟨rfl, h2⟩
    · rw [if_pos bz1]; exact ⟨fun _ => rfl, fun q => absurd (P.mp h2) q⟩
    · rw [if_pos bz0]; exact ⟨fun q => absurd q h2, fun _ => rfl⟩
  rw [if_neg (by rw [i_le, n_int (by omega), n_int (by omega)]; omega)]
  rcases hd with ⟨rfl, h2⟩ | ⟨rfl, h2⟩
  · right
    rw [if_neg n10, if_pos (ix_n (by omega) (by omega)), n_cl (by omega), (V.2.2 v (by omega)).1, m_met V (by omega), c_some]
    cases hp : metB f t p (p + z) v with
    | true =>
      rw [if_pos ptt, if_neg n10, l_let, nI_1]
      exact ⟨n + 1 - (v + 1), (0, nI (v + 1), g), by omega, ⟨v + 1, rfl, by omega, rfl, rfl, Or.inr ⟨rfl, fun q => P.mpr q v (by omega) ((hmet v).mp hp)⟩⟩, rfl⟩
    | false =>
      rw [if_neg nft, if_pos p00, l_let, nI_1]
      refine ⟨n + 1 - (v + 1), (1, nI (v + 1), g), by omega, ⟨v + 1, rfl, by omega, rfl, rfl, Or.inl ⟨rfl, fun r hr => ?_⟩⟩, rfl⟩
      by_cases d : r = v
      · subst d; exact fun q => by rw [(hmet r).mpr q] at hp; cases hp
      · exact h2 r (by omega)
  · left
    rw [if_pos p00, if_pos bz0]
    exact ⟨fun q => absurd q h2, fun _ => rfl⟩
/-- the direction that is asked for -/
def dirP (w : Int32) (P z p : Int) : Prop := w = 2 ∨ (w = 0 ∧ P ≤ p) ∨ (w = 1 ∧ p ≤ P - z)
def leP (P x c : Int) : Prop := (x - P).natAbs < (c - P).natAbs ∨ ((x - P).natAbs = (c - P).natAbs ∧ x ≤ c)
def BI (V : Int → Prop) (C : Int → Prop) (P : Int) (x : Int32) : Prop := (x = -2147483648 ∧ ∀ c, C c → ¬ V c) ∨ (V x.toInt ∧ ∀ c, C c → V c → leP P x.toInt c)
theorem leP_tr {P x y c : Int} (h1 : leP P x y) (h2 : leP P y c) : leP P x c := by unfold leP at *; omega
theorem leP_rf {P x : Int} : leP P x x := by unfold leP; omega
theorem leP_as {P x y : Int} (h1 : leP P x y) (h2 : leP P y x) : x = y := by unfold leP at *; omega
theorem m_far {p q : Int32} {m : hp_T} (h : -2147483648 ≤ p.toInt - q.toInt ∧ p.toInt - q.toInt < 2147483648 ∧ -2147483648 ≤ q.toInt - p.toInt ∧ q.toInt - p.toInt < 2147483648) : ∃ d, f_X10_far p q m = some (d, m) ∧ d.toInt = ((p.toInt - q.toInt).natAbs : Int) := by
  unfold f_X10_far
  by_cases c : q ≤ p
  · rw [if_pos c]
    rw [i_le] at c
    exact ⟨_, rfl, by rw [i_sub (by omega) (by omega)]; omega⟩
  · rw [if_neg c]
    rw [i_le] at c
    exact ⟨_, rfl, by rw [i_sub (by omega) (by omega)]; omega⟩
theorem m_nearer {p q pt : Int32} {m : hp_T} (hp : -1000000000 ≤ p.toInt ∧ p.toInt ≤ 1000000000) (hq : -1000000000 ≤ q.toInt ∧ q.toInt ≤ 1000000000) (ht : -1000000000 ≤ pt.toInt ∧ pt.toInt ≤ 1000000000) : (leP pt.toInt q.toInt p.toInt → f_X10_isNearer p q pt m = some (0, m)) ∧ (¬ leP pt.toInt q.toInt p.toInt → f_X10_isNearer p q pt m = some (1, m)) := by
  obtain ⟨d1, E1, v1⟩ := m_far (p := p) (q := pt) (m := m) (by omega)
  obtain ⟨d2, E2, v2⟩ := m_far (p := q) (q := pt) (m := m) (by omega)
  unfold f_X10_isNearer leP
  rw [E1, c_some, E2, c_some]
  by_cases c1 : d1 < d2
  · rw [if_pos c1]
    rw [i_lt] at c1
    exact ⟨fun q => absurd q (by omega), fun _ => rfl⟩
  rw [if_neg c1, E1, c_some, E2, c_some]
  rw [i_lt] at c1
  by_cases c2 : d1 = d2
  · rw [if_pos c2]
    rw [i_eq] at c2
    by_cases c3 : q ≤ p
    · rw [if_pos c3]
      rw [i_le] at c3
      exact ⟨fun _ => rfl, fun q => absurd (by omega) q⟩
    · rw [if_neg c3]
      rw [i_le] at c3
      exact ⟨fun q => absurd q (by omega), fun _ => rfl⟩
  · rw [if_neg c2]
    rw [i_eq] at c2
    exact ⟨fun _ => rfl, fun q => absurd (by omega) q⟩
theorem m_better {m : hp_T} {n : Nat} {K : Nat → Nat} {f t : Nat → Int32} {best p pt z w : Int32} {C : Int → Prop} (V : MV m n K f t) (Q : Sq n f t) (hz : 1 ≤ z.toInt ∧ z.toInt ≤ 1000000000) (ht : -1000000000 ≤ pt.toInt ∧ pt.toInt ≤ 1000000000) (hw : w = 0 ∨ w = 1 ∨ w = 2) (hB : BI (fun x => Pl n f t z.toInt x ∧ dirP w pt.toInt z.toInt x) C pt.toInt best) :
    ∃ b2, f_X10_better best p pt z w m = some (b2, m) ∧ BI (fun x => Pl n f t z.toInt x ∧ dirP w pt.toInt z.toInt x) (fun c => C c ∨ c = p.toInt) pt.toInt b2 := by
  have hP := m_isPlace (p := p) V Q hz
  unfold f_X10_better
  -- p may not
  have no : ¬ (Pl n f t z.toInt p.toInt ∧ dirP w pt.toInt z.toInt p.toInt) → ∃ b2, some (best, m) = some (b2, m) ∧ BI (fun x => Pl n f t z.toInt x ∧ dirP w pt.toInt z.toInt x) (fun c => C c ∨ c = p.toInt) pt.toInt b2 := by
    intro hno
    refine ⟨best, rfl, ?_⟩
    rcases hB with ⟨e, h2⟩ | ⟨h1, h2⟩
    · exact Or.inl ⟨e, fun c hc => hc.elim (h2 c) (fun q => q ▸ hno)⟩
    · exact Or.inr ⟨h1, fun c hc hv => hc.elim (fun q => h2 c q hv) (fun q => absurd (q ▸ hv) hno)⟩
  -- p may
  have yes : Pl n f t z.toInt p.toInt → dirP w pt.toInt z.toInt p.toInt → ∃ b2, (if best = (-2147483648 : Int32) then some (p, m) else o_call (f_X10_isNearer p best pt m) fun (r10 : Int32) (h9 : hp_T) => (if r10 = (0 : Int32) then some (best, h9) else some (p, h9))) = some (b2, m) ∧ BI (fun x => Pl n f t z.toInt x ∧ dirP w pt.toInt z.toInt x) (fun c => C c ∨ c = p.toInt) pt.toInt b2 := by
    intro y1 y2
    have rp := pl_rng Q y1
    by_cases e : best = -2147483648
    · rw [if_pos e]
      refine ⟨p, rfl, Or.inr ⟨⟨y1, y2⟩, fun c hc hv => ?_⟩⟩
      rcases hB with ⟨-, h2⟩ | ⟨h1, -⟩
      · rcases hc with q | q
        · exact absurd hv (h2 c q)
        · rw [q]; exact leP_rf
      · have := pl_rng Q h1.1
        rw [e, t_least] at this
        omega
    · rw [if_neg e]
      rcases hB with ⟨q, -⟩ | ⟨h1, h2⟩
      · exact absurd q e
      have rb := pl_rng Q h1.1
      have N := m_nearer (p := p) (q := best) (pt := pt) (m := m) (by omega) (by omega) ht
      by_cases l : leP pt.toInt best.toInt p.toInt
      · rw [N.1 l, c_some, if_pos p00]
        exact ⟨best, rfl, Or.inr ⟨h1, fun c hc hv => hc.elim (fun q => h2 c q hv) (fun q => q ▸ l)⟩⟩
      · rw [N.2 l, c_some, if_neg n10]
        have l2 : leP pt.toInt p.toInt best.toInt := by unfold leP at *; omega
        exact ⟨p, rfl, Or.inr ⟨⟨y1, y2⟩, fun c hc hv => hc.elim (fun q => leP_tr l2 (h2 c q hv)) (fun q => q ▸ leP_rf)⟩⟩
  by_cases c1 : Pl n f t z.toInt p.toInt
  case neg =>
    rw [hP.2 c1, c_some, if_pos p00]
    exact no (fun q => c1 q.1)
  rw [hP.1 c1, c_some, if_neg n10]
  have es : (pt - z).toInt = pt.toInt - z.toInt := i_sub (by omega) (by omega)
  rcases hw with rfl | rfl | rfl
  · rw [if_neg (show ¬ (0 : Int32) = 2 by decide), if_pos p00]
    by_cases c2 : p < pt
    · rw [if_pos c2]
      rw [i_lt] at c2
      exact no (fun q => by rcases q.2 with h | ⟨-, h⟩ | ⟨h, -⟩ <;> first | exact absurd h (by decide) | omega)
    · rw [if_neg c2]
      rw [i_lt] at c2
      exact yes c1 (Or.inr (Or.inl ⟨rfl, by omega⟩))
  · rw [if_neg (show ¬ (1 : Int32) = 2 by decide), if_neg n10]
    by_cases c2 : pt - z < p
    · rw [if_pos c2]
      rw [i_lt, es] at c2
      exact no (fun q => by rcases q.2 with h | ⟨h, -⟩ | ⟨-, h⟩ <;> first | exact absurd h (by decide) | omega)
    · rw [if_neg c2]
      rw [i_lt, es] at c2
      exact yes c1 (Or.inr (Or.inr ⟨rfl, by omega⟩))
  · rw [if_pos (show (2 : Int32) = 2 from rfl)]
    exact yes c1 (Or.inl rfl)
/-- the candidates -/
def candP (n : Nat) (f t : Nat → Int32) (w : Int32) (P z c : Int) : Prop := (w = 1 ∧ c = P - z) ∨ (¬ w = 1 ∧ c = P) ∨ c = -1000000000 ∨ c = 1000000000 - z ∨ ∃ r, r < n ∧ (c = (t r).toInt ∨ c = (f r).toInt - z)
theorem BI.mono {V C C2 : Int → Prop} {P : Int} {x : Int32} (h : BI V C P x) (hc : ∀ c, C2 c → C c) : BI V C2 P x := by
  rcases h with ⟨h1, h2⟩ | ⟨h1, h2⟩
  · exact Or.inl ⟨h1, fun c q => h2 c (hc c q)⟩
  · exact Or.inr ⟨h1, fun c q => h2 c (hc c q)⟩
theorem m_placeBy {m : hp_T} {n : Nat} {K : Nat → Nat} {f t : Nat → Int32} {pt z w : Int32} (V : MV m n K f t) (Q : Sq n f t) (hz : 1 ≤ z.toInt ∧ z.toInt ≤ 1000000000) (ht : -1000000000 ≤ pt.toInt ∧ pt.toInt ≤ 1000000000) (hw : w = 0 ∨ w = 1 ∨ w = 2) :
    ∃ b2, f_X10_placeBy pt z w m = some (b2, m) ∧ BI (fun x => Pl n f t z.toInt x ∧ dirP w pt.toInt z.toInt x) (candP n f t w pt.toInt z.toInt) pt.toInt b2 := by
  have hn := V.1
  have es : (pt - z).toInt = pt.toInt - z.toInt := i_sub (by omega) (by omega)
  have eh : ((1000000000 : Int32) - z).toInt = 1000000000 - z.toInt := by rw [i_sub (by rw [t_hi]; omega) (by rw [t_hi]; omega), t_hi]
  obtain ⟨VV, eV⟩ : ∃ VV : Int → Prop, VV = fun x => Pl n f t z.toInt x ∧ dirP w pt.toInt z.toInt x := ⟨_, rfl⟩
  -- from the loop on
  have loop : ∀ (r9 : Int32) (C : Int → Prop), BI (fun x => Pl n f t z.toInt x ∧ dirP w pt.toInt z.toInt x) C pt.toInt r9 → ∃ b2, f_X10_placeBy_L1 pt z w (fun (x23 : Int32) (x24 : Int32) (h25 : hp_T) => some (x23, h25)) 100 r9 0 m = some (b2, m) ∧ BI (fun x => Pl n f t z.toInt x ∧ dirP w pt.toInt z.toInt x) (fun c => C c ∨ ∃ r, r < n ∧ (c = (t r).toInt ∨ c = (f r).toInt - z.toInt)) pt.toInt b2 := by
    intro r9 C hB
    have key := loop_j (fun N (s : Int32 × Int32 × hp_T) => f_X10_placeBy_L1 pt z w (fun (x23 : Int32) (x24 : Int32) (h25 : hp_T) => some (x23, h25)) N s.1 s.2.1 s.2.2)
      (fun o => ∃ b2, o = some (b2, m) ∧ BI (fun x => Pl n f t z.toInt x ∧ dirP w pt.toInt z.toInt x) (fun c => C c ∨ ∃ r, r < n ∧ (c = (t r).toInt ∨ c = (f r).toInt - z.toInt)) pt.toInt b2)
      (fun r s => ∃ v, r = n - v ∧ v ≤ n ∧ s.2.1 = nI v ∧ s.2.2 = m ∧ BI (fun x => Pl n f t z.toInt x ∧ dirP w pt.toInt z.toInt x) (fun c => C c ∨ ∃ r, r < v ∧ (c = (t r).toInt ∨ c = (f r).toInt - z.toInt)) pt.toInt s.1) ?_ n 100 (r9, 0, m) (by omega)
      ⟨0, rfl, by omega, rfl, rfl, hB.mono fun c q => q.elim id (fun ⟨r, h, _⟩ => absurd h (by omega))⟩
    · exact key
    rintro N r ⟨x, y, g⟩ ⟨v, rfl, hv, e2, e3, hI⟩
    dsimp only at e2 e3 hI
    subst e3; subst e2
    dsimp only at *
    rw [f_X10_placeBy_L1, V.2.1]
    by_cases e : v = n
    · subst e
      left
      rw [if_pos (by rw [i_le]; omega)]
      exact ⟨x, rfl, hI⟩
    right
    obtain ⟨e1, e2, e3, e4⟩ := V.2.2 v (by omega)
    have T := Q.1 v (by omega)
    unfold vld at T
    have iv := ix_n (j := v) (n := 48) (by omega) (by omega)
    have ik := ix_n e2 (show 48 ≤ 1000 by omega)
    rw [if_neg (by rw [i_le, n_int (by omega), n_int (by omega)]; omega), if_pos iv, n_cl (show v < 2147483648 by omega), e1, if_pos ik, n_cl (show K v < 2147483648 by omega), e4]
    obtain ⟨b2, E2, B2⟩ := m_better (p := t v) V Q hz ht hw hI
    rw [E2, c_some, if_pos iv, e1, if_pos ik, n_cl (show K v < 2147483648 by omega), e3]
    obtain ⟨b3, E3, B3⟩ := m_better (p := f v - z) V Q hz ht hw B2
    rw [E3, c_some, l_let, nI_1]
    refine ⟨n - (v + 1), (b3, nI (v + 1), g), by omega, ⟨v + 1, rfl, by omega, rfl, rfl, B3.mono fun c hc => ?_⟩, rfl⟩
    have ef : (f v - z).toInt = (f v).toInt - z.toInt := i_sub (by omega) (by omega)
    rcases hc with q | ⟨r, hr, q⟩
    · exact Or.inl (Or.inl (Or.inl q))
    · by_cases d : r = v
      · subst d
        rcases q with q | q
        · exact Or.inl (Or.inr q)
        · exact Or.inr (by rw [ef]; exact q)
      · exact Or.inl (Or.inl (Or.inr ⟨r, by omega, q⟩))
  have start : ∀ (c0 : Int32), ∃ b2, (o_call (f_X10_better (-2147483648 : Int32) c0 pt z w m) fun (r3 : Int32) (h2 : hp_T) => o_call (f_X10_better r3 (-1000000000 : Int32) pt z w h2) fun (r6 : Int32) (h5 : hp_T) => o_call (f_X10_better r6 ((1000000000 : Int32) - z) pt z w h5) fun (r9 : Int32) (h8 : hp_T) => (f_X10_placeBy_L1 pt z w (fun (x23 : Int32) (x24 : Int32) (h25 : hp_T) => some (x23, h25)) 100 r9 (0 : Int32) h8)) = some (b2, m) ∧ BI (fun x => Pl n f t z.toInt x ∧ dirP w pt.toInt z.toInt x) (fun c => (((False ∨ c = c0.toInt) ∨ c = -1000000000) ∨ c = 1000000000 - z.toInt) ∨ ∃ r, r < n ∧ (c = (t r).toInt ∨ c = (f r).toInt - z.toInt)) pt.toInt b2 := by
    intro c0
    obtain ⟨b1, E1, B1⟩ := m_better (best := -2147483648) (p := c0) (C := fun _ => False) V Q hz ht hw (Or.inl ⟨rfl, fun _ h => absurd h id⟩)
    obtain ⟨b2, E2, B2⟩ := m_better (p := -1000000000) V Q hz ht hw B1
    obtain ⟨b3, E3, B3⟩ := m_better (p := (1000000000 : Int32) - z) V Q hz ht hw B2
    obtain ⟨b4, E4, B4⟩ := loop b3 _ B3
    rw [E1, c_some, E2, c_some, E3, c_some, E4]
    refine ⟨b4, rfl, B4.mono fun c hc => ?_⟩
    rw [eh, t_lo]
    exact hc
  unfold f_X10_placeBy
  by_cases c : w = 1
  · rw [if_pos c]
    obtain ⟨b2, E, B⟩ := start (pt - z)
    refine ⟨b2, E, B.mono fun x hx => ?_⟩
    rw [es]
    rcases hx with ⟨-, q⟩ | ⟨q, -⟩ | q | q | q
    · exact Or.inl (Or.inl (Or.inl (Or.inr q)))
    · exact absurd c q
    · exact Or.inl (Or.inl (Or.inr q))
    · exact Or.inl (Or.inr q)
    · exact Or.inr q
  · rw [if_neg c]
    obtain ⟨b2, E, B⟩ := start pt
    refine ⟨b2, E, B.mono fun x hx => ?_⟩
    rcases hx with ⟨q, -⟩ | ⟨-, q⟩ | q | q | q
    · exact absurd q c
    · exact Or.inl (Or.inl (Or.inl (Or.inr q)))
    · exact Or.inl (Or.inl (Or.inr q))
    · exact Or.inl (Or.inr q)
    · exact Or.inr q
/-! the class's places -/
theorem rc_mem {t : Nat → Int32} : ∀ r, rc t r = -1000000000 ∨ ∃ s, s < r ∧ rc t r = t s := by
  intro r
  induction r with
  | zero => exact Or.inl rfl
  | succ r ih =>
    show mx (rc t r) (t r) = -1000000000 ∨ ∃ s, s < r + 1 ∧ mx (rc t r) (t r) = t s
    unfold mx
    split
    · exact Or.inr ⟨r, by omega, rfl⟩
    · rcases ih with h | ⟨s, hs, h⟩
      · exact Or.inl h
      · exact Or.inr ⟨s, by omega, h⟩
theorem gp_iff {n : Nat} {f t : Nat → Int32} {r : Nat} : gp n f t r = true ↔ (rc t r).toInt < (fx n f r).toInt := by
  unfold gp
  simp only [Bool.not_eq_true', decide_eq_false_iff_not, i_le]
  omega
theorem gap_of {n g : Nat} {f t : Nat → Int32} (hn : n ≤ 48) (hg : g < cnt (gp n f t) (n + 1)) : ∃ r, r ≤ n ∧ gp n f t r = true ∧ cnt (gp n f t) r = g := by
  obtain ⟨r, h1, h2⟩ := nth_ex (p := gp n f t) (n := n + 1) (by omega) hg
  obtain ⟨q1, q2, -⟩ := nth_s h1
  exact ⟨r, by omega, q2, h2⟩
theorem gap_lt {n r s : Nat} {f t : Nat → Int32} (hr : gp n f t r = true) (h : cnt (gp n f t) r < cnt (gp n f t) s) : r < s := by
  rcases Nat.lt_or_ge r s with c | c
  · exact c
  · have := cnt_mono (gp n f t) c
    omega
theorem c_next {h : hp_T} {n : Nat} {f t : Nat → Int32} {pt z : Int32} (hn : n ≤ 48) (Q : Sq n f t) (G : DerG h n f t) (hz : 1 ≤ z.toInt ∧ z.toInt ≤ 1000000000) (ht : -1000000000 ≤ pt.toInt ∧ pt.toInt ≤ 1000000000) :
    ∃ x, f_X1_nextPlace pt z h = some (x, h) ∧ ((x = -2147483648 ∧ ∀ p, Pl n f t z.toInt p → pt.toInt ≤ p → False) ∨ (Pl n f t z.toInt x.toInt ∧ pt.toInt ≤ x.toInt ∧ (∀ p, Pl n f t z.toInt p → pt.toInt ≤ p → x.toInt ≤ p) ∧ (x.toInt = pt.toInt ∨ ∃ r, r ≤ n ∧ x.toInt = (rc t r).toInt))) := by
  have hc := cnt_le (gp n f t) (n + 1)
  unfold f_X1_nextPlace
  have key := loop_j (fun N (s : Int32 × hp_T) => f_X1_nextPlace_L1 pt z (fun (x7 : Int32) (h8 : hp_T) => some ((-2147483648 : Int32), h8)) N s.1 s.2)
    (fun o => ∃ x, o = some (x, h) ∧ ((x = -2147483648 ∧ ∀ p, Pl n f t z.toInt p → pt.toInt ≤ p → False) ∨ (Pl n f t z.toInt x.toInt ∧ pt.toInt ≤ x.toInt ∧ (∀ p, Pl n f t z.toInt p → pt.toInt ≤ p → x.toInt ≤ p) ∧ (x.toInt = pt.toInt ∨ ∃ r, r ≤ n ∧ x.toInt = (rc t r).toInt))))
    (fun r s => ∃ v, r = cnt (gp n f t) (n + 1) - v ∧ v ≤ cnt (gp n f t) (n + 1) ∧ s.1 = nI v ∧ s.2 = h ∧ ∀ r, r ≤ n → gp n f t r = true → cnt (gp n f t) r < v → (fx n f r).toInt < max (rc t r).toInt pt.toInt + z.toInt) ?_ (cnt (gp n f t) (n + 1)) 100 (0, h) (by omega)
    ⟨0, rfl, by omega, rfl, rfl, fun r _ _ q => absurd q (by omega)⟩
  · exact key
  rintro N r ⟨x, g⟩ ⟨v, rfl, hv, e2, e3, hI⟩
  dsimp only at e2 e3 hI
  subst e3; subst e2
  dsimp only at *
  rw [f_X1_nextPlace_L1, G.1]
  -- a place lies in a gap
  have inG : ∀ p, Pl n f t z.toInt p → ∃ r, r ≤ n ∧ gp n f t r = true ∧ (rc t r).toInt ≤ p ∧ p + z.toInt ≤ (fx n f r).toInt := by
    rintro p ⟨r, h1, h2, h3⟩
    exact ⟨r, h1, gp_iff.mpr (by omega), h2, h3⟩
  by_cases e : v = cnt (gp n f t) (n + 1)
  · left
    rw [if_pos (by rw [i_le, e]; omega)]
    refine ⟨_, rfl, Or.inl ⟨rfl, fun p hp hpt => ?_⟩⟩
    obtain ⟨r, r1, r2, r3, r4⟩ := inG p hp
    have h1 := cnt_mono (gp n f t) (show r + 1 ≤ n + 1 by omega)
    rw [cnt_t r2] at h1
    have := hI r r1 r2 (by omega)
    omega
  obtain ⟨r, r1, r2, r3⟩ := gap_of hn (show v < cnt (gp n f t) (n + 1) by omega)
  obtain ⟨b1, b2⟩ := G.2 r r1 r2
  rw [r3] at b1 b2
  have rb := rc_b Q r r1
  have eadd : (mx (rc t r) pt + z).toInt = max (rc t r).toInt pt.toInt + z.toInt := by
    rw [i_add (by rw [mx_i]; omega) (by rw [mx_i]; omega), mx_i]
  rw [if_neg (by rw [i_le, n_int (by omega), n_int (by omega)]; omega), if_pos (ix_n (by omega) (by omega)), l_let, n_cl (by omega), b1, if_pos (ix_n (by omega) (by omega)), b2]
  by_cases c : fx n f r < mx (rc t r) pt + z
  · right
    rw [if_pos c, l_let, nI_1]
    rw [i_lt, eadd] at c
    refine ⟨cnt (gp n f t) (n + 1) - (v + 1), (nI (v + 1), g), by omega, ⟨v + 1, rfl, by omega, rfl, rfl, fun s s1 s2 s3 => ?_⟩, rfl⟩
    by_cases d : cnt (gp n f t) s < v
    · exact hI s s1 s2 d
    · have : s = r := by
        rcases Nat.lt_trichotomy s r with q | q | q
        · have h1 := cnt_mono (gp n f t) (show s + 1 ≤ r by omega)
          rw [cnt_t s2] at h1
          omega
        · exact q
        · have h1 := cnt_mono (gp n f t) (show r + 1 ≤ s by omega)
          rw [cnt_t r2] at h1
          omega
      subst this; exact c
  · left
    rw [if_neg c]
    rw [i_lt, eadd] at c
    refine ⟨_, rfl, Or.inr ⟨⟨r, r1, by rw [mx_i]; omega, by rw [mx_i]; omega⟩, by rw [mx_i]; omega, fun p hp hpt => ?_, ?_⟩⟩
    · obtain ⟨s, s1, s2, s3, s4⟩ := inG p hp
      by_cases d : cnt (gp n f t) s < v
      · have := hI s s1 s2 d
        omega
      · have hrs : r ≤ s := by
          rcases Nat.lt_or_ge s r with q | q
          · have h1 := cnt_mono (gp n f t) (show s + 1 ≤ r by omega)
            rw [cnt_t s2] at h1
            omega
          · exact q
        have := rc_mono (t := t) hrs
        rw [mx_i]; omega
    · rcases Int.le_total (rc t r).toInt pt.toInt with q | q
      · exact Or.inl (by rw [mx_i]; omega)
      · exact Or.inr ⟨r, r1, by rw [mx_i]; omega⟩
