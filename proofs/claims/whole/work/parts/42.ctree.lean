/-! the class's tree: hanging -/
def BwS (B : Nat → Nat) : Prop := (∀ i, i < 48 → B i < 48) ∧ (∀ i j, i < j → j < 48 → wt (B j) < wt (B i)) ∧ (∀ k, k < 48 → ∃ i, i < 48 ∧ B i = k)
def Ks (n : Nat) (K : Nat → Nat) : Prop := n ≤ 48 ∧ (∀ i, i < n → K i < 48) ∧ (∀ i j, i < n → j < n → K i = K j → i = j)
def wK (K : Nat → Nat) (r : Nat) : Nat := wt (K r)
theorem wt_inj {B : Nat → Nat} (hB : BwS B) {a b : Nat} (ha : a < 48) (hb : b < 48) (h : wt a = wt b) : a = b := by
  obtain ⟨i, i1, i2⟩ := hB.2.2 a ha
  obtain ⟨j, j1, j2⟩ := hB.2.2 b hb
  rcases Nat.lt_trichotomy i j with c | c | c
  · have := hB.2.1 i j c j1
    rw [i2, j2] at this
    omega
  · rw [← i2, ← j2, c]
  · have := hB.2.1 j i c i1
    rw [i2, j2] at this
    omega
theorem wK_i {B : Nat → Nat} {n : Nat} {K : Nat → Nat} (hB : BwS B) (hK : Ks n K) : Wi (wK K) n := fun i j hi hj h => hK.2.2 i j hi hj (wt_inj hB (hK.2.1 i hi) (hK.2.1 j hj) h)
def ins (B K : Nat → Nat) (v r : Nat) : Bool := anyB (fun i => decide (B i = K r)) v
theorem ins_s {B K : Nat → Nat} {v r : Nat} : ins B K (v + 1) r = (ins B K v r || decide (B v = K r)) := rfl
theorem ins_w {B K : Nat → Nat} {n v r c : Nat} (hB : BwS B) (hK : Ks n K) (hv : v < 48) (hr : r < n) (hc : c < n) (e : B v = K r) : ins B K v c = true ↔ wK K r < wK K c := by
  unfold ins wK
  rw [anyB_iff]
  constructor
  · rintro ⟨i, i1, i2⟩
    rw [decide_eq_true_eq] at i2
    have := hB.2.1 i v i1 hv
    rw [i2, e] at this
    exact this
  · intro h
    obtain ⟨j, j1, j2⟩ := hB.2.2 (K c) (hK.2.1 c hc)
    refine ⟨j, ?_, by rw [decide_eq_true_eq]; exact j2⟩
    rcases Nat.lt_trichotomy j v with q | q | q
    · exact q
    · subst q
      rw [← j2, e] at h
      omega
    · have := hB.2.1 v j q j1
      rw [j2, e] at this
      omega
theorem ins_n {B K : Nat → Nat} {n r : Nat} (hB : BwS B) (hK : Ks n K) (hr : r < n) : ins B K 48 r = true := by
  obtain ⟨i, i1, i2⟩ := hB.2.2 (K r) (hK.2.1 r hr)
  exact anyB_iff.mpr ⟨i, i1, by rw [decide_eq_true_eq]; exact i2⟩
def flt (p : Nat → Bool) : Option Nat → Option Nat
  | some c => if p c = true then some c else none
  | none => none
theorem flt_t {p : Nat → Bool} {c : Nat} (h : p c = true) : flt p (some c) = some c := by simp [flt, h]
theorem flt_f {p : Nat → Bool} {c : Nat} (h : p c = false) : flt p (some c) = none := by simp [flt, h]
theorem keyR_s {K : Nat → Nat} {c : Nat} : keyR K (some c) = nI (K c) := rfl
theorem keyR_n {K : Nat → Nat} : keyR K none = -1 := rfl
def rt (W : Nat → Nat) (n : Nat) : Option Nat := if 0 < n then some (am W 0 n) else none
def TrI (h : hp_T) (v n : Nat) (K B : Nat → Nat) (t : Nat → Int32) : Prop :=
  h.1 12 9 = keyR K (flt (ins B K v) (rt (wK K) n)) ∧ ∀ r, r < n → ins B K v r = true →
    h.1 14 (K r) = keyR K (nP (wK K) n r) ∧ h.1 15 (K r) = keyR K (flt (ins B K v) (lch (wK K) n r)) ∧ h.1 16 (K r) = keyR K (flt (ins B K v) (rch (wK K) n r)) ∧ h.1 17 (K r) = nI (nD (wK K) n r) ∧ h.1 18 (K r) = 1 ∧ h.1 19 (K r) = 1 ∧ h.1 20 (K r) = t r
theorem km1 {k : Nat} (hk : k < 48) : ¬ (nI k = (-1 : Int32)) := by rw [i_eq, n_int (by omega), t_m1]; omega
theorem c_hang1 {h : hp_T} {n v r : Nat} {K B : Nat → Nat} {t : Nat → Int32} {Kc : Int32 → Int32 → Int32 → hp_T → Option hp_T} (hB : BwS B) (hK : Ks n K) (hv : v < 48) (hr : r < n) (e : B v = K r) (h6 : ∀ i, i < n → h.1 6 (K i) = nI i) (T : TrI h v n K B t) :
    f_X8_hang_L1 (nI (K r)) Kc 100 (-1) (h.1 12 9) 0 h = Kc (keyR K (nP (wK K) n r)) (-1) (nI (nD (wK K) n r)) h := by
  have hW := wK_i hB hK
  have hn := hK.1
  have n0 : 0 < n := by omega
  have R := nd_root (W := wK K) n0
  have Ri := am_mx hW n0 (Nat.le_refl n)
  have key := loop_j (fun N (s : Int32 × Int32 × Int32 × hp_T) => f_X8_hang_L1 (nI (K r)) Kc N s.1 s.2.1 s.2.2.1 s.2.2.2)
    (fun o => o = Kc (keyR K (nP (wK K) n r)) (-1) (nI (nD (wK K) n r)) h)
    (fun m s => ∃ c, m = nB (wK K) n c - nA (wK K) n c ∧ c < n ∧ nA (wK K) n c ≤ r ∧ r < nB (wK K) n c ∧ s.1 = keyR K (nP (wK K) n c) ∧ s.2.1 = keyR K (flt (ins B K v) (some c)) ∧ s.2.2.1 = nI (nD (wK K) n c) ∧ s.2.2.2 = h) ?_ (nB (wK K) n (am (wK K) 0 n) - nA (wK K) n (am (wK K) 0 n)) 100 (-1, h.1 12 9, 0, h) (by rw [R.1, R.2.1]; omega)
    ⟨am (wK K) 0 n, rfl, Ri.2.1, by rw [R.1]; omega, by rw [R.2.1]; exact hr, by rw [R.2.2.1]; rfl, by dsimp only; rw [T.1]; unfold rt; rw [if_pos n0], by rw [R.2.2.2]; rfl, rfl⟩
  · exact key
  rintro N m ⟨x, y, z, g⟩ ⟨c, rfl, hc, a1, a2, e1, e2, e3, e4⟩
  dsimp only at e1 e2 e3 e4
  subst e4; subst e1; subst e2; subst e3
  dsimp only
  obtain ⟨j1, j2, j3, j4, j5, -⟩ := nd_at hW hc
  have mx := am_mx hW (show nA (wK K) n c < nB (wK K) n c by omega) j4
  rw [j1] at mx
  rw [f_X8_hang_L1]
  cases hi : ins B K v c with
  | false =>
    left
    have ec : c = r := by
      apply Decidable.byContradiction
      intro ne
      have := mx.2.2 r a1 a2 (fun q => ne q.symm)
      rw [← ins_w hB hK hv hr hc e, hi] at this
      cases this
    subst ec
    rw [flt_f hi, keyR_n, if_pos rfl]
  | true =>
    right
    have ne : c ≠ r := by
      intro q
      subst q
      rw [ins_w hB hK hv hr hc e] at hi
      omega
    have kc := hK.2.1 c hc
    have kr := hK.2.1 r hr
    obtain ⟨t1, t2, t3, t4, -⟩ := T.2 c hc hi
    rw [flt_t hi, keyR_s, if_neg (km1 kc), if_neg (by rw [i_le, n_int (by omega), t_48]; omega), if_pos (ix_n kr (by omega)), if_pos (ix_n kc (by omega)), n_cl (show K c < 2147483648 by omega), n_cl (show K r < 2147483648 by omega), h6 c hc, h6 r hr]
    rcases Nat.lt_or_gt_of_ne ne with q | q
    · have hR := nd_R hW hc (show c + 1 < nB (wK K) n c by omega)
      have hm := am_mx hW (show c + 1 < nB (wK K) n c by omega) j4
      have er : rch (wK K) n c = some (am (wK K) (c + 1) (nB (wK K) n c)) := by unfold rch; rw [if_pos (by omega)]
      rw [er] at t3
      rw [if_pos (by rw [i_le, n_int (by omega), n_int (by omega)]; omega), if_pos (ix_n kc (by omega)), l_let, l_let, t3, nI_1]
      refine ⟨nB (wK K) n c - (c + 1), (nI (K c), _, nI (nD (wK K) n c + 1), g), by omega, ⟨am (wK K) (c + 1) (nB (wK K) n c), ?_, by omega, ?_, ?_, ?_, rfl, ?_, rfl⟩, rfl⟩
      · rw [hR.1, hR.2.1]
      · rw [hR.1]; omega
      · rw [hR.2.1]; exact a2
      · rw [hR.2.2.1]; rfl
      · rw [hR.2.2.2]
    · have hR := nd_L hW hc (show nA (wK K) n c < c by omega)
      have hm := am_mx hW (show nA (wK K) n c < c by omega) (by omega)
      have er : lch (wK K) n c = some (am (wK K) (nA (wK K) n c) c) := by unfold lch; rw [if_pos (by omega)]
      rw [er] at t2
      rw [if_neg (by rw [i_le, n_int (by omega), n_int (by omega)]; omega), if_pos (ix_n kc (by omega)), l_let, l_let, t2, nI_1]
      refine ⟨c - nA (wK K) n c, (nI (K c), _, nI (nD (wK K) n c + 1), g), by omega, ⟨am (wK K) (nA (wK K) n c) c, ?_, by omega, ?_, ?_, ?_, rfl, ?_, rfl⟩, rfl⟩
      · rw [hR.1, hR.2.1]
      · rw [hR.1]; omega
      · rw [hR.2.1]; exact q
      · rw [hR.2.2.1]; rfl
      · rw [hR.2.2.2]
theorem flt_up {B K : Nat → Nat} {n v r : Nat} {o : Option Nat} (hK : Ks n K) (hr : r < n) (e : B v = K r) (ho : ∀ c, o = some c → c < n) (hne : o ≠ some r) : flt (ins B K (v + 1)) o = flt (ins B K v) o := by
  cases o with
  | none => rfl
  | some c =>
    have hc := ho c rfl
    have : ins B K (v + 1) c = ins B K v c := by
      rw [ins_s, e]
      have : decide (K r = K c) = false := by
        rw [decide_eq_false_iff_not]
        intro q
        exact hne (by rw [hK.2.2 r c hr hc q])
      rw [this, Bool.or_false]
    simp only [flt, this]
theorem c_hang {h : hp_T} {n v r : Nat} {K B : Nat → Nat} {t : Nat → Int32} (hB : BwS B) (hK : Ks n K) (hv : v < 48) (hr : r < n) (e : B v = K r) (h6 : ∀ i, i < n → h.1 6 (K i) = nI i) (h3 : h.1 3 (K r) = t r) (T : TrI h v n K B t) :
    ∃ h2, f_X8_hang (nI (K r)) h = some h2 ∧ Fr [12, 14, 15, 16, 17, 18, 19, 20] h h2 ∧ TrI h2 (v + 1) n K B t := by
  have hW := wK_i hB hK
  have hn := hK.1
  have kr := hK.2.1 r hr
  have n0 : 0 < n := by omega
  unfold f_X8_hang
  rw [l_let, c_hang1 hB hK hv hr e h6 T]
  simp only [if_pos (ix_n kr (show 48 ≤ 1000 by omega)), l_let, n_cl (show K r < 2147483648 by omega)]
  obtain ⟨g, eg⟩ : ∃ g, g = hw (hw (hw (hw (hw (hw h 14 (K r) (keyR K (nP (wK K) n r))) 15 (K r) (-1)) 16 (K r) (-1)) 17 (K r) (nI (nD (wK K) n r))) 18 (K r) 1) 19 (K r) 1 := ⟨_, rfl⟩
  rw [← eg]
  have g3 : g.1 3 (K r) = t r := by rw [eg, hw_ne _ _ _ (by decide), hw_ne _ _ _ (by decide), hw_ne _ _ _ (by decide), hw_ne _ _ _ (by decide), hw_ne _ _ _ (by decide), hw_ne _ _ _ (by decide)]; exact h3
  rw [g3]
  obtain ⟨g2, eg2⟩ : ∃ g2, g2 = hw g 20 (K r) (t r) := ⟨_, rfl⟩
  rw [← eg2]
  have F2 : Fr [12, 14, 15, 16, 17, 18, 19, 20] h g2 := by
    rw [eg2, eg]
    exact ((((((Fr.rf.hw (by decide)).hw (by decide)).hw (by decide)).hw (by decide)).hw (by decide)).hw (by decide)).hw (by decide)
  have c14 : g2.1 14 = upd (h.1 14) (K r) (keyR K (nP (wK K) n r)) := by rw [eg2, eg]; simp [hw, hwA]
  have c15 : g2.1 15 = upd (h.1 15) (K r) (-1) := by rw [eg2, eg]; simp [hw, hwA]
  have c16 : g2.1 16 = upd (h.1 16) (K r) (-1) := by rw [eg2, eg]; simp [hw, hwA]
  have c17 : g2.1 17 = upd (h.1 17) (K r) (nI (nD (wK K) n r)) := by rw [eg2, eg]; simp [hw, hwA]
  have c18 : g2.1 18 = upd (h.1 18) (K r) 1 := by rw [eg2, eg]; simp [hw, hwA]
  have c19 : g2.1 19 = upd (h.1 19) (K r) 1 := by rw [eg2, eg]; simp [hw, hwA]
  have c20 : g2.1 20 = upd (h.1 20) (K r) (t r) := by rw [eg2, eg]; simp [hw, hwA]
  have c12 : g2.1 12 = h.1 12 := by rw [eg2, eg]; simp [hw, hwA]
  have c6 : g2.1 6 = h.1 6 := by rw [eg2, eg]; simp [hw, hwA]
  have chL : ∀ x, x < n → ∀ c, lch (wK K) n x = some c → c < n := fun x hx c hc => by have := lch_s hW hx hc; omega
  have chR : ∀ x, x < n → ∀ c, rch (wK K) n x = some c → c < n := fun x hx c hc => (rch_s hW hx hc).2.2.1
  have low : ∀ c, c < n → wK K c < wK K r → ins B K (v + 1) c = false := by
    intro c hc hw
    rw [ins_s, e]
    have q1 : ins B K v c = false := by
      cases q : ins B K v c with
      | false => rfl
      | true => rw [ins_w hB hK hv hr hc e] at q; omega
    have q2 : decide (K r = K c) = false := by
      rw [decide_eq_false_iff_not]
      intro q
      unfold wK at hw
      rw [q] at hw
      omega
    rw [q1, q2]; rfl
  have inr : ins B K (v + 1) r = true := by rw [ins_s, e]; simp
  have own : keyR K (flt (ins B K (v + 1)) (lch (wK K) n r)) = -1 ∧ keyR K (flt (ins B K (v + 1)) (rch (wK K) n r)) = -1 := by
    constructor
    · cases q : lch (wK K) n r with
      | none => rfl
      | some c => rw [flt_f (low c (chL r hr c q) (lch_s hW hr q).2.2.2)]; rfl
    · cases q : rch (wK K) n r with
      | none => rfl
      | some c => rw [flt_f (low c (chR r hr c q) (rch_s hW hr q).2.2.2.2)]; rfl
  -- what the others keep
  have oth : ∀ x, x < n → x ≠ r → ins B K (v + 1) x = true → ins B K v x = true := by
    intro x hx ne hq
    rw [ins_s, e] at hq
    have q2 : decide (K r = K x) = false := by
      rw [decide_eq_false_iff_not]
      intro q
      exact ne (hK.2.2 r x hr hx q).symm
    rw [q2, Bool.or_false] at hq
    exact hq
  rcases nP_inv hW hr with ⟨p1, p2⟩ | ⟨g0, g1, p1, p2⟩
  · rw [p1, keyR_n, if_pos rfl]
    refine ⟨_, rfl, F2.hw (by decide), ?_, fun x hx hq => ?_⟩
    · rw [hw_s]
      unfold rt
      rw [if_pos n0, ← p2, flt_t inr]
      rfl
    · rw [hw_ne _ (z := 14) _ _ (by decide), hw_ne _ (z := 15) _ _ (by decide), hw_ne _ (z := 16) _ _ (by decide), hw_ne _ (z := 17) _ _ (by decide), hw_ne _ (z := 18) _ _ (by decide), hw_ne _ (z := 19) _ _ (by decide), hw_ne _ (z := 20) _ _ (by decide), c14, c15, c16, c17, c18, c19, c20]
      by_cases ex : x = r
      · subst ex
        rw [up_s, up_s, up_s, up_s, up_s, up_s, up_s, own.1, own.2]
        exact ⟨rfl, rfl, rfl, rfl, rfl, rfl, rfl⟩
      · have nk : K x ≠ K r := fun q => ex (hK.2.2 x r hx hr q)
        have l1 : lch (wK K) n x ≠ some r := fun q => by have := (lch_s hW hx q).2.2.1.2.2.1; rw [p1] at this; cases this
        have l2 : rch (wK K) n x ≠ some r := fun q => by have := (rch_s hW hx q).2.2.2.1.2.2.1; rw [p1] at this; cases this
        rw [up_n _ _ nk, up_n _ _ nk, up_n _ _ nk, up_n _ _ nk, up_n _ _ nk, up_n _ _ nk, up_n _ _ nk, flt_up hK hr e (chL x hx) l1, flt_up hK hr e (chR x hx) l2]
        exact T.2 x hx (oth x hx ex hq)
  · have kg := hK.2.1 g0 g1
    have gr : g0 ≠ r := by
      rcases p2 with q | q
      · have := (lch_s hW g1 q).2.1; omega
      · have := (rch_s hW g1 q).1; omega
    have nkg : K r ≠ K g0 := fun q => gr (hK.2.2 r g0 hr g1 q).symm
    have rtn : rt (wK K) n ≠ some r := by
      unfold rt
      rw [if_pos n0]
      intro q
      have R := (nd_root (W := wK K) n0).2.2.1
      rw [Option.some.inj q, p1] at R
      cases R
    have rtl : ∀ c, rt (wK K) n = some c → c < n := by
      intro c q
      unfold rt at q
      rw [if_pos n0] at q
      cases q
      exact (am_mx hW n0 (Nat.le_refl n)).2.1
    rw [p1, keyR_s, if_neg (km1 kg), if_pos (ix_n kg (by omega)), n_cl (show K g0 < 2147483648 by omega), c6, h6 g0 g1, h6 r hr, if_pos (ix_n kg (by omega)), if_pos (ix_n kg (by omega))]
    rcases p2 with q | q
    · have lt := (lch_s hW g1 q).2.1
      rw [if_neg (by rw [i_le, n_int (by omega), n_int (by omega)]; omega)]
      refine ⟨_, rfl, F2.hw (by decide), ?_, fun x hx hq => ?_⟩
      · rw [hw_ne _ _ _ (by decide), c12, T.1, flt_up hK hr e rtl rtn]
      · rw [hw_ne _ (z := 14) _ _ (by decide), hw_ne _ (z := 16) _ _ (by decide), hw_ne _ (z := 17) _ _ (by decide), hw_ne _ (z := 18) _ _ (by decide), hw_ne _ (z := 19) _ _ (by decide), hw_ne _ (z := 20) _ _ (by decide), hw_at, c14, c15, c16, c17, c18, c19, c20]
        by_cases ex : x = r
        · subst ex
          rw [up_n _ _ nkg, up_s, up_s, up_s, up_s, up_s, up_s, up_s, own.1, own.2, p1]
          exact ⟨rfl, rfl, rfl, rfl, rfl, rfl, rfl⟩
        · have nk : K x ≠ K r := fun q => ex (hK.2.2 x r hx hr q)
          have l2 : rch (wK K) n x ≠ some r := fun q2 => by
            have b1 := rch_s hW hx q2
            have b2 := b1.2.2.2.1.2.2.1
            rw [p1] at b2
            have := Option.some.inj b2
            omega
          have tx := T.2 x hx (oth x hx ex hq)
          rw [up_n _ _ nk, up_n _ _ nk, up_n _ _ nk, up_n _ _ nk, up_n _ _ nk, up_n _ _ nk, flt_up hK hr e (chR x hx) l2]
          refine ⟨tx.1, ?_, tx.2.2⟩
          by_cases eg0 : x = g0
          · subst eg0
            rw [up_s, q, flt_t inr]
            rfl
          · have l1 : lch (wK K) n x ≠ some r := fun q2 => by
              have b2 := (lch_s hW hx q2).2.2.1.2.2.1
              rw [p1] at b2
              exact eg0 (Option.some.inj b2).symm
            rw [up_n _ _ (fun q2 => eg0 (hK.2.2 x g0 hx g1 q2)), up_n _ _ nk, flt_up hK hr e (chL x hx) l1]
            exact tx.2.1
    · have lt := (rch_s hW g1 q).1
      rw [if_pos (by rw [i_le, n_int (by omega), n_int (by omega)]; omega)]
      refine ⟨_, rfl, F2.hw (by decide), ?_, fun x hx hq => ?_⟩
      · rw [hw_ne _ _ _ (by decide), c12, T.1, flt_up hK hr e rtl rtn]
      · rw [hw_ne _ (z := 14) _ _ (by decide), hw_ne _ (z := 15) _ _ (by decide), hw_ne _ (z := 17) _ _ (by decide), hw_ne _ (z := 18) _ _ (by decide), hw_ne _ (z := 19) _ _ (by decide), hw_ne _ (z := 20) _ _ (by decide), hw_at, c14, c15, c16, c17, c18, c19, c20]
        by_cases ex : x = r
        · subst ex
          rw [up_n (upd (h.1 16) (K x) (-1)) _ nkg, up_s, up_s, up_s, up_s, up_s, up_s, up_s, own.1, own.2, p1]
          exact ⟨rfl, rfl, rfl, rfl, rfl, rfl, rfl⟩
        · have nk : K x ≠ K r := fun q => ex (hK.2.2 x r hx hr q)
          have l1 : lch (wK K) n x ≠ some r := fun q2 => by
            have b1 := lch_s hW hx q2
            have b2 := b1.2.2.1.2.2.1
            rw [p1] at b2
            have := Option.some.inj b2
            omega
          have tx := T.2 x hx (oth x hx ex hq)
          rw [up_n (h.1 14) _ nk, up_n (h.1 15) _ nk, up_n (h.1 17) _ nk, up_n (h.1 18) _ nk, up_n (h.1 19) _ nk, up_n (h.1 20) _ nk, flt_up hK hr e (chL x hx) l1]
          refine ⟨tx.1, tx.2.1, ?_, tx.2.2.2⟩
          by_cases eg0 : x = g0
          · subst eg0
            rw [up_s, q, flt_t inr]
            rfl
          · have l2 : rch (wK K) n x ≠ some r := fun q2 => by
              have b2 := (rch_s hW hx q2).2.2.2.1.2.2.1
              rw [p1] at b2
              exact eg0 (Option.some.inj b2).symm
            rw [up_n _ _ (fun q2 => eg0 (hK.2.2 x g0 hx g1 q2)), up_n _ _ nk, flt_up hK hr e (chR x hx) l2]
            exact tx.2.2.1
