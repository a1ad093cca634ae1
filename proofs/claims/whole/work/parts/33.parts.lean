/-! FREE parts of a stretch: class and reference -/
def wq (n : Nat) (f t : Nat → Int32) (a b : Int32) (r : Nat) : Int32 := mx (mn (fx n f r) b - mx (rc t r) a) 0
def qB (n : Nat) (f t : Nat → Int32) (a b : Int32) (r : Nat) : Bool := gp n f t r && !(decide (wq n f t a b r ≤ 0))
theorem rc_b {n : Nat} {f t : Nat → Int32} (Q : Sq n f t) : ∀ r, r ≤ n → -1000000000 ≤ (rc t r).toInt ∧ (rc t r).toInt ≤ 1000000000 := by
  intro r
  induction r with
  | zero => intro _; show -1000000000 ≤ (-1000000000 : Int32).toInt ∧ (-1000000000 : Int32).toInt ≤ 1000000000; decide
  | succ r ih =>
    intro hr
    have h1 := ih (by omega)
    have h2 := Q.1 r (by omega)
    unfold vld at h2
    unfold rc
    rw [mx_i]
    omega
theorem rc_s {t : Nat → Int32} {r : Nat} : (rc t (r + 1)).toInt = max (rc t r).toInt (t r).toInt := by
  conv => lhs; unfold rc
  rw [mx_i]
theorem rc_mono {t : Nat → Int32} {r s : Nat} (h : r ≤ s) : (rc t r).toInt ≤ (rc t s).toInt := by
  induction s with
  | zero => have : r = 0 := by omega
            subst this; exact Int.le_refl _
  | succ s ih =>
    rcases Nat.eq_or_lt_of_le h with e | e
    · rw [e]; exact Int.le_refl _
    · have := ih (by omega)
      rw [rc_s]; omega
theorem rc_ge {t : Nat → Int32} {r s : Nat} (h : r < s) : (t r).toInt ≤ (rc t s).toInt := by
  have := rc_mono (t := t) (show r + 1 ≤ s by omega)
  rw [rc_s] at this
  omega
theorem fx_lt {n : Nat} {f : Nat → Int32} {r : Nat} (h : r < n) : fx n f r = f r := by simp [fx, h]
theorem fx_n {n : Nat} {f : Nat → Int32} : fx n f n = 1000000000 := by simp [fx]
theorem fx_b {n : Nat} {f t : Nat → Int32} (Q : Sq n f t) {r : Nat} (h : r ≤ n) : -1000000000 ≤ (fx n f r).toInt ∧ (fx n f r).toInt ≤ 1000000000 := by
  rcases Nat.eq_or_lt_of_le h with e | e
  · rw [e, fx_n, t_hi]; omega
  · rw [fx_lt e]
    have h2 := Q.1 r e
    unfold vld at h2
    omega
theorem w_int {n : Nat} {f t : Nat → Int32} {a b : Int32} (Q : Sq n f t) (hv : vld a b) {r : Nat} (h : r ≤ n) : (mn (fx n f r) b - mx (rc t r) a).toInt = min (fx n f r).toInt b.toInt - max (rc t r).toInt a.toInt := by
  have h1 := rc_b Q r h
  have h2 := fx_b Q h
  unfold vld at hv
  rw [i_sub (by rw [mn_i, mx_i]; omega) (by rw [mn_i, mx_i]; omega), mn_i, mx_i]
theorem q_iff {n : Nat} {f t : Nat → Int32} {a b : Int32} (Q : Sq n f t) (hv : vld a b) {r : Nat} (h : r ≤ n) : qB n f t a b r = true ↔ max (rc t r).toInt a.toInt < min (fx n f r).toInt b.toInt := by
  have e := w_int Q hv h
  unfold qB gp wq
  simp only [Bool.and_eq_true, Bool.not_eq_true', decide_eq_false_iff_not, i_le, mx_i _ 0, e, t_0]
  omega
theorem q_no {n : Nat} {f t : Nat → Int32} {a b : Int32} (Q : Sq n f t) (hv : vld a b) {r : Nat} (h : r ≤ n) (hc : ¬ max (rc t r).toInt a.toInt < min (fx n f r).toInt b.toInt) : qB n f t a b r = false := by
  cases hq : qB n f t a b r with
  | false => rfl
  | true => exact absurd ((q_iff Q hv h).mp hq) hc
/-- behind the first that begins at b or later nothing is free in the stretch -/
theorem q_end {n s : Nat} {f t : Nat → Int32} {a b : Int32} (Q : Sq n f t) (hv : vld a b) (hs : s ≤ n) (hb : b.toInt ≤ (fx n f s).toInt) : cnt (qB n f t a b) (n + 1) = cnt (qB n f t a b) (s + 1) := by
  have key : ∀ k, s + 1 + k ≤ n + 1 → cnt (qB n f t a b) (s + 1 + k) = cnt (qB n f t a b) (s + 1) := by
    intro k
    induction k with
    | zero => intro _; rfl
    | succ k ih =>
      intro hk
      have h1 := ih (by omega)
      have hs1 : s < n := by omega
      rw [fx_lt hs1] at hb
      have h2 := Q.1 s hs1
      unfold vld at h2
      have h3 := rc_ge (t := t) (show s < s + 1 + k by omega)
      have : qB n f t a b (s + 1 + k) = false := q_no Q hv (by omega) (by omega)
      rw [show s + 1 + (k + 1) = s + 1 + k + 1 by omega, cnt_f this, h1]
  have := key (n - s) (by omega)
  rw [show s + 1 + (n - s) = n + 1 by omega] at this
  exact this
theorem parts_ok {m : hp_T} {n : Nat} {K : Nat → Nat} {f t : Nat → Int32} {a b : Int32} (V : MV m n K f t) (Q : Sq n f t) (hv : vld a b) :
    ∃ m2, f_X10_parts a b m = some (nI (cnt (qB n f t a b) (n + 1)), m2) ∧ Fr [25, 26] m m2 ∧ ∀ r, r ≤ n → qB n f t a b r = true → m2.1 25 (cnt (qB n f t a b) r) = mx (rc t r) a ∧ m2.1 26 (cnt (qB n f t a b) r) = mn (fx n f r) b := by
  have hn := V.1
  have hv0 := hv
  unfold vld at hv
  unfold f_X10_parts
  have key := loop_j (fun N (s : Int32 × Int32 × Int32 × hp_T) => f_X10_parts_L1 a b (fun (x27 : Int32) (x28 : Int32) (x29 : Int32) (h30 : hp_T) => (if b ≤ x28 then some (x27, h30) else if ix x27 49 = true then o_let (hw h30 25 x27.toNatClampNeg x28) fun (h33 : hp_T) => if ix x27 49 = true then o_let (hw h33 26 x27.toNatClampNeg b) fun (h35 : hp_T) => o_let (x27 + (1 : Int32)) fun (x36 : Int32) => some (x36, h35) else none else none)) N s.1 s.2.1 s.2.2.1 s.2.2.2)
    (fun o => ∃ m2, o = some (nI (cnt (qB n f t a b) (n + 1)), m2) ∧ Fr [25, 26] m m2 ∧ ∀ r, r ≤ n → qB n f t a b r = true → m2.1 25 (cnt (qB n f t a b) r) = mx (rc t r) a ∧ m2.1 26 (cnt (qB n f t a b) r) = mn (fx n f r) b)
    (fun r s => ∃ v z, r = n - v ∧ v ≤ n ∧ z ≤ v ∧ (z = v ∨ (z < v ∧ b.toInt ≤ (f z).toInt)) ∧ s.1 = nI (cnt (qB n f t a b) z) ∧ s.2.1.toInt = max (rc t z).toInt a.toInt ∧ s.2.2.1 = nI v ∧ Fr [25, 26] m s.2.2.2 ∧ (∀ r, r < z → qB n f t a b r = true → s.2.2.2.1 25 (cnt (qB n f t a b) r) = mx (rc t r) a ∧ s.2.2.2.1 26 (cnt (qB n f t a b) r) = mn (fx n f r) b)) ?_ n 100 (0, a, 0, m) (by omega)
    ⟨0, 0, rfl, by omega, by omega, Or.inl rfl, rfl, by show a.toInt = max (-1000000000 : Int32).toInt a.toInt; rw [t_lo]; omega, rfl, Fr.rf, fun r hr => absurd hr (by omega)⟩
  · exact key
  rintro N r ⟨x, y, w, g⟩ ⟨v, z, rfl, hvn, hzv, hz, rfl, hat, rfl, hF, ha⟩
  dsimp only at *
  have Vg : MV g n K f t := V.fr (by rw [hF.1 0 (by decide)]) ⟨hF.1 12 (by decide), hF.1 6 (by decide), hF.1 7 (by decide)⟩
  have hcz := cnt_le (qB n f t a b) z
  rw [f_X10_parts_L1, Vg.2.1]
  by_cases e : v = n
  · subst e
    left
    rw [if_pos (by rw [i_le]; omega)]
    have hb : b.toInt ≤ (fx v f z).toInt := by
      rcases hz with e | ⟨e, q⟩
      · rw [e, fx_n, t_hi]; omega
      · rw [fx_lt e]; exact q
    have hend := q_end Q hv0 hzv hb
    by_cases c : b ≤ y
    · rw [if_pos c]
      rw [i_le] at c
      have hq := q_no Q hv0 hzv (by omega)
      rw [hend, cnt_f hq]
      refine ⟨g, rfl, hF, fun r hr hqr => ?_⟩
      rcases Nat.lt_trichotomy r z with d | d | d
      · exact ha r d hqr
      · subst d; rw [hq] at hqr; cases hqr
      · have hc1 := cnt_mono (qB v f t a b) (show z + 1 ≤ r by omega)
        have hc2 := cnt_mono (qB v f t a b) (show r + 1 ≤ v + 1 by omega)
        rw [cnt_t hqr, hend] at hc2
        omega
    · rw [if_neg c]
      rw [i_le] at c
      have hq := (q_iff Q hv0 hzv).mpr (by omega)
      rw [if_pos (ix_n (by omega) (by omega)), l_let, if_pos (ix_n (by omega) (by omega)), l_let, l_let, n_cl (by omega), nI_1, hend, cnt_t hq]
      refine ⟨_, rfl, (hF.hw (by decide)).hw (by decide), fun r hr hqr => ?_⟩
      rw [hw_ne _ (z := 25) _ _ (by decide)]
      rcases Nat.lt_trichotomy r z with d | d | d
      · have hc1 := cnt_mono (qB v f t a b) (show r + 1 ≤ z by omega)
        rw [cnt_t hqr] at hc1
        rw [hw_n _ _ _ _ (Or.inr (by omega)), hw_n _ _ _ _ (Or.inr (by omega)), hw_ne _ (z := 26) _ _ (by decide)]
        exact ha r d hqr
      · subst d
        rw [hw_s, hw_s]
        refine ⟨?_, ?_⟩
        · rw [i_eq, hat, mx_i]
        · rw [i_eq, mn_i]; omega
      · have hc1 := cnt_mono (qB v f t a b) (show z + 1 ≤ r by omega)
        have hc2 := cnt_mono (qB v f t a b) (show r + 1 ≤ v + 1 by omega)
        rw [cnt_t hqr, hend] at hc2
        omega
  right
  obtain ⟨e1, e2, e3, e4⟩ := Vg.2.2 v (by omega)
  have T := Q.1 v (by omega)
  unfold vld at T
  rw [if_neg (by rw [i_le, n_int (by omega), n_int (by omega)]; omega), if_pos (ix_n (by omega) (by omega)), l_let, n_cl (show v < 2147483648 by omega), e1, m_met Vg (by omega), c_some]
  have hmet : metB f t a b v = true ↔ (f v).toInt < b.toInt ∧ a.toInt < (t v).toInt := by
    unfold metB
    simp only [Bool.and_eq_true, Bool.not_eq_true', decide_eq_false_iff_not, i_le]
    omega
  cases hp : metB f t a b v with
  | false =>
    rw [if_neg nft, if_pos p00, l_let, nI_1]
    have hp2 : ¬ ((f v).toInt < b.toInt ∧ a.toInt < (t v).toInt) := fun q => by rw [hmet.mpr q] at hp; cases hp
    by_cases c : z = v ∧ (f v).toInt < b.toInt
    · obtain ⟨rfl, c⟩ := c
      have hq : qB n f t a b z = false := q_no Q hv0 (by omega) (by rw [fx_lt (by omega)]; omega)
      refine ⟨n - (z + 1), (nI (cnt (qB n f t a b) z), y, nI (z + 1), g), by omega, ⟨z + 1, z + 1, rfl, by omega, by omega, Or.inl rfl, by rw [cnt_f hq], by rw [rc_s]; dsimp only; omega, rfl, hF, fun r hr hqr => ?_⟩, rfl⟩
      by_cases d : r = z
      · subst d; rw [hq] at hqr; cases hqr
      · exact ha r (by omega) hqr
    · refine ⟨n - (v + 1), (nI (cnt (qB n f t a b) z), y, nI (v + 1), g), by omega, ⟨v + 1, z, rfl, by omega, by omega, Or.inr ⟨by omega, ?_⟩, rfl, hat, rfl, hF, ha⟩, rfl⟩
      rcases hz with rfl | ⟨-, q⟩
      · omega
      · exact q
  | true =>
    have hp2 := hmet.mp hp
    have hzv2 : z = v := by
      rcases hz with e | ⟨q1, q2⟩
      · exact e
      · have := Q.2 z v (by omega) (by omega)
        omega
    subst hzv2
    rw [if_pos ptt, if_neg n10, if_pos (ix_n e2 (by omega)), n_cl (show K z < 2147483648 by omega), e3]
    by_cases c : f z ≤ y
    · rw [if_pos c, if_pos (ix_n e2 (by omega)), m_greater, c_some, e4, l_let, nI_1]
      rw [i_le] at c
      have hq : qB n f t a b z = false := q_no Q hv0 (by omega) (by rw [fx_lt (by omega)]; omega)
      refine ⟨n - (z + 1), (nI (cnt (qB n f t a b) z), (if t z ≤ y then y else t z), nI (z + 1), g), by omega, ⟨z + 1, z + 1, rfl, by omega, by omega, Or.inl rfl, by rw [cnt_f hq], ?_, rfl, hF, fun r hr hqr => ?_⟩, rfl⟩
      · rw [rc_s]
        dsimp only
        split
        · rename_i q; rw [i_le] at q; omega
        · rename_i q; rw [i_le] at q; omega
      · by_cases d : r = z
        · subst d; rw [hq] at hqr; cases hqr
        · exact ha r (by omega) hqr
    · rw [if_neg c]
      rw [i_le] at c
      have hq : qB n f t a b z = true := (q_iff Q hv0 (by omega)).mpr (by rw [fx_lt (by omega)]; omega)
      have i49 : ix (nI (cnt (qB n f t a b) z)) 49 = true := ix_n (by omega) (by omega)
      have ik := ix_n e2 (show 48 ≤ 1000 by omega)
      rw [if_pos i49, l_let, if_pos ik, if_pos i49, l_let, l_let, if_pos ik, m_greater, c_some, l_let, nI_1, nI_1, n_cl (show cnt (qB n f t a b) z < 2147483648 by omega), hw_ne _ (z := 6) _ _ (by decide), e3, hw_ne _ (z := 7) _ _ (by decide), hw_ne _ (z := 7) _ _ (by decide), e4]
      refine ⟨n - (z + 1), (nI (cnt (qB n f t a b) z + 1), (if t z ≤ y then y else t z), nI (z + 1), hw (hw g 25 (cnt (qB n f t a b) z) y) 26 (cnt (qB n f t a b) z) (f z)), by omega, ⟨z + 1, z + 1, rfl, by omega, by omega, Or.inl rfl, by rw [cnt_t hq], ?_, rfl, (hF.hw (by decide)).hw (by decide), fun r hr hqr => ?_⟩, rfl⟩
      · rw [rc_s]
        dsimp only
        split
        · rename_i q; rw [i_le] at q; omega
        · rename_i q; rw [i_le] at q; omega
      · dsimp only
        rw [hw_ne _ (z := 25) _ _ (by decide)]
        by_cases d : r = z
        · subst d
          rw [hw_s, hw_s]
          refine ⟨?_, ?_⟩
          · rw [i_eq, hat, mx_i]
          · rw [i_eq, mn_i, fx_lt (by omega)]; omega
        · have hc1 := cnt_mono (qB n f t a b) (show r + 1 ≤ z by omega)
          rw [cnt_t hqr] at hc1
          rw [hw_n _ _ _ _ (Or.inr (by omega)), hw_n _ _ _ _ (Or.inr (by omega)), hw_ne _ (z := 26) _ _ (by decide)]
          exact ha r (by omega) hqr
/-! the class's answers by ranks -/
theorem pts_w {h : hp_T} {n : Nat} {f t : Nat → Int32} {a b : Int32} (G : DerG h n f t) {r : Nat} (hr : r ≤ n) (hg : gp n f t r = true) : pts h a b (cnt (gp n f t) r) = wq n f t a b r := by
  obtain ⟨e1, e2⟩ := G.2 r hr hg
  unfold pts wq
  rw [e1, e2]
theorem ptB_q {h : hp_T} {n : Nat} {f t : Nat → Int32} {a b : Int32} (G : DerG h n f t) {r : Nat} (hr : r ≤ n) (hg : gp n f t r = true) : ptB h a b (cnt (gp n f t) r) = qB n f t a b r := by
  unfold ptB qB
  rw [pts_w G hr hg, hg]
  rfl
theorem c_frees {h : hp_T} {n : Nat} {f t : Nat → Int32} {a b : Int32} (hn : n ≤ 48) (G : DerG h n f t) : f_X1_partsWithin a b h = some (nI (cnt (qB n f t a b) (n + 1)), h) := by
  have hc := cnt_le (gp n f t) (n + 1)
  rw [c_parts (by omega) G.1, cnt_sub (q := qB n f t a b) (ptB h a b) (N := n + 1) (fun r _ hq => by simp [qB] at hq; exact hq.1) (fun r hr hp => ptB_q G (by omega) hp) (n + 1) (Nat.le_refl _)]
theorem c_takes {h : hp_T} {n : Nat} {f t : Nat → Int32} {a b : Int32} (hn : n ≤ 48) (G : DerG h n f t) : f_X1_pointsWithin a b h = some (acc (fun i => if gp n f t i = true then wq n f t a b i else 0) (n + 1), h) := by
  have hc := cnt_le (gp n f t) (n + 1)
  rw [c_points (by omega) G.1, acc_sub (pts h a b) (wq n f t a b) (N := n + 1) (fun r hr hp => pts_w G (by omega) hp) (n + 1) (Nat.le_refl _)]
theorem c_freeAt {h : hp_T} {n : Nat} {f t : Nat → Int32} {a b i : Int32} (hn : n ≤ 48) (G : DerG h n f t) : f_X1_partAt a b i h = some (keyR (fun g => g) ((nth (qB n f t a b) i (n + 1)).map (cnt (gp n f t))), h) := by
  have hc := cnt_le (gp n f t) (n + 1)
  rw [c_partAt (by omega) G.1, nth_sub (q := qB n f t a b) (ptB h a b) (N := n + 1) (fun r _ hq => by simp [qB] at hq; exact hq.1) (fun r hr hp => ptB_q G (by omega) hp) (n + 1) (Nat.le_refl _)]
/-! the reference's sum -/
theorem s_sub (x p w : Int32) : x - p - w = x - (p + w) := by
  apply Int32.toBitVec_inj.mp
  simp only [Int32.toBitVec_sub, Int32.toBitVec_add]
  rw [BitVec.sub_sub]
theorem m_takenIn {m : hp_T} {n : Nat} {K : Nat → Nat} {f t : Nat → Int32} {a b : Int32} (V : MV m n K f t) (Q : Sq n f t) (hv : vld a b) : ∃ m2, f_X10_takenIn a b m = some (b - a - acc (fun i => if gp n f t i = true then wq n f t a b i else 0) (n + 1), m2) ∧ Fr [25, 26] m m2 := by
  have hn := V.1
  obtain ⟨m2, E, F2, h2⟩ := parts_ok V Q hv
  have hc := cnt_le (qB n f t a b) (n + 1)
  unfold f_X10_takenIn
  rw [E, c_some, l_let]
  have key := loop_j (fun N (s : Int32 × Int32 × hp_T) => f_X10_takenIn_L1 (nI (cnt (qB n f t a b) (n + 1))) (fun (x10 : Int32) (x11 : Int32) (h12 : hp_T) => some (x10, h12)) N s.1 s.2.1 s.2.2)
    (fun o => o = some (b - a - acc (fun i => m2.1 26 i - m2.1 25 i) (cnt (qB n f t a b) (n + 1)), m2))
    (fun r s => ∃ v, r = cnt (qB n f t a b) (n + 1) - v ∧ v ≤ cnt (qB n f t a b) (n + 1) ∧ s.1 = b - a - acc (fun i => m2.1 26 i - m2.1 25 i) v ∧ s.2.1 = nI v ∧ s.2.2 = m2) ?_ (cnt (qB n f t a b) (n + 1)) 100 (b - a, 0, m2) (by omega) ⟨0, rfl, by omega, by show b - a = b - a - 0; rw [Int32.sub_zero], rfl, rfl⟩
  · refine ⟨m2, ?_, F2⟩
    rw [key, acc_sub (p := qB n f t a b) (fun i => m2.1 26 i - m2.1 25 i) (fun r => mn (fx n f r) b - mx (rc t r) a) (N := n + 1) (fun r hr hq => by rw [(h2 r (by omega) hq).1, (h2 r (by omega) hq).2]) (n + 1) (Nat.le_refl _)]
    congr 3
    refine acc_cg fun r hr => ?_
    have e := w_int Q hv (show r ≤ n by omega)
    cases hq : qB n f t a b r with
    | true =>
      have hq1 := (q_iff Q hv (by omega)).mp hq
      have hg : gp n f t r = true := by simp [qB] at hq; exact hq.1
      rw [if_pos ptt, if_pos hg]
      unfold wq
      rw [i_eq, mx_i, e, t_0]
      omega
    | false =>
      rw [if_neg nft]
      by_cases hg : gp n f t r = true
      · rw [if_pos hg]
        have hq1 : ¬ max (rc t r).toInt a.toInt < min (fx n f r).toInt b.toInt := fun q => by rw [(q_iff Q hv (by omega)).mpr q] at hq; cases hq
        unfold wq
        rw [i_eq, mx_i, e, t_0]
        omega
      · rw [if_neg hg]
  rintro N r ⟨x, y, g⟩ ⟨v, rfl, hvv, e1, e2, e3⟩
  dsimp only at e1 e2 e3
  subst e3; subst e1; subst e2
  dsimp only at *
  rw [f_X10_takenIn_L1]
  by_cases e : v = cnt (qB n f t a b) (n + 1)
  · left
    rw [if_pos (by rw [i_le, ← e]; omega), ← e]
  right
  rw [if_neg (by rw [i_le, n_int (by omega), n_int (by omega)]; omega), if_pos (ix_n (by omega) (by omega)), if_pos (ix_n (by omega) (by omega)), l_let, l_let, nI_1, n_cl (by omega), s_sub]
  exact ⟨cnt (qB n f t a b) (n + 1) - (v + 1), (b - a - acc (fun i => g.1 26 i - g.1 25 i) (v + 1), nI (v + 1), g), by omega, ⟨v + 1, rfl, by omega, rfl, rfl, rfl⟩, rfl⟩
/-- the i-th free part: where it begins, behind its last point -/
def freeV (n : Nat) (f t : Nat → Int32) (a b i w : Int32) : Int32 := match nth (qB n f t a b) i (n + 1) with
  | some r => if w = 0 then mx (rc t r) a else mn (fx n f r) b
  | none => -2147483648
theorem m_freeBy {m : hp_T} {n i : Nat} {K : Nat → Nat} {f t : Nat → Int32} {a b w : Int32} (V : MV m n K f t) (Q : Sq n f t) (hv : vld a b) (hi : i ≤ 48) : ∃ m2, f_X10_freeBy a b (nI i) w m = some (freeV n f t a b (nI i) w, m2) ∧ Fr [25, 26] m m2 := by
  have hn := V.1
  obtain ⟨m2, E, F2, h2⟩ := parts_ok V Q hv
  have hc := cnt_le (qB n f t a b) (n + 1)
  unfold f_X10_freeBy freeV
  rw [E, c_some]
  by_cases c : i < cnt (qB n f t a b) (n + 1)
  · obtain ⟨r, e1, e2⟩ := nth_ex (by omega) c
    obtain ⟨q1, q2, q3⟩ := nth_s e1
    obtain ⟨b1, b2⟩ := h2 r (by omega) q2
    rw [e2] at b1 b2
    rw [if_pos (by rw [i_lt, n_int (by omega), n_int (by omega)]; omega), if_pos (ix_n (by omega) (by omega)), if_pos (ix_n (by omega) (by omega)), n_cl (by omega), b1, b2, e1]
    dsimp only
    by_cases cw : w = 0
    · rw [if_pos cw, if_pos cw]; exact ⟨m2, rfl, F2⟩
    · rw [if_neg cw, if_neg cw]; exact ⟨m2, rfl, F2⟩
  · rw [if_neg (by rw [i_lt, n_int (by omega), n_int (by omega)]; omega)]
    have : nth (qB n f t a b) (nI i) (n + 1) = none := by
      cases hx : nth (qB n f t a b) (nI i) (n + 1) with
      | none => rfl
      | some r =>
        obtain ⟨q1, q2, q3⟩ := nth_s hx
        have h3 := cnt_mono (qB n f t a b) (show r + 1 ≤ n + 1 by omega)
        rw [cnt_t q2] at h3
        have := n_inj (by omega) (by omega) q3
        omega
    rw [this]
    exact ⟨m2, rfl, F2⟩
