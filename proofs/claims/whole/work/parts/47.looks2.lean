/-! looks of the reference -/
def LqI (h : hp_T) (c v n : Nat) (W X : Nat → Nat) (F : Nat → Bool) : Prop := v ≤ c ∧ Ls h 24 c n X ∧ (∀ i, i < c → F (X i) = true) ∧ sm (uv (lu W n F) v X) c = cnt F n
theorem TrM.fr {m m2 : hp_T} {n : Nat} {K : Nat → Nat} {t : Nat → Int32} (T : TrM m n K t) (e : ∀ k, 14 ≤ k → k ≤ 21 → m2.1 k = m.1 k) : TrM m2 n K t := by
  unfold TrM Sd at *
  rw [e 14 (by omega) (by omega), e 15 (by omega) (by omega), e 16 (by omega) (by omega), e 17 (by omega) (by omega), e 18 (by omega) (by omega), e 19 (by omega) (by omega), e 20 (by omega) (by omega), e 21 (by omega) (by omega)]
  exact T
theorem m_looks1 {m : hp_T} {n c0 : Nat} {K X0 : Nat → Nat} {f t : Nat → Int32} {a b : Int32} (V : MV m n K f t) (hW : Wi (wK K) n) (T : TrM m n K t) (I0 : LqI m c0 0 n (wK K) X0 (lkd (wK K) n f t a b)) :
    ∃ m2, f_X10_looksAt_L1 a b (fun (x63 : Int32) (x64 : Int32) (x65 : Int32) (h66 : hp_T) => some (x64, h66)) 100 (nI c0) 0 0 m = some (nI (cnt (lkd (wK K) n f t a b) n), m2) ∧ Fr [24] m m2 := by
  have hn := V.1
  obtain ⟨F, eF⟩ : ∃ F, F = lkd (wK K) n f t a b := ⟨_, rfl⟩
  rw [← eF] at I0 ⊢
  have tot := cnt_le F n
  have cle : ∀ (g : hp_T) (c v : Nat) (X : Nat → Nat), LqI g c v n (wK K) X F → c ≤ n := by
    intro g c v X I
    have := sm_ge (g := uv (lu (wK K) n F) v X) c (fun i hi => by
      unfold uv
      split
      · exact Nat.le_refl _
      · exact lu_pos hW (I.2.1 i hi).2 (I.2.2.1 i hi))
    have := I.2.2.2
    omega
  have key := loop_j (fun N (s : Int32 × Int32 × Int32 × hp_T) => f_X10_looksAt_L1 a b (fun (x63 : Int32) (x64 : Int32) (x65 : Int32) (h66 : hp_T) => some (x64, h66)) N s.1 s.2.1 s.2.2.1 s.2.2.2)
    (fun o => ∃ m2, o = some (nI (cnt F n), m2) ∧ Fr [24] m m2)
    (fun r s => ∃ c v X, r = n - v ∧ s.1 = nI c ∧ s.2.1 = nI v ∧ s.2.2.1 = nI v ∧ Fr [24] m s.2.2.2 ∧ LqI s.2.2.2 c v n (wK K) X F) ?_ n 100 (nI c0, 0, 0, m) (by omega) ⟨c0, 0, X0, rfl, rfl, rfl, rfl, Fr.rf, I0⟩
  · exact key
  rintro N r ⟨x, y, z, g⟩ ⟨c, v, X, rfl, e1, e2, e3, hF, I⟩
  dsimp only at e1 e2 e3 hF I
  subst e1; subst e2; subst e3
  dsimp only
  have hc := cle g c v X I
  obtain ⟨I1, I2, I3, I5⟩ := I
  rw [f_X10_looksAt_L1]
  by_cases e : v = c
  · left
    subst e
    have : v = cnt F n := by
      rw [sm_cg (g2 := fun _ => 1) (fun i hi => by unfold uv; rw [if_pos hi])] at I5
      have one : ∀ k, sm (fun _ => 1) k = k := by
        intro k
        induction k with
        | zero => rfl
        | succ k ih => rw [sm_s, ih]
      rw [one] at I5
      exact I5
    rw [if_pos (by rw [i_le]; omega), ← this]
    exact ⟨g, rfl, hF⟩
  right
  have hvc : v < c := by omega
  obtain ⟨q24, xn⟩ := I2 v hvc
  have fx := I3 v hvc
  obtain ⟨x, ex⟩ : ∃ x, x = X v := ⟨_, rfl⟩
  rw [← ex] at q24 xn fx
  have x48 : x < 48 := by omega
  have Vg : MV g n K f t := V.fr (by rw [hF.1 0 (by decide)]) ⟨hF.1 12 (by decide), hF.1 6 (by decide), hF.1 7 (by decide)⟩
  have Tg : TrM g n K t := T.fr fun k k1 k2 => hF.1 k (by simp <;> omega)
  obtain ⟨t1, t2, t3, t4, t5⟩ := Tg.2 x xn
  obtain ⟨v1, v2, v3, v4⟩ := Vg.2.2 x xn
  obtain ⟨ol, eol⟩ : ∃ ol, ol = flt F (lch (wK K) n x) := ⟨_, rfl⟩
  obtain ⟨orr, eor⟩ : ∃ orr, orr = flt F (rch (wK K) n x) := ⟨_, rfl⟩
  have oll : ∀ z, ol = some z → z < n ∧ F z = true := by
    intro z hz
    rw [eol] at hz
    cases hl : lch (wK K) n x with
    | none => rw [hl] at hz; cases hz
    | some w =>
      rw [hl] at hz
      cases hq : F w with
      | false => rw [flt_f hq] at hz; cases hz
      | true => rw [flt_t hq] at hz; have ez := Option.some.inj hz; rw [← ez]; exact ⟨lch_lt hW x xn w hl, hq⟩
  have orl : ∀ z, orr = some z → z < n ∧ F z = true := by
    intro z hz
    rw [eor] at hz
    cases hl : rch (wK K) n x with
    | none => rw [hl] at hz; cases hz
    | some w =>
      rw [hl] at hz
      cases hq : F w with
      | false => rw [flt_f hq] at hz; cases hz
      | true => rw [flt_t hq] at hz; have ez := Option.some.inj hz; rw [← ez]; exact ⟨rch_lt hW x xn w hl, hq⟩
  obtain ⟨c1, ec1⟩ : ∃ c1, c1 = extC c ol := ⟨_, rfl⟩
  obtain ⟨c2, ec2⟩ : ∃ c2, c2 = extC c1 orr := ⟨_, rfl⟩
  obtain ⟨X1, eX1⟩ : ∃ X1, X1 = extX X c ol := ⟨_, rfl⟩
  obtain ⟨X2, eX2⟩ : ∃ X2, X2 = extX X1 c1 orr := ⟨_, rfl⟩
  obtain ⟨h1, eh1⟩ : ∃ h1, h1 = extH g 24 c ol := ⟨_, rfl⟩
  obtain ⟨h2, eh2⟩ : ∃ h2, h2 = extH h1 24 c1 orr := ⟨_, rfl⟩
  have cc1 : c ≤ c1 := by rw [ec1]; exact extC_le
  have cc2 : c1 ≤ c2 := by rw [ec2]; exact extC_le
  have L1 : Ls h1 24 c1 n X1 := by rw [eh1, ec1, eX1]; exact ext_ls I2 (fun z hz => (oll z hz).1)
  have L2 : Ls h2 24 c2 n X2 := by rw [eh2, ec2, eX2]; exact ext_ls L1 (fun z hz => (orl z hz).1)
  have fr1 : ∀ k, k ≠ 24 → h1.1 k = g.1 k := fun k hk => by rw [eh1, ext_fr k hk]
  have fr2 : ∀ k, k ≠ 24 → h2.1 k = g.1 k := fun k hk => by rw [eh2, ext_fr k hk, fr1 k hk]
  have fX : ∀ i, i < c2 → F (X2 i) = true := by
    intro i hi
    by_cases q : i < c
    · rw [eX2, extX_lt (by omega), eX1, extX_lt q]; exact I3 i q
    · by_cases q2 : i < c1
      · rw [eX2, extX_lt q2, eX1]
        cases hl : ol with
        | none => rw [hl] at ec1; simp only [extC] at ec1; omega
        | some z =>
          rw [hl] at ec1
          simp only [extC] at ec1
          have : i = c := by omega
          subst this
          rw [extX_at]
          exact (oll z hl).2
      · rw [eX2]
        cases hl : orr with
        | none => rw [hl] at ec2; simp only [extC] at ec2; omega
        | some z =>
          rw [hl] at ec2
          simp only [extC] at ec2
          have : i = c1 := by omega
          subst this
          rw [extX_at]
          exact (orl z hl).2
  have I' : LqI h2 c2 (v + 1) n (wK K) X2 F := by
    refine ⟨by omega, L2, fX, ?_⟩
    have s0 := uv_s (u := lu (wK K) n F) (X := X) hvc
    have s1 := ext_sum (u := lu (wK K) n F) (v := v + 1) (c := c) (X := X) (o := ol) (by omega)
    have s2 := ext_sum (u := lu (wK K) n F) (v := v + 1) (c := c1) (X := X1) (o := orr) (by omega)
    rw [← ec1, ← eX1] at s1
    rw [← ec2, ← eX2] at s2
    have s3 := lu_rec (F := F) hW xn fx (by rw [eF]; exact lkd_0 hW)
    rw [← eol, ← eor] at s3
    rw [← ex] at s0
    omega
  have c2n := cle h2 c2 (v + 1) X2 I'
  have F5 : Fr [24] g h2 := ⟨fun k hk => fr2 k (fun q => hk (by rw [q]; decide)), by rw [eh2, ext_2, eh1, ext_2]⟩
  refine ⟨n - (v + 1), (nI c2, nI (v + 1), nI (v + 1), h2), by omega, ⟨c2, v + 1, X2, rfl, rfl, rfl, rfl, hF.tr F5, I'⟩, ?_⟩
  dsimp only
  -- the two questions
  have Fl : ∀ w, lch (wK K) n x = some w → (F w = true ↔ ¬ g.1 21 w ≤ a) := by
    intro w hw
    have wn := lch_lt hW x xn w hw
    have lt := (lch_s hW xn hw).2.1
    rw [eF] at fx ⊢
    rw [lkd_c hW xn (Or.inl hw), fx, Bool.true_and]
    have le : g.1 21 w ≤ a ↔ fe t (nA (wK K) n w) (nB (wK K) n w) ≤ a.toInt := by rw [i_le, (Tg.2 w wn).2.2.2.2.2.2]
    rw [le]
    unfold cnd
    simp only [Bool.and_eq_true, Bool.or_eq_true, decide_eq_true_eq]
    omega
  have Fr' : ∀ w, rch (wK K) n x = some w → (F w = true ↔ ¬ g.1 21 w ≤ a ∧ ¬ b ≤ f x) := by
    intro w hw
    have wn := rch_lt hW x xn w hw
    have lt := (rch_s hW xn hw).1
    rw [eF] at fx ⊢
    rw [lkd_c hW xn (Or.inr hw), fx, Bool.true_and]
    have le : g.1 21 w ≤ a ↔ fe t (nA (wK K) n w) (nB (wK K) n w) ≤ a.toInt := by rw [i_le, (Tg.2 w wn).2.2.2.2.2.2]
    rw [le]
    unfold cnd
    simp only [Bool.and_eq_true, Bool.or_eq_true, decide_eq_true_eq, Bool.not_eq_true', decide_eq_false_iff_not]
    constructor
    · rintro ⟨q1, q2⟩
      refine ⟨by omega, ?_⟩
      rcases q2 with q2 | q2
      · omega
      · exact q2
    · rintro ⟨q1, q2⟩
      exact ⟨by omega, Or.inr q2⟩
  rw [if_neg (by rw [i_le, n_int (by omega), n_int (by omega)]; omega), if_pos (ix_n (show v < 48 by omega) (by omega)), l_let, l_let, n_cl (show v < 2147483648 by omega), q24, nI_1 v]
  simp only [if_pos (ix_n x48 (show 48 ≤ 1000 by omega)), n_cl (show x < 2147483648 by omega), l_let, t2, t3, v1, if_pos (ix_n v2 (show 48 ≤ 1000 by omega)), n_cl (show K x < 2147483648 by omega), v3, hw_ne _ (z := 17) (k := 24) _ _ (by decide), hw_ne _ (z := 21) (k := 24) _ _ (by decide), hw_ne _ (z := 12) (k := 24) _ _ (by decide), hw_ne _ (z := 6) (k := 24) _ _ (by decide)]
  cases hl : lch (wK K) n x with
  | none =>
    rw [hl] at eol
    have : ol = none := eol
    subst this
    simp only [extC] at ec1
    simp only [extH] at eh1
    subst ec1; subst eh1
    simp only [keyR_n, if_pos (show (-1 : Int32) = -1 from rfl), if_true]
    cases hr : rch (wK K) n x with
    | none =>
      rw [hr] at eor
      have : orr = none := eor
      subst this
      simp only [extC] at ec2
      simp only [extH] at eh2
      subst ec2; subst eh2
      simp only [keyR_n, if_true]
    | some w =>
      have wn := rch_lt hW x xn w hr
      have fq := Fr' w hr
      rw [hr] at eor
      simp only [keyR_r, if_neg (km1 (show w < 48 by omega)), if_pos (ix_n (show w < 48 by omega) (show 48 ≤ 1000 by omega)), n_cl (show w < 2147483648 by omega)]
      by_cases q1 : h1.1 21 w ≤ a
      · have : orr = none := by rw [eor]; exact flt_f (by cases z : F w with | false => rfl | true => exact absurd q1 (fq.mp z).1)
        subst this
        simp only [extC] at ec2
        simp only [extH] at eh2
        subst ec2; subst eh2
        rw [if_pos q1]
      · rw [if_neg q1]
        by_cases q2 : b ≤ f x
        · have : orr = none := by rw [eor]; exact flt_f (by cases z : F w with | false => rfl | true => exact absurd q2 (fq.mp z).2)
          subst this
          simp only [extC] at ec2
          simp only [extH] at eh2
          subst ec2; subst eh2
          rw [if_pos q2]
        · have : orr = some w := by rw [eor]; exact flt_t (fq.mpr ⟨q1, q2⟩)
          subst this
          simp only [extC] at ec2
          simp only [extH] at eh2
          subst ec2; subst eh2
          rw [if_neg q2, if_pos (ix_n (show c1 < 48 by omega) (by omega)), n_cl (show c1 < 2147483648 by omega), nI_1]
  | some u =>
    have un := lch_lt hW x xn u hl
    have fl := Fl u hl
    rw [hl] at eol
    simp only [keyR_r, if_neg (km1 (show u < 48 by omega)), if_pos (ix_n (show u < 48 by omega) (show 48 ≤ 1000 by omega)), n_cl (show u < 2147483648 by omega)]
    by_cases q0 : g.1 21 u ≤ a
    · have : ol = none := by rw [eol]; exact flt_f (by cases z : F u with | false => rfl | true => exact absurd q0 (fl.mp z))
      subst this
      simp only [extC] at ec1
      simp only [extH] at eh1
      subst ec1; subst eh1
      rw [if_pos q0]
      cases hr : rch (wK K) n x with
      | none =>
        rw [hr] at eor
        have : orr = none := eor
        subst this
        simp only [extC] at ec2
        simp only [extH] at eh2
        subst ec2; subst eh2
        rw [keyR_n, if_pos rfl]
      | some w =>
        have wn := rch_lt hW x xn w hr
        have fq := Fr' w hr
        rw [hr] at eor
        simp only [keyR_r, if_neg (km1 (show w < 48 by omega)), if_pos (ix_n (show w < 48 by omega) (show 48 ≤ 1000 by omega)), n_cl (show w < 2147483648 by omega)]
        by_cases q1 : h1.1 21 w ≤ a
        · have : orr = none := by rw [eor]; exact flt_f (by cases z : F w with | false => rfl | true => exact absurd q1 (fq.mp z).1)
          subst this
          simp only [extC] at ec2
          simp only [extH] at eh2
          subst ec2; subst eh2
          rw [if_pos q1]
        · rw [if_neg q1]
          by_cases q2 : b ≤ f x
          · have : orr = none := by rw [eor]; exact flt_f (by cases z : F w with | false => rfl | true => exact absurd q2 (fq.mp z).2)
            subst this
            simp only [extC] at ec2
            simp only [extH] at eh2
            subst ec2; subst eh2
            rw [if_pos q2]
          · have : orr = some w := by rw [eor]; exact flt_t (fq.mpr ⟨q1, q2⟩)
            subst this
            simp only [extC] at ec2
            simp only [extH] at eh2
            subst ec2; subst eh2
            rw [if_neg q2, if_pos (ix_n (show c1 < 48 by omega) (by omega)), n_cl (show c1 < 2147483648 by omega), nI_1]
    · have : ol = some u := by rw [eol]; exact flt_t (fl.mpr q0)
      subst this
      simp only [extC] at ec1
      simp only [extH] at eh1
      subst ec1; subst eh1
      rw [if_neg q0, if_pos (ix_n (show c < 48 by omega) (by omega)), n_cl (show c < 2147483648 by omega), nI_1]
      cases hr : rch (wK K) n x with
      | none =>
        rw [hr] at eor
        have : orr = none := eor
        subst this
        simp only [extC] at ec2
        simp only [extH] at eh2
        subst ec2; subst eh2
        rw [keyR_n, if_pos rfl]
      | some w =>
        have wn := rch_lt hW x xn w hr
        have fq := Fr' w hr
        rw [hr] at eor
        simp only [keyR_r, if_neg (km1 (show w < 48 by omega)), if_pos (ix_n (show w < 48 by omega) (show 48 ≤ 1000 by omega)), n_cl (show w < 2147483648 by omega)]
        by_cases q1 : g.1 21 w ≤ a
        · have : orr = none := by rw [eor]; exact flt_f (by cases z : F w with | false => rfl | true => exact absurd q1 (fq.mp z).1)
          subst this
          simp only [extC] at ec2
          simp only [extH] at eh2
          subst ec2; subst eh2
          rw [if_pos q1]
        · rw [if_neg q1]
          by_cases q2 : b ≤ f x
          · have : orr = none := by rw [eor]; exact flt_f (by cases z : F w with | false => rfl | true => exact absurd q2 (fq.mp z).2)
            subst this
            simp only [extC] at ec2
            simp only [extH] at eh2
            subst ec2; subst eh2
            rw [if_pos q2]
          · have : orr = some w := by rw [eor]; exact flt_t (fq.mpr ⟨q1, q2⟩)
            subst this
            simp only [extC] at ec2
            simp only [extH] at eh2
            subst ec2; subst eh2
            rw [if_neg q2, if_pos (ix_n (show c + 1 < 48 by omega) (by omega)), n_cl (show c + 1 < 2147483648 by omega), nI_1]
theorem m_looksAt {m : hp_T} {n : Nat} {K : Nat → Nat} {f t : Nat → Int32} {a b : Int32} (V : MV m n K f t) (hW : Wi (wK K) n) (T : TrM m n K t) : ∃ m2, f_X10_looksAt a b m = some (nI (cnt (lkd (wK K) n f t a b) n), m2) ∧ Fr [24] m m2 := by
  have hn := V.1
  unfold f_X10_looksAt
  rw [V.2.1]
  rcases Nat.eq_zero_or_pos n with n0 | n0
  · rw [if_pos (by rw [n0]; decide)]
    exact m_looks1 (c0 := 0) (X0 := fun _ => 0) V hW T ⟨Nat.le_refl _, fun i hi => absurd hi (by omega), fun i hi => absurd hi (by omega), by rw [n0]; rfl⟩
  · rw [if_neg (by rw [i_le, n_int (by omega), t_0]; omega), if_pos (show ix 0 48 = true by decide), if_pos (show ix 0 48 = true by decide), l_let, show (0 : Int32).toNatClampNeg = 0 from by decide, T.1 n0]
    have hm := am_mx hW n0 (Nat.le_refl n)
    have R := nd_root (W := wK K) n0
    obtain ⟨g, eg⟩ : ∃ g, g = hw m 24 0 (nI (am (wK K) 0 n)) := ⟨_, rfl⟩
    rw [← eg]
    have Fg : Fr [24] m g := by rw [eg]; exact Fr.rf.hw (by decide)
    have Vg : MV g n K f t := V.fr (by rw [Fg.1 0 (by decide)]) ⟨Fg.1 12 (by decide), Fg.1 6 (by decide), Fg.1 7 (by decide)⟩
    have Tg : TrM g n K t := T.fr fun k k1 k2 => Fg.1 k (by simp <;> omega)
    obtain ⟨m2, E, F2⟩ := m_looks1 (a := a) (b := b) (c0 := 1) (X0 := fun _ => am (wK K) 0 n) Vg hW Tg (by
      refine ⟨by omega, fun i hi => ?_, fun i hi => lkd_r n0, ?_⟩
      · have : i = 0 := by omega
        subst this
        rw [eg, hw_s]
        exact ⟨rfl, hm.2.1⟩
      · show 0 + uv (lu (wK K) n (lkd (wK K) n f t a b)) 0 (fun _ => am (wK K) 0 n) 0 = _
        unfold uv lu
        rw [if_neg (by omega), R.1, R.2.1, cnt_0]
        omega)
    exact ⟨m2, E, Fg.tr F2⟩
