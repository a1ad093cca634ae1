/-! the class's tree: telling above -/
theorem ins_skip {B K : Nat → Nat} {v r : Nat} (h : B v ≠ K r) : ins B K (v + 1) r = ins B K v r := by
  rw [ins_s]
  have : decide (B v = K r) = false := by rw [decide_eq_false_iff_not]; exact h
  rw [this, Bool.or_false]
theorem flt_cg {p q : Nat → Bool} {n : Nat} {o : Option Nat} (h : ∀ c, c < n → p c = q c) (ho : ∀ c, o = some c → c < n) : flt p o = flt q o := by
  cases o with
  | none => rfl
  | some c => simp only [flt, h c (ho c rfl)]
theorem rt_lt {W : Nat → Nat} {n : Nat} (hW : Wi W n) : ∀ c, rt W n = some c → c < n := by
  intro c q
  unfold rt at q
  split at q
  · rename_i n0
    cases q
    exact (am_mx hW n0 (Nat.le_refl n)).2.1
  · cases q
theorem lch_lt {W : Nat → Nat} {n : Nat} (hW : Wi W n) : ∀ x, x < n → ∀ c, lch W n x = some c → c < n := fun x hx c hc => by have := lch_s hW hx hc; omega
theorem rch_lt {W : Nat → Nat} {n : Nat} (hW : Wi W n) : ∀ x, x < n → ∀ c, rch W n x = some c → c < n := fun x hx c hc => (rch_s hW hx hc).2.2.1
theorem TrI.skip {h : hp_T} {v n : Nat} {K B : Nat → Nat} {t : Nat → Int32} (hW : Wi (wK K) n) (T : TrI h v n K B t) (hno : ∀ r, r < n → B v ≠ K r) : TrI h (v + 1) n K B t := by
  have e : ∀ c, c < n → ins B K (v + 1) c = ins B K v c := fun c hc => ins_skip (hno c hc)
  refine ⟨by rw [T.1, flt_cg e (rt_lt hW)], fun r hr hq => ?_⟩
  rw [flt_cg e (lch_lt hW r hr), flt_cg e (rch_lt hW r hr)]
  rw [e r hr] at hq
  exact T.2 r hr hq
abbrev TC : List Nat := [12, 14, 15, 16, 17, 18, 19, 20]
theorem c_build1 {h : hp_T} {n : Nat} {K B : Nat → Nat} {f t : Nat → Int32} {Kc : Int32 → hp_T → Option hp_T} (hB : BwS B) (hK : Ks n K) (V : CV h n K f t) (h6 : ∀ i, i < n → h.1 6 (K i) = nI i) (hT : ∀ k, k < 48 → (h.1 4 k = 0 ↔ ¬ ∃ r, r < n ∧ K r = k)) (h13 : ∀ i, i < 48 → h.1 13 i = nI (B i)) (h12 : h.1 12 9 = -1) :
    ∃ h2, f_X8_build_L1 Kc 100 0 h = Kc (nI 48) h2 ∧ Fr TC h h2 ∧ TrI h2 48 n K B t := by
  have hW := wK_i hB hK
  have key := loop_j (fun N (s : Int32 × hp_T) => f_X8_build_L1 Kc N s.1 s.2)
    (fun o => ∃ h2, o = Kc (nI 48) h2 ∧ Fr TC h h2 ∧ TrI h2 48 n K B t)
    (fun m s => ∃ v, m = 48 - v ∧ v ≤ 48 ∧ s.1 = nI v ∧ Fr TC h s.2 ∧ TrI s.2 v n K B t) ?_ 48 100 (0, h) (by omega)
    ⟨0, rfl, by omega, rfl, Fr.rf, by
      dsimp only
      rw [h12]
      cases rt (wK K) n with
      | none => rfl
      | some c => rw [flt_f rfl]; rfl, fun r hr hq => absurd hq (by show ¬ (false = true); exact nft)⟩
  · exact key
  rintro N m ⟨x, g⟩ ⟨v, rfl, hv, e1, hF, T⟩
  dsimp only at e1 hF T
  subst e1
  dsimp only
  rw [f_X8_build_L1]
  by_cases e : v = 48
  · left
    subst e
    rw [if_pos (by rw [i_le, n_int (by omega), t_48]; omega)]
    exact ⟨g, rfl, hF, T⟩
  right
  have om1 : 48 - (v + 1) < 48 - v := by omega
  have om2 : v + 1 ≤ 48 := by omega
  have hv' : v < 48 := by omega
  have bl := hB.1 v hv'
  rw [if_neg (by rw [i_le, n_int (by omega), t_48]; omega), if_pos (ix_n hv' (by omega)), n_cl (show v < 2147483648 by omega), hF.1 13 (by decide), h13 v hv', if_pos (ix_n bl (by omega)), n_cl (show B v < 2147483648 by omega), hF.1 4 (by decide)]
  by_cases th : h.1 4 (B v) = 0
  · rw [if_pos th, l_let, nI_1]
    have no := (hT (B v) bl).mp th
    exact ⟨48 - (v + 1), (nI (v + 1), g), om1, ⟨v + 1, rfl, om2, rfl, hF, T.skip hW (fun r hr q => no ⟨r, hr, q.symm⟩)⟩, rfl⟩
  · have ex : ∃ r, r < n ∧ K r = B v := Decidable.byContradiction fun q => th ((hT (B v) bl).mpr q)
    obtain ⟨r, r1, r2⟩ := ex
    obtain ⟨h2, E, F2, T2⟩ := c_hang (h := g) hB hK hv' r1 r2.symm (by rw [hF.1 6 (by decide)]; exact h6) (by rw [hF.1 3 (by decide)]; exact (V.2.2 r r1).2.2.2) T
    rw [if_neg th, if_pos (ix_n hv' (by omega)), ← r2, E, v_some, l_let, nI_1]
    exact ⟨48 - (v + 1), (nI (v + 1), h2), om1, ⟨v + 1, rfl, om2, rfl, hF.tr F2, T2⟩, rfl⟩
/-- those already told of, at v: of place v or more -/
def np (B K : Nat → Nat) (v c : Nat) : Bool := !(ins B K v c)
def TeI (h : hp_T) (v n : Nat) (K B : Nat → Nat) (t : Nat → Int32) : Prop := ∀ r, r < n →
  h.1 18 (K r) = nI (1 + oM (wK K) n (flt (np B K v) (lch (wK K) n r)) + oM (wK K) n (flt (np B K v) (rch (wK K) n r))) ∧
  h.1 19 (K r) = nI (1 + max (oH (wK K) n (flt (np B K v) (lch (wK K) n r))) (oH (wK K) n (flt (np B K v) (rch (wK K) n r)))) ∧
  (h.1 20 (K r)).toInt = max (t r).toInt (max (oE (wK K) n t (flt (np B K v) (lch (wK K) n r))) (oE (wK K) n t (flt (np B K v) (rch (wK K) n r))))
theorem TeI.cg {h : hp_T} {v n : Nat} {K B : Nat → Nat} {t : Nat → Int32} (hW : Wi (wK K) n) (T : TeI h (v + 1) n K B t) (e : ∀ x, x < n → flt (np B K v) (lch (wK K) n x) = flt (np B K (v + 1)) (lch (wK K) n x) ∧ flt (np B K v) (rch (wK K) n x) = flt (np B K (v + 1)) (rch (wK K) n x)) : TeI h v n K B t := by
  intro r hr
  rw [(e r hr).1, (e r hr).2]
  exact T r hr
theorem flt_dn {B K : Nat → Nat} {n v r : Nat} {o : Option Nat} (hK : Ks n K) (hr : r < n) (e : B v = K r) (ho : ∀ c, o = some c → c < n) (hne : o ≠ some r) : flt (np B K v) o = flt (np B K (v + 1)) o := by
  cases o with
  | none => rfl
  | some c =>
    have hc := ho c rfl
    have : np B K v c = np B K (v + 1) c := by
      unfold np
      rw [ins_skip (fun q => hne (by rw [hK.2.2 r c hr hc (by rw [← e, q])]))]
    simp only [flt, this]
theorem sub_le {W : Nat → Nat} {n r : Nat} (hW : Wi W n) (hr : r < n) (p : Nat → Bool) : 1 + oM W n (flt p (lch W n r)) + oM W n (flt p (rch W n r)) ≤ n ∧ 1 + max (oH W n (flt p (lch W n r))) (oH W n (flt p (rch W n r))) ≤ n := by
  have h1 := nM_rec hW hr
  have h2 := nH_rec hW hr
  have h3 := nH_le hW hr
  obtain ⟨j1, j2, j3, j4, -, -⟩ := nd_at hW hr
  have m : ∀ o, oM W n (flt p o) ≤ oM W n o ∧ oH W n (flt p o) ≤ oH W n o := by
    intro o
    cases o with
    | none => exact ⟨Nat.le_refl _, Nat.le_refl _⟩
    | some c =>
      simp only [flt]
      split
      · exact ⟨Nat.le_refl _, Nat.le_refl _⟩
      · exact ⟨Nat.zero_le _, Nat.zero_le _⟩
  have a := m (lch W n r)
  have b := m (rch W n r)
  omega
theorem c_tell {h : hp_T} {a b : Nat} (ha : a < 48) (hb : b < 48) (hne : a ≠ b) : ∃ h2, f_X8_tellAbove (nI a) (nI b) h = some h2 ∧ Fr [18, 19, 20] h h2 ∧ h2.1 18 = upd (h.1 18) b (h.1 18 b + h.1 18 a) ∧ h2.1 19 = upd (h.1 19) b (mx (h.1 19 b) (h.1 19 a + 1)) ∧ h2.1 20 = upd (h.1 20) b (mx (h.1 20 b) (h.1 20 a)) := by
  unfold f_X8_tellAbove
  simp only [if_pos (ix_n ha (show 48 ≤ 1000 by omega)), if_pos (ix_n hb (show 48 ≤ 1000 by omega)), l_let, n_cl (show a < 2147483648 by omega), n_cl (show b < 2147483648 by omega)]
  refine ⟨_, rfl, ((Fr.rf.hw (by decide)).hw (by decide)).hw (by decide), by simp [hw, hwA], by simp [hw, hwA], by simp [hw, hwA]⟩
def pI : Nat → Int32
  | 0 => -1
  | v + 1 => nI v
theorem pI_s (v : Nat) : nI v + (-1) = pI v := by
  cases v with
  | zero => decide
  | succ v => rw [n_m1 (by omega)]; rfl
def DerT (h : hp_T) (n : Nat) (K : Nat → Nat) (t : Nat → Int32) : Prop :=
  h.1 12 9 = keyR K (rt (wK K) n) ∧ ∀ r, r < n → h.1 14 (K r) = keyR K (nP (wK K) n r) ∧ h.1 15 (K r) = keyR K (lch (wK K) n r) ∧ h.1 16 (K r) = keyR K (rch (wK K) n r) ∧ h.1 17 (K r) = nI (nD (wK K) n r) ∧ h.1 18 (K r) = nI (nB (wK K) n r - nA (wK K) n r) ∧ h.1 19 (K r) = nI (nH (wK K) n r) ∧ (h.1 20 (K r)).toInt = fe t (nA (wK K) n r) (nB (wK K) n r)
/-- one more told of -/
theorem tell_step {h : hp_T} {n v r : Nat} {K B : Nat → Nat} {t : Nat → Int32} (hB : BwS B) (hK : Ks n K) (hv : v < 48) (hr : r < n) (e : B v = K r) (T : TeI h (v + 1) n K B t) {g0 : Nat} (g1 : g0 < n) (p1 : nP (wK K) n r = some g0) (p2 : lch (wK K) n g0 = some r ∨ rch (wK K) n g0 = some r) :
    ∃ h2, f_X8_tellAbove (nI (K r)) (nI (K g0)) h = some h2 ∧ Fr [18, 19, 20] h h2 ∧ TeI h2 v n K B t := by
  have hW := wK_i hB hK
  have hn := hK.1
  have gr : g0 ≠ r := by
    rcases p2 with q | q
    · have := (lch_s hW g1 q).2.1; omega
    · have := (rch_s hW g1 q).1; omega
  have kne : K r ≠ K g0 := fun q => gr (hK.2.2 r g0 hr g1 q).symm
  obtain ⟨h2, E, F, c18, c19, c20⟩ := c_tell (h := h) (hK.2.1 r hr) (hK.2.1 g0 g1) kne
  refine ⟨h2, E, F, fun x hx => ?_⟩
  have low : ∀ c, c < n → wK K c < wK K r → np B K (v + 1) c = true := by
    intro c hc hw
    unfold np
    rw [ins_skip (fun q => by unfold wK at hw; rw [← q, e] at hw; omega)]
    cases q : ins B K v c with
    | false => rfl
    | true => rw [ins_w hB hK hv hr hc e] at q; omega
  have full : flt (np B K (v + 1)) (lch (wK K) n r) = lch (wK K) n r ∧ flt (np B K (v + 1)) (rch (wK K) n r) = rch (wK K) n r := by
    constructor
    · cases q : lch (wK K) n r with
      | none => rfl
      | some c => exact flt_t (low c (lch_lt hW r hr c q) (lch_s hW hr q).2.2.2)
    · cases q : rch (wK K) n r with
      | none => rfl
      | some c => exact flt_t (low c (rch_lt hW r hr c q) (rch_s hW hr q).2.2.2.2)
  obtain ⟨r18, r19, r20⟩ := T r hr
  rw [full.1, full.2, ← nM_rec hW hr] at r18
  rw [full.1, full.2, ← nH_rec hW hr] at r19
  rw [full.1, full.2, ← nE_rec hW hr] at r20
  have nin : np B K (v + 1) r = false := by unfold np; rw [ins_s, e]; simp
  have yes : np B K v r = true := by
    unfold np
    cases q : ins B K v r with
    | false => rfl
    | true => rw [ins_w hB hK hv hr hr e] at q; omega
  obtain ⟨t18, t19, t20⟩ := T x hx
  by_cases ex : x = g0
  · subst ex
    rw [c18, c19, c20, up_s, up_s, up_s, t18, t19, r18, r19]
    have b1 := sub_le hW hx (np B K (v + 1))
    have b2 := nH_le hW hr
    rw [nI_add, nI_1, mx_n (by omega) (by omega), mx_i, t20, r20]
    rcases p2 with q | q
    · have lr : rch (wK K) n x ≠ some r := fun q2 => by
        have a1 := (lch_s hW hx q).2.1
        have a2 := (rch_s hW hx q2).1
        omega
      rw [flt_dn hK hr e (rch_lt hW x hx) lr, q, flt_f nin, flt_t yes]
      generalize flt (np B K (v + 1)) (rch (wK K) n x) = z
      have hz := nE_rec (t := t) hW hr
      have lo : ∀ o, -2147483648 ≤ oE (wK K) n t o := fun o => by
        cases o with
        | none => exact Int.le_refl _
        | some c => exact fe_lo
      have lz := lo z
      have t0 := (i_rng (t x)).1
      show nI (1 + 0 + oM (wK K) n z + (nB (wK K) n r - nA (wK K) n r)) = nI (1 + (nB (wK K) n r - nA (wK K) n r) + oM (wK K) n z) ∧ nI (max (1 + max 0 (oH (wK K) n z)) (nH (wK K) n r + 1)) = nI (1 + max (nH (wK K) n r) (oH (wK K) n z)) ∧ max (max (t x).toInt (max (-2147483648) (oE (wK K) n t z))) (fe t (nA (wK K) n r) (nB (wK K) n r)) = max (t x).toInt (max (fe t (nA (wK K) n r) (nB (wK K) n r)) (oE (wK K) n t z))
      refine ⟨?_, ?_, by omega⟩
      · congr 1; omega
      · congr 1; omega
    · have lr : lch (wK K) n x ≠ some r := fun q2 => by
        have a1 := (rch_s hW hx q).1
        have a2 := (lch_s hW hx q2).2.1
        omega
      rw [flt_dn hK hr e (lch_lt hW x hx) lr, q, flt_f nin, flt_t yes]
      generalize flt (np B K (v + 1)) (lch (wK K) n x) = z
      have lo : ∀ o, -2147483648 ≤ oE (wK K) n t o := fun o => by
        cases o with
        | none => exact Int.le_refl _
        | some c => exact fe_lo
      have lz := lo z
      have t0 := (i_rng (t x)).1
      show nI (1 + oM (wK K) n z + 0 + (nB (wK K) n r - nA (wK K) n r)) = nI (1 + oM (wK K) n z + (nB (wK K) n r - nA (wK K) n r)) ∧ nI (max (1 + max (oH (wK K) n z) 0) (nH (wK K) n r + 1)) = nI (1 + max (oH (wK K) n z) (nH (wK K) n r)) ∧ max (max (t x).toInt (max (oE (wK K) n t z) (-2147483648))) (fe t (nA (wK K) n r) (nB (wK K) n r)) = max (t x).toInt (max (oE (wK K) n t z) (fe t (nA (wK K) n r) (nB (wK K) n r)))
      refine ⟨?_, ?_, by omega⟩
      · congr 1
      · congr 1; omega
  · have nk : K x ≠ K g0 := fun q => ex (hK.2.2 x g0 hx g1 q)
    have l1 : lch (wK K) n x ≠ some r := fun q2 => by
      have b2 := (lch_s hW hx q2).2.2.1.2.2.1
      rw [p1] at b2
      exact ex (Option.some.inj b2).symm
    have l2 : rch (wK K) n x ≠ some r := fun q2 => by
      have b2 := (rch_s hW hx q2).2.2.2.1.2.2.1
      rw [p1] at b2
      exact ex (Option.some.inj b2).symm
    rw [c18, c19, c20, up_n _ _ nk, up_n _ _ nk, up_n _ _ nk, flt_dn hK hr e (lch_lt hW x hx) l1, flt_dn hK hr e (rch_lt hW x hx) l2]
    exact ⟨t18, t19, t20⟩
theorem c_build2 {h : hp_T} {n : Nat} {K B : Nat → Nat} {t : Nat → Int32} (hB : BwS B) (hK : Ks n K) (hT : ∀ k, k < 48 → (h.1 4 k = 0 ↔ ¬ ∃ r, r < n ∧ K r = k)) (h13 : ∀ i, i < 48 → h.1 13 i = nI (B i)) (T : TrI h 48 n K B t) :
    ∃ h2, f_X8_build_L2 (fun (x26 : Int32) (h27 : hp_T) => some h27) 100 47 h = some h2 ∧ Fr [18, 19, 20] h h2 ∧ DerT h2 n K t := by
  have hW := wK_i hB hK
  have full : ∀ o, (∀ c, o = some c → c < n) → flt (ins B K 48) o = o := by
    intro o ho
    cases o with
    | none => rfl
    | some c => exact flt_t (ins_n hB hK (ho c rfl))
  have none48 : ∀ o, (∀ c, o = some c → c < n) → flt (np B K 48) o = none := by
    intro o ho
    cases o with
    | none => rfl
    | some c => exact flt_f (by unfold np; rw [ins_n hB hK (ho c rfl)]; rfl)
  have full0 : ∀ o, flt (np B K 0) o = o := by
    intro o
    cases o with
    | none => rfl
    | some c => exact flt_t rfl
  have key := loop_j (fun N (s : Int32 × hp_T) => f_X8_build_L2 (fun (x26 : Int32) (h27 : hp_T) => some h27) N s.1 s.2)
    (fun o => ∃ h2, o = some h2 ∧ Fr [18, 19, 20] h h2 ∧ DerT h2 n K t)
    (fun m s => ∃ v, m = v ∧ v ≤ 48 ∧ s.1 = pI v ∧ Fr [18, 19, 20] h s.2 ∧ TeI s.2 v n K B t) ?_ 48 100 (47, h) (by omega)
    ⟨48, rfl, by omega, rfl, Fr.rf, fun r hr => by
      dsimp only
      have q := T.2 r hr (ins_n hB hK hr)
      rw [none48 _ (lch_lt hW r hr), none48 _ (rch_lt hW r hr), q.2.2.2.2.1, q.2.2.2.2.2.1, q.2.2.2.2.2.2]
      have t0 := (i_rng (t r)).1
      refine ⟨rfl, rfl, ?_⟩
      show _ = max (t r).toInt (max (-2147483648) (-2147483648))
      omega⟩
  · exact key
  rintro N m ⟨x, g⟩ ⟨v, rfl, hv, e1, hF, Te⟩
  dsimp only at e1 hF Te
  subst e1
  dsimp only
  rw [f_X8_build_L2]
  cases m with
  | zero =>
    left
    rw [if_pos (show pI 0 < 0 from (by decide : (-1 : Int32) < 0))]
    refine ⟨g, rfl, hF, by rw [hF.1 12 (by decide), T.1, full _ (rt_lt hW)], fun r hr => ?_⟩
    have q := T.2 r hr (ins_n hB hK hr)
    have q2 := Te r hr
    rw [full0, full0, ← nM_rec hW hr, ← nH_rec hW hr, ← nE_rec hW hr] at q2
    rw [full _ (lch_lt hW r hr), full _ (rch_lt hW r hr)] at q
    rw [hF.1 14 (by decide), hF.1 15 (by decide), hF.1 16 (by decide), hF.1 17 (by decide)]
    exact ⟨q.1, q.2.1, q.2.2.1, q.2.2.2.1, q2.1, q2.2.1, q2.2.2⟩
  | succ v =>
    right
    show ∃ m' s', _ ∧ _ ∧ (if nI v < 0 then _ else _) = _
    have hv' : v < 48 := by omega
    have om2 : v ≤ 48 := by omega
    have om1 : v < v + 1 := by omega
    have bl := hB.1 v hv'
    rw [if_neg (by rw [i_lt, n_int (by omega), t_0]; omega)]
    change ∃ m' s', _ ∧ _ ∧ (if ix (nI v) 48 = true then o_let (g.1 13 (nI v).toNatClampNeg) _ else none) = _
    rw [if_pos (ix_n hv' (by omega)), n_cl (show v < 2147483648 by omega), hF.1 13 (by decide), h13 v hv', l_let, if_pos (ix_n bl (by omega)), n_cl (show B v < 2147483648 by omega), hF.1 4 (by decide)]
    by_cases th : h.1 4 (B v) = 0
    · have no := (hT (B v) bl).mp th
      rw [if_pos th, l_let]
      change ∃ m' s', _ ∧ _ ∧ f_X8_build_L2 _ N (nI v + (-1)) g = _
      rw [pI_s]
      have eq : ∀ c, c < n → np B K v c = np B K (v + 1) c := fun c hc => by unfold np; rw [ins_skip (fun q => no ⟨c, hc, q.symm⟩)]
      exact ⟨v, (pI v, g), om1, ⟨v, rfl, om2, rfl, hF, Te.cg hW (fun x hx => ⟨flt_cg eq (lch_lt hW x hx), flt_cg eq (rch_lt hW x hx)⟩)⟩, rfl⟩
    · have ex : ∃ r, r < n ∧ K r = B v := Decidable.byContradiction fun q => th ((hT (B v) bl).mpr q)
      obtain ⟨r, r1, r2⟩ := ex
      have q14 := (T.2 r r1 (ins_n hB hK r1)).1
      have kr := hK.2.1 r r1
      rw [if_neg th, if_pos (ix_n bl (by omega)), hF.1 14 (by decide), ← r2, q14]
      rcases nP_inv hW r1 with ⟨p1, p2⟩ | ⟨g0, g1, p1, p2⟩
      · rw [p1, keyR_n, if_pos rfl, l_let]
        change ∃ m' s', _ ∧ _ ∧ f_X8_build_L2 _ N (nI v + (-1)) g = _
        rw [pI_s]
        have l1 : ∀ x, x < n → lch (wK K) n x ≠ some r := fun x hx q => by have := (lch_s hW hx q).2.2.1.2.2.1; rw [p1] at this; cases this
        have l2 : ∀ x, x < n → rch (wK K) n x ≠ some r := fun x hx q => by have := (rch_s hW hx q).2.2.2.1.2.2.1; rw [p1] at this; cases this
        exact ⟨v, (pI v, g), om1, ⟨v, rfl, om2, rfl, hF, Te.cg hW (fun x hx => ⟨flt_dn hK r1 r2.symm (lch_lt hW x hx) (l1 x hx), flt_dn hK r1 r2.symm (rch_lt hW x hx) (l2 x hx)⟩)⟩, rfl⟩
      · obtain ⟨h2, E, F2, T2⟩ := tell_step hB hK hv' r1 r2.symm Te g1 p1 p2
        rw [p1, keyR_s, if_neg (km1 (hK.2.1 g0 g1)), if_pos (ix_n kr (by omega)), E, v_some, l_let]
        change ∃ m' s', _ ∧ _ ∧ f_X8_build_L2 _ N (nI v + (-1)) h2 = _
        rw [pI_s]
        exact ⟨v, (pI v, h2), om1, ⟨v, rfl, om2, rfl, hF.tr F2, T2⟩, rfl⟩
theorem tree_build {h : hp_T} {n : Nat} {K : Nat → Nat} {f t : Nat → Int32} (hb : BwF (h.1 13)) (hK : Ks n K) (V : CV h n K f t) (h6 : ∀ i, i < n → h.1 6 (K i) = nI i) (hT : ∀ k, k < 48 → (h.1 4 k = 0 ↔ ¬ ∃ r, r < n ∧ K r = k)) : ∃ h2, f_X8_build h = some h2 ∧ Fr TC h h2 ∧ DerT h2 n K t := by
  obtain ⟨B, b1, b2, b3⟩ := hb
  have hB : BwS B := ⟨fun i hi => (b1 i hi).2, b2, b3⟩
  unfold f_X8_build
  rw [l_let]
  obtain ⟨h0, e0⟩ : ∃ h0, h0 = hw h 12 9 (-1) := ⟨_, rfl⟩
  rw [← e0]
  have F0 : Fr TC h h0 := by rw [e0]; exact Fr.rf.hw (by decide)
  have V0 : CV h0 n K f t := V.fr fun k k1 k2 => F0.1 k (by simp <;> omega)
  obtain ⟨h1, E1, F1, T1⟩ := c_build1 (Kc := fun (x11 : Int32) (h12 : hp_T) => (f_X8_build_L2 (fun (x26 : Int32) (h27 : hp_T) => some h27) 100 (47 : Int32) h12)) hB hK V0 (by rw [F0.1 6 (by decide)]; exact h6) (by rw [F0.1 4 (by decide)]; exact hT) (by rw [F0.1 13 (by decide)]; exact fun i hi => (b1 i hi).1) (by rw [e0, hw_s])
  have F := F0.tr F1
  obtain ⟨h2, E2, F2, T2⟩ := c_build2 hB hK (by rw [F.1 4 (by decide)]; exact hT) (by rw [F.1 13 (by decide)]; exact fun i hi => (b1 i hi).1) T1
  rw [E1, E2]
  exact ⟨h2, rfl, F.tr (F2.mono (by decide)), T2⟩
