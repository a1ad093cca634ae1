/-! groups -/
def gs (f t : Nat → Int32) (r : Nat) : Bool := !(decide (f r < rc t r))
def gi (f t : Nat → Int32) (r : Nat) : Nat := cnt (gs f t) (r + 1) - 1
theorem gs_i {f t : Nat → Int32} {r : Nat} : gs f t r = true ↔ (rc t r).toInt ≤ (f r).toInt := by
  unfold gs
  simp only [Bool.not_eq_true', decide_eq_false_iff_not, i_lt]
  omega
theorem gs_0 {n : Nat} {f t : Nat → Int32} (Q : Sq n f t) (hn : 0 < n) : gs f t 0 = true := by
  rw [gs_i]
  have := Q.1 0 hn
  unfold vld at this
  have e : (rc t 0).toInt = -1000000000 := t_lo
  omega
theorem gc_pos {n : Nat} {f t : Nat → Int32} (Q : Sq n f t) (hn : 0 < n) {v : Nat} (hv : 0 < v) : 1 ≤ cnt (gs f t) v := cnt_pos hv (gs_0 Q hn)
theorem gi_t {f t : Nat → Int32} {v : Nat} (h : gs f t v = true) : gi f t v = cnt (gs f t) v := by unfold gi; rw [cnt_t h]; omega
theorem gi_f {f t : Nat → Int32} {v : Nat} (h : gs f t v = false) : gi f t v = cnt (gs f t) v - 1 := by unfold gi; rw [cnt_f h]
theorem gi_lt {n : Nat} {f t : Nat → Int32} (Q : Sq n f t) {r v : Nat} (hr : r < v) (hv : v ≤ n) : gi f t r < cnt (gs f t) v := by
  have h1 := gc_pos Q (show 0 < n by omega) (show 0 < r + 1 by omega)
  have h2 := cnt_mono (gs f t) (show r + 1 ≤ v by omega)
  unfold gi
  omega
theorem gi_le (f t : Nat → Int32) (r : Nat) : gi f t r ≤ r := by
  have := cnt_le (gs f t) (r + 1)
  unfold gi
  omega
def giB (f t : Nat → Int32) (g r : Nat) : Bool := decide (gi f t r = g)
theorem giB_i {f t : Nat → Int32} {g r : Nat} : giB f t g r = true ↔ gi f t r = g := by simp [giB]
def lkf (K : Nat → Nat) (f t : Nat → Int32) (g : Nat) : Nat → Nat
  | 0 => 48
  | v + 1 => if gi f t v = g then min (lkf K f t g v) (K v) else lkf K f t g v
theorem lkf_n {K : Nat → Nat} {f t : Nat → Int32} {g v : Nat} (h : ∀ r, r < v → gi f t r ≠ g) : lkf K f t g v = 48 := by
  induction v with
  | zero => rfl
  | succ v ih => unfold lkf; rw [if_neg (h v (by omega)), ih (fun r hr => h r (by omega))]
theorem lkf_le {K : Nat → Nat} {f t : Nat → Int32} {g v : Nat} : lkf K f t g v ≤ 48 := by
  induction v with
  | zero => exact Nat.le_refl _
  | succ v ih => unfold lkf; split <;> omega
theorem lkf_ex {K : Nat → Nat} {f t : Nat → Int32} {g v : Nat} (hK : ∀ i, i < v → K i < 48) {r : Nat} (hr : r < v) (e : gi f t r = g) : ∃ s, s < v ∧ gi f t s = g ∧ lkf K f t g v = K s := by
  induction v generalizing r with
  | zero => omega
  | succ v ih =>
    have hs : lkf K f t g (v + 1) = if gi f t v = g then min (lkf K f t g v) (K v) else lkf K f t g v := rfl
    by_cases c : ∃ r, r < v ∧ gi f t r = g
    · obtain ⟨r2, q1, q2⟩ := c
      obtain ⟨s, s1, s2, s3⟩ := ih (fun i hi => hK i (by omega)) q1 q2
      rw [hs]
      split
      · rename_i c2
        by_cases q : lkf K f t g v ≤ K v
        · exact ⟨s, by omega, s2, by omega⟩
        · exact ⟨v, by omega, c2, by omega⟩
      · exact ⟨s, by omega, s2, s3⟩
    · have : r = v := by
        apply Nat.le_antisymm (by omega)
        apply Nat.le_of_not_lt
        intro q
        exact c ⟨r, q, e⟩
      subst this
      rw [hs, if_pos e, lkf_n (fun z hz q => c ⟨z, hz, q⟩)]
      have := hK r (by omega)
      exact ⟨r, by omega, e, by omega⟩
theorem mn_n {a b : Nat} (ha : a < 2147483648) (hb : b < 2147483648) : mn (nI a) (nI b) = nI (min a b) := by
  rw [i_eq, mn_i, n_int ha, n_int hb, n_int (by omega)]
  omega
def GrI (h : hp_T) (v : Nat) (K : Nat → Nat) (f t : Nat → Int32) : Prop :=
  h.1 33 3 = nI (cnt (gs f t) v) ∧ (∀ r, r < v → h.1 34 (K r) = nI (gi f t r)) ∧ (∀ g, g < cnt (gs f t) v → h.1 35 g = nI (lkf K f t g v) ∧ h.1 36 g = nI (cnt (giB f t g) v))
theorem c_addMember {h : hp_T} {k g a b : Nat} (hk : k < 48) (hg : g < 48) (ha : a ≤ 48) (h35 : h.1 35 g = nI a) (h36 : h.1 36 g = nI b) : f_X2_addMember (nI k) (nI g) h = some (hw (hw (hw h 34 k (nI g)) 35 g (nI (min a k))) 36 g (nI (b + 1))) := by
  unfold f_X2_addMember
  rw [if_pos (ix_n hk (by omega)), l_let, if_pos (ix_n hg (by omega)), if_pos (ix_n hg (by omega)), l_let, if_pos (ix_n hg (by omega)), if_pos (ix_n hg (by omega)), l_let, n_cl (show k < 2147483648 by omega), n_cl (show g < 2147483648 by omega), hw_ne _ (z := 35) _ _ (by decide), h35, mn_n (by omega) (by omega), hw_ne _ (z := 36) _ _ (by decide), hw_ne _ (z := 36) _ _ (by decide), h36, nI_1]
theorem gr_in {h : hp_T} {n v : Nat} {K : Nat → Nat} {f t : Nat → Int32} (Q : Sq n f t) (hv : v < n) (hn : n ≤ 48) (hK : ∀ i, i < n → K i < 48) (hKi : ∀ i j, i < n → j < n → K i = K j → i = j) {a b c : Nat} (hc : c = cnt (gs f t) (v + 1)) (ha : a = lkf K f t (gi f t v) v) (hb : b = cnt (giB f t (gi f t v)) v) (h33 : h.1 33 3 = nI c) (h34 : ∀ r, r < v → h.1 34 (K r) = nI (gi f t r)) (h35 : ∀ g, g < c → g ≠ gi f t v → h.1 35 g = nI (lkf K f t g v) ∧ h.1 36 g = nI (cnt (giB f t g) v)) :
    GrI (hw (hw (hw h 34 (K v) (nI (gi f t v))) 35 (gi f t v) (nI (min a (K v)))) 36 (gi f t v) (nI (b + 1))) (v + 1) K f t := by
  refine ⟨by rw [hw_ne _ _ _ (by decide), hw_ne _ _ _ (by decide), hw_ne _ _ _ (by decide), h33, hc], fun r hr => ?_, fun g hg => ?_⟩
  · rw [hw_ne _ _ _ (by decide), hw_ne _ _ _ (by decide)]
    by_cases e : r = v
    · subst e; rw [hw_s]
    · rw [hw_n _ _ _ _ (Or.inr (fun q => e (hKi r v (by omega) hv q)))]
      exact h34 r (by omega)
  · rw [hw_ne _ (z := 35) _ _ (by decide)]
    have hs : lkf K f t g (v + 1) = if gi f t v = g then min (lkf K f t g v) (K v) else lkf K f t g v := rfl
    by_cases e : g = gi f t v
    · subst e
      rw [hw_s, hw_s, hs, if_pos rfl, ha, hb, cnt_t (giB_i.mpr rfl)]
      exact ⟨rfl, rfl⟩
    · have hq : giB f t g v = false := by simp [giB]; exact fun q => e (Eq.symm q)
      rw [hw_n _ _ _ _ (Or.inr e), hw_n _ _ _ _ (Or.inr e), hw_ne _ (z := 35) _ _ (by decide), hw_ne _ (z := 36) _ _ (by decide), hw_ne _ (z := 36) _ _ (by decide), hs, if_neg (fun q => e (Eq.symm q)), cnt_f hq]
      exact h35 g (by omega) e
theorem groups_build1 {h : hp_T} {n : Nat} {K : Nat → Nat} {f t : Nat → Int32} {Kc : Int32 → Int32 → hp_T → Option hp_T} (V : CV h n K f t) (Q : Sq n f t) (hKi : ∀ i j, i < n → j < n → K i = K j → i = j) (h33 : h.1 33 3 = 0) :
    ∃ h2, f_X2_build_L1 Kc 100 (-1000000000) 0 h = Kc (rc t n) (nI n) h2 ∧ Fr [33, 34, 35, 36] h h2 ∧ GrI h2 n K f t := by
  have hn := V.1
  have hK : ∀ i, i < n → K i < 48 := fun i hi => (V.2.2 i hi).2.1
  have key := loop_j (fun N (s : Int32 × Int32 × hp_T) => f_X2_build_L1 Kc N s.1 s.2.1 s.2.2)
    (fun o => ∃ h2, o = Kc (rc t n) (nI n) h2 ∧ Fr [33, 34, 35, 36] h h2 ∧ GrI h2 n K f t)
    (fun r s => ∃ v, r = n - v ∧ v ≤ n ∧ s.1 = rc t v ∧ s.2.1 = nI v ∧ Fr [33, 34, 35, 36] h s.2.2 ∧ GrI s.2.2 v K f t) ?_ n 100 (-1000000000, 0, h) (by omega)
    ⟨0, rfl, by omega, rfl, rfl, Fr.rf, by rw [h33, cnt_0]; rfl, fun r hr => absurd hr (by omega), fun g hg => absurd hg (by rw [cnt_0]; omega)⟩
  · exact key
  rintro N r ⟨x, y, g⟩ ⟨v, rfl, hv, e1, e2, hF, hG⟩
  dsimp only at e1 e2 hF hG
  subst e1; subst e2
  dsimp only
  have Vg : CV g n K f t := V.fr fun k k1 k2 => hF.1 k (by simp <;> omega)
  rw [f_X2_build_L1, Vg.2.1]
  by_cases e : v = n
  · left
    subst e
    rw [if_pos (by rw [i_le]; omega)]
    exact ⟨g, rfl, hF, hG⟩
  right
  obtain ⟨G1, G2, G3⟩ := hG
  obtain ⟨e1, e2, e3, e4⟩ := Vg.2.2 v (by omega)
  have hcl := cnt_le (gs f t) v
  have gl := gi_le f t v
  have lk := lkf_le (K := K) (f := f) (t := t) (g := gi f t v) (v := v)
  rw [if_neg (by rw [i_le, n_int (by omega), n_int (by omega)]; omega), if_pos (ix_n (show v < 48 by omega) (by omega)), n_cl (show v < 2147483648 by omega), l_let, e1, if_pos (ix_n e2 (by omega)), n_cl (show K v < 2147483648 by omega), e3, G1]
  cases hp : gs f t v with
  | false =>
    have q : f v < rc t v := by simpa [gs] using hp
    have v0 : 0 < v := by
      apply Nat.pos_of_ne_zero
      intro e0
      subst e0
      rw [gs_0 Q (by omega)] at hp
      cases hp
    have c1 := gc_pos Q (show 0 < n by omega) v0
    have eg := gi_f hp
    have g3 := G3 (gi f t v) (by omega)
    rw [if_pos q, n_pred c1, ← eg, c_addMember e2 (by omega) lk g3.1 g3.2, v_some, if_pos (ix_n e2 (by omega))]
    have I2 := gr_in (a := lkf K f t (gi f t v) v) (b := cnt (giB f t (gi f t v)) v) (c := cnt (gs f t) v) Q (show v < n by omega) hn hK hKi (by rw [cnt_f hp]) rfl rfl G1 G2 (fun z z1 _ => G3 z z1)
    rw [hw_ne _ (z := 3) _ _ (by decide), hw_ne _ (z := 3) _ _ (by decide), hw_ne _ (z := 3) _ _ (by decide), e4, l_let, l_let, nI_1 v]
    exact ⟨n - (v + 1), (rc t (v + 1), nI (v + 1), _), by omega, ⟨v + 1, rfl, by omega, rfl, rfl, ((hF.hw (by decide)).hw (by decide)).hw (by decide), I2⟩, rfl⟩
  | true =>
    have q : ¬ f v < rc t v := by simpa [gs] using hp
    have eg := gi_t hp
    have c48 : cnt (gs f t) v < 48 := by omega
    rw [if_neg q, if_pos (ix_n c48 (by omega)), l_let, n_cl (show cnt (gs f t) v < 2147483648 by omega), hw_ne _ (z := 33) _ _ (by decide), G1, if_pos (ix_n c48 (by omega)), l_let, n_cl (show cnt (gs f t) v < 2147483648 by omega), l_let, hw_s, hw_ne _ (z := 33) _ _ (by decide), hw_ne _ (z := 33) _ _ (by decide), G1, nI_1, n_pred (by omega), show cnt (gs f t) v + 1 - 1 = cnt (gs f t) v by omega, ← eg]
    obtain ⟨g2, eg2⟩ : ∃ g2, g2 = hw (hw (hw g 35 (gi f t v) (nI (K v))) 36 (gi f t v) 0) 33 3 (nI (gi f t v + 1)) := ⟨_, rfl⟩
    rw [← eg2]
    have k33 : g2.1 33 3 = nI (cnt (gs f t) v + 1) := by rw [eg2, hw_s, eg]
    have k34 : g2.1 34 = g.1 34 := by rw [eg2, hw_ne _ _ _ (by decide), hw_ne _ _ _ (by decide), hw_ne _ _ _ (by decide)]
    have k35 : g2.1 35 = upd (g.1 35) (gi f t v) (nI (K v)) := by rw [eg2, hw_ne _ _ _ (by decide), hw_ne _ _ _ (by decide), hw_at]
    have k36 : g2.1 36 = upd (g.1 36) (gi f t v) 0 := by rw [eg2, hw_ne _ _ _ (by decide), hw_at, hw_ne _ _ _ (by decide)]
    have k3 : g2.1 3 = g.1 3 := by rw [eg2, hw_ne _ _ _ (by decide), hw_ne _ _ _ (by decide), hw_ne _ _ _ (by decide)]
    have kF : Fr [33, 34, 35, 36] h g2 := by rw [eg2]; exact ((hF.hw (by decide)).hw (by decide)).hw (by decide)
    have nw : ∀ r, r < v → gi f t r ≠ gi f t v := fun r hr q => by have := gi_lt Q hr hv; omega
    have lz : lkf K f t (gi f t v) v = 48 := lkf_n nw
    have cz : cnt (giB f t (gi f t v)) v = 0 := by
      rw [cnt_tail (a := 0) (by omega) (fun i _ hi => ?_), cnt_0]
      simp [giB, nw i hi]
    rw [c_addMember (a := K v) (b := 0) e2 (by omega) (by omega) (by rw [k35, up_s]) (by rw [k36, up_s]; rfl), v_some, if_pos (ix_n e2 (by omega))]
    have I2 := gr_in (h := g2) (a := 48) (b := 0) (c := cnt (gs f t) v + 1) Q (show v < n by omega) hn hK hKi (by rw [cnt_t hp]) lz.symm cz.symm k33 (by rw [k34]; exact G2) (fun z z1 z2 => by rw [k35, k36, up_n _ _ z2, up_n _ _ z2]; exact G3 z (by omega))
    rw [show min 48 (K v) = min (K v) (K v) by omega] at I2
    rw [hw_ne _ (z := 3) _ _ (by decide), hw_ne _ (z := 3) _ _ (by decide), hw_ne _ (z := 3) _ _ (by decide), k3, e4, l_let, l_let, nI_1 v]
    exact ⟨n - (v + 1), (rc t (v + 1), nI (v + 1), _), by omega, ⟨v + 1, rfl, by omega, rfl, rfl, ((kF.hw (by decide)).hw (by decide)).hw (by decide), I2⟩, rfl⟩
/-! alone -/
theorem cnt_1 {p : Nat → Bool} {n r : Nat} (hr : r < n) (h : p r = true) : cnt p n = 1 ↔ ∀ s, s < n → s ≠ r → p s = false := by
  constructor
  · intro hc s hs hne
    cases hq : p s with
    | false => rfl
    | true =>
      exfalso
      rcases Nat.lt_or_gt_of_ne hne with c | c
      · have h1 := cnt_pos (p := p) (n := r) c hq
        have h2 := cnt_mono p (show r + 1 ≤ n by omega)
        rw [cnt_t h] at h2
        omega
      · have h1 := cnt_pos (p := p) (n := s) c h
        have h2 := cnt_mono p (show s + 1 ≤ n by omega)
        rw [cnt_t hq] at h2
        omega
  · intro ha
    have := cnt_iv (p := p) (a := r) (b := r + 1) (n := n) (by omega) (fun k hk => by
      constructor
      · intro q
        have : k = r := by
          apply Decidable.byContradiction
          intro ne
          rw [ha k hk ne] at q
          cases q
        omega
      · intro q
        have : k = r := by omega
        rw [this]; exact h)
    omega
theorem rc_ex {n : Nat} {f t : Nat → Int32} (Q : Sq n f t) {r : Nat} (hr : r ≤ n) {x : Int32} (hx : -1000000000 ≤ x.toInt) (h : x.toInt < (rc t r).toInt) : ∃ i, i < r ∧ x.toInt < (t i).toInt := by
  induction r with
  | zero =>
    have e : (rc t 0).toInt = -1000000000 := t_lo
    omega
  | succ r ih =>
    rw [rc_s] at h
    by_cases c : x.toInt < (t r).toInt
    · exact ⟨r, by omega, c⟩
    · obtain ⟨i, i1, i2⟩ := ih (by omega) (by omega)
      exact ⟨i, by omega, i2⟩
/-- none between starts: one group -/
theorem gi_same {f t : Nat → Int32} {r s : Nat} (h : r ≤ s) (hn : ∀ j, r < j → j ≤ s → gs f t j = false) : gi f t s = gi f t r := by
  induction s with
  | zero => have : r = 0 := by omega
            subst this; rfl
  | succ s ih =>
    rcases Nat.eq_or_lt_of_le h with e | e
    · rw [e]
    · have := ih (by omega) (fun j a b => hn j a (by omega))
      rw [← this]
      unfold gi
      rw [cnt_f (hn (s + 1) (by omega) (by omega))]
theorem gi_ns {n : Nat} {f t : Nat → Int32} (Q : Sq n f t) {r s : Nat} (h : r < s) (hs : s < n) (e : gi f t s = gi f t r) {j : Nat} (h1 : r < j) (h2 : j ≤ s) : gs f t j = false := by
  cases hq : gs f t j with
  | false => rfl
  | true =>
    exfalso
    have a1 := gc_pos Q (show 0 < n by omega) (show 0 < r + 1 by omega)
    have a2 := cnt_mono (gs f t) (show r + 1 ≤ j by omega)
    have a3 := cnt_mono (gs f t) (show j + 1 ≤ s + 1 by omega)
    rw [cnt_t hq] at a3
    unfold gi at e
    omega
theorem met_gi {n : Nat} {f t : Nat → Int32} (Q : Sq n f t) {r s : Nat} (h : r < s) (hs : s < n) (hm : (f s).toInt < (t r).toInt) : gi f t s = gi f t r := gi_same (by omega) fun j a b => by
  cases hq : gs f t j with
  | false => rfl
  | true =>
    rw [gs_i] at hq
    have a1 := rc_ge (t := t) a
    have a2 := Q.2 j s b hs
    omega
def alB (n : Nat) (f t : Nat → Int32) (r : Nat) : Bool := decide (cnt (metB f t (f r) (t r)) n = 1)
theorem al_iff {n : Nat} {f t : Nat → Int32} (Q : Sq n f t) {r : Nat} (hr : r < n) : cnt (giB f t (gi f t r)) n = 1 ↔ cnt (metB f t (f r) (t r)) n = 1 := by
  have Qr := Q.1 r hr
  unfold vld at Qr
  rw [cnt_1 hr (giB_i.mpr rfl), cnt_1 hr (by rw [metB_i]; omega)]
  constructor
  · intro H s hs hne
    cases hq : metB f t (f r) (t r) s with
    | false => rfl
    | true =>
      rw [metB_i] at hq
      have h2 := H s hs hne
      have e : gi f t s = gi f t r := by
        rcases Nat.lt_or_gt_of_ne hne with c | c
        · exact (met_gi Q c hr hq.2).symm
        · exact met_gi Q c hs hq.1
      rw [giB_i.mpr e] at h2
      cases h2
  · intro H s hs hne
    cases hq : giB f t (gi f t r) s with
    | false => rfl
    | true =>
      rw [giB_i] at hq
      have bad : ∀ z, z < n → z ≠ r → (f z).toInt < (t r).toInt → (f r).toInt < (t z).toInt → False := by
        intro z z1 z2 z3 z4
        have := H z z1 z2
        rw [metB_i.mpr ⟨z3, z4⟩] at this
        cases this
      exfalso
      rcases Nat.lt_or_gt_of_ne hne with c | c
      · have ns := gi_ns Q c hr hq.symm c (Nat.le_refl _)
        have : f r < rc t r := by simpa [gs] using ns
        rw [i_lt] at this
        obtain ⟨i, i1, i2⟩ := rc_ex Q (show r ≤ n by omega) (show -1000000000 ≤ (f r).toInt by omega) this
        have := Q.2 i r (by omega) hr
        exact bad i (by omega) (by omega) (by omega) i2
      · have ns := gi_ns Q c hs hq (show r < r + 1 by omega) (by omega)
        have q : f (r + 1) < rc t (r + 1) := by simpa [gs] using ns
        rw [i_lt] at q
        have Q1 := Q.1 (r + 1) (by omega)
        unfold vld at Q1
        have Q2 := Q.2 r (r + 1) (by omega) (by omega)
        obtain ⟨i, i1, i2⟩ := rc_ex Q (show r + 1 ≤ n by omega) (show -1000000000 ≤ (f (r + 1)).toInt by omega) q
        by_cases e : i = r
        · subst e
          exact bad (i + 1) (by omega) (by omega) (by omega) (by omega)
        · have := Q.2 i r (by omega) hr
          exact bad i (by omega) e (by omega) (by omega)
def bt (x : Int64) (i : Nat) : Bool := x.toBitVec.getLsbD i
theorem sh_b : ∀ k : Fin 48, ((1 : Int64) <<< ((nI k.val).toInt64 &&& 63)).toBitVec = (1#64) <<< k.val := by decide
theorem bt_or {x : Int64} {k i : Nat} (hk : k < 48) (hi : i < 64) : bt (x ||| ((1 : Int64) <<< ((nI k).toInt64 &&& 63))) i = (bt x i || decide (i = k)) := by
  unfold bt
  rw [Int64.toBitVec_or, BitVec.getLsbD_or, sh_b ⟨k, hk⟩]
  congr 1
  rw [BitVec.getLsbD_shiftLeft, BitVec.getLsbD_one]
  by_cases e : i = k
  · subst e; simp [hi]
  · by_cases c : i < k
    · simp [c, e]
    · simp [hi, c, e, show ¬ (i - k = 0) by omega]
theorem bt_ext {x y : Int64} (h : ∀ i, i < 64 → bt x i = bt y i) : x = y := by
  apply Int64.toBitVec_inj.mp
  apply BitVec.eq_of_getLsbD_eq
  intro i hi
  exact h i hi
theorem bt_0 {i : Nat} : bt 0 i = false := by
  unfold bt
  show (0#64).getLsbD i = false
  simp
theorem or_0 {x : Int64} : x ||| 0 = x := bt_ext fun i _ => by
  unfold bt
  rw [Int64.toBitVec_or, BitVec.getLsbD_or]
  have : (0 : Int64).toBitVec.getLsbD i = false := bt_0
  rw [this, Bool.or_false]
def DerA (x : Int64) (n : Nat) (K : Nat → Nat) (f t : Nat → Int32) : Prop := ∀ i, i < 64 → (bt x i = true ↔ ∃ r, r < n ∧ K r = i ∧ alB n f t r = true)
theorem DerA.eq {x y : Int64} {n : Nat} {K : Nat → Nat} {f t : Nat → Int32} (h1 : DerA x n K f t) (h2 : DerA y n K f t) : x = y := bt_ext fun i hi => b_ext ((h1 i hi).trans (h2 i hi).symm)
theorem c_seeAlone {h : hp_T} {n : Nat} {K : Nat → Nat} {f t : Nat → Int32} (Q : Sq n f t) (hn : n ≤ 48) (hKi : ∀ i j, i < n → j < n → K i = K j → i = j) (hT : ∀ k, k < 48 → (h.1 4 k = 0 ↔ ¬ ∃ r, r < n ∧ K r = k)) (hK : ∀ i, i < n → K i < 48) (G : GrI h n K f t) :
    ∃ x, f_X2_seeAlone h = some (h.1, x) ∧ DerA x n K f t := by
  unfold f_X2_seeAlone
  rw [l_let]
  have key := loop_j (fun N (s : Int32 × hp_T) => f_X2_seeAlone_L1 (fun (x12 : Int32) (h13 : hp_T) => some h13) N s.1 s.2)
    (fun o => ∃ x, o = some (h.1, x) ∧ DerA x n K f t)
    (fun r s => ∃ v, r = 48 - v ∧ v ≤ 48 ∧ s.1 = nI v ∧ s.2.1 = h.1 ∧ ∀ i, i < 64 → (bt s.2.2 i = true ↔ i < v ∧ ∃ r, r < n ∧ K r = i ∧ alB n f t r = true)) ?_ 48 100 (0, hwL h 0) (by omega)
    ⟨0, rfl, by omega, rfl, rfl, fun i _ => ⟨fun q => absurd (show bt 0 i = true from q) (by rw [bt_0]; exact nft), fun q => absurd q.1 (by omega)⟩⟩
  · exact key
  rintro N r ⟨y, g⟩ ⟨v, rfl, hv, e1, e2, hb⟩
  dsimp only at e1 e2 hb
  subst e1
  dsimp only
  rw [f_X2_seeAlone_L1, e2]
  by_cases e : v = 48
  · left
    subst e
    rw [if_pos (by rw [i_le, n_int (by omega), t_48]; omega)]
    refine ⟨g.2, by rw [← e2], fun i hi => ?_⟩
    rw [hb i hi]
    constructor
    · intro q; exact q.2
    · rintro ⟨r, r1, r2, r3⟩
      exact ⟨by have := hK r r1; omega, r, r1, r2, r3⟩
  right
  have om1 : 48 - (v + 1) < 48 - v := by omega
  have om2 : v + 1 ≤ 48 := by omega
  have step0 : ¬ (∃ r, r < n ∧ K r = v ∧ alB n f t r = true) → ∀ i, i < 64 → (bt g.2 i = true ↔ i < v + 1 ∧ ∃ r, r < n ∧ K r = i ∧ alB n f t r = true) := by
    intro no i hi
    rw [hb i hi]
    constructor
    · rintro ⟨q1, q2⟩; exact ⟨by omega, q2⟩
    · rintro ⟨q1, q2⟩
      refine ⟨?_, q2⟩
      apply Nat.lt_of_le_of_ne (by omega)
      intro ei
      subst ei
      exact no q2
  rw [if_neg (by rw [i_le, n_int (by omega), t_48]; omega), if_pos (ix_n (show v < 48 by omega) (by omega)), n_cl (show v < 2147483648 by omega)]
  by_cases th : h.1 4 v = 0
  · rw [if_pos th, l_let, nI_1]
    have no := (hT v (by omega)).mp th
    exact ⟨48 - (v + 1), (nI (v + 1), g), by omega, ⟨v + 1, rfl, by omega, rfl, e2, step0 (fun ⟨r, r1, r2, _⟩ => no ⟨r, r1, r2⟩)⟩, rfl⟩
  · have ex : ∃ r, r < n ∧ K r = v := Decidable.byContradiction fun q => th ((hT v (by omega)).mpr q)
    obtain ⟨r, r1, r2⟩ := ex
    have gl := gi_le f t r
    have hg := gi_lt Q r1 (Nat.le_refl n)
    have h34 := G.2.1 r r1
    rw [r2] at h34
    have h36 := (G.2.2 _ hg).2
    have ci := cnt_le (giB f t (gi f t r)) n
    rw [if_neg th, if_pos (ix_n (show v < 48 by omega) (by omega)), h34, if_pos (ix_n (show gi f t r < 48 by omega) (by omega)), n_cl (show gi f t r < 2147483648 by omega), h36]
    have al := al_iff Q r1
    by_cases c : cnt (giB f t (gi f t r)) n = 1
    · rw [c, if_pos (show nI 1 = 1 from rfl), l_let, l_let, nI_1]
      refine ⟨48 - (v + 1), (nI (v + 1), hwL g (g.2 ||| ((1 : Int64) <<< ((nI v).toInt64 &&& 63)))), by omega, ⟨v + 1, rfl, by omega, rfl, e2, fun i hi => ?_⟩, rfl⟩
      show bt (g.2 ||| ((1 : Int64) <<< ((nI v).toInt64 &&& 63))) i = true ↔ _
      rw [bt_or (by omega) hi, Bool.or_eq_true, hb i hi, decide_eq_true_eq]
      constructor
      · rintro (⟨q1, q2⟩ | q)
        · exact ⟨by omega, q2⟩
        · subst q
          exact ⟨by omega, r, r1, r2, by unfold alB; rw [decide_eq_true_eq]; exact al.mp c⟩
      · rintro ⟨q1, q2⟩
        by_cases ei : i = v
        · exact Or.inr ei
        · exact Or.inl ⟨by omega, q2⟩
    · rw [if_neg (fun q => c (n_inj (by omega) (by omega) (q.trans (show (1 : Int32) = nI 1 from rfl)))), l_let, nI_1]
      refine ⟨48 - (v + 1), (nI (v + 1), g), om1, ⟨v + 1, rfl, om2, rfl, e2, step0 ?_⟩, rfl⟩
      rintro ⟨s, s1, s2, s3⟩
      have : s = r := hKi s r s1 r1 (by rw [s2, r2])
      subst this
      unfold alB at s3
      rw [decide_eq_true_eq] at s3
      exact c (al.mpr s3)
def DerM (h : hp_T) (n : Nat) (K : Nat → Nat) (f t : Nat → Int32) : Prop := GrI h n K f t ∧ DerA h.2 n K f t
theorem groups_build {h : hp_T} {n : Nat} {K : Nat → Nat} {f t : Nat → Int32} (V : CV h n K f t) (Q : Sq n f t) (hKi : ∀ i j, i < n → j < n → K i = K j → i = j) (hT : ∀ k, k < 48 → (h.1 4 k = 0 ↔ ¬ ∃ r, r < n ∧ K r = k)) : ∃ h2, f_X2_build h = some h2 ∧ (∀ k, k ∉ [33, 34, 35, 36] → h2.1 k = h.1 k) ∧ DerM h2 n K f t := by
  have hn := V.1
  have hK : ∀ i, i < n → K i < 48 := fun i hi => (V.2.2 i hi).2.1
  unfold f_X2_build
  rw [l_let]
  obtain ⟨h0, e0⟩ : ∃ h0, h0 = hw h 33 3 0 := ⟨_, rfl⟩
  rw [← e0]
  have F0 : Fr [33, 34, 35, 36] h h0 := by rw [e0]; exact Fr.rf.hw (by decide)
  have V0 : CV h0 n K f t := V.fr fun k k1 k2 => F0.1 k (by simp <;> omega)
  obtain ⟨h2, E, F2, G⟩ := groups_build1 (Kc := fun (x22 : Int32) (x23 : Int32) (h24 : hp_T) => o_cv (f_X2_seeAlone h24) fun (h25 : hp_T) => some h25) V0 Q hKi (by rw [e0, hw_s])
  have F := F0.tr F2
  obtain ⟨x, E3, A⟩ := c_seeAlone (h := h2) Q hn hKi (by rw [F.1 4 (by decide)]; exact hT) hK G
  rw [E, E3, v_some]
  exact ⟨(h2.1, x), rfl, F.1, G, A⟩
