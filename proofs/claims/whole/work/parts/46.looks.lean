/-! looks -/
theorem nd_sub {W : Nat → Nat} {n : Nat} (hW : Wi W n) {S : Nat → Prop} (hL : ∀ g c, g < n → S g → (lch W n g = some c ∨ rch W n g = some c) → S c) : ∀ k g, nB W n g - nA W n g ≤ k → g < n → S g → ∀ r, nA W n g ≤ r → r < nB W n g → S r := by
  intro k
  induction k with
  | zero =>
    intro g h1 hg hS r h2 h3
    omega
  | succ k ih =>
    intro g h1 hg hS r h2 h3
    obtain ⟨j1, j2, j3, j4, -, -⟩ := nd_at hW hg
    rcases Nat.lt_trichotomy r g with c | c | c
    · have hl := nd_L hW hg (by omega)
      obtain ⟨i1, i2, i3⟩ := am_mx hW (show nA W n g < g by omega) (by omega)
      exact ih _ (by rw [hl.1, hl.2.1]; omega) (by omega) (hL g _ hg hS (Or.inl (by unfold lch; rw [if_pos (by omega)]))) r (by rw [hl.1]; exact h2) (by rw [hl.2.1]; exact c)
    · rw [c]; exact hS
    · have hl := nd_R hW hg (by omega)
      obtain ⟨i1, i2, i3⟩ := am_mx hW (show g + 1 < nB W n g by omega) j4
      exact ih _ (by rw [hl.1, hl.2.1]; omega) (by omega) (hL g _ hg hS (Or.inr (by unfold rch; rw [if_pos (by omega)]))) r (by rw [hl.1]; omega) (by rw [hl.2.1]; exact h3)
def cnd (W : Nat → Nat) (n : Nat) (f t : Nat → Int32) (a b : Int32) (g c : Nat) : Bool := decide (a.toInt < fe t (nA W n c) (nB W n c)) && (decide (c < g) || !(decide (b ≤ f g)))
def lkF (W : Nat → Nat) (n : Nat) (f t : Nat → Int32) (a b : Int32) : Nat → Nat → Bool
  | 0, _ => true
  | d + 1, r => match nP W n r with
    | some g => lkF W n f t a b d g && cnd W n f t a b g r
    | none => true
def lkd (W : Nat → Nat) (n : Nat) (f t : Nat → Int32) (a b : Int32) (r : Nat) : Bool := lkF W n f t a b (nD W n r) r
theorem lkd_r {W : Nat → Nat} {n : Nat} {f t : Nat → Int32} {a b : Int32} (n0 : 0 < n) : lkd W n f t a b (am W 0 n) = true := by
  unfold lkd
  rw [(nd_root n0).2.2.2]
  rfl
theorem lkd_c {W : Nat → Nat} {n : Nat} {f t : Nat → Int32} {a b : Int32} {g c : Nat} (hW : Wi W n) (hg : g < n) (h : lch W n g = some c ∨ rch W n g = some c) : lkd W n f t a b c = (lkd W n f t a b g && cnd W n f t a b g c) := by
  have I : nP W n c = some g ∧ nD W n c = nD W n g + 1 := by
    rcases h with h | h
    · have := (lch_s hW hg h).2.2.1; exact ⟨this.2.2.1, this.2.2.2⟩
    · have := (rch_s hW hg h).2.2.2.1; exact ⟨this.2.2.1, this.2.2.2⟩
  unfold lkd
  rw [I.2]
  conv => lhs; unfold lkF
  rw [I.1]
/-! the class -/
def LkI (h : hp_T) (v n : Nat) (K B : Nat → Nat) (F : Nat → Bool) : Prop := ∀ r, r < n → ins B K v r = true → h.1 21 (K r) = if F r = true then 1 else 0
theorem c_looksAt {h : hp_T} {n v r : Nat} {K B : Nat → Nat} {f t : Nat → Int32} {a b : Int32} (hB : BwS B) (hK : Ks n K) (V : CV h n K f t) (D : DerT h n K t) (hv : v < 48) (hr : r < n) (e : B v = K r) (L : LkI h v n K B (lkd (wK K) n f t a b)) : f_X8_looksAt (nI (K r)) a b h = some ((if lkd (wK K) n f t a b r = true then 1 else 0), h) := by
  have hW := wK_i hB hK
  have kr := hK.2.1 r hr
  obtain ⟨d1, d2, d3, d4, d5, d6, d7⟩ := D.2 r hr
  unfold f_X8_looksAt
  rw [if_pos (ix_n kr (by omega)), l_let, n_cl (show K r < 2147483648 by omega), d1]
  rcases nP_inv hW hr with ⟨p1, p2⟩ | ⟨g, g1, p1, p2⟩
  · rw [p1, keyR_n, if_pos rfl]
    have : lkd (wK K) n f t a b r = true := by rw [p2]; exact lkd_r (by omega)
    rw [this, if_pos ptt]
  · have kg := hK.2.1 g g1
    have wl : wK K r < wK K g := by
      rcases p2 with q | q
      · exact (lch_s hW g1 q).2.2.2
      · exact (rch_s hW g1 q).2.2.2.2
    have lg := L g g1 ((ins_w hB hK hv hr g1 e).mpr wl)
    obtain ⟨c1, c2, c3, c4, c5, c6, c7⟩ := D.2 g g1
    rw [p1, keyR_s, if_neg (km1 kg), if_pos (ix_n kg (by omega)), n_cl (show K g < 2147483648 by omega), lg, lkd_c hW g1 p2]
    cases hf : lkd (wK K) n f t a b g with
    | false => rw [if_neg nft, if_pos p00]; rfl
    | true =>
      rw [if_pos ptt, if_neg n10, if_pos (ix_n kr (by omega)), Bool.true_and]
      unfold cnd
      by_cases q : a.toInt < fe t (nA (wK K) n r) (nB (wK K) n r)
      · rw [if_pos (by rw [i_lt, d7]; exact q), if_pos (ix_n kg (by omega)), c2]
        rcases p2 with l | l
        · have := (lch_s hW g1 l).2.1
          rw [l, keyR_s, if_pos rfl]
          simp [q, this]
        · have gr := (rch_s hW g1 l).1
          have ne : ¬ keyR K (lch (wK K) n g) = nI (K r) := by
            cases hl : lch (wK K) n g with
            | none => rw [keyR_n]; exact fun z => km1 kr z.symm
            | some c =>
              rw [keyR_s]
              intro z
              have lc := lch_s hW g1 hl
              have := hK.2.2 c r (by omega) hr (n_inj (by have := hK.2.1 c (by omega); omega) (by omega) z)
              omega
          rw [if_neg ne, if_pos (ix_n kg (by omega)), (V.2.2 g g1).2.2.1]
          by_cases q2 : b ≤ f g
          · rw [if_pos q2]; simp [q2, show ¬ r < g by omega]
          · rw [if_neg q2]; simp [q, q2]
      · rw [if_neg (by rw [i_lt, d7]; exact q)]
        simp [q]
theorem c_looked {h : hp_T} {n : Nat} {K : Nat → Nat} {f t : Nat → Int32} {a b : Int32} (hb : BwF (h.1 13)) (hK : Ks n K) (V : CV h n K f t) (hT : ∀ k, k < 48 → (h.1 4 k = 0 ↔ ¬ ∃ r, r < n ∧ K r = k)) (D : DerT h n K t) :
    ∃ h2, f_X8_lookedAt a b h = some (nI (cnt (lkd (wK K) n f t a b) n), h2) ∧ Fr [21] h h2 := by
  obtain ⟨B, b1, b2, b3⟩ := hb
  have hB : BwS B := ⟨fun i hi => (b1 i hi).2, b2, b3⟩
  have hW := wK_i hB hK
  unfold f_X8_lookedAt
  have key := loop_j (fun N (s : Int32 × Int32 × hp_T) => f_X8_lookedAt_L1 a b (fun (x19 : Int32) (x20 : Int32) (h21 : hp_T) => some (x19, h21)) N s.1 s.2.1 s.2.2)
    (fun o => ∃ h2, o = some (nI (cnt (lkd (wK K) n f t a b) n), h2) ∧ Fr [21] h h2)
    (fun m s => ∃ v, m = 48 - v ∧ v ≤ 48 ∧ s.1 = nI (cnt (fun r => ins B K v r && lkd (wK K) n f t a b r) n) ∧ s.2.1 = nI v ∧ Fr [21] h s.2.2 ∧ LkI s.2.2 v n K B (lkd (wK K) n f t a b)) ?_ 48 100 (0, 0, h) (by omega)
    ⟨0, rfl, by omega, by
      have : cnt (fun r => ins B K 0 r && lkd (wK K) n f t a b r) n = 0 := by
        rw [cnt_tail (p := fun r => ins B K 0 r && lkd (wK K) n f t a b r) (a := 0) (by omega) (fun i _ _ => rfl), cnt_0]
      rw [this]; rfl, rfl, Fr.rf, fun r hr hq => absurd hq (by show ¬ (false = true); exact nft)⟩
  · exact key
  rintro N m ⟨x, y, g⟩ ⟨v, rfl, hv, e1, e2, hF, L⟩
  dsimp only at e1 e2 hF L
  subst e1; subst e2
  dsimp only
  rw [f_X8_lookedAt_L1]
  by_cases e : v = 48
  · left
    subst e
    rw [if_pos (by rw [i_le, n_int (by omega), t_48]; omega)]
    refine ⟨g, ?_, hF⟩
    rw [cnt_cg (q := lkd (wK K) n f t a b) (fun i hi => by rw [ins_n hB hK hi]; rfl)]
  right
  have om1 : 48 - (v + 1) < 48 - v := by omega
  have om2 : v + 1 ≤ 48 := by omega
  have hv' : v < 48 := by omega
  have bl := hB.1 v hv'
  have Vg : CV g n K f t := V.fr fun k k1 k2 => hF.1 k (by simp <;> omega)
  have Dg : DerT g n K t := by
    unfold DerT at *
    rw [hF.1 12 (by decide), hF.1 14 (by decide), hF.1 15 (by decide), hF.1 16 (by decide), hF.1 17 (by decide), hF.1 18 (by decide), hF.1 19 (by decide), hF.1 20 (by decide)]
    exact D
  rw [if_neg (by rw [i_le, n_int (by omega), t_48]; omega), if_pos (ix_n hv' (by omega)), l_let, n_cl (show v < 2147483648 by omega), hF.1 13 (by decide), (b1 v hv').1, if_pos (ix_n bl (by omega)), n_cl (show B v < 2147483648 by omega), hF.1 4 (by decide)]
  by_cases th : h.1 4 (B v) = 0
  · have no := (hT (B v) bl).mp th
    have eq : ∀ c, c < n → ins B K (v + 1) c = ins B K v c := fun c hc => ins_skip (fun q => no ⟨c, hc, q.symm⟩)
    rw [if_pos th, l_let, nI_1]
    refine ⟨48 - (v + 1), (nI (cnt (fun r => ins B K v r && lkd (wK K) n f t a b r) n), nI (v + 1), g), om1, ⟨v + 1, rfl, om2, ?_, rfl, hF, fun r hr hq => L r hr (by rw [← eq r hr]; exact hq)⟩, rfl⟩
    rw [cnt_cg (p := fun r => ins B K (v + 1) r && lkd (wK K) n f t a b r) (q := fun r => ins B K v r && lkd (wK K) n f t a b r) (fun i hi => by rw [eq i hi])]
  · have ex : ∃ r, r < n ∧ K r = B v := Decidable.byContradiction fun q => th ((hT (B v) bl).mpr q)
    obtain ⟨r, r1, r2⟩ := ex
    have kr := hK.2.1 r r1
    rw [if_neg th, ← r2, c_looksAt hB hK Vg Dg hv' r1 r2.symm L, c_some, if_pos (ix_n kr (by omega))]
    have nin : ins B K v r = false := by
      cases q : ins B K v r with
      | false => rfl
      | true => rw [ins_w hB hK hv' r1 r1 r2.symm] at q; omega
    have cs := cnt_one (p := fun z => ins B K v z && lkd (wK K) n f t a b z) (q := fun z => if z < n then (ins B K (v + 1) z && lkd (wK K) n f t a b z) else (ins B K v z && lkd (wK K) n f t a b z)) (c := r) (n := n) r1 (fun z hz => by
      by_cases zn : z < n
      · rw [if_pos zn, ins_skip (fun q => hz (hK.2.2 z r zn r1 (by rw [r2, q])))]
      · rw [if_neg zn]) (by rw [nin]; rfl)
    have cq : cnt (fun z => if z < n then (ins B K (v + 1) z && lkd (wK K) n f t a b z) else (ins B K v z && lkd (wK K) n f t a b z)) n = cnt (fun z => ins B K (v + 1) z && lkd (wK K) n f t a b z) n := cnt_cg fun i hi => by rw [if_pos hi]
    have inr : ins B K (v + 1) r = true := by rw [ins_s, ← r2]; simp
    rw [cq] at cs
    rw [if_pos r1, inr, Bool.true_and] at cs
    have LN : ∀ (w : Int32), w = (if lkd (wK K) n f t a b r = true then 1 else 0) → LkI (hw g 21 (K r) w) (v + 1) n K B (lkd (wK K) n f t a b) := by
      intro w hw' z hz hq
      by_cases ez : z = r
      · subst ez; rw [hw_s]; exact hw'
      · have nk : K z ≠ K r := fun q => ez (hK.2.2 z r hz r1 q)
        rw [hw_n _ _ _ _ (Or.inr nk)]
        rw [ins_skip (fun q => nk (by rw [r2, q]))] at hq
        exact L z hz hq
    cases hl : lkd (wK K) n f t a b r with
    | true =>
      rw [hl, if_pos ptt] at cs
      rw [hl, if_pos ptt] at LN
      rw [if_pos ptt, if_pos bz1, l_let, if_pos (ix_n kr (by omega)), hw_s, if_neg n10, l_let, l_let, nI_1, nI_1]
      exact ⟨48 - (v + 1), (nI (cnt (fun r => ins B K v r && lkd (wK K) n f t a b r) n + 1), nI (v + 1), hw g 21 (K r) 1), om1, ⟨v + 1, rfl, om2, by rw [cs], rfl, hF.hw (by decide), LN 1 rfl⟩, rfl⟩
    | false =>
      rw [hl, if_neg nft] at cs
      rw [hl, if_neg nft] at LN
      rw [if_neg nft, if_pos bz0, l_let, if_pos (ix_n kr (by omega)), hw_s, if_pos p00, l_let, l_let, Int32.add_zero, nI_1]
      exact ⟨48 - (v + 1), (nI (cnt (fun r => ins B K v r && lkd (wK K) n f t a b r) n), nI (v + 1), hw g 21 (K r) 0), om1, ⟨v + 1, rfl, om2, by rw [cs]; rfl, rfl, hF.hw (by decide), LN 0 rfl⟩, rfl⟩
/-! the reference -/
def lu (W : Nat → Nat) (n : Nat) (F : Nat → Bool) (x : Nat) : Nat := cnt F (nB W n x) - cnt F (nA W n x)
theorem lu_rec {W : Nat → Nat} {n : Nat} {F : Nat → Bool} (hW : Wi W n) {x : Nat} (hx : x < n) (hF : F x = true) (hu : ∀ c, c < n → F c = false → lu W n F c = 0) : lu W n F x = 1 + oU (lu W n F) (flt F (lch W n x)) + oU (lu W n F) (flt F (rch W n x)) := by
  obtain ⟨j1, j2, j3, j4, -, -⟩ := nd_at hW hx
  have m1 := cnt_mono F (show nA W n x ≤ x by omega)
  have m2 := cnt_mono F (show x + 1 ≤ nB W n x by omega)
  have m3 := cnt_t hF
  have el : oU (lu W n F) (flt F (lch W n x)) = cnt F x - cnt F (nA W n x) := by
    cases hl : lch W n x with
    | none =>
      have : nA W n x = x := by
        unfold lch at hl
        split at hl
        · cases hl
        · omega
      rw [this]
      show 0 = _
      omega
    | some c =>
      have hc := lch_lt hW x hx c hl
      have I := (lch_s hW hx hl).2.2.1
      have e : lu W n F c = cnt F x - cnt F (nA W n x) := by unfold lu; rw [I.1, I.2.1]
      cases hq : F c with
      | true => rw [flt_t hq]; exact e
      | false => rw [flt_f hq, ← e, hu c hc hq]; rfl
  have er : oU (lu W n F) (flt F (rch W n x)) = cnt F (nB W n x) - cnt F (x + 1) := by
    cases hl : rch W n x with
    | none =>
      have : nB W n x = x + 1 := by
        unfold rch at hl
        split at hl
        · cases hl
        · omega
      rw [this]
      show 0 = _
      omega
    | some c =>
      have hc := rch_lt hW x hx c hl
      have I := (rch_s hW hx hl).2.2.2.1
      have e : lu W n F c = cnt F (nB W n x) - cnt F (x + 1) := by unfold lu; rw [I.1, I.2.1]
      cases hq : F c with
      | true => rw [flt_t hq]; exact e
      | false => rw [flt_f hq, ← e, hu c hc hq]; rfl
  rw [el, er]
  unfold lu
  omega
theorem lu_pos {W : Nat → Nat} {n : Nat} {F : Nat → Bool} (hW : Wi W n) {x : Nat} (hx : x < n) (hF : F x = true) : 1 ≤ lu W n F x := by
  obtain ⟨j1, j2, j3, j4, -, -⟩ := nd_at hW hx
  have m1 := cnt_mono F (show nA W n x ≤ x by omega)
  have m2 := cnt_mono F (show x + 1 ≤ nB W n x by omega)
  have m3 := cnt_t hF
  unfold lu
  omega
theorem lkd_0 {W : Nat → Nat} {n : Nat} {f t : Nat → Int32} {a b : Int32} (hW : Wi W n) : ∀ c, c < n → lkd W n f t a b c = false → lu W n (lkd W n f t a b) c = 0 := by
  intro c hc hq
  have all := nd_sub hW (S := fun r => lkd W n f t a b r = false) (fun g z hg hS hz => by rw [lkd_c hW hg hz, hS]; rfl) (nB W n c - nA W n c) c (Nat.le_refl _) hc hq
  obtain ⟨j1, j2, j3, j4, -, -⟩ := nd_at hW hc
  unfold lu
  rw [cnt_tail (a := nA W n c) (by omega) (fun i q1 q2 => all i q1 q2)]
  omega
