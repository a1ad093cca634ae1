/-! the reference's tree -/
theorem wtx {k : Nat} (hk : k < 48) : ((nI k + 1) * 40503) - ((nI k + 1) * 40503) / 65536 * 65536 = nI (wt k) := by
  rw [nI_1, show (40503 : Int32) = nI 40503 from rfl, show (65536 : Int32) = nI 65536 from rfl, pk_mul, pk_rem (by omega) (by omega) (by omega)]
  rfl
theorem wt_lt (k : Nat) : wt k < 65536 := Nat.mod_lt _ (by omega)
abbrev rk : Nat → Nat := fun x => x
theorem keyR_r {c : Nat} : keyR rk (some c) = nI c := rfl
theorem m_weightAt {m : hp_T} {n r : Nat} {K : Nat → Nat} {f t : Nat → Int32} (V : MV m n K f t) (hr : r < n) : f_X10_weightAt (nI r) m = some (nI (wK K r), m) := by
  have hn := V.1
  obtain ⟨e1, e2, -⟩ := V.2.2 r hr
  unfold f_X10_weightAt
  rw [if_pos (ix_n (show r < 48 by omega) (by omega)), n_cl (show r < 2147483648 by omega), e1, wtx e2]
  rfl
def amO (W : Nat → Nat) (a b : Nat) : Option Nat := if a < b then some (am W a b) else none
theorem m_greatest {m : hp_T} {n a b : Nat} {K : Nat → Nat} {f t : Nat → Int32} (V : MV m n K f t) (hW : Wi (wK K) n) (hab : a ≤ b) (hb : b ≤ n) : f_X10_greatest (nI a) (nI b) m = some (keyR rk (amO (wK K) a b), m) := by
  have hn := V.1
  unfold f_X10_greatest
  have key := loop_j (fun N (s : Int32 × Int32 × hp_T) => f_X10_greatest_L1 (nI b) (fun (x13 : Int32) (x14 : Int32) (h15 : hp_T) => some (x13, h15)) N s.1 s.2.1 s.2.2)
    (fun o => o = some (keyR rk (amO (wK K) a b), m))
    (fun r s => ∃ v, r = b - v ∧ a ≤ v ∧ v ≤ b ∧ s.1 = keyR rk (amO (wK K) a v) ∧ s.2.1 = nI v ∧ s.2.2 = m) ?_ (b - a) 100 (-1, nI a, m) (by omega) ⟨a, rfl, by omega, hab, by unfold amO; rw [if_neg (by omega)]; rfl, rfl, rfl⟩
  · exact key
  rintro N r ⟨x, y, g⟩ ⟨v, rfl, hav, hvb, e1, e2, e3⟩
  dsimp only at e1 e2 e3
  subst e3; subst e1; subst e2
  dsimp only
  rw [f_X10_greatest_L1]
  by_cases e : v = b
  · left
    subst e
    rw [if_pos (by rw [i_le]; omega)]
  right
  rw [if_neg (by rw [i_le, n_int (by omega), n_int (by omega)]; omega)]
  have es : am (wK K) a (v + 1) = if v ≤ a then a else if wK K v ≤ wK K (am (wK K) a v) then am (wK K) a v else v := rfl
  have eo : amO (wK K) a (v + 1) = some (am (wK K) a (v + 1)) := by unfold amO; rw [if_pos (by omega)]
  by_cases c : v = a
  · have : amO (wK K) a v = none := by unfold amO; rw [if_neg (by omega)]
    rw [this, keyR_n, if_pos rfl, l_let, nI_1]
    exact ⟨b - (v + 1), (nI v, nI (v + 1), g), by omega, ⟨v + 1, rfl, by omega, by omega, by rw [eo, es, if_pos (by omega), c]; rfl, rfl, rfl⟩, rfl⟩
  · have hm := am_mx hW (show a < v by omega) (by omega)
    have : amO (wK K) a v = some (am (wK K) a v) := by unfold amO; rw [if_pos (by omega)]
    rw [this, keyR_r, if_neg (km1 (by omega)), m_weightAt V (by omega), c_some, m_weightAt V (by omega), c_some]
    have w1 : wK K v < 65536 := wt_lt _
    have w2 : wK K (am (wK K) a v) < 65536 := wt_lt _
    by_cases q : wK K v ≤ wK K (am (wK K) a v)
    · rw [if_pos (by rw [i_le, n_int (by omega), n_int (by omega)]; omega), l_let, nI_1]
      exact ⟨b - (v + 1), (nI (am (wK K) a v), nI (v + 1), g), by omega, ⟨v + 1, rfl, by omega, by omega, by rw [eo, es, if_neg (by omega), if_pos q]; rfl, rfl, rfl⟩, rfl⟩
    · rw [if_neg (by rw [i_le, n_int (by omega), n_int (by omega)]; omega), l_let, nI_1]
      exact ⟨b - (v + 1), (nI v, nI (v + 1), g), by omega, ⟨v + 1, rfl, by omega, by omega, by rw [eo, es, if_neg (by omega), if_neg q]; rfl, rfl, rfl⟩, rfl⟩
def Gd (m : hp_T) (W : Nat → Nat) (n g : Nat) : Prop := m.1 15 g = keyR rk (nP W n g) ∧ m.1 22 g = nI (nA W n g) ∧ m.1 23 g = nI (nB W n g) ∧ m.1 18 g = nI (nD W n g)
theorem Gd.fr {m m2 : hp_T} {W : Nat → Nat} {n g : Nat} (h : Gd m W n g) (e : m2.1 15 = m.1 15 ∧ m2.1 22 = m.1 22 ∧ m2.1 23 = m.1 23 ∧ m2.1 18 = m.1 18) : Gd m2 W n g := by
  unfold Gd at *
  rw [e.1, e.2.1, e.2.2.1, e.2.2.2]
  exact h
theorem m_hangs {m : hp_T} {n a b d : Nat} {p : Option Nat} {K : Nat → Nat} {f t : Nat → Int32} (V : MV m n K f t) (hW : Wi (wK K) n) (hab : a ≤ b) (hb : b ≤ n) (hN : a < b → IsN (wK K) n a b p d (am (wK K) a b)) : ∃ m2, f_X10_hangs (keyR rk p) (nI a) (nI b) (nI d) m = some (keyR rk (amO (wK K) a b), m2) ∧ Fr [15, 18, 22, 23] m m2 ∧ (∀ g, Gd m (wK K) n g → Gd m2 (wK K) n g) ∧ (∀ c, amO (wK K) a b = some c → Gd m2 (wK K) n c) := by
  have hn := V.1
  unfold f_X10_hangs
  rw [m_greatest V hW hab hb, c_some]
  by_cases c : a < b
  · have eo : amO (wK K) a b = some (am (wK K) a b) := by unfold amO; rw [if_pos c]
    have hm := am_mx hW c hb
    have I := hN c
    obtain ⟨z, ez⟩ : ∃ z, z = am (wK K) a b := ⟨_, rfl⟩
    rw [← ez] at hm I eo
    have hz : z < 48 := by omega
    rw [eo, keyR_r]
    simp only [if_neg (km1 hz), if_pos (ix_n hz (show 48 ≤ 1000 by omega)), l_let, n_cl (show z < 2147483648 by omega)]
    have G : Gd (hw (hw (hw (hw m 15 z (keyR rk p)) 22 z (nI a)) 23 z (nI b)) 18 z (nI d)) (wK K) n z := by
      unfold Gd
      rw [I.1, I.2.1, I.2.2.1, I.2.2.2]
      refine ⟨by simp [hw, hwA, up_s], by simp [hw, hwA, up_s], by simp [hw, hwA, up_s], by simp [hw, hwA, up_s]⟩
    refine ⟨_, rfl, (((Fr.rf.hw (by decide)).hw (by decide)).hw (by decide)).hw (by decide), fun g hg => ?_, fun x hx => by cases hx; exact G⟩
    by_cases e : g = z
    · rw [e]; exact G
    · unfold Gd at *
      rw [hw_n _ _ _ _ (Or.inr e), hw_n _ _ _ _ (Or.inr e), hw_n _ _ _ _ (Or.inr e), hw_n _ _ _ _ (Or.inr e), hw_n _ _ _ _ (Or.inr e), hw_n _ _ _ _ (Or.inr e), hw_n _ _ _ _ (Or.inr e), hw_n _ _ _ _ (Or.inr e), hw_n _ _ _ _ (Or.inr e), hw_n _ _ _ _ (Or.inr e), hw_n _ _ _ _ (Or.inr e), hw_n _ _ _ _ (Or.inr e), hw_n _ _ _ _ (Or.inr e), hw_n _ _ _ _ (Or.inr e), hw_n _ _ _ _ (Or.inr e), hw_n _ _ _ _ (Or.inr e)]
      exact hg
  · have eo : amO (wK K) a b = none := by unfold amO; rw [if_neg c]
    rw [eo, keyR_n, if_pos rfl]
    exact ⟨m, rfl, Fr.rf, fun g hg => hg, fun c hc => by cases hc⟩
def upX (X : Nat → Nat) (c x : Nat) : Nat → Nat := fun i => if i = c then x else X i
def extX (X : Nat → Nat) (c : Nat) : Option Nat → Nat → Nat
  | some x => upX X c x
  | none => X
def extC (c : Nat) : Option Nat → Nat
  | some _ => c + 1
  | none => c
def extH (h : hp_T) (z c : Nat) : Option Nat → hp_T
  | some x => hw h z c (nI x)
  | none => h
def Ls (h : hp_T) (z c n : Nat) (X : Nat → Nat) : Prop := ∀ i, i < c → h.1 z i = nI (X i) ∧ X i < n
theorem extX_lt {X : Nat → Nat} {c i : Nat} {o : Option Nat} (h : i < c) : extX X c o i = X i := by
  cases o with
  | none => rfl
  | some x => simp [extX, upX, show i ≠ c by omega]
theorem extX_at {X : Nat → Nat} {c x : Nat} : extX X c (some x) c = x := by simp [extX, upX]
theorem ext_ls {h : hp_T} {z c n : Nat} {X : Nat → Nat} {o : Option Nat} (L : Ls h z c n X) (ho : ∀ x, o = some x → x < n) : Ls (extH h z c o) z (extC c o) n (extX X c o) := by
  intro i hi
  cases o with
  | none => exact L i hi
  | some x =>
    simp only [extC] at hi
    simp only [extH]
    by_cases e : i = c
    · subst e
      rw [hw_s, extX_at]
      exact ⟨rfl, ho x rfl⟩
    · rw [hw_n _ _ _ _ (Or.inr e), extX_lt (by omega)]
      exact L i (by omega)
theorem ext_fr {h : hp_T} {z c : Nat} {o : Option Nat} : ∀ k, k ≠ z → (extH h z c o).1 k = h.1 k := by
  intro k hk
  cases o with
  | none => rfl
  | some x => exact hw_ne _ _ _ hk
theorem ext_2 {h : hp_T} {z c : Nat} {o : Option Nat} : (extH h z c o).2 = h.2 := by
  cases o <;> rfl
theorem extC_le {c : Nat} {o : Option Nat} : c ≤ extC c o := by cases o <;> simp [extC]
theorem sm_ge {g : Nat → Nat} : ∀ c, (∀ i, i < c → 1 ≤ g i) → c ≤ sm g c
  | 0, _ => Nat.zero_le _
  | c + 1, h => by
    have h1 := sm_ge c (fun i hi => h i (by omega))
    have h2 := h c (by omega)
    rw [sm_s]; omega
/-- what each entry of the list counts for: one when done, else its own total u -/
def uv (u : Nat → Nat) (v : Nat) (X : Nat → Nat) (i : Nat) : Nat := if i < v then 1 else u (X i)
def oU (u : Nat → Nat) : Option Nat → Nat
  | some x => u x
  | none => 0
theorem ext_sum {u : Nat → Nat} {v c : Nat} {X : Nat → Nat} {o : Option Nat} (h : v ≤ c) : sm (uv u v (extX X c o)) (extC c o) = sm (uv u v X) c + oU u o := by
  cases o with
  | none => rfl
  | some x =>
    simp only [extC]
    rw [sm_s, sm_cg (g2 := uv u v X) (fun i hi => by unfold uv; rw [extX_lt hi])]
    unfold uv
    rw [if_neg (by omega), extX_at]
    rfl
theorem sm_one {g g2 : Nat → Nat} {c v : Nat} (hv : v < c) (h : ∀ i, i ≠ v → g2 i = g i) : sm g2 c + g v = sm g c + g2 v := by
  induction c with
  | zero => omega
  | succ c ih =>
    rw [sm_s, sm_s]
    by_cases e : v = c
    · subst e
      rw [sm_cg (g2 := g) (fun i hi => h i (by omega))]
      omega
    · have := ih (by omega)
      have := h c (by omega)
      omega
theorem uv_s {u : Nat → Nat} {v c : Nat} {X : Nat → Nat} (hv : v < c) : sm (uv u (v + 1) X) c + u (X v) = sm (uv u v X) c + 1 := by
  have := sm_one (g := uv u v X) (g2 := uv u (v + 1) X) hv (fun i hi => by
    unfold uv
    by_cases q : i < v
    · rw [if_pos q, if_pos (by omega)]
    · rw [if_neg q, if_neg (by omega)])
  have e1 : uv u v X v = u (X v) := by unfold uv; rw [if_neg (by omega)]
  have e2 : uv u (v + 1) X v = 1 := by unfold uv; rw [if_pos (by omega)]
  rw [e1, e2] at this
  exact this
def sz (W : Nat → Nat) (n x : Nat) : Nat := nB W n x - nA W n x
def GwI (h : hp_T) (c v n : Nat) (K X : Nat → Nat) : Prop :=
  v ≤ c ∧ Ls h 14 c n X ∧ (∀ i, i < c → Gd h (wK K) n (X i)) ∧ (∀ i, i < v → h.1 16 (X i) = keyR rk (lch (wK K) n (X i)) ∧ h.1 17 (X i) = keyR rk (rch (wK K) n (X i)) ∧ ∀ x, lch (wK K) n (X i) = some x ∨ rch (wK K) n (X i) = some x → ∃ j, i < j ∧ j < c ∧ X j = x) ∧ sm (uv (sz (wK K) n) v X) c = n ∧ (0 < n → 0 < c ∧ X 0 = am (wK K) 0 n)
abbrev GC : List Nat := [14, 15, 16, 17, 18, 22, 23]
theorem amO_L {W : Nat → Nat} {n g : Nat} : amO W (nA W n g) g = lch W n g := rfl
theorem amO_R {W : Nat → Nat} {n g : Nat} : amO W (g + 1) (nB W n g) = rch W n g := rfl
theorem oU_M {W : Nat → Nat} {n : Nat} {o : Option Nat} : oU (sz W n) o = oM W n o := by cases o <;> rfl
theorem m_grow1 {m : hp_T} {n c0 : Nat} {K X0 : Nat → Nat} {f t : Nat → Int32} {Kc : Int32 → Int32 → hp_T → Option hp_T} (V : MV m n K f t) (hW : Wi (wK K) n) (I0 : GwI m c0 0 n K X0) :
    ∃ m2 X, f_X10_grows_L1 Kc 100 (nI c0) 0 m = Kc (nI n) (nI n) m2 ∧ Fr GC m m2 ∧ GwI m2 n n n K X := by
  have hn := V.1
  have cle : ∀ (g : hp_T) (c v : Nat) (X : Nat → Nat), GwI g c v n K X → c ≤ n := by
    intro g c v X I
    have := sm_ge (g := uv (sz (wK K) n) v X) c (fun i hi => by
      unfold uv
      split
      · exact Nat.le_refl _
      · have := nd_at hW (I.2.1 i hi).2
        unfold sz
        omega)
    have := I.2.2.2.2.1
    omega
  have key := loop_j (fun N (s : Int32 × Int32 × hp_T) => f_X10_grows_L1 Kc N s.1 s.2.1 s.2.2)
    (fun o => ∃ m2 X, o = Kc (nI n) (nI n) m2 ∧ Fr GC m m2 ∧ GwI m2 n n n K X)
    (fun r s => ∃ c v X, r = n - v ∧ s.1 = nI c ∧ s.2.1 = nI v ∧ Fr GC m s.2.2 ∧ GwI s.2.2 c v n K X) ?_ n 100 (nI c0, 0, m) (by omega) ⟨c0, 0, X0, rfl, rfl, rfl, Fr.rf, I0⟩
  · exact key
  rintro N r ⟨x, y, g⟩ ⟨c, v, X, rfl, e1, e2, hF, I⟩
  dsimp only at e1 e2 hF I
  subst e1; subst e2
  dsimp only
  have hc := cle g c v X I
  obtain ⟨I1, I2, I3, I4, I5, I6⟩ := I
  rw [f_X10_grows_L1]
  by_cases e : v = c
  · left
    subst e
    have : v = n := by
      rw [sm_cg (g2 := fun _ => 1) (fun i hi => by unfold uv; rw [if_pos hi])] at I5
      have one : ∀ k, sm (fun _ => 1) k = k := by
        intro k
        induction k with
        | zero => rfl
        | succ k ih => rw [sm_s, ih]
      rw [one] at I5
      exact I5
    subst this
    rw [if_pos (by rw [i_le]; omega)]
    exact ⟨g, X, rfl, hF, I1, I2, I3, I4, I5, I6⟩
  right
  have hvc : v < c := by omega
  obtain ⟨q14, xn⟩ := I2 v hvc
  obtain ⟨G1, G2, G3, G4⟩ := I3 v hvc
  obtain ⟨x, ex⟩ : ∃ x, x = X v := ⟨_, rfl⟩
  rw [← ex] at q14 xn G1 G2 G3 G4
  have x48 : x < 48 := by omega
  obtain ⟨j1, j2, j3, j4, j5, -⟩ := nd_at hW xn
  have Vg : MV g n K f t := V.fr (by rw [hF.1 0 (by decide)]) ⟨hF.1 12 (by decide), hF.1 6 (by decide), hF.1 7 (by decide)⟩
  obtain ⟨g1, E1, F1, k1, k2⟩ := m_hangs (p := some x) (d := nD (wK K) n x + 1) Vg hW (show nA (wK K) n x ≤ x by omega) (by omega) (fun q => nd_L hW xn q)
  rw [keyR_r] at E1
  obtain ⟨g2, eg2⟩ : ∃ g2, g2 = hw g1 16 x (keyR rk (lch (wK K) n x)) := ⟨_, rfl⟩
  have V2 : MV g2 n K f t := by
    rw [eg2]
    exact Vg.fr (by rw [hw_ne _ _ _ (by decide), F1.1 0 (by decide)]) ⟨by rw [hw_ne _ _ _ (by decide), F1.1 12 (by decide)], by rw [hw_ne _ _ _ (by decide), F1.1 6 (by decide)], by rw [hw_ne _ _ _ (by decide), F1.1 7 (by decide)]⟩
  have b2 : ∀ z, Gd g1 (wK K) n z → Gd g2 (wK K) n z := fun z hz => hz.fr (by rw [eg2]; exact ⟨hw_ne _ _ _ (by decide), hw_ne _ _ _ (by decide), hw_ne _ _ _ (by decide), hw_ne _ _ _ (by decide)⟩)
  have Gx2 := b2 x (k1 x ⟨G1, G2, G3, G4⟩)
  obtain ⟨g3, E3, F3, k3, k4⟩ := m_hangs (p := some x) (d := nD (wK K) n x + 1) V2 hW (show x + 1 ≤ nB (wK K) n x by omega) j4 (fun q => nd_R hW xn q)
  rw [keyR_r] at E3
  obtain ⟨g4, eg4⟩ : ∃ g4, g4 = hw g3 17 x (keyR rk (rch (wK K) n x)) := ⟨_, rfl⟩
  have b4 : ∀ z, Gd g3 (wK K) n z → Gd g4 (wK K) n z := fun z hz => hz.fr (by rw [eg4]; exact ⟨hw_ne _ _ _ (by decide), hw_ne _ _ _ (by decide), hw_ne _ _ _ (by decide), hw_ne _ _ _ (by decide)⟩)
  have all4 : ∀ z, Gd g (wK K) n z → Gd g4 (wK K) n z := fun z hz => b4 z (k3 z (b2 z (k1 z hz)))
  have kL : ∀ z, lch (wK K) n x = some z → Gd g4 (wK K) n z := fun z hz => b4 z (k3 z (b2 z (k2 z hz)))
  have kR : ∀ z, rch (wK K) n x = some z → Gd g4 (wK K) n z := fun z hz => b4 z (k4 z hz)
  have c16 : g4.1 16 = upd (g.1 16) x (keyR rk (lch (wK K) n x)) := by rw [eg4, hw_ne _ _ _ (by decide), F3.1 16 (by decide), eg2, hw_at, F1.1 16 (by decide)]
  have c17 : g4.1 17 = upd (g.1 17) x (keyR rk (rch (wK K) n x)) := by rw [eg4, hw_at, F3.1 17 (by decide), eg2, hw_ne _ _ _ (by decide), F1.1 17 (by decide)]
  have c14 : g4.1 14 = g.1 14 := by rw [eg4, hw_ne _ _ _ (by decide), F3.1 14 (by decide), eg2, hw_ne _ _ _ (by decide), F1.1 14 (by decide)]
  have F4 : Fr GC g g4 := by rw [eg4]; exact ((eg2 ▸ ((F1.mono (by decide)).hw (by decide)) : Fr GC g g2).tr (F3.mono (by decide))).hw (by decide)
  -- the list goes on by the children
  obtain ⟨c1, ec1⟩ : ∃ c1, c1 = extC c (lch (wK K) n x) := ⟨_, rfl⟩
  obtain ⟨c2, ec2⟩ : ∃ c2, c2 = extC c1 (rch (wK K) n x) := ⟨_, rfl⟩
  obtain ⟨X1, eX1⟩ : ∃ X1, X1 = extX X c (lch (wK K) n x) := ⟨_, rfl⟩
  obtain ⟨X2, eX2⟩ : ∃ X2, X2 = extX X1 c1 (rch (wK K) n x) := ⟨_, rfl⟩
  obtain ⟨h1, eh1⟩ : ∃ h1, h1 = extH g4 14 c (lch (wK K) n x) := ⟨_, rfl⟩
  obtain ⟨h2, eh2⟩ : ∃ h2, h2 = extH h1 14 c1 (rch (wK K) n x) := ⟨_, rfl⟩
  have cc1 : c ≤ c1 := by rw [ec1]; exact extC_le
  have cc2 : c1 ≤ c2 := by rw [ec2]; exact extC_le
  have L4 : Ls g4 14 c n X := fun i hi => by rw [c14]; exact I2 i hi
  have L1 : Ls h1 14 c1 n X1 := by rw [eh1, ec1, eX1]; exact ext_ls L4 (lch_lt hW x xn)
  have L2 : Ls h2 14 c2 n X2 := by rw [eh2, ec2, eX2]; exact ext_ls L1 (rch_lt hW x xn)
  have fr2 : ∀ k, k ≠ 14 → h2.1 k = g4.1 k := fun k hk => by rw [eh2, ext_fr k hk, eh1, ext_fr k hk]
  have X2lt : ∀ i, i < c → X2 i = X i := fun i hi => by rw [eX2, extX_lt (by omega), eX1, extX_lt hi]
  have lin : ∀ z, lch (wK K) n x = some z → c < c1 ∧ X2 c = z := by
    intro z hz
    have : c1 = c + 1 := by rw [ec1, hz]; rfl
    refine ⟨by omega, ?_⟩
    rw [eX2, extX_lt (by omega), eX1, hz, extX_at]
  have rin : ∀ z, rch (wK K) n x = some z → c1 < c2 ∧ X2 c1 = z := by
    intro z hz
    have : c2 = c1 + 1 := by rw [ec2, hz]; rfl
    refine ⟨by omega, ?_⟩
    rw [eX2, hz, extX_at]
  have Gall : ∀ i, i < c2 → Gd h2 (wK K) n (X2 i) := by
    intro i hi
    have up : ∀ z, Gd g4 (wK K) n z → Gd h2 (wK K) n z := fun z hz => hz.fr ⟨fr2 15 (by decide), fr2 22 (by decide), fr2 23 (by decide), fr2 18 (by decide)⟩
    by_cases q : i < c
    · rw [X2lt i q]; exact up _ (all4 _ (I3 i q))
    · by_cases q2 : i < c1
      · cases hl : lch (wK K) n x with
        | none => rw [hl] at ec1; simp only [extC] at ec1; omega
        | some z =>
          have := lin z hl
          rw [hl] at ec1
          simp only [extC] at ec1
          have : i = c := by omega
          subst this
          rw [(lin z hl).2]
          exact up _ (kL z hl)
      · cases hl : rch (wK K) n x with
        | none => rw [hl] at ec2; simp only [extC] at ec2; omega
        | some z =>
          have h0 := rin z hl
          rw [hl] at ec2
          simp only [extC] at ec2
          have : i = c1 := by omega
          subst this
          rw [h0.2]
          exact up _ (kR z hl)
  have I' : GwI h2 c2 (v + 1) n K X2 := by
    refine ⟨by omega, L2, Gall, fun i hi => ?_, ?_, fun n0 => ⟨by omega, by rw [X2lt 0 (by omega)]; exact (I6 n0).2⟩⟩
    · rw [X2lt i (by omega), fr2 16 (by decide), fr2 17 (by decide), c16, c17]
      by_cases q : X i = x
      · rw [q, up_s, up_s]
        refine ⟨rfl, rfl, fun z hz => ?_⟩
        rcases hz with hz | hz
        · exact ⟨c, by omega, by have := (lin z hz).1; omega, (lin z hz).2⟩
        · exact ⟨c1, by omega, (rin z hz).1, (rin z hz).2⟩
      · have hi2 : i < v := by
          apply Nat.lt_of_le_of_ne (by omega)
          intro q2
          exact q (by rw [q2, ← ex])
        obtain ⟨p1, p2, p3⟩ := I4 i hi2
        rw [up_n _ _ q, up_n _ _ q]
        refine ⟨p1, p2, fun z hz => ?_⟩
        obtain ⟨j, w1, w2, w3⟩ := p3 z hz
        exact ⟨j, w1, by omega, by rw [X2lt j w2]; exact w3⟩
    · have s0 := uv_s (u := sz (wK K) n) (X := X) hvc
      have s1 := ext_sum (u := sz (wK K) n) (v := v + 1) (c := c) (X := X) (o := lch (wK K) n x) (by omega)
      have s2 := ext_sum (u := sz (wK K) n) (v := v + 1) (c := c1) (X := X1) (o := rch (wK K) n x) (by omega)
      rw [← ec1, ← eX1] at s1
      rw [← ec2, ← eX2] at s2
      rw [oU_M] at s1 s2
      have s3 := nM_rec hW xn
      rw [← ex] at s0
      unfold sz at s0 s1 s2 I5 ⊢
      omega
  have c2n := cle h2 c2 (v + 1) X2 I'
  have F5 : Fr GC g h2 := F4.tr ⟨fun k hk => fr2 k (fun q => hk (by rw [q]; decide)), by rw [eh2, ext_2, eh1, ext_2]⟩
  have g2x := Gx2
  unfold Gd at g2x
  have r16 : g4.1 16 x = keyR rk (lch (wK K) n x) := by rw [c16, up_s]
  have r17 : g4.1 17 x = keyR rk (rch (wK K) n x) := by rw [c17, up_s]
  refine ⟨n - (v + 1), (nI c2, nI (v + 1), h2), by omega, ⟨c2, v + 1, X2, rfl, rfl, rfl, hF.tr F5, I'⟩, ?_⟩
  dsimp only
  rw [if_neg (by rw [i_le, n_int (by omega), n_int (by omega)]; omega), if_pos (ix_n (show v < 48 by omega) (by omega)), l_let, n_cl (show v < 2147483648 by omega), q14]
  simp only [if_pos (ix_n x48 (show 48 ≤ 1000 by omega)), n_cl (show x < 2147483648 by omega)]
  rw [G2, G4, nI_1 (nD (wK K) n x), E1, c_some, l_let, amO_L, ← eg2, g2x.2.2.1, g2x.2.2.2, nI_1 (nD (wK K) n x), nI_1 x, E3, c_some, l_let, amO_R, ← eg4, r16, r17]
  cases hl : lch (wK K) n x with
  | none =>
    rw [hl] at ec1 eh1
    simp only [extC] at ec1
    simp only [extH] at eh1
    subst ec1; subst eh1
    rw [keyR_n, if_pos rfl]
    cases hr : rch (wK K) n x with
    | none =>
      rw [hr] at ec2 eh2
      simp only [extC] at ec2
      simp only [extH] at eh2
      subst ec2; subst eh2
      rw [keyR_n, if_pos rfl, l_let, nI_1]
    | some z =>
      have hz := rch_lt hW x xn z hr
      rw [hr] at ec2 eh2
      simp only [extC] at ec2
      simp only [extH] at eh2
      subst ec2; subst eh2
      rw [keyR_r, if_neg (km1 (by omega)), if_pos (ix_n (show c1 < 48 by omega) (by omega)), l_let, l_let, l_let, nI_1, nI_1, n_cl (show c1 < 2147483648 by omega)]
  | some w =>
    have hw' := lch_lt hW x xn w hl
    rw [hl] at ec1 eh1
    simp only [extC] at ec1
    simp only [extH] at eh1
    subst ec1; subst eh1
    rw [keyR_r, if_neg (km1 (by omega)), if_pos (ix_n (show c < 48 by omega) (by omega)), l_let, l_let, nI_1 c, n_cl (show c < 2147483648 by omega), hw_ne _ (z := 17) _ _ (by decide), r17]
    cases hr : rch (wK K) n x with
    | none =>
      rw [hr] at ec2 eh2
      simp only [extC] at ec2
      simp only [extH] at eh2
      subst ec2; subst eh2
      rw [keyR_n, if_pos rfl, l_let, nI_1]
    | some z =>
      have hz := rch_lt hW x xn z hr
      rw [hr] at ec2 eh2
      simp only [extC] at ec2
      simp only [extH] at eh2
      subst ec2; subst eh2
      rw [keyR_r, if_neg (km1 (by omega)), if_pos (ix_n (show c + 1 < 48 by omega) (by omega)), l_let, l_let, l_let, nI_1, nI_1, n_cl (show c + 1 < 2147483648 by omega)]
