/-! the view of both sides once the class has settled -/
def Vb (h m : hp_T) (n : Nat) (K : Nat → Nat) : Prop := RelD DerAll h m ∧ SpI h n K ∧ CV h n K (fC h K) (tC h K) ∧ Sq n (fC h K) (tC h K) ∧ Ks n K ∧ BwF (h.1 13) ∧ HT h n K ∧ DerAll h n K ∧ h.1 0 9 = 0
def VR (m0 : hp_T) (O T : Prop) (n : Nat) (K : Nat → Nat) (h m : hp_T) : Prop := Vb h m n K ∧ Fr SC m0 m ∧ (O → OrM m n K) ∧ (T → TrM m n K (tC h K))
theorem OrM.fr {m m2 : hp_T} {n : Nat} {K : Nat → Nat} (h : OrM m n K) (e : m2.1 12 = m.1 12 ∧ m2.1 13 = m.1 13) : OrM m2 n K := by
  unfold OrM at *
  rw [e.1, e.2]
  exact h
theorem Vb.m {h m m2 : hp_T} {n : Nat} {K : Nat → Nat} (V : Vb h m n K) (F : Fr SC m m2) : Vb h m2 n K := by
  obtain ⟨a, b⟩ := V
  exact ⟨rel_m a F, b⟩
theorem Vb.rb {h m : hp_T} {n : Nat} {K : Nat → Nat} (V : Vb h m n K) : RelB h m := by
  obtain ⟨_, _, _, _, hB, _⟩ := V.1
  exact hB
theorem Vb.n8 {h m : hp_T} {n : Nat} {K : Nat → Nat} (V : Vb h m n K) : m.1 0 8 = nI n := by
  obtain ⟨n2, K2, hI, hn8, _⟩ := V.1
  rw [hn8, (Ord.uniq V.2.1.1 hI.1).1]
theorem Vb.mv {h m : hp_T} {n : Nat} {K : Nat → Nat} (V : Vb h m n K) (O : OrM m n K) : MV m n K (fC h K) (tC h K) := by
  have hO := V.2.1.1
  have hB := V.rb
  exact ⟨hO.le, V.n8, fun i hi => ⟨O.1 i hi, (hO.1 i hi).1, (hB _ (hO.1 i hi).1).2.1.symm, (hB _ (hO.1 i hi).1).2.2.1.symm⟩⟩
theorem Vb.wi {h m : hp_T} {n : Nat} {K : Nat → Nat} (V : Vb h m n K) : Wi (wK K) n := by
  obtain ⟨_, _, _, _, hK, ⟨B, b1, b2, b3⟩, _⟩ := V
  exact wK_i (B := B) ⟨fun i hi => (b1 i hi).2, b2, b3⟩ hK
theorem Vb.st {h m : hp_T} {n : Nat} {K : Nat → Nat} (V : Vb h m n K) : f_X9_settle h = some h := by
  unfold f_X9_settle
  rw [if_pos V.2.2.2.2.2.2.2.2]
theorem Vb.ord {h m : hp_T} {n : Nat} {K : Nat → Nat} (V : Vb h m n K) : ∃ m1, f_X10_orders m = some m1 ∧ Fr [12, 13] m m1 ∧ OrM m1 n K := by
  have hB := V.rb
  exact orders_ok (V.2.1.1.cg fun k hk => ⟨(hB k hk).1.symm, fun _ => ⟨(hB k hk).2.1.symm, (hB k hk).2.2.1.symm⟩⟩) (fun k hk => by rw [← (hB k hk).1]; exact (hB k hk).2.2.2.1)
theorem VR.ord {m0 h m : hp_T} {O T : Prop} {n : Nat} {K : Nat → Nat} (V : VR m0 O T n K h m) : ∃ m1, f_X10_orders m = some m1 ∧ VR m0 True T n K h m1 := by
  obtain ⟨m1, E, F, O1⟩ := V.1.ord
  exact ⟨m1, E, V.1.m (F.mono (by decide)), V.2.1.tr (F.mono (by decide)), fun _ => O1, fun q => (V.2.2.2 q).fr fun k a b => F.1 k (by simp <;> omega)⟩
theorem VR.grow {m0 h m : hp_T} {O T : Prop} {n : Nat} {K : Nat → Nat} (V : VR m0 O T n K h m) : ∃ m2, f_X10_grows m = some m2 ∧ VR m0 True True n K h m2 := by
  obtain ⟨m1, E, V1⟩ := V.ord
  obtain ⟨m2, E2, F, T2⟩ := m_grows E (V1.1.mv (V1.2.2.1 trivial)) V1.1.wi
  exact ⟨m2, E2, V1.1.m (F.mono (by decide)), V1.2.1.tr (F.mono (by decide)), fun _ => (V1.2.2.1 trivial).fr ⟨F.1 12 (by decide), F.1 13 (by decide)⟩, fun _ => T2⟩
theorem VR.up {m0 h m : hp_T} {O T : Prop} {n : Nat} {K : Nat → Nat} (V : VR m0 True True n K h m) : VR m0 O T n K h m := ⟨V.1, V.2.1, fun _ => V.2.2.1 trivial, fun _ => V.2.2.2 trivial⟩
theorem VR.dn {m0 h m : hp_T} {O T : Prop} {n : Nat} {K : Nat → Nat} (V : VR m0 O T n K h m) : VR m0 False False n K h m := ⟨V.1, V.2.1, fun q => q.elim, fun q => q.elim⟩
theorem VR.uo {m0 h m : hp_T} {O T : Prop} {n : Nat} {K : Nat → Nat} (V : VR m0 True T n K h m) : VR m0 O T n K h m := ⟨V.1, V.2.1, fun _ => V.2.2.1 trivial, V.2.2.2⟩
abbrev SB : List Nat := [24, 25, 26, 27, 28, 29, 30]
theorem VR.fr {m0 h m m2 : hp_T} {O T : Prop} {n : Nat} {K : Nat → Nat} (V : VR m0 O T n K h m) (F : Fr SB m m2) : VR m0 O T n K h m2 := ⟨V.1.m (F.mono (by decide)), V.2.1.tr (F.mono (by decide)), fun q => (V.2.2.1 q).fr ⟨F.1 12 (by decide), F.1 13 (by decide)⟩, fun q => (V.2.2.2 q).fr fun k a b => F.1 k (by simp <;> omega)⟩
theorem VR.mv {m0 h m : hp_T} {T : Prop} {n : Nat} {K : Nat → Nat} (V : VR m0 True T n K h m) : MV m n K (fC h K) (tC h K) := V.1.mv (V.2.2.1 trivial)
theorem Vb.h {h h2 m : hp_T} {n : Nat} {K : Nat → Nat} (V : Vb h m n K) (F : Fr [21] h h2) : Vb h2 m n K := by
  obtain ⟨R, hI, hC, hQ, hK, hw, hT, hD, h9⟩ := V
  have g : ∀ k, k ≠ 21 → h2.1 k = h.1 k := fun k hk => F.1 k (by simp; exact hk)
  have ef : fC h2 K = fC h K := by unfold fC; rw [g 2 (by omega)]
  have et : tC h2 K = tC h K := by unfold tC; rw [g 3 (by omega)]
  have hD2 : ∀ n K, DerAll h n K → DerAll h2 n K := fun n K D => der_cg (fun k _ _ q => g k q) F.2 D
  unfold Vb
  rw [ef, et, g 13 (by omega), g 0 (by omega)]
  refine ⟨?_, hI.cg fun k a b => g k (by omega), hC.fr fun k a b => g k (by omega), hQ, hK, hw, ?_, hD2 _ _ hD, h9⟩
  · obtain ⟨n2, K2, hI2, hn8, hB, hDn, hS, hf, hw2, hst⟩ := R
    refine ⟨n2, K2, hI2.cg fun k a b => g k (by omega), hn8, ?_, ?_, hS.cg (fun j hj => g (38 + j) (by omega)) ⟨rfl, rfl, rfl⟩, by rw [g 0 (by omega)]; exact hf, by rw [g 13 (by omega)]; exact hw2, ?_⟩
    · intro k hk
      rw [g 4 (by omega), g 2 (by omega), g 3 (by omega)]
      exact hB k hk
    · unfold RDt Ent at *
      rw [g 7 (by omega), g 8 (by omega), g 9 (by omega), g 10 (by omega), g 11 (by omega)]
      exact hDn
    · rw [g 0 (by omega)]
      exact hst.imp (fun z => ⟨z.1, hD2 _ _ z.2⟩) id
  · intro k hk
    rw [g 4 (by omega)]
    exact hT k hk
theorem VR.h {m0 h h2 m : hp_T} {O T : Prop} {n : Nat} {K : Nat → Nat} (V : VR m0 O T n K h m) (F : Fr [21] h h2) : VR m0 O T n K h2 m := by
  refine ⟨V.1.h F, V.2.1, V.2.2.1, fun q => ?_⟩
  have et : tC h2 K = tC h K := by unfold tC; rw [F.1 3 (by decide)]
  rw [et]
  exact V.2.2.2 q
theorem rel_vr {h m : hp_T} (R : RelD DerAll h m) : ∃ h2 n K, f_X9_settle h = some h2 ∧ h2.1 4 = h.1 4 ∧ VR m False False n K h2 m := by
  obtain ⟨h2, E, R2, h9, e6⟩ := settle_ok R
  obtain ⟨n, K, m1, hI, V, Q, -, -, -, -, -, -, hK, hw13, hT, hD⟩ := rel_w R2
  exact ⟨h2, n, K, E, e6 4 (by omega) (by omega), ⟨R2, hI, V, Q, hK, hw13, hT, hD h9, h9⟩, Fr.rf, fun q => q.elim, fun q => q.elim⟩
/-- a question on the heap as it is and on the settled one: it turns back before it settles, or it is the same -/
def same {α : Type} (h h2 : hp_T) (x y : Option (α × hp_T)) : Prop := (∃ r, x = some (r, h) ∧ y = some (r, h2)) ∨ x = y
theorem step_of {α : Type} {h m h2 : hp_T} {n : Nat} {K : Nat → Nat} {O T : Prop} {x x2 y : Option (α × hp_T)} (R : RelD DerAll h m) (P : same h h2 x x2) (S : stp (VR m O T n K) x2 y) : stp (RelD DerAll) x y := by
  obtain ⟨r, h3, m3, e1, e2, V⟩ := S
  rcases P with ⟨r2, p1, p2⟩ | p
  · rw [e1] at p2
    cases p2
    exact ⟨r, h, m3, p1, e2, rel_m R V.2.1⟩
  · exact ⟨r, h3, m3, p.trans e1, e2, V.1.1⟩
theorem stp_c {α β : Type} {R R2 : hp_T → hp_T → Prop} {x y : Option (α × hp_T)} {f g : α → hp_T → Option (β × hp_T)} (S : stp R x y) (H : ∀ r h m, R h m → stp R2 (f r h) (g r m)) : stp R2 (o_call x f) (o_call y g) := by
  obtain ⟨r, h, m, e1, e2, hR⟩ := S
  rw [e1, e2, c_some, c_some]
  exact H r h m hR
theorem stp_m {α : Type} {R R2 : hp_T → hp_T → Prop} {x y : Option (α × hp_T)} (S : stp R x y) (H : ∀ h m, R h m → R2 h m) : stp R2 x y := by
  obtain ⟨r, h, m, e1, e2, hR⟩ := S
  exact ⟨r, h, m, e1, e2, H h m hR⟩
theorem stp_i {α : Type} {R : hp_T → hp_T → Prop} {x y : Option (α × hp_T)} (S : stp R x y) : stp R x (o_call y fun r h => some (r, h)) := by
  obtain ⟨r, h, m, e1, e2, hR⟩ := S
  rw [e2, c_some]
  exact ⟨r, h, m, e1, rfl, hR⟩
/-! the tests, as answers -/
abbrev kb (x : Int32) : Prop := 0 ≤ x.toInt ∧ x.toInt ≤ 47
abbrev kn (x : Int32) : Prop := -1 ≤ x.toInt ∧ x.toInt ≤ 47
abbrev pnt (x : Int32) : Prop := -1000000000 ≤ x.toInt ∧ x.toInt ≤ 1000000000
noncomputable def b01 (p : Prop) : Int32 := @ite Int32 p (Classical.propDecidable p) 1 0
theorem b01_t {p : Prop} (h : p) : b01 p = 1 := by unfold b01; rw [if_pos h]
theorem b01_f {p : Prop} (h : ¬ p) : b01 p = 0 := by unfold b01; rw [if_neg h]
theorem b01_0 {p : Prop} : b01 p = 0 ↔ ¬ p := by
  by_cases h : p
  · rw [b01_t h]; exact ⟨fun q => absurd q n10, fun q => absurd h q⟩
  · rw [b01_f h]; exact ⟨fun _ => h, fun _ => rfl⟩
theorem e_isKey {x : Int32} {h : hp_T} : f_X9_isKey x h = some (b01 (kb x), h) := by
  by_cases c : kb x
  · rw [b01_t c]; exact c_isKey.1 c
  · rw [b01_f c]; exact c_isKey.2 c
theorem e_isKN {x : Int32} {h : hp_T} : f_X9_isKeyOrNone x h = some (b01 (kn x), h) := by
  by_cases c : kn x
  · rw [b01_t c]; exact c_isKN.1 c
  · rw [b01_f c]; exact c_isKN.2 c
theorem e_isPoint {x : Int32} {h : hp_T} : f_X9_isPoint x h = some (b01 (pnt x), h) := by
  by_cases c : pnt x
  · rw [b01_t c]; exact c_isPoint.1 c
  · rw [b01_f c]; exact c_isPoint.2 c
theorem e_isStretch {x y : Int32} {h : hp_T} : f_X9_isStretch x y h = some (b01 (vld x y), h) := by
  by_cases c : vld x y
  · rw [b01_t c]; exact c_isStretch.1 c
  · rw [b01_f c]; exact c_isStretch.2 c
theorem d_isKey {x : Int32} {h : hp_T} : f_X10_isKey x h = some (b01 (kb x), h) := by
  by_cases c : kb x
  · rw [b01_t c]; exact m_isKey.1 c
  · rw [b01_f c]; exact m_isKey.2 c
theorem d_isPoint {x : Int32} {h : hp_T} : f_X10_isPoint x h = some (b01 (pnt x), h) := by
  by_cases c : pnt x
  · rw [b01_t c]; exact m_isPoint.1 c
  · rw [b01_f c]; exact m_isPoint.2 c
theorem d_isStretch {x y : Int32} {h : hp_T} : f_X10_isStretch x y h = some (b01 (vld x y), h) := by
  by_cases c : vld x y
  · rw [b01_t c]; exact m_isStretch.1 c
  · rw [b01_f c]; exact m_isStretch.2 c
theorem d_in {x : Int32} {lo hi : Int64} {h : hp_T} {a b : Int} (ea : lo.toInt = a) (eb : hi.toInt = b) : f_X10_in x.toInt64 lo hi h = some (b01 (a ≤ x.toInt ∧ x.toInt ≤ b), h) := by
  have H := m_in (x := x.toInt64) (h := h) ea eb
  rw [x_l] at H
  by_cases c : a ≤ x.toInt ∧ x.toInt ≤ b
  · rw [b01_t c]; exact H.1 c
  · rw [b01_f c]; exact H.2 c
theorem d_isTwo {x : Int32} {h : hp_T} : f_X10_isTwo x h = some (b01 (0 ≤ x.toInt ∧ x.toInt ≤ 1), h) := by
  by_cases c : 0 ≤ x.toInt ∧ x.toInt ≤ 1
  · rw [b01_t c]; exact m_isTwo.1 c
  · rw [b01_f c]; exact m_isTwo.2 c
