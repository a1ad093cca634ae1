/-! rooms, and the deepest point -/
def anyB (p : Nat → Bool) : Nat → Bool
  | 0 => false
  | n + 1 => anyB p n || p n
theorem anyB_iff {p : Nat → Bool} {n : Nat} : anyB p n = true ↔ ∃ i, i < n ∧ p i = true := by
  induction n with
  | zero => simp [anyB]
  | succ n ih =>
    unfold anyB
    rw [Bool.or_eq_true, ih]
    constructor
    · rintro (⟨i, h1, h2⟩ | h)
      · exact ⟨i, by omega, h2⟩
      · exact ⟨n, by omega, h⟩
    · rintro ⟨i, h1, h2⟩
      by_cases e : i = n
      · subst e; exact Or.inr h2
      · exact Or.inl ⟨i, by omega, h2⟩
theorem anyB_no {p : Nat → Bool} {n : Nat} (h : ∀ i, i < n → p i = false) : anyB p n = false := by
  cases e : anyB p n with
  | false => rfl
  | true =>
    obtain ⟨i, h1, h2⟩ := anyB_iff.mp e
    rw [h i h1] at h2
    cases h2
def mxr (rm : Nat → Nat) : Nat → Nat
  | 0 => 0
  | n + 1 => max (mxr rm n) (rm n + 1)
theorem mxr_cg {a b : Nat → Nat} {n : Nat} (h : ∀ i, i < n → a i = b i) : mxr a n = mxr b n := by
  induction n with
  | zero => rfl
  | succ n ih => unfold mxr; rw [ih (fun i hi => h i (by omega)), h n (by omega)]
theorem mx_n {a b : Nat} (ha : a < 2147483648) (hb : b < 2147483648) : mx (nI a) (nI b) = nI (max a b) := by
  rw [i_eq, mx_i, n_int ha, n_int hb, n_int (by omega)]
  omega
def RmS (n : Nat) (f t : Nat → Int32) (rm : Nat → Nat) : Prop := ∀ r, r < n → rm r ≤ r ∧ (∀ i, i < r → rm i = rm r → (t i).toInt ≤ (f r).toInt) ∧ (∀ c, c < rm r → ∃ i, i < r ∧ rm i = c ∧ (f r).toInt < (t i).toInt)
def RunM (D : Nat → Nat) (f : Nat → Int32) (v M : Nat) (P : Int32) : Prop := (v = 0 → M = 0 ∧ P = -2147483648) ∧ (∀ r, r < v → D r ≤ M) ∧ (0 < v → ∃ r, r < v ∧ D r = M ∧ P = f r ∧ ∀ s, s < r → D s < M)
theorem RunM.a {D : Nat → Nat} {f : Nat → Int32} {v M : Nat} {P : Int32} (h : RunM D f v M P) (h1 : 1 ≤ D v) (c : D v ≤ M) : RunM D f (v + 1) M P := by
  obtain ⟨a1, a2, a3⟩ := h
  have hv : 0 < v := by
    rcases Nat.eq_zero_or_pos v with e | e
    · have := (a1 e).1; omega
    · exact e
  refine ⟨fun e => absurd e (by omega), fun r hr => ?_, fun _ => ?_⟩
  · by_cases e : r = v
    · subst e; exact c
    · exact a2 r (by omega)
  · obtain ⟨r, q1, q2⟩ := a3 hv
    exact ⟨r, by omega, q2⟩
theorem RunM.b {D : Nat → Nat} {f : Nat → Int32} {v M : Nat} {P : Int32} (h : RunM D f v M P) (c : ¬ D v ≤ M) : RunM D f (v + 1) (D v) (f v) := by
  obtain ⟨a1, a2, a3⟩ := h
  refine ⟨fun e => absurd e (by omega), fun r hr => ?_, fun _ => ⟨v, by omega, rfl, rfl, fun s hs => ?_⟩⟩
  · by_cases e : r = v
    · subst e; exact Nat.le_refl _
    · have := a2 r (by omega); omega
  · have := a2 s hs; omega
theorem RunM.cg {D D2 : Nat → Nat} {f : Nat → Int32} {v M : Nat} {P : Int32} (h : RunM D f v M P) (e : ∀ r, r < v → D2 r = D r) : RunM D2 f v M P := by
  obtain ⟨a1, a2, a3⟩ := h
  refine ⟨a1, fun r hr => by rw [e r hr]; exact a2 r hr, fun hv => ?_⟩
  obtain ⟨r, q1, q2, q3, q4⟩ := a3 hv
  exact ⟨r, q1, by rw [e r q1]; exact q2, q3, fun s hs => by rw [e s (by omega)]; exact q4 s hs⟩
def tB (t : Nat → Int32) (x : Int32) (s : Nat) : Bool := !(decide (t s ≤ x))
def dpC (f t : Nat → Int32) (r : Nat) : Nat := cnt (tB t (f r)) (r + 1)
def dpM (n : Nat) (f t : Nat → Int32) (r : Nat) : Nat := cnt (metB f t (f r) (f r + 1)) n
theorem tB_i {t : Nat → Int32} {x : Int32} {s : Nat} : tB t x s = true ↔ x.toInt < (t s).toInt := by
  unfold tB
  simp only [Bool.not_eq_true', decide_eq_false_iff_not, i_le]
  omega
theorem metB_i {f t : Nat → Int32} {a b : Int32} {s : Nat} : metB f t a b s = true ↔ (f s).toInt < b.toInt ∧ a.toInt < (t s).toInt := by
  unfold metB
  simp only [Bool.and_eq_true, Bool.not_eq_true', decide_eq_false_iff_not, i_le]
  omega
theorem b_ext {a b : Bool} (h : a = true ↔ b = true) : a = b := by
  cases a <;> cases b <;> simp_all
theorem cnt_tail {p : Nat → Bool} {a n : Nat} (ha : a ≤ n) (h : ∀ i, a ≤ i → i < n → p i = false) : cnt p n = cnt p a := by
  induction n with
  | zero => have : a = 0 := by omega
            subst this; rfl
  | succ n ih =>
    rcases Nat.eq_or_lt_of_le ha with e | e
    · rw [e]
    · rw [cnt_f (h n (by omega) (by omega)), ih (by omega) (fun i h1 h2 => h i h1 (by omega))]
theorem cnt_imp {p q : Nat → Bool} {n : Nat} (h : ∀ i, i < n → p i = true → q i = true) : cnt p n ≤ cnt q n := by
  induction n with
  | zero => exact Nat.le_refl _
  | succ n ih =>
    have := ih (fun i hi => h i (by omega))
    cases hp : p n with
    | true => rw [cnt_t hp, cnt_t (h n (by omega) hp)]; omega
    | false =>
      rw [cnt_f hp]
      exact Nat.le_trans this (cnt_mono q (by omega))
theorem cnt_pos {p : Nat → Bool} {n i : Nat} (hi : i < n) (h : p i = true) : 1 ≤ cnt p n := by
  have := cnt_mono p (show i + 1 ≤ n by omega)
  rw [cnt_t h] at this
  omega
/-- p changed at one place -/
theorem cnt_one {p q : Nat → Bool} {c n : Nat} (hc : c < n) (h : ∀ i, i ≠ c → q i = p i) (hp : p c = false) : cnt q n = cnt p n + (if q c = true then 1 else 0) := by
  induction n with
  | zero => omega
  | succ n ih =>
    by_cases e : c = n
    · subst e
      rw [cnt_f hp]
      have : cnt q c = cnt p c := cnt_cg fun i hi => h i (by omega)
      conv => lhs; unfold cnt
      rw [this]
    · have h1 := ih (by omega)
      have h2 := h n (by omega)
      cases hq : p n with
      | true => rw [cnt_t hq, cnt_t (by rw [h2, hq]), h1]; omega
      | false => rw [cnt_f hq, cnt_f (by rw [h2, hq]), h1]
theorem last_f {n : Nat} {f t : Nat → Int32} (Q : Sq n f t) {r : Nat} (hr : r < n) : ∃ l, r ≤ l ∧ l < n ∧ f l = f r ∧ ∀ s, l < s → s < n → (f l).toInt < (f s).toInt := by
  obtain ⟨d, hd⟩ : ∃ d, d = n - r := ⟨_, rfl⟩
  induction d generalizing r with
  | zero => omega
  | succ d ih =>
    by_cases c : r + 1 < n ∧ f (r + 1) = f r
    · obtain ⟨l, q1, q2, q3, q4⟩ := ih c.1 (by omega)
      exact ⟨l, by omega, q2, q3.trans c.2, q4⟩
    · refine ⟨r, Nat.le_refl _, hr, rfl, fun s h1 h2 => ?_⟩
      have a1 := Q.2 (r + 1) s (by omega) h2
      have a2 := Q.2 r (r + 1) (by omega) (by omega)
      have : (f (r + 1)).toInt ≠ (f r).toInt := fun e => c ⟨by omega, i_eq.mpr e⟩
      omega
theorem f1_i {n : Nat} {f t : Nat → Int32} (Q : Sq n f t) {r : Nat} (hr : r < n) : (f r + 1).toInt = (f r).toInt + 1 := by
  have := Q.1 r hr
  unfold vld at this
  rw [i_add (by rw [t_1]; omega) (by rw [t_1]; omega), t_1]
theorem dp_le {n : Nat} {f t : Nat → Int32} (Q : Sq n f t) {r : Nat} (hr : r < n) : dpC f t r ≤ dpM n f t r := by
  unfold dpC dpM
  refine Nat.le_trans (cnt_imp fun i hi h => ?_) (cnt_mono _ (show r + 1 ≤ n by omega))
  rw [tB_i] at h
  rw [metB_i, f1_i Q hr]
  have := Q.2 i r (by omega) hr
  omega
theorem dp_ex {n : Nat} {f t : Nat → Int32} (Q : Sq n f t) {r : Nat} (hr : r < n) : ∃ l, l < n ∧ f l = f r ∧ dpC f t l = dpM n f t r := by
  obtain ⟨l, h1, h2, h3, h4⟩ := last_f Q hr
  refine ⟨l, h2, h3, ?_⟩
  unfold dpC dpM
  rw [cnt_tail (p := metB f t (f r) (f r + 1)) (show l + 1 ≤ n by omega) (fun i q1 q2 => ?_)]
  · refine cnt_cg fun i hi => b_ext ?_
    rw [tB_i, metB_i, f1_i Q hr, h3]
    have := Q.2 i l (by omega) h2
    rw [h3] at this
    omega
  · cases e : metB f t (f r) (f r + 1) i with
    | false => rfl
    | true =>
      rw [metB_i, f1_i Q hr] at e
      have := h4 i (by omega) q2
      rw [h3] at this
      omega
theorem dp_eq {n : Nat} {f t : Nat → Int32} (Q : Sq n f t) {M M2 : Nat} {P P2 : Int32} (h : RunM (dpC f t) f n M P) (h2 : RunM (dpM n f t) f n M2 P2) : M = M2 ∧ P = P2 := by
  rcases Nat.eq_zero_or_pos n with e | e
  · rw [(h.1 e).1, (h.1 e).2, (h2.1 e).1, (h2.1 e).2]; exact ⟨rfl, rfl⟩
  obtain ⟨r, r1, r2, r3, r4⟩ := h.2.2 e
  obtain ⟨s, s1, s2, s3, s4⟩ := h2.2.2 e
  obtain ⟨l, l1, l2, l3⟩ := dp_ex Q s1
  have a1 := dp_le Q r1
  have a2 := h2.2.1 r r1
  have a3 := h.2.1 l l1
  have eM : M = M2 := by omega
  refine ⟨eM, ?_⟩
  have b1 : r ≤ l := by
    apply Nat.le_of_not_lt
    intro q
    have := r4 l q
    omega
  have b2 : s ≤ r := by
    apply Nat.le_of_not_lt
    intro q
    have := s4 r q
    omega
  have c1 := Q.2 r l b1 l1
  have c2 := Q.2 s r b2 r1
  rw [l2] at c1
  rw [r3, s3, i_eq]
  omega
/-! the class -/
def bB (h : hp_T) (x : Int32) (c : Nat) : Bool := !(decide (h.1 27 c ≤ x))
theorem c_giveRoom {h : hp_T} {k R : Nat} {a b : Int32} (hR : R < 48) (hs : h.1 25 2 = nI R) (hk : k < 48) : ∃ c, c ≤ R ∧ (∀ x, x < c → bB h a x = true) ∧ (c < R → bB h a c = false) ∧ f_X5_giveRoom (nI k) a b h = some (hw (hw (hw h 26 k (nI c)) 27 c b) 25 2 (nI (max R (c + 1)))) := by
  unfold f_X5_giveRoom
  have key := loop_j (fun N (s : Int32 × hp_T) => f_X5_giveRoom_L1 a (fun (x5 : Int32) (h6 : hp_T) => if ix (nI k) 48 = true then o_let (hw h6 26 (nI k).toNatClampNeg x5) fun (h8 : hp_T) => if ix x5 48 = true then o_let (hw h8 27 x5.toNatClampNeg b) fun (h10 : hp_T) => o_let (hw h10 25 2 (mx (h10.1 25 2) (x5 + (1 : Int32)))) fun (h11 : hp_T) => some h11 else none else none) N s.1 s.2)
    (fun o => ∃ c, c ≤ R ∧ (∀ x, x < c → bB h a x = true) ∧ (c < R → bB h a c = false) ∧ o = some (hw (hw (hw h 26 k (nI c)) 27 c b) 25 2 (nI (max R (c + 1)))))
    (fun r s => ∃ v, r = R - v ∧ v ≤ R ∧ s.1 = nI v ∧ s.2 = h ∧ (∀ x, x < v → bB h a x = true)) ?_ R 100 (0, h) (by omega) ⟨0, rfl, by omega, rfl, rfl, fun x hx => absurd hx (by omega)⟩
  · exact key
  rintro N r ⟨y, g⟩ ⟨v, rfl, hv, e1, e2, hb⟩
  dsimp only at e1 e2
  subst e1; subst e2
  dsimp only
  have fin : v < 48 → (if ix (nI k) 48 = true then o_let (hw g 26 k (nI v)) fun (h8 : hp_T) => if ix (nI v) 48 = true then o_let (hw h8 27 v b) fun (h10 : hp_T) => o_let (hw h10 25 2 (mx (h10.1 25 2) (nI v + (1 : Int32)))) fun (h11 : hp_T) => some h11 else none else none) = some (hw (hw (hw g 26 k (nI v)) 27 v b) 25 2 (nI (max R (v + 1)))) := by
    intro q
    rw [if_pos (ix_n hk (by omega)), l_let, if_pos (ix_n q (by omega)), l_let, l_let, hw_ne _ _ _ (by decide), hw_ne _ _ _ (by decide), hs, nI_1, mx_n (by omega) (by omega)]
  rw [f_X5_giveRoom_L1, hs, n_cl (show v < 2147483648 by omega), n_cl (show k < 2147483648 by omega)]
  by_cases e : v = R
  · left
    rw [if_pos (by rw [e, i_le]; omega), fin (by omega)]
    exact ⟨v, hv, hb, fun q => absurd q (by omega), rfl⟩
  rw [if_neg (by rw [i_le, n_int (by omega), n_int (by omega)]; omega), if_pos (ix_n (by omega) (by omega))]
  by_cases c : g.1 27 v ≤ a
  · left
    rw [if_pos c, fin (by omega)]
    exact ⟨v, hv, hb, fun _ => by simp [bB, c], rfl⟩
  · right
    rw [if_neg c, l_let, nI_1]
    refine ⟨R - (v + 1), (nI (v + 1), g), by omega, ⟨v + 1, rfl, by omega, rfl, rfl, fun x hx => ?_⟩, rfl⟩
    by_cases e : x = v
    · subst e; simp [bB, c]
    · exact hb x (by omega)
theorem c_seeDepth {h : hp_T} {R M : Nat} {a : Int32} (hR : R ≤ 48) (hM : M ≤ 48) (hs : h.1 25 2 = nI R) (h3 : h.1 25 3 = nI M) : f_X5_seeDepth a h = some (if cnt (bB h a) R ≤ M then h else hw (hw h 25 3 (nI (cnt (bB h a) R))) 25 4 a) := by
  unfold f_X5_seeDepth
  have key := loop_j (fun N (s : Int32 × Int32 × hp_T) => f_X5_seeDepth_L1 a (fun (x8 : Int32) (x9 : Int32) (h10 : hp_T) => (if x8 ≤ (h10.1 25 3) then some h10 else o_let (hw h10 25 3 x8) fun (h12 : hp_T) => o_let (hw h12 25 4 a) fun (h13 : hp_T) => some h13)) N s.1 s.2.1 s.2.2)
    (fun o => o = some (if cnt (bB h a) R ≤ M then h else hw (hw h 25 3 (nI (cnt (bB h a) R))) 25 4 a))
    (fun r s => ∃ v, r = R - v ∧ v ≤ R ∧ s.1 = nI (cnt (bB h a) v) ∧ s.2.1 = nI v ∧ s.2.2 = h) ?_ R 100 (0, 0, h) (by omega) ⟨0, rfl, by omega, rfl, rfl, rfl⟩
  · exact key
  rintro N r ⟨x, y, g⟩ ⟨v, rfl, hv, e1, e2, e3⟩
  dsimp only at e1 e2 e3
  subst e3; subst e1; subst e2
  dsimp only
  have hc := cnt_le (bB g a) v
  rw [f_X5_seeDepth_L1, hs]
  by_cases e : v = R
  · left
    subst e
    rw [if_pos (by rw [i_le]; omega), h3]
    by_cases c : cnt (bB g a) v ≤ M
    · rw [if_pos (by rw [i_le, n_int (by omega), n_int (by omega)]; omega), if_pos c]
    · rw [if_neg (by rw [i_le, n_int (by omega), n_int (by omega)]; omega), if_neg c, l_let, l_let]
  right
  rw [if_neg (by rw [i_le, n_int (by omega), n_int (by omega)]; omega), if_pos (ix_n (by omega) (by omega)), n_cl (by omega)]
  by_cases c : g.1 27 v ≤ a
  · have hp : bB g a v = false := by simp [bB, c]
    rw [if_pos c, l_let, l_let, Int32.add_zero, nI_1]
    exact ⟨R - (v + 1), (nI (cnt (bB g a) v), nI (v + 1), g), by omega, ⟨v + 1, rfl, by omega, by rw [cnt_f hp], rfl, rfl⟩, rfl⟩
  · have hp : bB g a v = true := by simp [bB, c]
    rw [if_neg c, l_let, l_let, nI_1, nI_1]
    exact ⟨R - (v + 1), (nI (cnt (bB g a) v + 1), nI (v + 1), g), by omega, ⟨v + 1, rfl, by omega, by rw [cnt_t hp], rfl, rfl⟩, rfl⟩
def DerR (h : hp_T) (n : Nat) (K : Nat → Nat) (f t : Nat → Int32) : Prop := (∃ rm, RmS n f t rm ∧ h.1 25 2 = nI (mxr rm n) ∧ ∀ r, r < n → h.1 26 (K r) = nI (rm r)) ∧ ∃ M P, h.1 25 3 = nI M ∧ M ≤ 48 ∧ h.1 25 4 = P ∧ RunM (dpC f t) f n M P
theorem bB_i {h : hp_T} {x : Int32} {c : Nat} : bB h x c = true ↔ x.toInt < (h.1 27 c).toInt := by
  unfold bB
  simp only [Bool.not_eq_true', decide_eq_false_iff_not, i_le]
  omega
/-- what the class's build keeps -/
def RmI (h : hp_T) (v : Nat) (K : Nat → Nat) (f t : Nat → Int32) (rm : Nat → Nat) : Prop :=
  RmS v f t rm ∧ mxr rm v ≤ v ∧ h.1 25 2 = nI (mxr rm v) ∧ (∀ r, r < v → rm r < mxr rm v ∧ h.1 26 (K r) = nI (rm r)) ∧
  (∀ c, c < mxr rm v → (∃ i, i < v ∧ rm i = c ∧ h.1 27 c = t i) ∧ ∀ j, j < v → rm j = c → (t j).toInt ≤ (h.1 27 c).toInt) ∧
  (∀ x : Int32, (∀ r, r < v → (f r).toInt ≤ x.toInt) → cnt (bB h x) (mxr rm v) = cnt (tB t x) v)
theorem room_step {h : hp_T} {n v : Nat} {K : Nat → Nat} {f t : Nat → Int32} {rm : Nat → Nat} (Q : Sq n f t) (hv : v < n) (hn : n ≤ 48) (hK : ∀ i, i < n → K i < 48) (hKi : ∀ i j, i < n → j < n → K i = K j → i = j) (I : RmI h v K f t rm) :
    ∃ h2 rm2, f_X5_giveRoom (nI (K v)) (f v) (t v) h = some h2 ∧ Fr [25, 26, 27] h h2 ∧ (∀ i, i ≠ 2 → h2.1 25 i = h.1 25 i) ∧ RmI h2 (v + 1) K f t rm2 := by
  obtain ⟨I1, I2, I3, I4, I5, I6⟩ := I
  obtain ⟨c, c1, c2, c3, E⟩ := c_giveRoom (k := K v) (R := mxr rm v) (a := f v) (b := t v) (by omega) I3 (hK v hv)
  obtain ⟨rm2, er⟩ : ∃ rm2 : Nat → Nat, rm2 = fun i => if i = v then c else rm i := ⟨_, rfl⟩
  have r1 : rm2 v = c := by rw [er]; simp
  have r2 : ∀ i, i < v → rm2 i = rm i := fun i hi => by rw [er]; simp [show i ≠ v by omega]
  have r3 : mxr rm2 v = mxr rm v := mxr_cg r2
  have r4 : mxr rm2 (v + 1) = max (mxr rm v) (c + 1) := by show max (mxr rm2 v) (rm2 v + 1) = _; rw [r3, r1]
  have Qv := Q.1 v hv
  unfold vld at Qv
  refine ⟨_, rm2, E, ((Fr.rf.hw (by decide)).hw (by decide)).hw (by decide), fun i hi => by rw [hw_n _ _ _ _ (Or.inr hi), hw_ne _ _ _ (by decide), hw_ne _ _ _ (by decide)], ?_⟩
  obtain ⟨h2, e2⟩ : ∃ h2, h2 = hw (hw (hw h 26 (K v) (nI c)) 27 c (t v)) 25 2 (nI (max (mxr rm v) (c + 1))) := ⟨_, rfl⟩
  rw [← e2]
  have a27 : h2.1 27 = upd (h.1 27) c (t v) := by rw [e2, hw_ne _ _ _ (by decide), hw_at, hw_ne _ _ _ (by decide)]
  have a26 : h2.1 26 = upd (h.1 26) (K v) (nI c) := by rw [e2, hw_ne _ _ _ (by decide), hw_ne _ _ _ (by decide), hw_at]
  have a25 : h2.1 25 2 = nI (max (mxr rm v) (c + 1)) := by rw [e2, hw_s]
  have old : c < mxr rm v → (h.1 27 c).toInt ≤ (f v).toInt := by
    intro q
    have := c3 q
    have n1 : ¬ bB h (f v) c = true := by rw [this]; exact nft
    rw [bB_i] at n1
    omega
  refine ⟨fun r hr => ?_, by rw [r4]; omega, by rw [a25, r4], fun r hr => ?_, fun x hx => ?_, fun x hx => ?_⟩
  · by_cases e : r = v
    · subst e
      rw [r1]
      refine ⟨by omega, fun i hi hr2 => ?_, fun x hx => ?_⟩
      · rw [r2 i hi] at hr2
        have q := (I4 i hi).1
        have := (I5 c (by omega)).2 i hi hr2
        have := old (by omega)
        omega
      · have q := c2 x hx
        rw [bB_i] at q
        obtain ⟨⟨i, j1, j2, j3⟩, -⟩ := I5 x (by omega)
        exact ⟨i, j1, by rw [r2 i j1]; exact j2, by rw [← j3]; exact q⟩
    · obtain ⟨q1, q2, q3⟩ := I1 r (by omega)
      rw [r2 r (by omega)]
      refine ⟨q1, fun i hi hr2 => ?_, fun x hx => ?_⟩
      · rw [r2 i (by omega)] at hr2; exact q2 i hi hr2
      · obtain ⟨i, j1, j2, j3⟩ := q3 x hx
        exact ⟨i, j1, by rw [r2 i (by omega)]; exact j2, j3⟩
  · rw [r4, a26]
    by_cases e : r = v
    · subst e
      rw [r1, up_s]; exact ⟨by omega, rfl⟩
    · have hk : K r ≠ K v := fun q => e (hKi r v (by omega) hv q)
      rw [r2 r (by omega), up_n _ _ hk]
      have := I4 r (by omega)
      exact ⟨by omega, this.2⟩
  · rw [r4] at hx
    rw [a27]
    by_cases e : x = c
    · subst e
      rw [up_s]
      refine ⟨⟨v, by omega, r1, rfl⟩, fun j hj hr2 => ?_⟩
      by_cases ej : j = v
      · subst ej; exact Int.le_refl _
      · rw [r2 j (by omega)] at hr2
        have q := (I4 j (by omega)).1
        have := (I5 x (by omega)).2 j (by omega) hr2
        have := old (by omega)
        omega
    · rw [up_n _ _ e]
      obtain ⟨⟨i, j1, j2, j3⟩, j4⟩ := I5 x (by omega)
      refine ⟨⟨i, by omega, by rw [r2 i j1]; exact j2, j3⟩, fun j hj hr2 => ?_⟩
      by_cases ej : j = v
      · subst ej; rw [r1] at hr2; exact absurd hr2.symm e
      · rw [r2 j (by omega)] at hr2
        exact j4 j (by omega) hr2
  · have hfv := hx v (by omega)
    have hold := I6 x (fun r hr => hx r (by omega))
    have sm : ∀ i, i ≠ c → bB h2 x i = bB h x i := fun i hi => by unfold bB; rw [a27, up_n _ _ hi]
    have nw : bB h2 x c = tB t x v := b_ext (by rw [bB_i, tB_i, a27, up_s])
    have rs : cnt (tB t x) (v + 1) = cnt (tB t x) v + (if tB t x v = true then 1 else 0) := rfl
    rw [rs, ← hold, r4]
    by_cases e : c < mxr rm v
    · rw [show max (mxr rm v) (c + 1) = mxr rm v by omega, ← nw]
      refine cnt_one e sm ?_
      cases q : bB h x c with
      | false => rfl
      | true =>
        rw [bB_i] at q
        have := old e
        omega
    · have ec : c = mxr rm v := by omega
      rw [show max (mxr rm v) (c + 1) = c + 1 by omega, ← nw, ← ec]
      have : cnt (bB h2 x) c = cnt (bB h x) c := cnt_cg fun i hi => sm i (by omega)
      rw [← this]
      rfl
theorem cnt_0 (p : Nat → Bool) : cnt p 0 = 0 := rfl
theorem rooms_init {h h0 : hp_T} {K : Nat → Nat} {f t : Nat → Int32} (e0 : h0 = hw (hw (hw h 25 2 0) 25 3 0) 25 4 (-2147483648)) : (∃ rm, RmI h0 0 K f t rm) ∧ ∃ M P, h0.1 25 3 = nI M ∧ M ≤ 48 ∧ h0.1 25 4 = P ∧ RunM (dpC f t) f 0 M P := by
  have a2 : h0.1 25 2 = 0 := by rw [e0, hw_n _ _ _ _ (Or.inr (by decide)), hw_n _ _ _ _ (Or.inr (by decide)), hw_s]
  have a3 : h0.1 25 3 = 0 := by rw [e0, hw_n _ _ _ _ (Or.inr (by decide)), hw_s]
  have a4 : h0.1 25 4 = -2147483648 := by rw [e0, hw_s]
  have nr : ∀ r, ¬ r < 0 := fun r => Nat.not_lt_zero r
  have mz : mxr (fun _ => 0) 0 = 0 := rfl
  refine ⟨⟨fun _ => 0, fun r hr => absurd hr (nr r), by rw [mz]; omega, by rw [mz, a2]; rfl, fun r hr => absurd hr (nr r), fun c hc => absurd hc (nr c), fun x hx => by rw [mz, cnt_0, cnt_0]⟩, 0, _, by rw [a3]; rfl, by omega, a4, fun _ => ⟨rfl, rfl⟩, fun r hr => absurd hr (nr r), fun q => absurd q (nr 0)⟩
theorem rooms_build {h : hp_T} {n : Nat} {K : Nat → Nat} {f t : Nat → Int32} (V : CV h n K f t) (Q : Sq n f t) (hKi : ∀ i j, i < n → j < n → K i = K j → i = j) : ∃ h2, f_X5_build h = some h2 ∧ Fr [25, 26, 27] h h2 ∧ DerR h2 n K f t := by
  have hn := V.1
  have hK : ∀ i, i < n → K i < 48 := fun i hi => (V.2.2 i hi).2.1
  unfold f_X5_build
  rw [l_let, l_let, l_let]
  obtain ⟨h0, e0⟩ : ∃ h0, h0 = hw (hw (hw h 25 2 0) 25 3 0) 25 4 (-2147483648) := ⟨_, rfl⟩
  rw [← e0]
  have F0 : Fr [25, 26, 27] h h0 := by rw [e0]; exact ((Fr.rf.hw (by decide)).hw (by decide)).hw (by decide)
  have key := loop_j (fun N (s : Int32 × hp_T) => f_X5_build_L1 (fun (x15 : Int32) (h16 : hp_T) => some h16) N s.1 s.2)
    (fun o => ∃ h2, o = some h2 ∧ Fr [25, 26, 27] h h2 ∧ DerR h2 n K f t)
    (fun r s => ∃ v, r = n - v ∧ v ≤ n ∧ s.1 = nI v ∧ Fr [25, 26, 27] h s.2 ∧ (∃ rm, RmI s.2 v K f t rm) ∧ ∃ M P, s.2.1 25 3 = nI M ∧ M ≤ 48 ∧ s.2.1 25 4 = P ∧ RunM (dpC f t) f v M P) ?_ n 100 (0, h0) (by omega)
    ⟨0, rfl, by omega, rfl, F0, rooms_init e0⟩
  · exact key
  rintro N r ⟨y, g⟩ ⟨v, rfl, hv, e1, hF, ⟨rm, I⟩, M, P, m1, m2, m3, m4⟩
  dsimp only at e1 hF I m1 m3
  subst e1
  dsimp only
  have Vg : CV g n K f t := V.fr fun k k1 k2 => hF.1 k (by simp <;> omega)
  rw [f_X5_build_L1, Vg.2.1]
  by_cases e : v = n
  · subst e
    left
    rw [if_pos (by rw [i_le]; omega)]
    exact ⟨g, rfl, hF, ⟨rm, I.1, I.2.2.1, fun r hr => (I.2.2.2.1 r hr).2⟩, M, P, m1, m2, m3, m4⟩
  right
  obtain ⟨e1, e2, e3, e4⟩ := Vg.2.2 v (by omega)
  obtain ⟨h2, rm2, E, F2, k2, I2⟩ := room_step Q (show v < n by omega) hn hK hKi I
  have E3 := c_seeDepth (h := h2) (a := f v) (show mxr rm2 (v + 1) ≤ 48 by have := I2.2.1; omega) m2 I2.2.2.1 (by rw [k2 3 (by decide)]; exact m1)
  rw [I2.2.2.2.2.2 (f v) (fun r hr => Q.2 r v (by omega) (by omega))] at E3
  obtain ⟨hE, ehE⟩ : ∃ hE, hE = (if cnt (tB t (f v)) (v + 1) ≤ M then h2 else hw (hw h2 25 3 (nI (cnt (tB t (f v)) (v + 1)))) 25 4 (f v)) := ⟨_, rfl⟩
  rw [← ehE] at E3
  rw [if_neg (by rw [i_le, n_int (by omega), n_int (by omega)]; omega), if_pos (ix_n (by omega) (by omega)), l_let, n_cl (show v < 2147483648 by omega), e1, if_pos (ix_n e2 (by omega)), if_pos (ix_n e2 (by omega)), n_cl (show K v < 2147483648 by omega), e3, e4, E, v_some, if_pos (ix_n e2 (by omega)), F2.1 2 (by decide), e3, E3, v_some, l_let, nI_1]
  have one : 1 ≤ dpC f t v := cnt_pos (i := v) (by omega) (by rw [tB_i]; exact (Q.1 v (by omega)).2.1)
  have dl : dpC f t v ≤ 48 := by have := cnt_le (tB t (f v)) (v + 1); unfold dpC; omega
  refine ⟨n - (v + 1), (nI (v + 1), hE), by omega, ⟨v + 1, rfl, by omega, rfl, ?_⟩, rfl⟩
  dsimp only
  by_cases c : cnt (tB t (f v)) (v + 1) ≤ M
  · rw [if_pos c] at ehE
    subst ehE
    exact ⟨hF.tr F2, ⟨rm2, I2⟩, M, P, by rw [k2 3 (by decide)]; exact m1, m2, by rw [k2 4 (by decide)]; exact m3, m4.a one c⟩
  · rw [if_neg c] at ehE
    subst ehE
    obtain ⟨h3, eh⟩ : ∃ h3, h3 = hw (hw h2 25 3 (nI (cnt (tB t (f v)) (v + 1)))) 25 4 (f v) := ⟨_, rfl⟩
    have q : ∀ z, z ≠ 25 → h3.1 z = h2.1 z := fun z hz => by rw [eh, hw_ne _ _ _ hz, hw_ne _ _ _ hz]
    have q2 : h3.1 25 2 = h2.1 25 2 := by rw [eh, hw_n _ _ _ _ (Or.inr (by decide)), hw_n _ _ _ _ (Or.inr (by decide))]
    have qF : Fr [25, 26, 27] h2 h3 := by rw [eh]; exact (Fr.rf.hw (by decide)).hw (by decide)
    have q3 : h3.1 25 3 = nI (dpC f t v) := by rw [eh, hw_n _ _ _ _ (Or.inr (by decide)), hw_s]; rfl
    have q4 : h3.1 25 4 = f v := by rw [eh, hw_s]
    rw [← eh]
    refine ⟨(hF.tr F2).tr qF, ⟨rm2, ?_⟩, dpC f t v, f v, q3, dl, q4, m4.b c⟩
    obtain ⟨J1, J2, J3, J4, J5, J6⟩ := I2
    refine ⟨J1, J2, by rw [q2]; exact J3, by rw [q 26 (by decide)]; exact J4, by rw [q 27 (by decide)]; exact J5, fun x hx => ?_⟩
    rw [← J6 x hx]
    exact cnt_cg fun i _ => by unfold bB; rw [q 27 (by decide)]
/-! the reference -/
theorem m_meetsRank {m : hp_T} {n : Nat} {K : Nat → Nat} {f t : Nat → Int32} {i r : Nat} (V : MV m n K f t) (hi : i < n) (hr : r < n) : f_X10_meetsRank (nI i) (nI r) m = some ((if metB f t (f r) (t r) i = true then 1 else 0), m) := by
  have hn := V.1
  obtain ⟨e1, e2, e3, e4⟩ := V.2.2 r hr
  obtain ⟨g1, g2, g3, g4⟩ := V.2.2 i hi
  unfold f_X10_meetsRank
  rw [if_pos (ix_n (show i < 48 by omega) (by omega)), if_pos (ix_n (show r < 48 by omega) (by omega)), n_cl (show r < 2147483648 by omega), n_cl (show i < 2147483648 by omega), e1, g1, if_pos (ix_n e2 (by omega)), if_pos (ix_n (show r < 48 by omega) (by omega)), if_pos (ix_n e2 (by omega)), n_cl (show K r < 2147483648 by omega), e3, e4, m_met V hi, c_some]
  split
  · rw [if_pos bz1]
  · rw [if_pos bz0]
theorem met_lt {n : Nat} {f t : Nat → Int32} (Q : Sq n f t) {i r : Nat} (hi : i ≤ r) (hr : r < n) : metB f t (f r) (t r) i = true ↔ (f r).toInt < (t i).toInt := by
  rw [metB_i]
  have := Q.2 i r hi hr
  have h2 := Q.1 r hr
  unfold vld at h2
  omega
def usB (f t : Nat → Int32) (rm : Nat → Nat) (v c i : Nat) : Bool := decide (rm i = c) && metB f t (f v) (t v) i
theorem m_isUsed {m : hp_T} {n v c : Nat} {K : Nat → Nat} {f t : Nat → Int32} {rm : Nat → Nat} (V : MV m n K f t) (hv : v < n) (hc : c ≤ 48) (hr : ∀ i, i < v → m.1 27 i = nI (rm i) ∧ rm i ≤ 48) : f_X10_isUsed (nI v) (nI c) m = some ((if anyB (usB f t rm v c) v = true then 1 else 0), m) := by
  have hn := V.1
  unfold f_X10_isUsed
  have key := loop_j (fun N (s : Int32 × Int32 × hp_T) => f_X10_isUsed_L1 (nI v) (nI c) (fun (x13 : Int32) (x14 : Int32) (h15 : hp_T) => if bz x13 = true then some (x13, h15) else none) N s.1 s.2.1 s.2.2)
    (fun o => o = some ((if anyB (usB f t rm v c) v = true then 1 else 0), m))
    (fun r s => ∃ j, r = v - j ∧ j ≤ v ∧ s.1 = (if anyB (usB f t rm v c) j = true then 1 else 0) ∧ s.2.1 = nI j ∧ s.2.2 = m) ?_ v 100 (0, 0, m) (by omega) ⟨0, rfl, by omega, rfl, rfl, rfl⟩
  · exact key
  rintro N r ⟨x, y, g⟩ ⟨j, rfl, hj, e1, e2, e3⟩
  dsimp only at e1 e2 e3
  subst e3; subst e1; subst e2
  dsimp only
  rw [f_X10_isUsed_L1]
  by_cases e : j = v
  · left
    subst e
    rw [if_pos (by rw [i_le]; omega)]
    split
    · rw [if_pos bz1]
    · rw [if_pos bz0]
  right
  rw [if_neg (by rw [i_le, n_int (by omega), n_int (by omega)]; omega)]
  have st : anyB (usB f t rm v c) (j + 1) = (anyB (usB f t rm v c) j || usB f t rm v c j) := rfl
  cases ha : anyB (usB f t rm v c) j with
  | true =>
    rw [if_pos ptt, if_neg n10, l_let, nI_1]
    exact ⟨v - (j + 1), (1, nI (j + 1), g), by omega, ⟨j + 1, rfl, by omega, by rw [st, ha]; rfl, rfl, rfl⟩, rfl⟩
  | false =>
    rw [if_neg nft, if_pos p00, if_pos (ix_n (show j < 48 by omega) (by omega)), n_cl (show j < 2147483648 by omega), (hr j (by omega)).1]
    have rb := (hr j (by omega)).2
    by_cases ec : rm j = c
    · rw [if_pos (by rw [ec]), m_meetsRank V (show j < n by omega) hv, c_some]
      have us : usB f t rm v c j = metB f t (f v) (t v) j := by simp [usB, ec]
      cases hm : metB f t (f v) (t v) j with
      | true =>
        rw [if_pos ptt, if_neg n10, l_let, nI_1]
        exact ⟨v - (j + 1), (1, nI (j + 1), g), by omega, ⟨j + 1, rfl, by omega, by rw [st, ha, us, hm]; rfl, rfl, rfl⟩, rfl⟩
      | false =>
        rw [if_neg nft, if_pos p00, l_let, nI_1]
        exact ⟨v - (j + 1), (0, nI (j + 1), g), by omega, ⟨j + 1, rfl, by omega, by rw [st, ha, us, hm]; rfl, rfl, rfl⟩, rfl⟩
    · have us : usB f t rm v c j = false := by simp [usB, ec]
      rw [if_neg (fun q => ec (n_inj (by omega) (by omega) q)), l_let, nI_1]
      exact ⟨v - (j + 1), (0, nI (j + 1), g), by omega, ⟨j + 1, rfl, by omega, by rw [st, ha, us]; rfl, rfl, rfl⟩, rfl⟩
theorem used_iff {n v c : Nat} {f t : Nat → Int32} {rm : Nat → Nat} (Q : Sq n f t) (hv : v < n) (S : RmS n f t rm) (hc : c ≤ rm v) : anyB (usB f t rm v c) v = true ↔ c < rm v := by
  obtain ⟨s1, s2, s3⟩ := S v hv
  rw [anyB_iff]
  constructor
  · rintro ⟨i, hi, h⟩
    simp only [usB, Bool.and_eq_true, decide_eq_true_eq] at h
    rw [met_lt Q (by omega) hv] at h
    rcases Nat.eq_or_lt_of_le hc with e | e
    · have := s2 i hi (by omega); omega
    · exact e
  · intro h
    obtain ⟨i, i1, i2, i3⟩ := s3 c h
    refine ⟨i, i1, ?_⟩
    simp only [usB, Bool.and_eq_true, decide_eq_true_eq]
    exact ⟨i2, (met_lt Q (by omega) hv).mpr i3⟩
theorem m_gives2 {m : hp_T} {n v : Nat} {K : Nat → Nat} {f t : Nat → Int32} {rm : Nat → Nat} {Kc : hp_T → Option (Int32 × hp_T)} (V : MV m n K f t) (Q : Sq n f t) (S : RmS n f t rm) (hv : v < n) (hr : ∀ i, i < v → m.1 27 i = nI (rm i)) (h0 : m.1 27 v = 0) :
    ∃ m2, f_X10_gives_L2 (nI v) Kc 100 m = Kc m2 ∧ Fr [27] m m2 ∧ (∀ i, i ≠ v → m2.1 27 i = m.1 27 i) ∧ m2.1 27 v = nI (rm v) := by
  have hn := V.1
  have hl := (S v hv).1
  have key := loop_j (fun N (s : hp_T) => f_X10_gives_L2 (nI v) Kc N s)
    (fun o => ∃ m2, o = Kc m2 ∧ Fr [27] m m2 ∧ (∀ i, i ≠ v → m2.1 27 i = m.1 27 i) ∧ m2.1 27 v = nI (rm v))
    (fun r s => ∃ c, r = rm v - c ∧ c ≤ rm v ∧ Fr [27] m s ∧ (∀ i, i ≠ v → s.1 27 i = m.1 27 i) ∧ s.1 27 v = nI c) ?_ (rm v) 100 m (by omega) ⟨0, rfl, by omega, Fr.rf, fun _ _ => rfl, h0⟩
  · exact key
  rintro N r g ⟨c, rfl, hc, gF, g1, g2⟩
  have Vg : MV g n K f t := V.fr (by rw [gF.1 0 (by decide)]) ⟨gF.1 12 (by decide), gF.1 6 (by decide), gF.1 7 (by decide)⟩
  have U := used_iff Q hv S hc
  rw [f_X10_gives_L2, if_pos (ix_n (show v < 48 by omega) (by omega)), n_cl (show v < 2147483648 by omega), g2, m_isUsed (rm := rm) Vg hv (by omega) (fun i hi => ⟨by rw [g1 i (by omega)]; exact hr i hi, by have := (S i (by omega)).1; omega⟩), c_some]
  by_cases e : c < rm v
  · right
    rw [if_pos (U.mpr e), if_neg n10, if_pos (ix_n (show v < 48 by omega) (by omega)), if_pos (ix_n (show v < 48 by omega) (by omega)), l_let, g2, nI_1]
    exact ⟨rm v - (c + 1), _, by omega, ⟨c + 1, rfl, by omega, gF.hw (by decide), fun i hi => by rw [hw_n _ _ _ _ (Or.inr hi)]; exact g1 i hi, by rw [hw_s]⟩, rfl⟩
  · left
    rw [if_neg (fun q => e (U.mp q)), if_pos p00]
    exact ⟨g, rfl, gF, g1, by rw [g2, show c = rm v by omega]⟩
theorem m_gives {m : hp_T} {n : Nat} {K : Nat → Nat} {f t : Nat → Int32} {rm : Nat → Nat} (V : MV m n K f t) (Q : Sq n f t) (S : RmS n f t rm) : ∃ m2, f_X10_gives m = some (nI (mxr rm n), m2) ∧ Fr [27] m m2 ∧ ∀ r, r < n → m2.1 27 r = nI (rm r) := by
  have hn := V.1
  have hm : ∀ v, v ≤ n → mxr rm v ≤ v := by
    intro v
    induction v with
    | zero => intro _; exact Nat.le_refl _
    | succ v ih => intro q; have := ih (by omega); have := (S v (by omega)).1; unfold mxr; omega
  unfold f_X10_gives
  have key := loop_j (fun N (s : Int32 × Int32 × hp_T) => f_X10_gives_L1 (fun (x18 : Int32) (x19 : Int32) (h20 : hp_T) => some (x18, h20)) N s.1 s.2.1 s.2.2)
    (fun o => ∃ m2, o = some (nI (mxr rm n), m2) ∧ Fr [27] m m2 ∧ ∀ r, r < n → m2.1 27 r = nI (rm r))
    (fun r s => ∃ v, r = n - v ∧ v ≤ n ∧ s.1 = nI (mxr rm v) ∧ s.2.1 = nI v ∧ Fr [27] m s.2.2 ∧ ∀ r, r < v → s.2.2.1 27 r = nI (rm r)) ?_ n 100 (0, 0, m) (by omega) ⟨0, rfl, by omega, rfl, rfl, Fr.rf, fun r hr => absurd hr (by omega)⟩
  · exact key
  rintro N r ⟨x, y, g⟩ ⟨v, rfl, hv, e1, e2, gF, g1⟩
  dsimp only at e1 e2 gF g1
  subst e1; subst e2
  dsimp only
  have Vg : MV g n K f t := V.fr (by rw [gF.1 0 (by decide)]) ⟨gF.1 12 (by decide), gF.1 6 (by decide), gF.1 7 (by decide)⟩
  rw [f_X10_gives_L1, Vg.2.1]
  by_cases e : v = n
  · left
    subst e
    rw [if_pos (by rw [i_le]; omega)]
    exact ⟨g, rfl, gF, g1⟩
  right
  have V2 : MV (hw g 27 v 0) n K f t := Vg.fr (by rw [hw_ne _ _ _ (by decide)]) ⟨hw_ne _ _ _ (by decide), hw_ne _ _ _ (by decide), hw_ne _ _ _ (by decide)⟩
  rw [if_neg (by rw [i_le, n_int (by omega), n_int (by omega)]; omega), if_pos (ix_n (show v < 48 by omega) (by omega)), l_let, n_cl (show v < 2147483648 by omega)]
  obtain ⟨m2, E, F2, k1, k2⟩ := m_gives2 (v := v) (Kc := fun (h12 : hp_T) => if ix (nI v) 48 = true then o_call (f_X10_greater ((h12.1 27 v) + (1 : Int32)) (nI (mxr rm v)) h12) fun (r15 : Int32) (h14 : hp_T) => o_let (nI v + (1 : Int32)) fun (x17 : Int32) => f_X10_gives_L1 (fun (x18 : Int32) (x19 : Int32) (h20 : hp_T) => some (x18, h20)) N r15 x17 h14 else none) V2 Q S (by omega) (fun i hi => by rw [hw_n _ _ _ _ (Or.inr (by omega))]; exact g1 i hi) (hw_s _ _ _ _)
  have b1 := hm v hv
  have b2 := (S v (by omega)).1
  rw [E, if_pos (ix_n (show v < 48 by omega) (by omega)), k2, nI_1 (rm v), m_greater, c_some, l_let, nI_1 v]
  have em : (if nI (rm v + 1) ≤ nI (mxr rm v) then nI (mxr rm v) else nI (rm v + 1)) = nI (mxr rm (v + 1)) := by
    show _ = nI (max (mxr rm v) (rm v + 1))
    split
    · rename_i q
      rw [i_le, n_int (by omega), n_int (by omega)] at q
      rw [show max (mxr rm v) (rm v + 1) = mxr rm v by omega]
    · rename_i q
      rw [i_le, n_int (by omega), n_int (by omega)] at q
      rw [show max (mxr rm v) (rm v + 1) = rm v + 1 by omega]
  rw [em]
  refine ⟨n - (v + 1), (nI (mxr rm (v + 1)), nI (v + 1), m2), by omega, ⟨v + 1, rfl, by omega, rfl, rfl, (gF.hw (by decide)).tr F2, fun r hr => ?_⟩, rfl⟩
  dsimp only
  by_cases e : r = v
  · subst e; exact k2
  · rw [k1 r e, hw_n _ _ _ _ (Or.inr e)]
    exact g1 r (by omega)
theorem m_deepest {m : hp_T} {n : Nat} {K : Nat → Nat} {f t : Nat → Int32} {p : Int32} (V : MV m n K f t) (Q : Sq n f t) : ∃ M P, M ≤ 48 ∧ RunM (dpM n f t) f n M P ∧ f_X10_deepest p m = some ((if p = 0 then nI M else P), m) := by
  have hn := V.1
  unfold f_X10_deepest
  have key := loop_j (fun N (s : Int32 × Int32 × Int32 × hp_T) => f_X10_deepest_L1 (fun (x17 : Int32) (x18 : Int32) (x19 : Int32) (h20 : hp_T) => (if p = (0 : Int32) then some (x17, h20) else some (x18, h20))) N s.1 s.2.1 s.2.2.1 s.2.2.2)
    (fun o => ∃ M P, M ≤ 48 ∧ RunM (dpM n f t) f n M P ∧ o = some ((if p = 0 then nI M else P), m))
    (fun r s => ∃ v, r = n - v ∧ v ≤ n ∧ (∃ M, M ≤ 48 ∧ RunM (dpM n f t) f v M s.2.1 ∧ s.1 = nI M) ∧ s.2.2.1 = nI v ∧ s.2.2.2 = m) ?_ n 100 (0, -2147483648, 0, m) (by omega) ⟨0, rfl, by omega, ⟨0, by omega, ⟨fun _ => ⟨rfl, rfl⟩, fun r hr => absurd hr (by omega), fun q => absurd q (by omega)⟩, rfl⟩, rfl, rfl⟩
  · exact key
  rintro N r ⟨x, z, y, g⟩ ⟨v, rfl, hv, ⟨M, hM, hR, e1⟩, e2, e3⟩
  dsimp only at e1 e2 e3 hR
  subst e3; subst e1; subst e2
  dsimp only
  rw [f_X10_deepest_L1, V.2.1]
  by_cases e : v = n
  · left
    subst e
    rw [if_pos (by rw [i_le]; omega)]
    refine ⟨M, z, hM, hR, ?_⟩
    split <;> rfl
  right
  obtain ⟨e1, e2, e3, e4⟩ := V.2.2 v (by omega)
  have dl : dpM n f t v ≤ 48 := by have := cnt_le (metB f t (f v) (f v + 1)) n; unfold dpM; omega
  have one : 1 ≤ dpM n f t v := cnt_pos (i := v) (by omega) (by rw [metB_i, f1_i Q (by omega)]; have := (Q.1 v (by omega)).2.1; omega)
  rw [if_neg (by rw [i_le, n_int (by omega), n_int (by omega)]; omega), if_pos (ix_n (show v < 48 by omega) (by omega)), n_cl (show v < 2147483648 by omega), e1, if_pos (ix_n e2 (by omega)), l_let, n_cl (show K v < 2147483648 by omega), e3, m_meetsBy V, c_some, if_pos rfl]
  change ∃ m' s', _ ∧ _ ∧ (if nI (dpM n f t v) ≤ nI M then _ else _) = _
  by_cases c : dpM n f t v ≤ M
  · have ci : nI (dpM n f t v) ≤ nI M := by rw [i_le, n_int (by omega), n_int (by omega)]; omega
    rw [if_pos ci, m_greater, c_some]
    have e5 : (if nI (cnt (metB f t (f v) (f v + 1)) n) ≤ nI M then nI M else nI (cnt (metB f t (f v) (f v + 1)) n)) = nI M := if_pos ci
    rw [e5, l_let, nI_1]
    exact ⟨n - (v + 1), (nI M, z, nI (v + 1), g), by omega, ⟨v + 1, rfl, by omega, ⟨M, hM, hR.a one c, rfl⟩, rfl, rfl⟩, rfl⟩
  · have ci : ¬ nI (dpM n f t v) ≤ nI M := by rw [i_le, n_int (by omega), n_int (by omega)]; omega
    rw [if_neg ci, m_greater, c_some]
    have e5 : (if nI (cnt (metB f t (f v) (f v + 1)) n) ≤ nI M then nI M else nI (cnt (metB f t (f v) (f v + 1)) n)) = nI (dpM n f t v) := if_neg ci
    rw [e5, l_let, nI_1]
    exact ⟨n - (v + 1), (nI (dpM n f t v), f v, nI (v + 1), g), by omega, ⟨v + 1, rfl, by omega, ⟨dpM n f t v, dl, hR.b c, rfl⟩, rfl, rfl⟩, rfl⟩
