/-! the worlds: 0 the class, 1 the reference -/
def cellC (q : Nat → Nat) (cA : Nat → ClassId) (k : Nat) (f : Nat → Int32) (L : Int64) : va_E := match k with
  | 0 => .inr (9, [.ref (q 1), .ref (q 7), .ref (q 12), .ref (q 22), .ref (q 25), .ref (q 28), .ref (q 31), .ref (q 33), .ref (q 37), .int (f 9), .int (f 10)])
  | 1 => .inr (7, [.ref (q 2), .ref (q 3), .ref (q 4), .ref (q 5), .ref (q 6), .int (f 5)])
  | 2 => .inl (cA 2, 48, .inl f)
  | 3 => .inl (cA 3, 48, .inl f)
  | 4 => .inl (cA 4, 48, .inl f)
  | 5 => .inl (cA 5, 48, .inl f)
  | 6 => .inl (cA 6, 48, .inl f)
  | 7 => .inr (0, [.ref (q 8), .ref (q 9), .ref (q 10), .ref (q 11), .int (f 4), .int (f 5)])
  | 8 => .inl (cA 8, 64, .inl f)
  | 9 => .inl (cA 9, 64, .inl f)
  | 10 => .inl (cA 10, 64, .inl f)
  | 11 => .inl (cA 11, 64, .inl f)
  | 12 => .inr (8, [.ref (q 13), .ref (q 14), .ref (q 15), .ref (q 16), .ref (q 17), .ref (q 18), .ref (q 19), .ref (q 20), .ref (q 21), .int (f 9)])
  | 13 => .inl (cA 13, 48, .inl f)
  | 14 => .inl (cA 14, 48, .inl f)
  | 15 => .inl (cA 15, 48, .inl f)
  | 16 => .inl (cA 16, 48, .inl f)
  | 17 => .inl (cA 17, 48, .inl f)
  | 18 => .inl (cA 18, 48, .inl f)
  | 19 => .inl (cA 19, 48, .inl f)
  | 20 => .inl (cA 20, 48, .inl f)
  | 21 => .inl (cA 21, 48, .inl f)
  | 22 => .inr (1, [.ref (q 23), .ref (q 24), .int (f 2)])
  | 23 => .inl (cA 23, 49, .inl f)
  | 24 => .inl (cA 24, 49, .inl f)
  | 25 => .inr (5, [.ref (q 26), .ref (q 27), .int (f 2), .int (f 3), .int (f 4)])
  | 26 => .inl (cA 26, 48, .inl f)
  | 27 => .inl (cA 27, 48, .inl f)
  | 28 => .inr (3, [.ref (q 29), .ref (q 30), .int (f 2)])
  | 29 => .inl (cA 29, 48, .inl f)
  | 30 => .inl (cA 30, 48, .inl f)
  | 31 => .inr (4, [.ref (q 32), .int (f 1)])
  | 32 => .inl (cA 32, 48, .inl f)
  | 33 => .inr (2, [.ref (q 34), .ref (q 35), .ref (q 36), .int (f 3), .long L])
  | 34 => .inl (cA 34, 48, .inl f)
  | 35 => .inl (cA 35, 48, .inl f)
  | 36 => .inl (cA 36, 48, .inl f)
  | 37 => .inl (cA 37, 4, .inr (.inr (.inr (.inr (fun j => some (q (38 + j)))))))
  | 38 => .inr (6, [.ref (q 42), .int (f 1), .int (f 2), .int (f 3)])
  | 39 => .inr (6, [.ref (q 43), .int (f 1), .int (f 2), .int (f 3)])
  | 40 => .inr (6, [.ref (q 44), .int (f 1), .int (f 2), .int (f 3)])
  | 41 => .inr (6, [.ref (q 45), .int (f 1), .int (f 2), .int (f 3)])
  | 42 => .inl (cA 42, 60, .inl f)
  | 43 => .inl (cA 43, 60, .inl f)
  | 44 => .inl (cA 44, 60, .inl f)
  | _ => .inl (cA 45, 60, .inl f)
def cellM (q : Nat → Nat) (cA : Nat → ClassId) (k : Nat) (f : Nat → Int32) (L : Int64) : va_E := match k with
  | 0 => .inr (10, [.ref (q 1), .ref (q 2), .ref (q 3), .ref (q 4), .int (f 4), .ref (q 5), .ref (q 6), .ref (q 7), .int (f 8), .int (f 9), .ref (q 8), .ref (q 9), .ref (q 10), .ref (q 11), .ref (q 12), .ref (q 13), .ref (q 14), .ref (q 15), .ref (q 16), .ref (q 17), .ref (q 18), .ref (q 19), .ref (q 20), .ref (q 21), .ref (q 22), .ref (q 23), .ref (q 24), .ref (q 25), .ref (q 26), .ref (q 27), .ref (q 28), .ref (q 29), .ref (q 30)])
  | 1 => .inl (cA 1, 4, .inl f)
  | 2 => .inl (cA 2, 4, .inl f)
  | 3 => .inl (cA 3, 240, .inl f)
  | 4 => .inl (cA 4, 60, .inl f)
  | 5 => .inl (cA 5, 48, .inl f)
  | 6 => .inl (cA 6, 48, .inl f)
  | 7 => .inl (cA 7, 48, .inl f)
  | 8 => .inl (cA 8, 64, .inl f)
  | 9 => .inl (cA 9, 64, .inl f)
  | 10 => .inl (cA 10, 64, .inl f)
  | 11 => .inl (cA 11, 64, .inl f)
  | 12 => .inl (cA 12, 48, .inl f)
  | 13 => .inl (cA 13, 48, .inl f)
  | 14 => .inl (cA 14, 48, .inl f)
  | 15 => .inl (cA 15, 48, .inl f)
  | 16 => .inl (cA 16, 48, .inl f)
  | 17 => .inl (cA 17, 48, .inl f)
  | 18 => .inl (cA 18, 48, .inl f)
  | 19 => .inl (cA 19, 48, .inl f)
  | 20 => .inl (cA 20, 48, .inl f)
  | 21 => .inl (cA 21, 48, .inl f)
  | 22 => .inl (cA 22, 48, .inl f)
  | 23 => .inl (cA 23, 48, .inl f)
  | 24 => .inl (cA 24, 48, .inl f)
  | 25 => .inl (cA 25, 49, .inl f)
  | 26 => .inl (cA 26, 49, .inl f)
  | 27 => .inl (cA 27, 48, .inl f)
  | 28 => .inl (cA 28, 48, .inl f)
  | 29 => .inl (cA 29, 48, .inl f)
  | _ => .inl (cA 30, 48, .inl f)
def cellT (q : Nat → Nat) (cA : Nat → ClassId) (k : Nat) (f : Nat → Int32) (L : Int64) : va_E := match k with
  | 0 => .inr (8, [.ref (q 1), .ref (q 2), .ref (q 3), .ref (q 4), .ref (q 5), .ref (q 6), .ref (q 7), .ref (q 8), .ref (q 9), .int (f 9)])
  | 1 => .inl (cA 1, 48, .inl f)
  | 2 => .inl (cA 2, 48, .inl f)
  | 3 => .inl (cA 3, 48, .inl f)
  | 4 => .inl (cA 4, 48, .inl f)
  | 5 => .inl (cA 5, 48, .inl f)
  | 6 => .inl (cA 6, 48, .inl f)
  | 7 => .inl (cA 7, 48, .inl f)
  | 8 => .inl (cA 8, 48, .inl f)
  | _ => .inl (cA 9, 48, .inl f)
def cellW (w : Nat) : (Nat → Nat) → (Nat → ClassId) → Nat → (Nat → Int32) → Int64 → va_E := match w with
  | 0 => cellC
  | 1 => cellM
  | _ => cellT
def nW (w : Nat) : Nat := match w with
  | 0 => 46
  | 1 => 31
  | _ => 10
def tysW (w : Nat) (cA : Nat → ClassId) : List (ClassId × FieldType) := match w with
  | 0 => [(cA 2, .int), (cA 3, .int), (cA 4, .boolean), (cA 5, .int), (cA 6, .int), (cA 8, .int), (cA 9, .boolean), (cA 10, .int), (cA 11, .int), (cA 13, .int), (cA 14, .int), (cA 15, .int), (cA 16, .int), (cA 17, .int), (cA 18, .int), (cA 19, .int), (cA 20, .int), (cA 21, .boolean), (cA 23, .int), (cA 24, .int), (cA 26, .int), (cA 27, .int), (cA 29, .int), (cA 30, .int), (cA 32, .int), (cA 34, .int), (cA 35, .int), (cA 36, .int), (cA 37, .object "SpanBook$Sheet"), (cA 42, .int), (cA 43, .int), (cA 44, .int), (cA 45, .int)]
  | 1 => [(cA 1, .int), (cA 2, .int), (cA 3, .int), (cA 4, .int), (cA 5, .boolean), (cA 6, .int), (cA 7, .int), (cA 8, .int), (cA 9, .int), (cA 10, .int), (cA 11, .int), (cA 12, .int), (cA 13, .int), (cA 14, .int), (cA 15, .int), (cA 16, .int), (cA 17, .int), (cA 18, .int), (cA 19, .int), (cA 20, .int), (cA 21, .int), (cA 22, .int), (cA 23, .int), (cA 24, .int), (cA 25, .int), (cA 26, .int), (cA 27, .int), (cA 28, .int), (cA 29, .int), (cA 30, .int)]
  | _ => [(cA 1, .int), (cA 2, .int), (cA 3, .int), (cA 4, .int), (cA 5, .int), (cA 6, .int), (cA 7, .int), (cA 8, .int), (cA 9, .boolean)]
def wsW (w : Nat) (q : Nat → Nat) (cA : Nat → ClassId) (h : hp_T) : va_W := (List.range (nW w)).map (fun k => (q k, cellW w q cA k (h.1 k) h.2))
theorem ws_get {w : Nat} {q : Nat → Nat} {cA : Nat → ClassId} {h : hp_T} {k : Nat} (hk : k < nW w) : (wsW w q cA h)[k]? = some (q k, cellW w q cA k (h.1 k) h.2) := by
  simp [wsW, hk]
theorem ws_len {w : Nat} {q : Nat → Nat} {cA : Nat → ClassId} {h : hp_T} : (wsW w q cA h).length = nW w := by simp [wsW]
theorem ws_set {w : Nat} {q : Nat → Nat} {cA : Nat → ClassId} {h : hp_T} {k : Nat} (f : Nat → Int32) (hk : k < nW w) : (wsW w q cA h).set k (q k, cellW w q cA k f h.2) = wsW w q cA (hwA h k f) := by
  refine List.ext_getElem? fun j => ?_
  by_cases hj : k = j
  · subst hj
    rw [List.getElem?_set_self (by rw [ws_len]; exact hk), ws_get hk]
    simp [hwA]
  · rw [List.getElem?_set_ne hj]
    by_cases hl : j < nW w
    · rw [ws_get hl, ws_get hl]
      simp [hwA, Ne.symm hj]
    · rw [List.getElem?_eq_none (by rw [ws_len]; omega), List.getElem?_eq_none (by rw [ws_len]; omega)]
/-- a walk in a world -/
def aC (w : Nat) (Γ : g_T) (q : Nat → Nat) (own : String) (cc : ByteArray) (fr lo : Nat) : Prop := aG Γ own cc fr lo ∧ match Γ with
  | (_, _, _, _, _, _, _, _, _, _, _, _, wsf, _, tys, _, _, _) => ∃ cA : Nat → ClassId, wsf = wsW w q cA ∧ tys = tysW w cA
theorem aK_iald {w : Nat} {Γ : g_T} {q : Nat → Nat} {own : String} {cc : ByteArray} {fr lo pc : Nat} {lv : List (Option Value)} {st : List Value} {h : hp_T} (k n t0 : Nat) (hk : k < nW w) (hc : ∀ q cA f L, cellW w q cA k f L = .inl (cA k, n, .inl f)) (ht : ∀ cA, (tysW w cA)[t0]? = some (cA k, .int)) {i : Int32} (X : aC w Γ q own cc fr lo) (hi : ix i n = true) (d : decode cc pc = .ok (.iaload, 1)) (K : aA Γ (pc + 1) lv (.int (h.1 k i.toNatClampNeg) :: st) h) : aA Γ pc lv (.int i :: .ref (q k) :: st) h := by
  obtain ⟨p, l, e, R, s, m, args, below, meth, c, Q, A, wsf, D, tys, nL, nc, ns⟩ := Γ
  obtain ⟨⟨hx, hb, hml, hown, hts, hK, hA, hfr, hlo, hnc, hns⟩, cA, hw, hty⟩ := X
  subst hw; subst hty
  intro H locs ls hP hD hS hl
  exact va_iald hx hb hK hP k t0 ((ws_get hk).trans (by rw [hc])) (ht cA) (ix_vp hi) d (K H locs ls hP hD hS hl)
theorem aK_zald {w : Nat} {Γ : g_T} {q : Nat → Nat} {own : String} {cc : ByteArray} {fr lo pc : Nat} {lv : List (Option Value)} {st : List Value} {h : hp_T} (k n t0 : Nat) (hk : k < nW w) (hc : ∀ q cA f L, cellW w q cA k f L = .inl (cA k, n, .inl f)) (ht : ∀ cA, (tysW w cA)[t0]? = some (cA k, .boolean)) {i : Int32} (X : aC w Γ q own cc fr lo) (hi : ix i n = true) (d : decode cc pc = .ok (.baload, 1)) (K : aA Γ (pc + 1) lv (.int (h.1 k i.toNatClampNeg) :: st) h) : aA Γ pc lv (.int i :: .ref (q k) :: st) h := by
  obtain ⟨p, l, e, R, s, m, args, below, meth, c, Q, A, wsf, D, tys, nL, nc, ns⟩ := Γ
  obtain ⟨⟨hx, hb, hml, hown, hts, hK, hA, hfr, hlo, hnc, hns⟩, cA, hw, hty⟩ := X
  subst hw; subst hty
  intro H locs ls hP hD hS hl
  exact va_zald hx hb hK hP k t0 ((ws_get hk).trans (by rw [hc])) (ht cA) (ix_vp hi) d (K H locs ls hP hD hS hl)
theorem aK_iast {w : Nat} {Γ : g_T} {q : Nat → Nat} {own : String} {cc : ByteArray} {fr lo pc : Nat} {lv : List (Option Value)} {st : List Value} {h : hp_T} (k n t0 : Nat) (hk : k < nW w) (hc : ∀ q cA f L, cellW w q cA k f L = .inl (cA k, n, .inl f)) (ht : ∀ cA, (tysW w cA)[t0]? = some (cA k, .int)) {i x : Int32} (X : aC w Γ q own cc fr lo) (hi : ix i n = true) (d : decode cc pc = .ok (.iastore, 1)) (K : aA Γ (pc + 1) lv st (hw h k i.toNatClampNeg x)) : aA Γ pc lv (.int x :: .int i :: .ref (q k) :: st) h := by
  obtain ⟨p, l, e, R, s, m, args, below, meth, c, Q, A, wsf, D, tys, nL, nc, ns⟩ := Γ
  obtain ⟨⟨hx, hb, hml, hown, hts, hK, hA, hfr, hlo, hnc, hns⟩, cA, hw, hty⟩ := X
  subst hw; subst hty
  intro H locs ls hP hD hS hl
  refine va_iast hx hb hK hP hD hS k t0 ((ws_get hk).trans (by rw [hc])) (ht cA) (ix_vp hi) d (fun H1 locs1 hP1 hD1 hS1 => ?_)
  have e1 := ws_set (w := w) (q := q) (cA := cA) (h := h) (k := k) (upd (h.1 k) i.toNatClampNeg x) hk
  rw [hc] at e1
  rw [e1] at hP1 hD1
  exact K H1 locs1 ls hP1 hD1 hS1 hl
theorem bz_nar {x : Int32} (h : bz x = true) : vp_nar .boolean x = x := by
  simp [bz] at h
  rcases h with rfl | rfl <;> decide +kernel
theorem bz_narrow {x : Int32} (h : bz x = true) : narrow .boolean (.int x) = .int x ∧ fits .boolean (.int x) = true := by
  simp [bz] at h
  rcases h with rfl | rfl <;> decide +kernel
theorem aK_zast {w : Nat} {Γ : g_T} {q : Nat → Nat} {own : String} {cc : ByteArray} {fr lo pc : Nat} {lv : List (Option Value)} {st : List Value} {h : hp_T} (k n t0 : Nat) (hk : k < nW w) (hc : ∀ q cA f L, cellW w q cA k f L = .inl (cA k, n, .inl f)) (ht : ∀ cA, (tysW w cA)[t0]? = some (cA k, .boolean)) {i x : Int32} (X : aC w Γ q own cc fr lo) (hi : ix i n = true) (hz : bz x = true) (d : decode cc pc = .ok (.bastore, 1)) (K : aA Γ (pc + 1) lv st (hw h k i.toNatClampNeg x)) : aA Γ pc lv (.int x :: .int i :: .ref (q k) :: st) h := by
  obtain ⟨p, l, e, R, s, m, args, below, meth, c, Q, A, wsf, D, tys, nL, nc, ns⟩ := Γ
  obtain ⟨⟨hx, hb, hml, hown, hts, hK, hA, hfr, hlo, hnc, hns⟩, cA, hw, hty⟩ := X
  subst hw; subst hty
  intro H locs ls hP hD hS hl
  refine va_zast hx hb hK hP hD hS k t0 ((ws_get hk).trans (by rw [hc])) (ht cA) (ix_vp hi) d (fun H1 locs1 hP1 hD1 hS1 => ?_)
  have e1 := ws_set (w := w) (q := q) (cA := cA) (h := h) (k := k) (upd (h.1 k) i.toNatClampNeg x) hk
  rw [hc] at e1
  rw [bz_nar hz, e1] at hP1 hD1
  exact K H1 locs1 ls hP1 hD1 hS1 hl
/-- System.arraycopy of ints -/
def cpok (sp dp n : Int32) (n0 n1 : Nat) : Bool := decide (¬ sp < 0) && (decide (¬ dp < 0) && (decide (¬ n < 0) && (decide (sp.toNatClampNeg + n.toNatClampNeg ≤ n0) && decide (dp.toNatClampNeg + n.toNatClampNeg ≤ n1))))
theorem aK_copy {w : Nat} {Γ : g_T} {q : Nat → Nat} {own : String} {cc : ByteArray} {fr lo pc : Nat} {lv : List (Option Value)} {st : List Value} {h : hp_T} (k0 k1 n0 n1 t0 t1 : Nat) (hk0 : k0 < nW w) (hk1 : k1 < nW w) (hc0 : ∀ q cA f L, cellW w q cA k0 f L = .inl (cA k0, n0, .inl f)) (hc1 : ∀ q cA f L, cellW w q cA k1 f L = .inl (cA k1, n1, .inl f)) (ht0 : ∀ cA, (tysW w cA)[t0]? = some (cA k0, .int)) (ht1 : ∀ cA, (tysW w cA)[t1]? = some (cA k1, .int)) {sp dp n : Int32} {index : Nat} (X : aC w Γ q own cc fr lo) (hi : cpok sp dp n n0 n1 = true)
    (hlink : Cond.methodLink own index arraycopyName ∈ gd_tbl) (hnat : Cond.native arraycopyName ∈ gd_tbl) (hstat : Cond.static arraycopyName ∈ gd_tbl) (hini : Cond.initialized "java/lang/System" ∈ gd_tbl) (h1 : 1 ≤ fr) (h2 : (st.map fun v => v.category).sum + (nativeFrameWords "java/lang/System" "arraycopy" 5 + 11) ≤ lo)
    (d : decode cc pc = .ok (.invokestatic index, 3)) (K : aA Γ (pc + 3) lv st (hwA h k1 (va_cpy (h.1 k0) (h.1 k1) sp.toNatClampNeg dp.toNatClampNeg n.toNatClampNeg))) : aA Γ pc lv (.int n :: .int dp :: .ref (q k1) :: .int sp :: .ref (q k0) :: st) h := by
  obtain ⟨p, l, e, R, s, m, args, below, meth, c, Q, A, wsf, D, tys, nL, nc, ns⟩ := Γ
  obtain ⟨⟨hx, hb, hml, hown, hts, hK, hA, hfr, hlo, hnc, hns⟩, cA, hw, hty⟩ := X
  subst hw; subst hty
  intro H locs ls hP hD hS hl
  simp only [cpok, Bool.and_eq_true, decide_eq_true_eq] at hi
  obtain ⟨g1, g2, g3, g4, g5⟩ := hi
  refine va_copyi hx hb (hml.trans hl.1.symm) hown (hts _ hlink) (hts _ hnat) (hts _ hstat) (hts _ hini) hK hP hD hS k0 k1 t0 t1 ((ws_get hk0).trans (by rw [hc0])) ((ws_get hk1).trans (by rw [hc1])) (ht0 cA) (ht1 cA) rfl g1 g2 g3 g4 g5 (fun _ _ => rfl) (Nat.le_trans h1 hfr) (Nat.le_trans h2 hlo) d (fun H1 locs1 hP1 hD1 hS1 => ?_)
  have e1 := ws_set (w := w) (q := q) (cA := cA) (h := h) (k := k1) (va_cpy (h.1 k0) (h.1 k1) sp.toNatClampNeg dp.toNatClampNeg n.toNatClampNeg) hk1
  rw [hc1] at e1
  rw [e1] at hP1 hD1
  exact K H1 locs1 ls hP1 hD1 hS1 hl
/-- fields -/
theorem aK_get {w : Nat} {Γ : g_T} {q : Nat → Nat} {own : String} {cc : ByteArray} {fr lo pc : Nat} {lv : List (Option Value)} {st : List Value} {h : hp_T} (k ci j : Nat) {C : String} {T : u_T} {N : Nat} (fsf : (Nat → Nat) → (Nat → Int32) → Int64 → List Value) (hk : k < nW w) (hc : ∀ q cA f L, cellW w q cA k f L = .inr (ci, fsf q f L)) (hcl : vwCl[ci]? = some (C, T, N)) (hin : ∀ w ∈ u_ws C T N, w ∈ gd_tbl) (hj : j < N) {index : Nat} (hlk : Cond.fieldLink own index (T j).1 (T j).2.1 (T j).2.2.1 ∈ gd_tbl) {v : Value} (hv : (fsf q (h.1 k) h.2)[j]? = some v) (X : aC w Γ q own cc fr lo) (d : decode cc pc = .ok (.getfield index, 3)) (K : aA Γ (pc + 3) lv (v :: st) h) : aA Γ pc lv (.ref (q k) :: st) h := by
  obtain ⟨p, l, e, R, s, m, args, below, meth, c, Q, A, wsf, D, tys, nL, nc, ns⟩ := Γ
  obtain ⟨⟨hx, hb, hml, hown, hts, hK, hA, hfr, hlo, hnc, hns⟩, cA, hw, hty⟩ := X
  subst hw; subst hty
  intro H locs ls hP hD hS hl
  exact va_get hx hb hts hin hown hK hP k ((ws_get hk).trans (by rw [hc])) hcl j hj (hts _ hlk) (fun _ h9 => h9) hv d (K H locs ls hP hD hS hl)
theorem aK_put {w : Nat} {Γ : g_T} {q : Nat → Nat} {own : String} {cc : ByteArray} {fr lo pc : Nat} {lv : List (Option Value)} {st : List Value} {h : hp_T} (k ci j : Nat) {C : String} {T : u_T} {N : Nat} (fsf : (Nat → Nat) → (Nat → Int32) → Int64 → List Value) (hk : k < nW w) (hc : ∀ q cA f L, cellW w q cA k f L = .inr (ci, fsf q f L)) (hcl : vwCl[ci]? = some (C, T, N)) (hin : ∀ w ∈ u_ws C T N, w ∈ gd_tbl) (ty0 : Nat → FieldType) (hty : ∀ k, k < N → parseFieldDescriptor (T k).2.2.1 = some (ty0 k)) (hnm : ∀ a, a < N → ∀ b, b < N → a ≠ b → (T a).2.1 ≠ (T b).2.1) (hj : j < N) {index : Nat} (hlk : Cond.fieldLink own index (T j).1 (T j).2.1 (T j).2.2.1 ∈ gd_tbl) (hfin : (T j).2.2.2 = false) {ty : FieldType} (hd : parseFieldDescriptor (T j).2.2.1 = some ty) {x : Int32} (hn : narrow ty (.int x) = .int x ∧ fits ty (.int x) = true) (hl0 : ∀ q f L, j < (fsf q f L).length) (hset : ∀ q f L x, (fsf q f L).set j (.int x) = fsf q (upd f j x) L) (X : aC w Γ q own cc fr lo) (d : decode cc pc = .ok (.putfield index, 3)) (K : aA Γ (pc + 3) lv st (hw h k j x)) : aA Γ pc lv (.int x :: .ref (q k) :: st) h := by
  obtain ⟨p, l, e, R, s, m, args, below, meth, c, Q, A, wsf, D, tys, nL, nc, ns⟩ := Γ
  obtain ⟨⟨hx, hb, hml, hown, hts, hK, hA, hfr, hlo, hnc, hns⟩, cA, hw, hty⟩ := X
  subst hw; subst hty
  intro H locs ls hP hD hS hl
  refine va_put hx hb hts hin ty0 hty hnm hown hK hP hD hS k ((ws_get hk).trans (by rw [hc])) hcl j hj (hts _ hlk) (fun _ h9 => h9) hfin hd hn.1 hn.2 (hl0 _ _ _) d (fun H1 locs1 hP1 hD1 hS1 => ?_)
  have e1 := ws_set (w := w) (q := q) (cA := cA) (h := h) (k := k) (upd (h.1 k) j x) hk
  rw [hc, ← hset] at e1
  rw [e1] at hP1 hD1
  exact K H1 locs1 ls hP1 hD1 hS1 hl
theorem aK_putL {w : Nat} {Γ : g_T} {q : Nat → Nat} {own : String} {cc : ByteArray} {fr lo pc : Nat} {lv : List (Option Value)} {st : List Value} {h : hp_T} (k ci j : Nat) {C : String} {T : u_T} {N : Nat} (fsf : (Nat → Nat) → (Nat → Int32) → Int64 → List Value) (hk : k < nW w) (hc : ∀ q cA f L, cellW w q cA k f L = .inr (ci, fsf q f L)) (hcl : vwCl[ci]? = some (C, T, N)) (hin : ∀ w ∈ u_ws C T N, w ∈ gd_tbl) (ty0 : Nat → FieldType) (hty : ∀ k, k < N → parseFieldDescriptor (T k).2.2.1 = some (ty0 k)) (hnm : ∀ a, a < N → ∀ b, b < N → a ≠ b → (T a).2.1 ≠ (T b).2.1) (hj : j < N) {index : Nat} (hlk : Cond.fieldLink own index (T j).1 (T j).2.1 (T j).2.2.1 ∈ gd_tbl) (hfin : (T j).2.2.2 = false) (hd : parseFieldDescriptor (T j).2.2.1 = some .long) {x : Int64} (hl0 : ∀ q f L, j < (fsf q f L).length) (hset : ∀ q f L x, (fsf q f L).set j (.long x) = fsf q f x) (hoth : ∀ q cA z f L L2, z ≠ k → cellW w q cA z f L = cellW w q cA z f L2) (X : aC w Γ q own cc fr lo) (d : decode cc pc = .ok (.putfield index, 3)) (K : aA Γ (pc + 3) lv st (hwL h x)) : aA Γ pc lv (.long x :: .ref (q k) :: st) h := by
  obtain ⟨p, l, e, R, s, m, args, below, meth, c, Q, A, wsf, D, tys, nL, nc, ns⟩ := Γ
  obtain ⟨⟨hx, hb, hml, hown, hts, hK, hA, hfr, hlo, hnc, hns⟩, cA, hw, hty⟩ := X
  subst hw; subst hty
  intro H locs ls hP hD hS hl
  refine va_put hx hb hts hin ty0 hty hnm hown hK hP hD hS k ((ws_get hk).trans (by rw [hc])) hcl j hj (hts _ hlk) (fun _ h9 => h9) hfin hd rfl rfl (hl0 _ _ _) d (fun H1 locs1 hP1 hD1 hS1 => ?_)
  have e1 : (wsW w q cA h).set k (q k, cellW w q cA k (h.1 k) x) = wsW w q cA (hwL h x) := by
    refine List.ext_getElem? fun z => ?_
    by_cases hz : k = z
    · subst hz
      rw [List.getElem?_set_self (by rw [ws_len]; exact hk), ws_get hk]
      rfl
    · rw [List.getElem?_set_ne hz]
      by_cases hl : z < nW w
      · rw [ws_get hl, ws_get hl, hoth q cA z (h.1 z) h.2 x (Ne.symm hz)]
        rfl
      · rw [List.getElem?_eq_none (by rw [ws_len]; omega), List.getElem?_eq_none (by rw [ws_len]; omega)]
  rw [hc, ← hset _ _ h.2] at e1
  rw [e1] at hP1 hD1
  exact K H1 locs1 ls hP1 hD1 hS1 hl
/-- contracts -/
def aPc (w : Nat) (q : Nat → Nat) (cA : Nat → ClassId) (D : va_G) (h : hp_T) (sz : Nat) (vals : List Value) : Array Value → State → Prop := va_Pc vals (fun U => U.heap.size = sz ∧ va_P D vwCl (wsW w q cA h) U.heap ∧ va_K D vwCl (tysW w cA) U ∧ va_D (fun _ => True) (wsW w q cA h))
def aB (w : Nat) (q : Nat → Nat) (cA : Nat → ClassId) (D : va_G) (h : hp_T) (sz : Nat) (u : hp_T) (t : State) : Prop := va_P D vwCl (wsW w q cA u) t.heap ∧ va_K D vwCl (tysW w cA) t ∧ va_D (va_A (wsW w q cA h) sz) (wsW w q cA u)
def rmW (fr lo : Nat) : Room := { frames := fr, cells := 0, slots := 0, locals := lo }
def cI (w : Nat) (y : MethodName) (bytes : ByteArray) (maxL : Nat) (ty : FieldType) (fr lo : Nat) (q : Nat → Nat) (vals : List Value) (h : hp_T) (r : Int32) (h2 : hp_T) : Prop := ∀ (l : Launch) (D : va_G) (cA : Nat → ClassId) (sz : Nat), Met l y (Cond.code y bytes maxL (some ty) :: gd_tbl) (rmW fr lo) (aPc w q cA D h sz vals) (va_Qi (fun r2 u => r2 = r ∧ u = h2) (aB w q cA D h sz) (va_A (wsW w q cA h) sz)) 0 0 (va_A (wsW w q cA h) sz)
def cL (w : Nat) (y : MethodName) (bytes : ByteArray) (maxL : Nat) (fr lo : Nat) (q : Nat → Nat) (vals : List Value) (h : hp_T) (r : Int64) (h2 : hp_T) : Prop := ∀ (l : Launch) (D : va_G) (cA : Nat → ClassId) (sz : Nat), Met l y (Cond.code y bytes maxL (some .long) :: gd_tbl) (rmW fr lo) (aPc w q cA D h sz vals) (va_Ql (fun r2 u => r2 = r ∧ u = h2) (aB w q cA D h sz) (va_A (wsW w q cA h) sz)) 0 0 (va_A (wsW w q cA h) sz)
def cV (w : Nat) (y : MethodName) (bytes : ByteArray) (maxL : Nat) (fr lo : Nat) (q : Nat → Nat) (vals : List Value) (h : hp_T) (h2 : hp_T) : Prop := ∀ (l : Launch) (D : va_G) (cA : Nat → ClassId) (sz : Nat), Met l y (Cond.code y bytes maxL none :: gd_tbl) (rmW fr lo) (aPc w q cA D h sz vals) (va_Qv (fun u => u = h2) (aB w q cA D h sz) (va_A (wsW w q cA h) sz)) 0 0 (va_A (wsW w q cA h) sz)
theorem lo_entry {vals : List Value} {lv0 : List (Option Value)} {n : Nat} (hn : (lg_sl vals).length ≤ n) (hlv : lo_l 0 lv0 = lv_args 0 vals) : lo_has ((lg_sl vals ++ List.replicate (n - (lg_sl vals).length) Slot.unset).toArray) n lv0 := by
  unfold lo_has
  rw [hlv]
  exact lv_entry vals hn
theorem metI {w : Nat} {y : MethodName} {own : String} {bytes : ByteArray} {maxL : Nat} {fr lo : Nat} {q : Nat → Nat} {vals : List Value} {lv0 : List (Option Value)} {h h2 : hp_T} {r : Int32} (hy : plainName y.cls = true) (ho : y.cls = own) (hlen : (lg_sl vals).length ≤ maxL) (hlv : lo_l 0 lv0 = lv_args 0 vals) 
    (walk : ∀ Γ : g_T, aC w Γ q own bytes fr lo → (∀ k, k < maxL → aN Γ k) → (∀ pc lv, decode bytes pc = .ok (.ireturn, 1) → aA Γ pc lv [.int r] h2) → aA Γ 0 lv0 [] h) : cI w y bytes maxL .int fr lo q vals h r h2 := by
  intro l D cA sz
  refine Met.ofW (cc := bytes) (maxL := maxL) (ret := some .int) hy rfl ?_
  intro p e s m args below meth c s₁ B hml hv
  obtain ⟨rfl, hsz, hP, hK, hD0⟩ := hv
  have hts := atoms_spec (ws := Cond.code y bytes maxL (some .int) :: gd_tbl) B.pre
  have hown : s.vm.findClass y.cls = some m.cls := findClass_of_methodNamed B.named
  subst hsz
  subst ho
  have hD := hD0.self (sz := s.heap.size)
  rw [lg_entry_eq]
  refine walk (p, l, e, rmW fr lo, s, m, vals.toArray, below, meth, c, MQ below (va_Qi (fun r2 u => r2 = r ∧ u = h2) (aB w q cA D h s.heap.size) (va_A (wsW w q cA h) s.heap.size)) vals.toArray s 0 0 (va_A (wsW w q cA h) s.heap.size), va_A (wsW w q cA h) s.heap.size, wsW w q cA, D, tysW w cA, maxL, 0, 0) ⟨⟨B.exec, B.bytes, hml, hown, fun w hw => hts w (List.mem_cons_of_mem _ hw), hK, fun q hq => Or.inr hq, Nat.le_refl _, Nat.le_refl _, Nat.zero_le _, Nat.zero_le _⟩, cA, rfl, rfl⟩ (fun k hk => hk) ?_ s.heap [] _ hP hD va_S.rf (lo_entry hlen hlv)
  intro pc lv d H locs ls hP2 hD2 hS2 hl
  have hlocks := B.notSynchronized
  exact W.zret B.exec B.bytes B.returns (vp_nar_int r) (fun t ht hW => ⟨⟨r, h2, rfl, ⟨rfl, rfl⟩, by rw [ht]; exact hP2, va_K.moved hW.alike hK, hD2⟩, hS2.F ht⟩) hS2.2.2 d
theorem metZ {w : Nat} {y : MethodName} {own : String} {bytes : ByteArray} {maxL : Nat} {fr lo : Nat} {q : Nat → Nat} {vals : List Value} {lv0 : List (Option Value)} {h h2 : hp_T} {r : Int32} (hy : plainName y.cls = true) (ho : y.cls = own) (hlen : (lg_sl vals).length ≤ maxL) (hlv : lo_l 0 lv0 = lv_args 0 vals) 
    (walk : ∀ Γ : g_T, aC w Γ q own bytes fr lo → (∀ k, k < maxL → aN Γ k) → (∀ pc lv, decode bytes pc = .ok (.ireturn, 1) → bz r = true → aA Γ pc lv [.int r] h2) → aA Γ 0 lv0 [] h) : cI w y bytes maxL .boolean fr lo q vals h r h2 := by
  intro l D cA sz
  refine Met.ofW (cc := bytes) (maxL := maxL) (ret := some .boolean) hy rfl ?_
  intro p e s m args below meth c s₁ B hml hv
  obtain ⟨rfl, hsz, hP, hK, hD0⟩ := hv
  have hts := atoms_spec (ws := Cond.code y bytes maxL (some .boolean) :: gd_tbl) B.pre
  have hown : s.vm.findClass y.cls = some m.cls := findClass_of_methodNamed B.named
  subst hsz
  subst ho
  have hD := hD0.self (sz := s.heap.size)
  rw [lg_entry_eq]
  refine walk (p, l, e, rmW fr lo, s, m, vals.toArray, below, meth, c, MQ below (va_Qi (fun r2 u => r2 = r ∧ u = h2) (aB w q cA D h s.heap.size) (va_A (wsW w q cA h) s.heap.size)) vals.toArray s 0 0 (va_A (wsW w q cA h) s.heap.size), va_A (wsW w q cA h) s.heap.size, wsW w q cA, D, tysW w cA, maxL, 0, 0) ⟨⟨B.exec, B.bytes, hml, hown, fun w hw => hts w (List.mem_cons_of_mem _ hw), hK, fun q hq => Or.inr hq, Nat.le_refl _, Nat.le_refl _, Nat.zero_le _, Nat.zero_le _⟩, cA, rfl, rfl⟩ (fun k hk => hk) ?_ s.heap [] _ hP hD va_S.rf (lo_entry hlen hlv)
  intro pc lv d hz H locs ls hP2 hD2 hS2 hl
  have hlocks := B.notSynchronized
  exact W.zret B.exec B.bytes B.returns (bz_narrow hz).1 (fun t ht hW => ⟨⟨r, h2, rfl, ⟨rfl, rfl⟩, by rw [ht]; exact hP2, va_K.moved hW.alike hK, hD2⟩, hS2.F ht⟩) hS2.2.2 d
theorem metL {w : Nat} {y : MethodName} {own : String} {bytes : ByteArray} {maxL : Nat} {fr lo : Nat} {q : Nat → Nat} {vals : List Value} {lv0 : List (Option Value)} {h h2 : hp_T} {r : Int64} (hy : plainName y.cls = true) (ho : y.cls = own) (hlen : (lg_sl vals).length ≤ maxL) (hlv : lo_l 0 lv0 = lv_args 0 vals)
    (walk : ∀ Γ : g_T, aC w Γ q own bytes fr lo → (∀ k, k < maxL → aN Γ k) → (∀ pc lv, decode bytes pc = .ok (.lreturn, 1) → aA Γ pc lv [.long r] h2) → aA Γ 0 lv0 [] h) : cL w y bytes maxL fr lo q vals h r h2 := by
  intro l D cA sz
  refine Met.ofW (cc := bytes) (maxL := maxL) (ret := some .long) hy rfl ?_
  intro p e s m args below meth c s₁ B hml hv
  obtain ⟨rfl, hsz, hP, hK, hD0⟩ := hv
  have hts := atoms_spec (ws := Cond.code y bytes maxL (some .long) :: gd_tbl) B.pre
  have hown : s.vm.findClass y.cls = some m.cls := findClass_of_methodNamed B.named
  subst hsz
  subst ho
  have hD := hD0.self (sz := s.heap.size)
  rw [lg_entry_eq]
  refine walk (p, l, e, rmW fr lo, s, m, vals.toArray, below, meth, c, MQ below (va_Ql (fun r2 u => r2 = r ∧ u = h2) (aB w q cA D h s.heap.size) (va_A (wsW w q cA h) s.heap.size)) vals.toArray s 0 0 (va_A (wsW w q cA h) s.heap.size), va_A (wsW w q cA h) s.heap.size, wsW w q cA, D, tysW w cA, maxL, 0, 0) ⟨⟨B.exec, B.bytes, hml, hown, fun w hw => hts w (List.mem_cons_of_mem _ hw), hK, fun q hq => Or.inr hq, Nat.le_refl _, Nat.le_refl _, Nat.zero_le _, Nat.zero_le _⟩, cA, rfl, rfl⟩ (fun k hk => hk) ?_ s.heap [] _ hP hD va_S.rf (lo_entry hlen hlv)
  intro pc lv d H locs ls hP2 hD2 hS2 hl
  have hlocks := B.notSynchronized
  exact W.lret B.exec B.bytes B.returns (fun t ht hW => ⟨⟨r, h2, rfl, ⟨rfl, rfl⟩, by rw [ht]; exact hP2, va_K.moved hW.alike hK, hD2⟩, hS2.F ht⟩) hS2.2.2 d
theorem metV {w : Nat} {y : MethodName} {own : String} {bytes : ByteArray} {maxL : Nat} {fr lo : Nat} {q : Nat → Nat} {vals : List Value} {lv0 : List (Option Value)} {h h2 : hp_T} (hy : plainName y.cls = true) (ho : y.cls = own) (hlen : (lg_sl vals).length ≤ maxL) (hlv : lo_l 0 lv0 = lv_args 0 vals)
    (walk : ∀ Γ : g_T, aC w Γ q own bytes fr lo → (∀ k, k < maxL → aN Γ k) → (∀ pc lv, decode bytes pc = .ok (.return_, 1) → aA Γ pc lv [] h2) → aA Γ 0 lv0 [] h) : cV w y bytes maxL fr lo q vals h h2 := by
  intro l D cA sz
  refine Met.ofW (cc := bytes) (maxL := maxL) (ret := none) hy rfl ?_
  intro p e s m args below meth c s₁ B hml hv
  obtain ⟨rfl, hsz, hP, hK, hD0⟩ := hv
  have hts := atoms_spec (ws := Cond.code y bytes maxL none :: gd_tbl) B.pre
  have hown : s.vm.findClass y.cls = some m.cls := findClass_of_methodNamed B.named
  subst hsz
  subst ho
  have hD := hD0.self (sz := s.heap.size)
  rw [lg_entry_eq]
  refine walk (p, l, e, rmW fr lo, s, m, vals.toArray, below, meth, c, MQ below (va_Qv (fun u => u = h2) (aB w q cA D h s.heap.size) (va_A (wsW w q cA h) s.heap.size)) vals.toArray s 0 0 (va_A (wsW w q cA h) s.heap.size), va_A (wsW w q cA h) s.heap.size, wsW w q cA, D, tysW w cA, maxL, 0, 0) ⟨⟨B.exec, B.bytes, hml, hown, fun w hw => hts w (List.mem_cons_of_mem _ hw), hK, fun q hq => Or.inr hq, Nat.le_refl _, Nat.le_refl _, Nat.zero_le _, Nat.zero_le _⟩, cA, rfl, rfl⟩ (fun k hk => hk) ?_ s.heap [] _ hP hD va_S.rf (lo_entry hlen hlv)
  intro pc lv d H locs ls hP2 hD2 hS2 hl
  have hlocks := B.notSynchronized
  exact W.vret B.exec B.bytes B.returns (fun t ht hW => ⟨⟨h2, rfl, rfl, by rw [ht]; exact hP2, va_K.moved hW.alike hK, hD2⟩, hS2.F ht⟩) hS2.2.2 d
/-- calls -/
theorem gdI {ws : List Cond} (h : ∀ w ∈ ws, w ∈ gd_tbl) : GoodIn gd_tbl ws := fun w hw => ⟨h w hw, good_of_word (gd_good (h w hw))⟩
def yV (y : MethodName) (bytes : ByteArray) (maxL : Nat) (ret : Option FieldType) (n : Nat) : Prop := Cond.instanceMethod y ∈ gd_tbl ∧ Cond.selects y.cls y y ∈ gd_tbl ∧ Cond.initialized y.cls ∈ gd_tbl ∧ Cond.code y bytes maxL ret ∈ gd_tbl ∧ (y.cls ≠ "java/lang/invoke/MethodHandle" ∧ y.cls ≠ "java/lang/invoke/VarHandle" ∧ (parseMethodDescriptor y.desc).map (fun d => d.parameters.length) = some n)
def yS (y : MethodName) (bytes : ByteArray) (maxL : Nat) (ret : Option FieldType) (n : Nat) : Prop := Cond.static y ∈ gd_tbl ∧ Cond.initialized y.cls ∈ gd_tbl ∧ Cond.code y bytes maxL ret ∈ gd_tbl ∧ (y.cls ≠ "java/lang/invoke/MethodHandle" ∧ y.cls ≠ "java/lang/invoke/VarHandle" ∧ (parseMethodDescriptor y.desc).map (fun d => d.parameters.length) = some n)
theorem aPc_blind {w : Nat} {q : Nat → Nat} {cA : Nat → ClassId} {D : va_G} {h : hp_T} {sz : Nat} {vals : List Value} : FrameBlind (aPc w q cA D h sz vals) := fun a U g mk z => by
  obtain ⟨q0, q1, qP, qK, qD⟩ := z
  exact ⟨q0, q1, qP, va_K.moved (u := U) (U := U.calling g mk a) (Vm.Alike.refl U.vm) qK, qD⟩
theorem gd_wsV {own : String} {index : Nat} {y : MethodName} {bytes : ByteArray} {maxL n : Nat} {ret : Option FieldType} (hl : Cond.methodLink own index y ∈ gd_tbl) (hy : yV y bytes maxL ret n) : GoodIn gd_tbl (wsV own index y.cls y (Cond.code y bytes maxL ret :: gd_tbl)) := by
  obtain ⟨h1, h2, h3, h4, -⟩ := hy
  refine gdI fun w hw => ?_
  unfold wsV at hw
  simp only [List.cons_append, List.nil_append, List.mem_cons] at hw
  rcases hw with rfl | rfl | rfl | rfl | rfl | hw
  · exact hl
  · exact h1
  · exact h2
  · exact h3
  · exact h4
  · exact hw
theorem gd_wsS {own : String} {index : Nat} {y : MethodName} {bytes : ByteArray} {maxL n : Nat} {ret : Option FieldType} (hl : Cond.methodLink own index y ∈ gd_tbl) (ho : y.cls = own) (hy : yS y bytes maxL ret n) : GoodIn gd_tbl (wsS own index y (Cond.code y bytes maxL ret :: gd_tbl)) := by
  subst ho
  obtain ⟨h1, h2, h3, -⟩ := hy
  refine gdI fun w hw => ?_
  unfold wsS at hw
  simp only [List.cons_append, List.nil_append, List.mem_cons] at hw
  rcases hw with rfl | rfl | rfl | rfl | hw
  · exact hl
  · exact h1
  · exact h2
  · exact h3
  · exact hw
theorem aFree {w : Nat} {q : Nat → Nat} {cA : Nat → ClassId} {h : hp_T} {A : Nat → Prop} {H0 H : Heap} {locs : List Loc} (hD : va_D A (wsW w q cA h)) (hS : va_S A H0 H locs) (hA : ∀ z, H0.size ≤ z → A z) : ∀ z, va_A (wsW w q cA h) H.size z → A z := by
  intro z hz
  rcases hz with ⟨k, e, hz⟩ | hz
  · exact hD.2 k _ hz
  · exact hA z (Nat.le_trans hS.1 hz)
theorem aK_callVI {w : Nat} {Γ : g_T} {q : Nat → Nat} {own : String} {cc : ByteArray} {fr lo pc : Nat} {lv : List (Option Value)} {st : List Value} {h h2 : hp_T} {y : MethodName} {bytes : ByteArray} {maxL fr2 lo2 k ci n index : Nat} {T : u_T} {N : Nat} {As : List Value} {ty : FieldType} {r : Int32} (X : aC w Γ q own cc fr lo) (hM : cI w y bytes maxL ty fr2 lo2 q (.ref (q k) :: As) h r h2) (hk : k < nW w) (hc : ∀ q cA f L, ∃ fs, cellW w q cA k f L = .inr (ci, fs)) (hcl : vwCl[ci]? = some (y.cls, T, N)) (hy : yV y bytes maxL (some ty) n) (hlk : Cond.methodLink own index y ∈ gd_tbl) (hn : As.length = n) (hR1 : fr2 + 1 ≤ fr) (hR2 : 8 + (maxL + 11) + lo2 ≤ lo) (hW : (st.map fun v => v.category).sum ≤ 8) (d : decode cc pc = .ok (.invokevirtual index, 3)) (K : aA Γ (pc + 3) lv (.int r :: st) h2) : aA Γ pc lv (As.reverse ++ .ref (q k) :: st) h := by
  obtain ⟨p, l, e, R, s, m, args, below, meth, c, Q, A, wsf, D, tys, nL, nc, ns⟩ := Γ
  obtain ⟨⟨hx, hb, hml, hown, hts, hK, hA, hfr, hlo, hnc, hns⟩, cA, hw, hty⟩ := X
  subst hw; subst hty
  intro H locs ls hP hD hS hl
  obtain ⟨fs, hfs⟩ := hc q cA (h.1 k) h.2
  have hFc := aFree (h := h) hD hS hA
  refine va_calli (va_runV (As := As) (rest := st) ⟨hx, hb, hml, hown, hts⟩ (hM l D cA H.size) (cwV n hts (gd_wsV hlk hy) rfl rfl rfl ⟨rfl, hy.2.2.2.2⟩ ⟨Nat.le_trans hR1 hfr, Nat.le_trans hR2 hlo⟩) ⟨aPc_blind, va_recv hK hP hcl ((ws_get hk).trans (by rw [hfs])), fun U hU hW => ⟨rfl, by rw [hU], by rw [hU]; exact hP, va_K.moved hW.alike hK, hD.weaken (fun _ _ _ _ => trivial)⟩⟩ rfl hn hl.1 rfl (lv_room hW) d ⟨hnc, hns⟩) hS (fun z _ hz => hFc z hz) hFc (fun r1 u t H1 locs1 ht hvm hw hB hz1 hk1 hS1 => ?_)
  obtain ⟨rfl, rfl⟩ := hw
  obtain ⟨hP1, hK1, hD1⟩ := hB
  rw [ht] at hP1
  exact K H1 locs1 ls hP1 (hD1.weaken (fun _ x _ hx => hFc x.1 hx)) hS1 hl
theorem aK_callSI {w : Nat} {Γ : g_T} {q : Nat → Nat} {own : String} {cc : ByteArray} {fr lo pc : Nat} {lv : List (Option Value)} {st : List Value} {h h2 : hp_T} {y : MethodName} {bytes : ByteArray} {maxL fr2 lo2 n index : Nat} {As : List Value} {ty : FieldType} {r : Int32} (X : aC w Γ q own cc fr lo) (hM : cI w y bytes maxL ty fr2 lo2 q As h r h2) (ho : y.cls = own) (hy : yS y bytes maxL (some ty) n) (hlk : Cond.methodLink own index y ∈ gd_tbl) (hn : As.length = n) (hR1 : fr2 + 1 ≤ fr) (hR2 : 8 + (maxL + 11) + lo2 ≤ lo) (hW : (st.map fun v => v.category).sum ≤ 8) (d : decode cc pc = .ok (.invokestatic index, 3)) (K : aA Γ (pc + 3) lv (.int r :: st) h2) : aA Γ pc lv (As.reverse ++ st) h := by
  obtain ⟨p, l, e, R, s, m, args, below, meth, c, Q, A, wsf, D, tys, nL, nc, ns⟩ := Γ
  obtain ⟨⟨hx, hb, hml, hown, hts, hK, hA, hfr, hlo, hnc, hns⟩, cA, hw, hty⟩ := X
  subst hw; subst hty
  intro H locs ls hP hD hS hl
  have hFc := aFree (h := h) hD hS hA
  refine va_calli (va_runS (As := As) (rest := st) ⟨hx, hb, hml, hown, hts⟩ (hM l D cA H.size) (cwS n hts (gd_wsS hlk ho hy) rfl rfl rfl ⟨ho, hy.2.2.2⟩ ⟨Nat.le_trans hR1 hfr, Nat.le_trans hR2 hlo⟩) ⟨aPc_blind, fun U hU hW => ⟨rfl, by rw [hU], by rw [hU]; exact hP, va_K.moved hW.alike hK, hD.weaken (fun _ _ _ _ => trivial)⟩⟩ rfl hn hl.1 rfl (lv_room hW) d ⟨hnc, hns⟩) hS (fun z _ hz => hFc z hz) hFc (fun r1 u t H1 locs1 ht hvm hw hB hz1 hk1 hS1 => ?_)
  obtain ⟨rfl, rfl⟩ := hw
  obtain ⟨hP1, hK1, hD1⟩ := hB
  rw [ht] at hP1
  exact K H1 locs1 ls hP1 (hD1.weaken (fun _ x _ hx => hFc x.1 hx)) hS1 hl
theorem aK_callVL {w : Nat} {Γ : g_T} {q : Nat → Nat} {own : String} {cc : ByteArray} {fr lo pc : Nat} {lv : List (Option Value)} {st : List Value} {h h2 : hp_T} {y : MethodName} {bytes : ByteArray} {maxL fr2 lo2 k ci n index : Nat} {T : u_T} {N : Nat} {As : List Value} {r : Int64} (X : aC w Γ q own cc fr lo) (hM : cL w y bytes maxL fr2 lo2 q (.ref (q k) :: As) h r h2) (hk : k < nW w) (hc : ∀ q cA f L, ∃ fs, cellW w q cA k f L = .inr (ci, fs)) (hcl : vwCl[ci]? = some (y.cls, T, N)) (hy : yV y bytes maxL (some .long) n) (hlk : Cond.methodLink own index y ∈ gd_tbl) (hn : As.length = n) (hR1 : fr2 + 1 ≤ fr) (hR2 : 8 + (maxL + 11) + lo2 ≤ lo) (hW : (st.map fun v => v.category).sum ≤ 8) (d : decode cc pc = .ok (.invokevirtual index, 3)) (K : aA Γ (pc + 3) lv (.long r :: st) h2) : aA Γ pc lv (As.reverse ++ .ref (q k) :: st) h := by
  obtain ⟨p, l, e, R, s, m, args, below, meth, c, Q, A, wsf, D, tys, nL, nc, ns⟩ := Γ
  obtain ⟨⟨hx, hb, hml, hown, hts, hK, hA, hfr, hlo, hnc, hns⟩, cA, hw, hty⟩ := X
  subst hw; subst hty
  intro H locs ls hP hD hS hl
  obtain ⟨fs, hfs⟩ := hc q cA (h.1 k) h.2
  have hFc := aFree (h := h) hD hS hA
  refine va_calll (va_runV (As := As) (rest := st) ⟨hx, hb, hml, hown, hts⟩ (hM l D cA H.size) (cwV n hts (gd_wsV hlk hy) rfl rfl rfl ⟨rfl, hy.2.2.2.2⟩ ⟨Nat.le_trans hR1 hfr, Nat.le_trans hR2 hlo⟩) ⟨aPc_blind, va_recv hK hP hcl ((ws_get hk).trans (by rw [hfs])), fun U hU hW => ⟨rfl, by rw [hU], by rw [hU]; exact hP, va_K.moved hW.alike hK, hD.weaken (fun _ _ _ _ => trivial)⟩⟩ rfl hn hl.1 rfl (lv_room hW) d ⟨hnc, hns⟩) hS (fun z _ hz => hFc z hz) hFc (fun r1 u t H1 locs1 ht hvm hw hB hz1 hk1 hS1 => ?_)
  obtain ⟨rfl, rfl⟩ := hw
  obtain ⟨hP1, hK1, hD1⟩ := hB
  rw [ht] at hP1
  exact K H1 locs1 ls hP1 (hD1.weaken (fun _ x _ hx => hFc x.1 hx)) hS1 hl
theorem aK_callSL {w : Nat} {Γ : g_T} {q : Nat → Nat} {own : String} {cc : ByteArray} {fr lo pc : Nat} {lv : List (Option Value)} {st : List Value} {h h2 : hp_T} {y : MethodName} {bytes : ByteArray} {maxL fr2 lo2 n index : Nat} {As : List Value} {r : Int64} (X : aC w Γ q own cc fr lo) (hM : cL w y bytes maxL fr2 lo2 q As h r h2) (ho : y.cls = own) (hy : yS y bytes maxL (some .long) n) (hlk : Cond.methodLink own index y ∈ gd_tbl) (hn : As.length = n) (hR1 : fr2 + 1 ≤ fr) (hR2 : 8 + (maxL + 11) + lo2 ≤ lo) (hW : (st.map fun v => v.category).sum ≤ 8) (d : decode cc pc = .ok (.invokestatic index, 3)) (K : aA Γ (pc + 3) lv (.long r :: st) h2) : aA Γ pc lv (As.reverse ++ st) h := by
  obtain ⟨p, l, e, R, s, m, args, below, meth, c, Q, A, wsf, D, tys, nL, nc, ns⟩ := Γ
  obtain ⟨⟨hx, hb, hml, hown, hts, hK, hA, hfr, hlo, hnc, hns⟩, cA, hw, hty⟩ := X
  subst hw; subst hty
  intro H locs ls hP hD hS hl
  have hFc := aFree (h := h) hD hS hA
  refine va_calll (va_runS (As := As) (rest := st) ⟨hx, hb, hml, hown, hts⟩ (hM l D cA H.size) (cwS n hts (gd_wsS hlk ho hy) rfl rfl rfl ⟨ho, hy.2.2.2⟩ ⟨Nat.le_trans hR1 hfr, Nat.le_trans hR2 hlo⟩) ⟨aPc_blind, fun U hU hW => ⟨rfl, by rw [hU], by rw [hU]; exact hP, va_K.moved hW.alike hK, hD.weaken (fun _ _ _ _ => trivial)⟩⟩ rfl hn hl.1 rfl (lv_room hW) d ⟨hnc, hns⟩) hS (fun z _ hz => hFc z hz) hFc (fun r1 u t H1 locs1 ht hvm hw hB hz1 hk1 hS1 => ?_)
  obtain ⟨rfl, rfl⟩ := hw
  obtain ⟨hP1, hK1, hD1⟩ := hB
  rw [ht] at hP1
  exact K H1 locs1 ls hP1 (hD1.weaken (fun _ x _ hx => hFc x.1 hx)) hS1 hl
theorem aK_callVV {w : Nat} {Γ : g_T} {q : Nat → Nat} {own : String} {cc : ByteArray} {fr lo pc : Nat} {lv : List (Option Value)} {st : List Value} {h h2 : hp_T} {y : MethodName} {bytes : ByteArray} {maxL fr2 lo2 k ci n index : Nat} {T : u_T} {N : Nat} {As : List Value}  (X : aC w Γ q own cc fr lo) (hM : cV w y bytes maxL fr2 lo2 q (.ref (q k) :: As) h h2) (hk : k < nW w) (hc : ∀ q cA f L, ∃ fs, cellW w q cA k f L = .inr (ci, fs)) (hcl : vwCl[ci]? = some (y.cls, T, N)) (hy : yV y bytes maxL none n) (hlk : Cond.methodLink own index y ∈ gd_tbl) (hn : As.length = n) (hR1 : fr2 + 1 ≤ fr) (hR2 : 8 + (maxL + 11) + lo2 ≤ lo) (hW : (st.map fun v => v.category).sum ≤ 8) (d : decode cc pc = .ok (.invokevirtual index, 3)) (K : aA Γ (pc + 3) lv (st) h2) : aA Γ pc lv (As.reverse ++ .ref (q k) :: st) h := by
  obtain ⟨p, l, e, R, s, m, args, below, meth, c, Q, A, wsf, D, tys, nL, nc, ns⟩ := Γ
  obtain ⟨⟨hx, hb, hml, hown, hts, hK, hA, hfr, hlo, hnc, hns⟩, cA, hw, hty⟩ := X
  subst hw; subst hty
  intro H locs ls hP hD hS hl
  obtain ⟨fs, hfs⟩ := hc q cA (h.1 k) h.2
  have hFc := aFree (h := h) hD hS hA
  refine va_callv (va_runV (As := As) (rest := st) ⟨hx, hb, hml, hown, hts⟩ (hM l D cA H.size) (cwV n hts (gd_wsV hlk hy) rfl rfl rfl ⟨rfl, hy.2.2.2.2⟩ ⟨Nat.le_trans hR1 hfr, Nat.le_trans hR2 hlo⟩) ⟨aPc_blind, va_recv hK hP hcl ((ws_get hk).trans (by rw [hfs])), fun U hU hW => ⟨rfl, by rw [hU], by rw [hU]; exact hP, va_K.moved hW.alike hK, hD.weaken (fun _ _ _ _ => trivial)⟩⟩ rfl hn hl.1 rfl (lv_room hW) d ⟨hnc, hns⟩) hS (fun z _ hz => hFc z hz) hFc (fun u t H1 locs1 ht hvm hw hB hz1 hk1 hS1 => ?_)
  subst hw
  obtain ⟨hP1, hK1, hD1⟩ := hB
  rw [ht] at hP1
  exact K H1 locs1 ls hP1 (hD1.weaken (fun _ x _ hx => hFc x.1 hx)) hS1 hl
theorem aK_callSV {w : Nat} {Γ : g_T} {q : Nat → Nat} {own : String} {cc : ByteArray} {fr lo pc : Nat} {lv : List (Option Value)} {st : List Value} {h h2 : hp_T} {y : MethodName} {bytes : ByteArray} {maxL fr2 lo2 n index : Nat} {As : List Value}  (X : aC w Γ q own cc fr lo) (hM : cV w y bytes maxL fr2 lo2 q As h h2) (ho : y.cls = own) (hy : yS y bytes maxL none n) (hlk : Cond.methodLink own index y ∈ gd_tbl) (hn : As.length = n) (hR1 : fr2 + 1 ≤ fr) (hR2 : 8 + (maxL + 11) + lo2 ≤ lo) (hW : (st.map fun v => v.category).sum ≤ 8) (d : decode cc pc = .ok (.invokestatic index, 3)) (K : aA Γ (pc + 3) lv (st) h2) : aA Γ pc lv (As.reverse ++ st) h := by
  obtain ⟨p, l, e, R, s, m, args, below, meth, c, Q, A, wsf, D, tys, nL, nc, ns⟩ := Γ
  obtain ⟨⟨hx, hb, hml, hown, hts, hK, hA, hfr, hlo, hnc, hns⟩, cA, hw, hty⟩ := X
  subst hw; subst hty
  intro H locs ls hP hD hS hl
  have hFc := aFree (h := h) hD hS hA
  refine va_callv (va_runS (As := As) (rest := st) ⟨hx, hb, hml, hown, hts⟩ (hM l D cA H.size) (cwS n hts (gd_wsS hlk ho hy) rfl rfl rfl ⟨ho, hy.2.2.2⟩ ⟨Nat.le_trans hR1 hfr, Nat.le_trans hR2 hlo⟩) ⟨aPc_blind, fun U hU hW => ⟨rfl, by rw [hU], by rw [hU]; exact hP, va_K.moved hW.alike hK, hD.weaken (fun _ _ _ _ => trivial)⟩⟩ rfl hn hl.1 rfl (lv_room hW) d ⟨hnc, hns⟩) hS (fun z _ hz => hFc z hz) hFc (fun u t H1 locs1 ht hvm hw hB hz1 hk1 hS1 => ?_)
  subst hw
  obtain ⟨hP1, hK1, hD1⟩ := hB
  rw [ht] at hP1
  exact K H1 locs1 ls hP1 (hD1.weaken (fun _ x _ hx => hFc x.1 hx)) hS1 hl
theorem aK_aald {Γ : g_T} {q : Nat → Nat} {own : String} {cc : ByteArray} {fr lo pc : Nat} {lv : List (Option Value)} {st : List Value} {h : hp_T} {i : Int32} (X : aC 0 Γ q own cc fr lo) (hi : ix i 4 = true) (d : decode cc pc = .ok (.aaload, 1)) (K : aA Γ (pc + 1) lv (.ref (q (38 + i.toNatClampNeg)) :: st) h) : aA Γ pc lv (.int i :: .ref (q 37) :: st) h := by
  obtain ⟨p, l, e, R, s, m, args, below, meth, c, Q, A, wsf, D, tys, nL, nc, ns⟩ := Γ
  obtain ⟨⟨hx, hb, hml, hown, hts, hK, hA, hfr, hlo, hnc, hns⟩, cA, hw, hty⟩ := X
  subst hw; subst hty
  intro H locs ls hP hD hS hl
  exact va_aldq hx hb hK hP 37 28 ((ws_get (by decide)).trans rfl) rfl (ix_vp hi) d (K H locs ls hP hD hS hl)
theorem cell_sheet {q : Nat → Nat} {cA : Nat → ClassId} {f : Nat → Int32} {L : Int64} : ∀ j, j < 4 → cellW 0 q cA (38 + j) f L = .inr (6, [.ref (q (42 + j)), .int (f 1), .int (f 2), .int (f 3)])
  | 0, _ => rfl
  | 1, _ => rfl
  | 2, _ => rfl
  | 3, _ => rfl
  | j + 4, h => absurd h (by omega)
theorem cell_items {q : Nat → Nat} {cA : Nat → ClassId} {f : Nat → Int32} {L : Int64} : ∀ j, j < 4 → cellW 0 q cA (42 + j) f L = .inl (cA (42 + j), 60, .inl f)
  | 0, _ => rfl
  | 1, _ => rfl
  | 2, _ => rfl
  | 3, _ => rfl
  | j + 4, h => absurd h (by omega)
theorem tys_items {cA : Nat → ClassId} : ∀ j, j < 4 → (tysW 0 cA)[29 + j]? = some (cA (42 + j), .int)
  | 0, _ => rfl
  | 1, _ => rfl
  | 2, _ => rfl
  | 3, _ => rfl
  | j + 4, h => absurd h (by omega)
theorem nW0_s {j : Nat} (h : j < 4) : 38 + j < nW 0 := by show _ < 46; omega
theorem nW0_i {j : Nat} (h : j < 4) : 42 + j < nW 0 := by show _ < 46; omega

