/-! how class and reference stand to each other -/
def RelB (h m : hp_T) : Prop := ∀ k, k < 48 → h.1 4 k = m.1 5 k ∧ h.1 2 k = m.1 6 k ∧ h.1 3 k = m.1 7 k ∧ (h.1 4 k = 0 ∨ h.1 4 k = 1) ∧ (h.1 4 k = 1 → vld (h.1 2 k) (h.1 3 k))
def RelS (h m : hp_T) : Prop := ∀ j, j < 4 → ((h.1 (38 + j) 1 = 1 ∧ m.1 1 j = -1) ∨ (h.1 (38 + j) 1 = 0 ∧ m.1 1 j = h.1 (38 + j) 2)) ∧ (h.1 (38 + j) 2 = 0 ∨ h.1 (38 + j) 2 = 1 ∨ h.1 (38 + j) 2 = 2) ∧ h.1 (38 + j) 3 = m.1 2 j ∧ (∃ z, z ≤ 60 ∧ m.1 2 j = nI z) ∧ ∀ i, i < 60 → h.1 (42 + j) i = m.1 3 (60 * j + i)
def wt (k : Nat) : Nat := (k + 1) * 40503 % 65536
def BwF (f : Nat → Int32) : Prop := ∃ B : Nat → Nat, (∀ i, i < 48 → f i = nI (B i) ∧ B i < 48) ∧ (∀ i j, i < j → j < 48 → wt (B j) < wt (B i)) ∧ (∀ k, k < 48 → ∃ i, i < 48 ∧ B i = k)
def RelD (Der : hp_T → Nat → (Nat → Nat) → Prop) (h m : hp_T) : Prop := ∃ n K, SpI h n K ∧ m.1 0 8 = nI n ∧ RelB h m ∧ RDt h m (m.1 5) ∧ RelS h m ∧ h.1 0 10 = m.1 0 4 ∧ BwF (h.1 13) ∧ ((h.1 0 9 = 0 ∧ Der h n K) ∨ h.1 0 9 = 1)
theorem SpI.cg {h h2 : hp_T} {n : Nat} {K : Nat → Nat} (hI : SpI h n K) (e : ∀ k, 1 ≤ k → k ≤ 6 → h2.1 k = h.1 k) : SpI h2 n K := by
  unfold SpI at *
  rw [e 1 (by omega) (by omega), e 2 (by omega) (by omega), e 3 (by omega) (by omega), e 4 (by omega) (by omega), e 5 (by omega) (by omega), e 6 (by omega) (by omega)]
  exact hI
theorem RelS.cg {h h2 m m2 : hp_T} (R : RelS h m) (e1 : ∀ j, j < 8 → h2.1 (38 + j) = h.1 (38 + j)) (e2 : m2.1 1 = m.1 1 ∧ m2.1 2 = m.1 2 ∧ m2.1 3 = m.1 3) : RelS h2 m2 := by
  intro j hj
  have a1 := e1 j (by omega)
  have a2 := e1 (4 + j) (by omega)
  rw [show 38 + (4 + j) = 42 + j by omega] at a2
  rw [a1, a2, e2.1, e2.2.1, e2.2.2]
  exact R j hj
theorem up_up (f : Nat → Int32) (k : Nat) (x y : Int32) : upd (upd f k x) k y = upd f k y := by
  funext j
  by_cases e : j = k
  · subst e; rw [up_s, up_s]
  · rw [up_n _ _ e, up_n _ _ e, up_n _ _ e]
theorem up_id {f : Nat → Int32} {k : Nat} {x : Int32} (h : f k = x) : upd f k x = f := by
  funext j
  by_cases e : j = k
  · subst e; rw [up_s, h]
  · rw [up_n _ _ e]
theorem c_setSpan {h : hp_T} {n k : Nat} {K : Nat → Nat} {t a b : Int32} (hI : SpI h n K) (hk : k < 48) (hth : h.1 4 k = 0 ∨ h.1 4 k = 1) (ht : t = 0 ∨ t = 1) :
    ∃ h2 n2 K2, f_X9_setSpan (nI k) t a b h = some h2 ∧ SpI h2 n2 K2 ∧ h2.1 4 = upd (h.1 4) k t ∧ (t = 1 → h2.1 2 = upd (h.1 2) k a ∧ h2.1 3 = upd (h.1 3) k b) ∧ (t = 0 → h2.1 2 = h.1 2 ∧ h2.1 3 = h.1 3) ∧ Fr [0, 1, 2, 3, 4, 5, 6] h h2 ∧ (∀ i, i ≠ 9 → h2.1 0 i = h.1 0 i) ∧ h2.1 0 9 = 1 ∧ n2 + (if h.1 4 k = 1 then 1 else 0) = n + (if t = 1 then 1 else 0) := by
  have ik := ix_n hk (show 48 ≤ 1000 by omega)
  have ck : (nI k).toNatClampNeg = k := n_cl (by omega)
  unfold f_X9_setSpan
  rw [if_pos ik, ck]
  have fin : ∀ (g : hp_T) (n2 : Nat) (K2 : Nat → Nat), SpI g n2 K2 → Fr [1, 2, 3, 4, 5, 6] h g → SpI (hw g 0 9 1) n2 K2 ∧ (hw g 0 9 1).1 4 = g.1 4 ∧ (hw g 0 9 1).1 2 = g.1 2 ∧ (hw g 0 9 1).1 3 = g.1 3 ∧ Fr [0, 1, 2, 3, 4, 5, 6] h (hw g 0 9 1) ∧ (∀ i, i ≠ 9 → (hw g 0 9 1).1 0 i = h.1 0 i) ∧ (hw g 0 9 1).1 0 9 = 1 := by
    intro g n2 K2 hg hF
    refine ⟨hg.cg fun z h1 _ => hw_ne _ _ _ (by omega), hw_ne _ _ _ (by decide), hw_ne _ _ _ (by decide), hw_ne _ _ _ (by decide), (hF.mono (by decide)).hw (by decide), fun i hi => ?_, hw_s _ _ _ _⟩
    rw [hw_n _ _ _ _ (Or.inr hi), hF.1 0 (by decide)]
  rcases hth with e | e
  · rw [if_pos e]
    rcases ht with rfl | rfl
    · rw [if_pos rfl, l_let]
      obtain ⟨f1, f2, f3, f4, f5, f6, f7⟩ := fin h n K hI Fr.rf
      exact ⟨_, n, K, rfl, f1, by rw [f2, up_id e], fun q => absurd q (by decide), fun _ => ⟨f3, f4⟩, f5, f6, f7, by rw [e]⟩
    · rw [if_neg (by decide)]
      obtain ⟨g, K2, E, gI, g4, g2, g3, gF⟩ := add_ok (a := a) (b := b) hI hk (by rw [e]; decide)
      rw [E, v_some, l_let]
      obtain ⟨f1, f2, f3, f4, f5, f6, f7⟩ := fin g (n + 1) K2 gI gF
      exact ⟨_, n + 1, K2, rfl, f1, by rw [f2, g4], fun _ => ⟨by rw [f3, g2], by rw [f4, g3]⟩, fun q => absurd q (by decide), f5, f6, f7, by rw [e]; simp⟩
  · rw [if_neg (by rw [e]; decide)]
    obtain ⟨g, K2, n2, en, E, gI, g4, gF⟩ := rem_ok hI hk e
    rw [E, v_some]
    rcases ht with rfl | rfl
    · rw [if_pos rfl, l_let]
      obtain ⟨f1, f2, f3, f4, f5, f6, f7⟩ := fin g n2 K2 gI (gF.mono (by decide))
      exact ⟨_, n2, K2, rfl, f1, by rw [f2, g4], fun q => absurd q (by decide), fun _ => ⟨by rw [f3, gF.1 2 (by decide)], by rw [f4, gF.1 3 (by decide)]⟩, f5, f6, f7, by rw [e]; simp; omega⟩
    · rw [if_neg (by decide)]
      obtain ⟨g2, K3, E2, gI2, g24, g22, g23, gF2⟩ := add_ok (a := a) (b := b) gI hk (by rw [g4, up_s]; decide)
      rw [E2, v_some, l_let]
      obtain ⟨f1, f2, f3, f4, f5, f6, f7⟩ := fin g2 (n2 + 1) K3 gI2 ((gF.mono (by decide)).tr gF2)
      exact ⟨_, n2 + 1, K3, rfl, f1, by rw [f2, g24, g4, up_up], fun _ => ⟨by rw [f3, g22, gF.1 2 (by decide)], by rw [f4, g23, gF.1 3 (by decide)]⟩, fun q => absurd q (by decide), f5, f6, f7, by rw [e]; simp; omega⟩
/-- a change of the class: it is noted, then done -/
theorem c_change {h : hp_T} {n k d nx : Nat} {K : Nat → Nat} {t a b : Int32} (hI : SpI h n K) (hk : k < 48) (hth : h.1 4 k = 0 ∨ h.1 4 k = 1) (ht : t = 0 ∨ t = 1) (hn : nx < 64) (hd : d ≤ 64) (h4 : h.1 7 4 = nI nx) (h5 : h.1 7 5 = nI d) :
    ∃ h2 n2 K2, f_X9_change (nI k) t a b h = some h2 ∧ SpI h2 n2 K2 ∧ h2.1 4 = upd (h.1 4) k t ∧ (t = 1 → h2.1 2 = upd (h.1 2) k a ∧ h2.1 3 = upd (h.1 3) k b) ∧ (t = 0 → h2.1 2 = h.1 2 ∧ h2.1 3 = h.1 3) ∧ Fr [0, 1, 2, 3, 4, 5, 6, 7, 8, 9, 10, 11] h h2 ∧ (∀ i, i ≠ 9 → h2.1 0 i = h.1 0 i) ∧ h2.1 0 9 = 1 ∧ n2 + (if h.1 4 k = 1 then 1 else 0) = n + (if t = 1 then 1 else 0) ∧
      h2.1 7 4 = nI ((nx + 1) % 64) ∧ h2.1 7 5 = nI (min (d + 1) 64) ∧ h2.1 8 = upd (h.1 8) nx (nI k) ∧ h2.1 9 = upd (h.1 9) nx (h.1 4 k) ∧ h2.1 10 = upd (h.1 10) nx (h.1 2 k) ∧ h2.1 11 = upd (h.1 11) nx (h.1 3 k) := by
  obtain ⟨g, E, gF, g1, g2, g3, g4, g5, g6⟩ := c_note hk hn hd h4 h5 hth
  have gI : SpI g n K := hI.cg fun z z1 z2 => gF.1 z (by simp; omega)
  have e4 : g.1 4 = h.1 4 := gF.1 4 (by decide)
  obtain ⟨h2, n2, K2, E2, s1, s2, s3, s4, s5, s6, s7, s8⟩ := c_setSpan (a := a) (b := b) gI hk (by rw [e4]; exact hth) ht
  unfold f_X9_change
  rw [E, v_some, E2, v_some]
  rw [e4] at s2 s8
  rw [gF.1 2 (by decide), gF.1 3 (by decide)] at s3 s4
  refine ⟨h2, n2, K2, rfl, s1, s2, s3, s4, (gF.mono (by decide)).tr (s5.mono (by decide)), fun i hi => by rw [s6 i hi, gF.1 0 (by decide)], s7, s8, ?_, ?_, ?_, ?_, ?_, ?_⟩
  · rw [s5.1 7 (by decide)]; exact g1
  · rw [s5.1 7 (by decide)]; exact g2
  · rw [s5.1 8 (by decide)]; exact g3
  · rw [s5.1 9 (by decide)]; exact g4
  · rw [s5.1 10 (by decide)]; exact g5
  · rw [s5.1 11 (by decide)]; exact g6
/-- a change on both sides -/
theorem chg_rel {Der : hp_T → Nat → (Nat → Nat) → Prop} {h m m2 : hp_T} {k : Nat} {t a b kind : Int32} (R : RelD Der h m) (hk : k < 48) (ht : t = 0 ∨ t = 1) (hv : t = 1 → vld a b)
    (mod : ∀ d, d ≤ 64 → m.1 0 9 = nI d → ∃ e a1 b1, e + 1 = min (d + 1) 64 ∧ m2.1 0 9 = nI (e + 1) ∧ m2.1 8 e = kind ∧ m2.1 9 e = nI k ∧ m2.1 10 e = a1 ∧ m2.1 11 e = b1 ∧ (∀ i, i < e → m2.1 8 i = m.1 8 (i + (d - e)) ∧ m2.1 9 i = m.1 9 (i + (d - e)) ∧ m2.1 10 i = m.1 10 (i + (d - e)) ∧ m2.1 11 i = m.1 11 (i + (d - e))) ∧ ((kind = 0 ∧ h.1 4 k = 0 ∧ t = 1) ∨ ((kind = 1 ∧ t = 0 ∨ kind = 2 ∧ t = 1) ∧ h.1 4 k = 1 ∧ a1 = m.1 6 k ∧ b1 = m.1 7 k)))
    (m5 : m2.1 5 = upd (m.1 5) k t) (m67 : (t = 1 → m2.1 6 = upd (m.1 6) k a ∧ m2.1 7 = upd (m.1 7) k b) ∧ (t = 0 → m2.1 6 = m.1 6 ∧ m2.1 7 = m.1 7)) (ms : m2.1 1 = m.1 1 ∧ m2.1 2 = m.1 2 ∧ m2.1 3 = m.1 3) (m4 : m2.1 0 4 = m.1 0 4) (m8 : ∀ n n2 : Nat, m.1 0 8 = nI n → n2 + (if h.1 4 k = 1 then 1 else 0) = n + (if t = 1 then 1 else 0) → m2.1 0 8 = nI n2) :
    ∃ h2, f_X9_change (nI k) t a b h = some h2 ∧ RelD Der h2 m2 ∧ h2.1 1 5 = m2.1 0 8 := by
  obtain ⟨n, K, hI, hn8, hB, ⟨d, nx, hd, hnx, c4, c5, c9, hE, hH⟩, hS, hf, hw, -⟩ := R
  have Bk := hB k hk
  obtain ⟨h2, n2, K2, E, s1, s2, s3, s4, s5, s6, s7, s8, r4, r5, r8, r9, r10, r11⟩ := c_change (a := a) (b := b) hI hk Bk.2.2.2.1 ht hnx hd c4 c5
  obtain ⟨e, a1, b1, he, q9, q8, qy, qf, qt, qs, qk⟩ := mod d hd c9
  have hn2 := m8 n n2 hn8 s8
  refine ⟨h2, E, ⟨n2, K2, s1, hn2, fun z hz => ?_, ?_, ?_, ?_, ?_, Or.inr s7⟩, by rw [s1.2.1, hn2]⟩
  · have Bz := hB z hz
    rw [s2, m5]
    by_cases ez : z = k
    · subst ez
      rw [up_s, up_s]
      rcases ht with rfl | rfl
      · rw [(s4 rfl).1, (s4 rfl).2, (m67.2 rfl).1, (m67.2 rfl).2]
        exact ⟨rfl, Bz.2.1, Bz.2.2.1, Or.inl rfl, fun q => absurd q (by decide)⟩
      · rw [(s3 rfl).1, (s3 rfl).2, (m67.1 rfl).1, (m67.1 rfl).2, up_s, up_s, up_s, up_s]
        exact ⟨rfl, rfl, rfl, Or.inr rfl, fun _ => hv rfl⟩
    · rw [up_n _ _ ez, up_n _ _ ez]
      rcases ht with rfl | rfl
      · rw [(s4 rfl).1, (s4 rfl).2, (m67.2 rfl).1, (m67.2 rfl).2]
        exact Bz
      · rw [(s3 rfl).1, (s3 rfl).2, (m67.1 rfl).1, (m67.1 rfl).2, up_n _ _ ez, up_n _ _ ez, up_n _ _ ez, up_n _ _ ez]
        exact Bz
  · refine push_ok (k := k) (e := e) hd hnx hk hE hH he r4 (by rw [r5, ← he]) r8 r9 r10 r11 q9 q8 qy qf qt qs ?_ (fun z hz hzk => by rw [m5, up_n _ _ hzk])
    rw [m5, up_s, ← Bk.1]
    rcases qk with ⟨w1, w2, w3⟩ | ⟨w1, w2, w3, w4⟩
    · exact Or.inl ⟨w1, w2, w2, w3⟩
    · refine Or.inr ⟨w1, w2, by rw [w3]; exact Bk.2.1, by rw [w4]; exact Bk.2.2.1, ?_, w2⟩
      rw [w3, w4, ← Bk.2.1, ← Bk.2.2.1]
      exact Bk.2.2.2.2 w2
  · exact hS.cg (fun j hj => s5.1 (38 + j) (by simp; omega)) ms
  · rw [s6 10 (by decide), hf, m4]
  · rw [s5.1 13 (by decide)]; exact hw
theorem m_comes {m : hp_T} {k : Nat} {a b : Int32} (hk : k < 48) : ∃ m2, f_X10_comes (nI k) a b m = some m2 ∧ m2.1 5 = upd (m.1 5) k 1 ∧ m2.1 6 = upd (m.1 6) k a ∧ m2.1 7 = upd (m.1 7) k b ∧ m2.1 0 8 = m.1 0 8 + 1 ∧ (∀ i, i ≠ 8 → m2.1 0 i = m.1 0 i) ∧ Fr [0, 5, 6, 7] m m2 := by
  unfold f_X10_comes
  simp only [ix_n hk (show 48 ≤ 1000 by omega), if_true, l_let, n_cl (show k < 2147483648 by omega)]
  refine ⟨_, rfl, ?_, ?_, ?_, ?_, fun i hi => ?_, (((Fr.rf.hw (by decide)).hw (by decide)).hw (by decide)).hw (by decide)⟩
  · rw [hw_ne _ _ _ (by decide), hw_ne _ _ _ (by decide), hw_ne _ _ _ (by decide), hw_at]
  · rw [hw_ne _ _ _ (by decide), hw_ne _ _ _ (by decide), hw_at, hw_ne _ _ _ (by decide)]
  · rw [hw_ne _ _ _ (by decide), hw_at, hw_ne _ _ _ (by decide), hw_ne _ _ _ (by decide)]
  · rw [hw_s, hw_ne _ _ _ (by decide), hw_ne _ _ _ (by decide), hw_ne _ _ _ (by decide)]
  · rw [hw_n _ _ _ _ (Or.inr hi), hw_ne _ _ _ (by decide), hw_ne _ _ _ (by decide), hw_ne _ _ _ (by decide)]
theorem m_leaves {m : hp_T} {k : Nat} (hk : k < 48) : ∃ m2, f_X10_leaves (nI k) m = some m2 ∧ m2.1 5 = upd (m.1 5) k 0 ∧ m2.1 0 8 = m.1 0 8 - 1 ∧ (∀ i, i ≠ 8 → m2.1 0 i = m.1 0 i) ∧ Fr [0, 5] m m2 := by
  unfold f_X10_leaves
  simp only [ix_n hk (show 48 ≤ 1000 by omega), if_true, l_let, n_cl (show k < 2147483648 by omega)]
  refine ⟨_, rfl, ?_, ?_, fun i hi => ?_, (Fr.rf.hw (by decide)).hw (by decide)⟩
  · rw [hw_ne _ _ _ (by decide), hw_at]
  · rw [hw_s, hw_ne _ _ _ (by decide)]
  · rw [hw_n _ _ _ _ (Or.inr hi), hw_ne _ _ _ (by decide)]
theorem n10 : ¬ ((1 : Int32) = 0) := by decide
theorem p00 : (0 : Int32) = 0 := rfl
theorem put_ok {Der : hp_T → Nat → (Nat → Nat) → Prop} {h m : hp_T} {p a b : Int32} (R : RelD Der h m) : stp (RelD Der) (f_X9_put p a b h) (f_X10_put p a b m) := by
  unfold f_X9_put f_X10_put
  by_cases cp : 0 ≤ p.toInt ∧ p.toInt ≤ 47
  case neg =>
    rw [(c_isKey (h := h)).2 cp, (m_isKey (h := m)).2 cp, c_some, c_some, if_pos p00, if_pos p00]
    exact ⟨_, h, m, rfl, rfl, R⟩
  rw [(c_isKey (h := h)).1 cp, (m_isKey (h := m)).1 cp, c_some, c_some, if_neg n10, if_neg n10]
  by_cases cv : vld a b
  case neg =>
    rw [(c_isStretch (h := h)).2 cv, (m_isStretch (h := m)).2 cv, c_some, c_some, if_pos p00, if_pos p00]
    exact ⟨_, h, m, rfl, rfl, R⟩
  rw [(c_isStretch (h := h)).1 cv, (m_isStretch (h := m)).1 cv, c_some, c_some, if_neg n10, if_neg n10]
  obtain ⟨k, hk, rfl⟩ := key_of cp
  rw [if_pos (ix_n hk (by omega)), if_pos (ix_n hk (by omega)), n_cl (by omega)]
  obtain ⟨n, K, hI, hn8, hB, hrest⟩ := id R
  have Bk := hB k hk
  rw [← Bk.1]
  by_cases ct : h.1 4 k = 0
  case neg =>
    rw [if_neg ct, if_neg ct]
    exact ⟨_, h, m, rfl, rfl, R⟩
  rw [if_pos ct, if_pos ct]
  obtain ⟨m1, E1, a5, a6, a7, a8, a0, aF⟩ := m_comes (m := m) (a := a) (b := b) hk
  obtain ⟨d0, nx0, hd0, -, -, -, c90, -⟩ := hrest.1
  obtain ⟨m2, e2, E2, he, fF, f0, f9, f8, fy, ff, ft, fs⟩ := m_rem (m := m1) (kind := 0) hk hd0 (by rw [a0 9 (by decide)]; exact c90)
  rw [E1, v_some, E2, v_some]
  obtain ⟨h2, E, R2, en⟩ := chg_rel (m2 := m2) (k := k) (t := 1) (a := a) (b := b) (kind := 0) R hk (Or.inr rfl) (fun _ => cv) (fun d hd hd9 => by
      have : d = d0 := n_inj (by omega) (by omega) (hd9.symm.trans c90)
      subst this
      refine ⟨e2, _, _, he, f9, f8, fy, rfl, rfl, fun i hi => ?_, Or.inl ⟨rfl, ct, rfl⟩⟩
      rw [← aF.1 8 (by decide), ← aF.1 9 (by decide), ← aF.1 10 (by decide), ← aF.1 11 (by decide)]
      exact fs i hi)
    (by rw [fF.1 5 (by decide), a5]) ⟨fun _ => ⟨by rw [fF.1 6 (by decide), a6], by rw [fF.1 7 (by decide), a7]⟩, fun q => absurd q (by decide)⟩ ⟨by rw [fF.1 1 (by decide), aF.1 1 (by decide)], by rw [fF.1 2 (by decide), aF.1 2 (by decide)], by rw [fF.1 3 (by decide), aF.1 3 (by decide)]⟩ (by rw [f0 4 (by decide), a0 4 (by decide)])
    (fun n n2 h8 hq => by
      rw [ct] at hq
      simp at hq
      rw [f0 8 (by decide), a8, h8, hq]; exact nI_1 n)
  rw [E, v_some]
  exact ⟨_, h2, m2, by rw [en], rfl, R2⟩
theorem drop_ok {Der : hp_T → Nat → (Nat → Nat) → Prop} {h m : hp_T} {p : Int32} (R : RelD Der h m) : stp (RelD Der) (f_X9_drop p h) (f_X10_drop p m) := by
  unfold f_X9_drop f_X10_drop
  by_cases cp : 0 ≤ p.toInt ∧ p.toInt ≤ 47
  case neg =>
    rw [(c_isKey (h := h)).2 cp, (m_isKey (h := m)).2 cp, c_some, c_some, if_pos p00, if_pos p00]
    exact ⟨_, h, m, rfl, rfl, R⟩
  rw [(c_isKey (h := h)).1 cp, (m_isKey (h := m)).1 cp, c_some, c_some, if_neg n10, if_neg n10]
  obtain ⟨k, hk, rfl⟩ := key_of cp
  rw [if_pos (ix_n hk (by omega)), if_pos (ix_n hk (by omega)), n_cl (by omega)]
  obtain ⟨n, K, hI, hn8, hB, hrest⟩ := id R
  have Bk := hB k hk
  rw [← Bk.1]
  by_cases ct : h.1 4 k = 0
  · rw [if_pos ct, if_pos ct]
    exact ⟨_, h, m, rfl, rfl, R⟩
  have ct1 : h.1 4 k = 1 := Bk.2.2.2.1.resolve_left ct
  rw [if_neg ct, if_neg ct]
  obtain ⟨d0, nx0, hd0, -, -, -, c90, -⟩ := hrest.1
  obtain ⟨m1, e2, E1, he, fF, f0, f9, f8, fy, ff, ft, fs⟩ := m_rem (m := m) (kind := 1) hk hd0 c90
  obtain ⟨m2, E2, a5, a8, a0, aF⟩ := m_leaves (m := m1) hk
  rw [E1, v_some, E2, v_some]
  obtain ⟨h2, E, R2, en⟩ := chg_rel (m2 := m2) (k := k) (t := 0) (a := 0) (b := 0) (kind := 1) R hk (Or.inl rfl) (fun q => absurd q (by decide)) (fun d hd hd9 => by
      have : d = d0 := n_inj (by omega) (by omega) (hd9.symm.trans c90)
      subst this
      refine ⟨e2, m.1 6 k, m.1 7 k, he, by rw [a0 9 (by decide)]; exact f9, ?_, ?_, ?_, ?_, fun i hi => ?_, Or.inr ⟨Or.inl ⟨rfl, rfl⟩, ct1, rfl, rfl⟩⟩
      · rw [aF.1 8 (by decide)]; exact f8
      · rw [aF.1 9 (by decide)]; exact fy
      · rw [aF.1 10 (by decide)]; exact ff
      · rw [aF.1 11 (by decide)]; exact ft
      · rw [aF.1 8 (by decide), aF.1 9 (by decide), aF.1 10 (by decide), aF.1 11 (by decide)]
        exact fs i hi)
    (by rw [a5, fF.1 5 (by decide)]) ⟨fun q => absurd q (by decide), fun _ => ⟨by rw [aF.1 6 (by decide), fF.1 6 (by decide)], by rw [aF.1 7 (by decide), fF.1 7 (by decide)]⟩⟩ ⟨by rw [aF.1 1 (by decide), fF.1 1 (by decide)], by rw [aF.1 2 (by decide), fF.1 2 (by decide)], by rw [aF.1 3 (by decide), fF.1 3 (by decide)]⟩ (by rw [a0 4 (by decide), f0 4 (by decide)])
    (fun n n2 h8 hq => by
      rw [ct1] at hq
      simp at hq
      rw [a8, f0 8 (by decide), h8, ← hq]; exact nI_pred n2)
  rw [E, v_some]
  exact ⟨_, h2, m2, by rw [en], rfl, R2⟩
