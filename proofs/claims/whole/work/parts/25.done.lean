/-! DONE: a ring beside a row -/
def Ent (h m : hp_T) (s i : Nat) : Prop := ∃ k, k < 48 ∧ h.1 8 s = nI k ∧ m.1 9 i = nI k ∧ ((m.1 8 i = 0 ∧ h.1 9 s = 0) ∨ ((m.1 8 i = 1 ∨ m.1 8 i = 2) ∧ h.1 9 s = 1 ∧ h.1 10 s = m.1 10 i ∧ h.1 11 s = m.1 11 i ∧ vld (m.1 10 i) (m.1 11 i)))
def Hs (m : hp_T) (d : Nat) (th : Nat → Int32) : Prop := ∃ P : Nat → Nat → Int32, (∀ k, k < 48 → P d k = th k) ∧ ∀ i, i < d → ∀ k, k < 48 → m.1 9 i = nI k → P (i + 1) k = (if m.1 8 i = 1 then 0 else 1) ∧ P i k = (if m.1 8 i = 0 then 0 else 1) ∧ ∀ z, z < 48 → z ≠ k → P i z = P (i + 1) z
def RDt (h m : hp_T) (th : Nat → Int32) : Prop := ∃ d nx, d ≤ 64 ∧ nx < 64 ∧ h.1 7 4 = nI nx ∧ h.1 7 5 = nI d ∧ m.1 0 9 = nI d ∧ (∀ i, i < d → Ent h m ((nx + 64 - d + i) % 64) i) ∧ Hs m d th
theorem t_64 : (64 : Int32).toInt = 64 := by decide
theorem c_note {h : hp_T} {k nx d : Nat} (hk : k < 48) (hn : nx < 64) (hd : d ≤ 64) (h4 : h.1 7 4 = nI nx) (h5 : h.1 7 5 = nI d) (hb : h.1 4 k = 0 ∨ h.1 4 k = 1) :
    ∃ h2, f_X0_note (nI k) h = some h2 ∧ Fr [7, 8, 9, 10, 11] h h2 ∧ h2.1 7 4 = nI ((nx + 1) % 64) ∧ h2.1 7 5 = nI (min (d + 1) 64) ∧ h2.1 8 = upd (h.1 8) nx (nI k) ∧ h2.1 9 = upd (h.1 9) nx (h.1 4 k) ∧ h2.1 10 = upd (h.1 10) nx (h.1 2 k) ∧ h2.1 11 = upd (h.1 11) nx (h.1 3 k) := by
  have ik := ix_n hk (show 48 ≤ 1000 by omega)
  have inx := ix_n hn (show 64 ≤ 1000 by omega)
  have ck : (nI k).toNatClampNeg = k := n_cl (by omega)
  have cn : (nI nx).toNatClampNeg = nx := n_cl (by omega)
  have bt : bz (h.1 4 k) = true := by rcases hb with e | e <;> rw [e] <;> decide
  have mnv : mn (nI d + 1) 64 = nI (min (d + 1) 64) := by
    rw [nI_1]
    unfold mn
    split
    · rename_i c
      rw [i_lt, n_int (by omega), t_64] at c
      rw [show min (d + 1) 64 = 64 by omega]; rfl
    · rename_i c
      rw [i_lt, n_int (by omega), t_64] at c
      rw [show min (d + 1) 64 = d + 1 by omega]
  unfold f_X0_note
  simp only [l_let, h4, inx, ik, if_true, ck, cn, hw_ne _ _ _ (show (7 : Nat) ≠ 8 by decide), hw_ne _ _ _ (show (7 : Nat) ≠ 9 by decide), hw_ne _ _ _ (show (7 : Nat) ≠ 10 by decide), hw_ne _ _ _ (show (7 : Nat) ≠ 11 by decide), hw_ne _ _ _ (show (4 : Nat) ≠ 8 by decide), hw_ne _ _ _ (show (2 : Nat) ≠ 9 by decide), hw_ne _ _ _ (show (2 : Nat) ≠ 8 by decide), hw_ne _ _ _ (show (3 : Nat) ≠ 10 by decide), hw_ne _ _ _ (show (3 : Nat) ≠ 9 by decide), hw_ne _ _ _ (show (3 : Nat) ≠ 8 by decide), bt]
  obtain ⟨g, eg⟩ : ∃ g, g = hw (hw (hw (hw h 8 nx (nI k)) 9 nx (h.1 4 k)) 10 nx (h.1 2 k)) 11 nx (h.1 3 k) := ⟨_, rfl⟩
  rw [← eg]
  have gF : Fr [8, 9, 10, 11] h g := by rw [eg]; exact (((Fr.rf.hw (by decide)).hw (by decide)).hw (by decide)).hw (by decide)
  have g8 : g.1 8 = upd (h.1 8) nx (nI k) := by rw [eg, hw_ne _ _ _ (by decide), hw_ne _ _ _ (by decide), hw_ne _ _ _ (by decide), hw_at]
  have g9 : g.1 9 = upd (h.1 9) nx (h.1 4 k) := by rw [eg, hw_ne _ _ _ (by decide), hw_ne _ _ _ (by decide), hw_at, hw_ne _ _ _ (by decide)]
  have g10 : g.1 10 = upd (h.1 10) nx (h.1 2 k) := by rw [eg, hw_ne _ _ _ (by decide), hw_at, hw_ne _ _ _ (by decide), hw_ne _ _ _ (by decide)]
  have g11 : g.1 11 = upd (h.1 11) nx (h.1 3 k) := by rw [eg, hw_at, hw_ne _ _ _ (by decide), hw_ne _ _ _ (by decide), hw_ne _ _ _ (by decide)]
  have g75 : g.1 7 5 = nI d := by rw [gF.1 7 (by decide)]; exact h5
  have fin : ∀ (x : Int32) (y : Nat), x = nI y → y = (nx + 1) % 64 → ∃ h2, some (hw (hw g 7 4 x) 7 5 (mn ((hw g 7 4 x).1 7 5 + 1) 64)) = some h2 ∧ Fr [7, 8, 9, 10, 11] h h2 ∧ h2.1 7 4 = nI ((nx + 1) % 64) ∧ h2.1 7 5 = nI (min (d + 1) 64) ∧ h2.1 8 = upd (h.1 8) nx (nI k) ∧ h2.1 9 = upd (h.1 9) nx (h.1 4 k) ∧ h2.1 10 = upd (h.1 10) nx (h.1 2 k) ∧ h2.1 11 = upd (h.1 11) nx (h.1 3 k) := by
    intro x y ex ey
    refine ⟨_, rfl, ((gF.mono (by decide)).hw (by decide)).hw (by decide), ?_, ?_, ?_, ?_, ?_, ?_⟩
    · rw [hw_n _ _ _ _ (Or.inr (by decide)), hw_s, ex, ey]
    · rw [hw_s, hw_n _ _ _ _ (Or.inr (by decide)), g75, mnv]
    · rw [hw_ne _ _ _ (by decide), hw_ne _ _ _ (by decide), g8]
    · rw [hw_ne _ _ _ (by decide), hw_ne _ _ _ (by decide), g9]
    · rw [hw_ne _ _ _ (by decide), hw_ne _ _ _ (by decide), g10]
    · rw [hw_ne _ _ _ (by decide), hw_ne _ _ _ (by decide), g11]
  rw [nI_1]
  by_cases c : nx + 1 = 64
  · rw [if_pos (by rw [i_le, n_int (by omega), t_64]; omega)]
    exact fin 0 0 rfl (by omega)
  · rw [if_neg (by rw [i_le, n_int (by omega), t_64]; omega)]
    exact fin _ _ rfl (by omega)
theorem m_rem_L {m : hp_T} {Kc : Int32 → hp_T → Option hp_T} :
    ∃ m2, f_X10_remembers_L1 Kc 100 1 m = Kc (nI 64) m2 ∧ Fr [8, 9, 10, 11] m m2 ∧ (∀ i, i < 63 → m2.1 8 i = m.1 8 (i + 1) ∧ m2.1 9 i = m.1 9 (i + 1) ∧ m2.1 10 i = m.1 10 (i + 1) ∧ m2.1 11 i = m.1 11 (i + 1)) := by
  have key := loop_j (fun N (s : Int32 × hp_T) => f_X10_remembers_L1 Kc N s.1 s.2)
    (fun o => ∃ m2, o = Kc (nI 64) m2 ∧ Fr [8, 9, 10, 11] m m2 ∧ (∀ i, i < 63 → m2.1 8 i = m.1 8 (i + 1) ∧ m2.1 9 i = m.1 9 (i + 1) ∧ m2.1 10 i = m.1 10 (i + 1) ∧ m2.1 11 i = m.1 11 (i + 1)))
    (fun r s => ∃ v, r = 64 - v ∧ 1 ≤ v ∧ v ≤ 64 ∧ s.1 = nI v ∧ Fr [8, 9, 10, 11] m s.2 ∧ (∀ i, i + 1 < v → s.2.1 8 i = m.1 8 (i + 1) ∧ s.2.1 9 i = m.1 9 (i + 1) ∧ s.2.1 10 i = m.1 10 (i + 1) ∧ s.2.1 11 i = m.1 11 (i + 1)) ∧ (∀ i, v ≤ i → s.2.1 8 i = m.1 8 i ∧ s.2.1 9 i = m.1 9 i ∧ s.2.1 10 i = m.1 10 i ∧ s.2.1 11 i = m.1 11 i)) ?_ 63 100 (1, m) (by omega)
    ⟨1, rfl, by omega, by omega, rfl, Fr.rf, fun i hi => absurd hi (by omega), fun i _ => ⟨rfl, rfl, rfl, rfl⟩⟩
  · exact key
  rintro N r ⟨x, h⟩ ⟨v, rfl, h1, h2, rfl, hF, a, b⟩
  dsimp only at *
  rw [f_X10_remembers_L1]
  by_cases e : v = 64
  · subst e
    left
    rw [if_pos (by decide)]
    exact ⟨h, rfl, hF, fun i hi => a i (by omega)⟩
  right
  have iv := ix_n (j := v) (n := 64) (by omega) (by omega)
  have iw := ix_n (j := v - 1) (n := 64) (by omega) (by omega)
  have cv : (nI v).toNatClampNeg = v := n_cl (by omega)
  have cw : (nI (v - 1)).toNatClampNeg = v - 1 := n_cl (by omega)
  rw [if_neg (by rw [i_le, n_int (by omega), t_64]; omega)]
  simp only [n_pred (show 0 < v by omega), iv, iw, if_true, l_let, cv, cw, nI_1, hw_ne _ _ _ (show (9 : Nat) ≠ 8 by decide), hw_ne _ _ _ (show (10 : Nat) ≠ 8 by decide), hw_ne _ _ _ (show (11 : Nat) ≠ 8 by decide), hw_ne _ _ _ (show (10 : Nat) ≠ 9 by decide), hw_ne _ _ _ (show (11 : Nat) ≠ 9 by decide), hw_ne _ _ _ (show (11 : Nat) ≠ 10 by decide)]
  obtain ⟨g, eg⟩ : ∃ g, g = hw (hw (hw (hw h 8 (v - 1) (h.1 8 v)) 9 (v - 1) (h.1 9 v)) 10 (v - 1) (h.1 10 v)) 11 (v - 1) (h.1 11 v) := ⟨_, rfl⟩
  rw [← eg]
  have g8 : g.1 8 = upd (h.1 8) (v - 1) (h.1 8 v) := by rw [eg, hw_ne _ _ _ (by decide), hw_ne _ _ _ (by decide), hw_ne _ _ _ (by decide), hw_at]
  have g9 : g.1 9 = upd (h.1 9) (v - 1) (h.1 9 v) := by rw [eg, hw_ne _ _ _ (by decide), hw_ne _ _ _ (by decide), hw_at, hw_ne _ _ _ (by decide)]
  have g10 : g.1 10 = upd (h.1 10) (v - 1) (h.1 10 v) := by rw [eg, hw_ne _ _ _ (by decide), hw_at, hw_ne _ _ _ (by decide), hw_ne _ _ _ (by decide)]
  have g11 : g.1 11 = upd (h.1 11) (v - 1) (h.1 11 v) := by rw [eg, hw_at, hw_ne _ _ _ (by decide), hw_ne _ _ _ (by decide), hw_ne _ _ _ (by decide)]
  refine ⟨64 - (v + 1), (nI (v + 1), g), by omega, ⟨v + 1, rfl, by omega, by omega, rfl, ?_, fun i hi => ?_, fun i hi => ?_⟩, rfl⟩
  · rw [eg]; exact (((hF.hw (by decide)).hw (by decide)).hw (by decide)).hw (by decide)
  · dsimp only
    rw [g8, g9, g10, g11]
    by_cases e2 : i = v - 1
    · subst e2
      rw [up_s, up_s, up_s, up_s, show v - 1 + 1 = v by omega]
      exact b v (by omega)
    · rw [up_n _ _ e2, up_n _ _ e2, up_n _ _ e2, up_n _ _ e2]
      exact a i (by omega)
  · dsimp only
    rw [g8, g9, g10, g11, up_n _ _ (by omega), up_n _ _ (by omega), up_n _ _ (by omega), up_n _ _ (by omega)]
    exact b i (by omega)
/-- what is put down last, at place e, of d before -/
theorem m_rem {m : hp_T} {k d : Nat} {kind : Int32} (hk : k < 48) (hd : d ≤ 64) (h9 : m.1 0 9 = nI d) :
    ∃ m2 e, f_X10_remembers kind (nI k) m = some m2 ∧ e + 1 = min (d + 1) 64 ∧ Fr [0, 8, 9, 10, 11] m m2 ∧ (∀ i, i ≠ 9 → m2.1 0 i = m.1 0 i) ∧ m2.1 0 9 = nI (e + 1) ∧ m2.1 8 e = kind ∧ m2.1 9 e = nI k ∧ m2.1 10 e = m.1 6 k ∧ m2.1 11 e = m.1 7 k ∧ (∀ i, i < e → m2.1 8 i = m.1 8 (i + (d - e)) ∧ m2.1 9 i = m.1 9 (i + (d - e)) ∧ m2.1 10 i = m.1 10 (i + (d - e)) ∧ m2.1 11 i = m.1 11 (i + (d - e))) := by
  have ik := ix_n hk (show 48 ≤ 1000 by omega)
  have ck : (nI k).toNatClampNeg = k := n_cl (by omega)
  -- the end, from a heap where 'done' is e < 64
  have fin : ∀ (g : hp_T) (e : Nat), e < 64 → g.1 0 9 = nI e → ∃ m2, (if ix (g.1 0 9) 64 = true then o_let (hw g 8 (g.1 0 9).toNatClampNeg kind) fun (h3 : hp_T) => if ix (h3.1 0 9) 64 = true then o_let (hw h3 9 (h3.1 0 9).toNatClampNeg (nI k)) fun (h5 : hp_T) => if ix (nI k) 48 = true then if ix (h5.1 0 9) 64 = true then o_let (hw h5 10 (h5.1 0 9).toNatClampNeg (h5.1 6 (nI k).toNatClampNeg)) fun (h8 : hp_T) => if ix (nI k) 48 = true then if ix (h8.1 0 9) 64 = true then o_let (hw h8 11 (h8.1 0 9).toNatClampNeg (h8.1 7 (nI k).toNatClampNeg)) fun (h11 : hp_T) => o_let (hw h11 0 9 ((h11.1 0 9) + (1 : Int32))) fun (h12 : hp_T) => some h12 else none else none else none else none else none else none) = some m2 ∧ Fr [0, 8, 9, 10, 11] g m2 ∧ (∀ i, i ≠ 9 → m2.1 0 i = g.1 0 i) ∧ m2.1 0 9 = nI (e + 1) ∧ m2.1 8 = upd (g.1 8) e kind ∧ m2.1 9 = upd (g.1 9) e (nI k) ∧ m2.1 10 = upd (g.1 10) e (g.1 6 k) ∧ m2.1 11 = upd (g.1 11) e (g.1 7 k) := by
    intro g e he h0
    have ie := ix_n he (show 64 ≤ 1000 by omega)
    have ce : (nI e).toNatClampNeg = e := n_cl (by omega)
    simp only [l_let, h0, ie, ik, if_true, ck, ce, hw_ne _ _ _ (show (0 : Nat) ≠ 8 by decide), hw_ne _ _ _ (show (0 : Nat) ≠ 9 by decide), hw_ne _ _ _ (show (0 : Nat) ≠ 10 by decide), hw_ne _ _ _ (show (0 : Nat) ≠ 11 by decide), hw_ne _ _ _ (show (6 : Nat) ≠ 9 by decide), hw_ne _ _ _ (show (6 : Nat) ≠ 8 by decide), hw_ne _ _ _ (show (7 : Nat) ≠ 10 by decide), hw_ne _ _ _ (show (7 : Nat) ≠ 9 by decide), hw_ne _ _ _ (show (7 : Nat) ≠ 8 by decide)]
    refine ⟨_, rfl, ((((Fr.rf.hw (by decide)).hw (by decide)).hw (by decide)).hw (by decide)).hw (by decide), fun i hi => ?_, ?_, ?_, ?_, ?_, ?_⟩
    · rw [hw_n _ _ _ _ (Or.inr hi), hw_ne _ _ _ (by decide), hw_ne _ _ _ (by decide), hw_ne _ _ _ (by decide), hw_ne _ _ _ (by decide)]
    · rw [hw_s]; exact nI_1 e
    · rw [hw_ne _ _ _ (by decide), hw_ne _ _ _ (by decide), hw_ne _ _ _ (by decide), hw_ne _ _ _ (by decide), hw_at]
    · rw [hw_ne _ _ _ (by decide), hw_ne _ _ _ (by decide), hw_ne _ _ _ (by decide), hw_at, hw_ne _ _ _ (by decide)]
    · rw [hw_ne _ _ _ (by decide), hw_ne _ _ _ (by decide), hw_at, hw_ne _ _ _ (by decide), hw_ne _ _ _ (by decide)]
    · rw [hw_ne _ _ _ (by decide), hw_at, hw_ne _ _ _ (by decide), hw_ne _ _ _ (by decide), hw_ne _ _ _ (by decide)]
  unfold f_X10_remembers
  by_cases c : d = 64
  · subst c
    rw [if_pos (by rw [h9]; rfl)]
    obtain ⟨g, E, gF, gs⟩ := m_rem_L (m := m) (Kc := fun (x27 : Int32) (h28 : hp_T) => o_let (hw h28 0 9 ((h28.1 0 9) - (1 : Int32))) fun (h29 : hp_T) => if ix (h29.1 0 9) 64 = true then o_let (hw h29 8 (h29.1 0 9).toNatClampNeg kind) fun (h31 : hp_T) => if ix (h31.1 0 9) 64 = true then o_let (hw h31 9 (h31.1 0 9).toNatClampNeg (nI k)) fun (h33 : hp_T) => if ix (nI k) 48 = true then if ix (h33.1 0 9) 64 = true then o_let (hw h33 10 (h33.1 0 9).toNatClampNeg (h33.1 6 (nI k).toNatClampNeg)) fun (h36 : hp_T) => if ix (nI k) 48 = true then if ix (h36.1 0 9) 64 = true then o_let (hw h36 11 (h36.1 0 9).toNatClampNeg (h36.1 7 (nI k).toNatClampNeg)) fun (h39 : hp_T) => o_let (hw h39 0 9 ((h39.1 0 9) + (1 : Int32))) fun (h40 : hp_T) => some h40 else none else none else none else none else none else none)
    rw [E, l_let]
    have g9 : (hw g 0 9 (g.1 0 9 - 1)).1 0 9 = nI 63 := by rw [hw_s, gF.1 0 (by decide), h9]; decide
    obtain ⟨m2, E2, f1, f2, f3, f4, f5, f6, f7⟩ := fin (hw g 0 9 (g.1 0 9 - 1)) 63 (by omega) g9
    rw [E2]
    refine ⟨m2, 63, rfl, by omega, (gF.mono (by decide)).tr ((Fr.rf.hw (by decide)).tr f1), fun i hi => ?_, f3, ?_, ?_, ?_, ?_, fun i hi => ?_⟩
    · rw [f2 i hi, hw_n _ _ _ _ (Or.inr hi), gF.1 0 (by decide)]
    · rw [f4, up_s]
    · rw [f5, up_s]
    · rw [f6, up_s, hw_ne _ _ _ (by decide), gF.1 6 (by decide)]
    · rw [f7, up_s, hw_ne _ _ _ (by decide), gF.1 7 (by decide)]
    · rw [f4, f5, f6, f7, up_n _ _ (by omega), up_n _ _ (by omega), up_n _ _ (by omega), up_n _ _ (by omega), hw_ne _ _ _ (by decide), hw_ne _ _ _ (by decide), hw_ne _ _ _ (by decide), hw_ne _ _ _ (by decide)]
      exact gs i hi
  · rw [if_neg (by rw [h9, i_eq, n_int (by omega), t_64]; omega)]
    obtain ⟨m2, E2, f1, f2, f3, f4, f5, f6, f7⟩ := fin m d (by omega) h9
    rw [E2]
    refine ⟨m2, d, rfl, by omega, f1, f2, f3, ?_, ?_, ?_, ?_, fun i hi => ?_⟩
    · rw [f4, up_s]
    · rw [f5, up_s]
    · rw [f6, up_s]
    · rw [f7, up_s]
    · rw [f4, f5, f6, f7, up_n _ _ (by omega), up_n _ _ (by omega), up_n _ _ (by omega), up_n _ _ (by omega), show i + (d - d) = i by omega]
      exact ⟨rfl, rfl, rfl, rfl⟩
theorem push_ok {h m h2 m2 : hp_T} {d nx k e : Nat} {kind t0 a0 b0 a1 b1 : Int32} {th th2 : Nat → Int32} (hd : d ≤ 64) (hn : nx < 64) (hk : k < 48) (hE : ∀ i, i < d → Ent h m ((nx + 64 - d + i) % 64) i) (hH : Hs m d th) (he : e + 1 = min (d + 1) 64)
    (c4 : h2.1 7 4 = nI ((nx + 1) % 64)) (c5 : h2.1 7 5 = nI (e + 1)) (c8 : h2.1 8 = upd (h.1 8) nx (nI k)) (c9 : h2.1 9 = upd (h.1 9) nx t0) (c10 : h2.1 10 = upd (h.1 10) nx a0) (c11 : h2.1 11 = upd (h.1 11) nx b0)
    (m9 : m2.1 0 9 = nI (e + 1)) (mk : m2.1 8 e = kind) (my : m2.1 9 e = nI k) (mf : m2.1 10 e = a1) (mt : m2.1 11 e = b1) (ms : ∀ i, i < e → m2.1 8 i = m.1 8 (i + (d - e)) ∧ m2.1 9 i = m.1 9 (i + (d - e)) ∧ m2.1 10 i = m.1 10 (i + (d - e)) ∧ m2.1 11 i = m.1 11 (i + (d - e)))
    (hq : (kind = 0 ∧ t0 = 0 ∧ th k = 0 ∧ th2 k = 1) ∨ ((kind = 1 ∧ th2 k = 0 ∨ kind = 2 ∧ th2 k = 1) ∧ t0 = 1 ∧ a0 = a1 ∧ b0 = b1 ∧ vld a1 b1 ∧ th k = 1)) (ho : ∀ z, z < 48 → z ≠ k → th2 z = th z) : RDt h2 m2 th2 := by
  refine ⟨e + 1, (nx + 1) % 64, by omega, by omega, c4, c5, m9, fun i hi => ?_, ?_⟩
  · by_cases c : i = e
    · subst c
      rw [show ((nx + 1) % 64 + 64 - (i + 1) + i) % 64 = nx by omega]
      refine ⟨k, hk, by rw [c8, up_s], my, ?_⟩
      rw [mk, mf, mt, c9, c10, c11, up_s, up_s, up_s]
      rcases hq with ⟨q1, q2, -, -⟩ | ⟨q1, q2, q3, q4, q5, -⟩
      · exact Or.inl ⟨q1, q2⟩
      · refine Or.inr ⟨?_, q2, q3, q4, q5⟩
        rcases q1 with ⟨z, -⟩ | ⟨z, -⟩
        · exact Or.inl z
        · exact Or.inr z
    · have es : ((nx + 1) % 64 + 64 - (e + 1) + i) % 64 = (nx + 64 - d + (i + (d - e))) % 64 := by omega
      have ne : ((nx + 1) % 64 + 64 - (e + 1) + i) % 64 ≠ nx := by omega
      obtain ⟨s1, s2, s3, s4⟩ := ms i (by omega)
      obtain ⟨y, hy, e1, e2, e3⟩ := hE (i + (d - e)) (by omega)
      refine ⟨y, hy, ?_, by rw [s2]; exact e2, ?_⟩
      · rw [c8, up_n _ _ ne, es]; exact e1
      · rw [s1, s3, s4, c9, c10, c11, up_n _ _ ne, up_n _ _ ne, up_n _ _ ne, es]; exact e3
  · obtain ⟨P, p1, p2⟩ := hH
    refine ⟨fun i => if i ≤ e then P (i + (d - e)) else th2, fun z hz => by simp [show ¬ e + 1 ≤ e by omega], fun i hi z hz hzk => ?_⟩
    by_cases c : i = e
    · subst c
      rw [my] at hzk
      have : z = k := (n_inj (by omega) (by omega) hzk).symm
      subst this
      have hP : ∀ y, y < 48 → P (i + (d - i)) y = th y := fun y hy => by rw [show i + (d - i) = d by omega]; exact p1 y hy
      simp only [show ¬ i + 1 ≤ i by omega, if_false, Nat.le_refl, if_true]
      rw [hP z hz, mk]
      refine ⟨?_, ?_, fun y hy hyk => by rw [hP y hy, ho y hy hyk]⟩
      · rcases hq with ⟨q1, -, -, q4⟩ | ⟨q1, -⟩
        · rw [q1, q4]; decide
        · rcases q1 with ⟨q1, q2⟩ | ⟨q1, q2⟩ <;> rw [q1, q2] <;> decide
      · rcases hq with ⟨q1, -, q3, -⟩ | ⟨q1, -, -, -, -, q6⟩
        · rw [q1, q3]; decide
        · rcases q1 with ⟨q1, -⟩ | ⟨q1, -⟩ <;> rw [q1, q6] <;> decide
    · obtain ⟨s1, s2, -, -⟩ := ms i (by omega)
      rw [s2] at hzk
      have := p2 (i + (d - e)) (by omega) z hz hzk
      simp only [show i + 1 ≤ e by omega, show i ≤ e by omega, if_true, s1]
      rw [show i + 1 + (d - e) = i + (d - e) + 1 by omega]
      exact this
