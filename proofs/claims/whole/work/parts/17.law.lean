/-! the law: rows over both worlds at once -/
abbrev l_T : Type := Program × Launch × Env × State × MethodId × List Frame × Method × Code × va_G × (Nat → Nat) × (Nat → ClassId) × (Nat → Nat) × (Nat → ClassId) × Nat × Nat × (Nat → Int32)
theorem ws_D {w : Nat} {q : Nat → Nat} {cA : Nat → ClassId} {h h2 : hp_T} {A : Nat → Prop} (hD : va_D A (wsW w q cA h)) : va_D A (wsW w q cA h2) := by
  have at' : ∀ (k : Nat) (x : Nat × va_E), (wsW w q cA h2)[k]? = some x → k < nW w ∧ x.1 = q k := by
    intro k x hx
    have hk : k < nW w := by
      have := (List.getElem?_eq_some_iff.mp hx).1
      rwa [ws_len] at this
    rw [ws_get hk] at hx
    cases hx
    exact ⟨hk, rfl⟩
  refine ⟨fun i j x y hi hj e => ?_, fun k x hk => ?_⟩
  · obtain ⟨h1, e1⟩ := at' i x hi
    obtain ⟨h3, e2⟩ := at' j y hj
    exact hD.1 i j _ _ (ws_get h1) (ws_get h3) (by show q i = q j; rw [← e1, ← e2]; exact e)
  · obtain ⟨h1, e1⟩ := at' k x hk
    rw [e1]
    exact hD.2 k _ (ws_get h1)
def lC (Λ : l_T) : Prop := match Λ with
  | (p, _, _, s, m, _, meth, c, D, qc, cc, qm, cm, b, L, xs) => p.tables.exec = Jvm.exec ∧ c.code = code ∧ meth.sig.returnType = ret ∧ c.maxLocals = 4 ∧ s.vm.findClass RL = some m.cls ∧ (∀ w ∈ gd_tbl, w.before #[Value.ref b] s = true) ∧ va_X b L xs s s.heap ∧ b < s.heap.size ∧ meth.locks = false ∧ va_K D vwCl (tysW 0 cc) s ∧ va_K D vwCl (tysW 1 cm) s ∧ (∀ h, va_D (fun z : Nat => s.heap.size ≤ z) (wsW 0 qc cc h)) ∧ (∀ h, va_D (fun z : Nat => s.heap.size ≤ z) (wsW 1 qm cm h)) ∧ (∀ i j, i < nW 0 → j < nW 1 → qc i ≠ qm j)
def lA (Λ : l_T) (pc : Nat) (i : Int32) (st : List Value) (hc hm : hp_T) : Prop := match Λ with
  | (p, l, e, s, m, below, meth, c, D, qc, cc, qm, cm, b, _, _) => ∀ (H : Heap) (locs : List Loc) (ls : Array Slot), va_P D vwCl (wsW 0 qc cc hc) H → va_P D vwCl (wsW 1 qm cm hm) H → va_S (fun z : Nat => s.heap.size ≤ z) s.heap H locs → lv_has ls 4 [(0, .ref b), (1, .ref (qc 0)), (2, .ref (qm 0)), (3, .int i)] → W p l e room_1 s m #[Value.ref b] below meth c H locs 77 3376 (lw_Z below #[Value.ref b] s) (F0 m pc ls st)
def lXr (Λ : l_T) : Nat := match Λ with
  | (_, _, _, _, _, _, _, _, _, qc, _, _, _, _, _, _) => qc 0
def lMr (Λ : l_T) : Nat := match Λ with
  | (_, _, _, _, _, _, _, _, _, _, _, qm, _, _, _, _) => qm 0
def lBr (Λ : l_T) : Nat := match Λ with
  | (_, _, _, _, _, _, _, _, _, _, _, _, _, b, _, _) => b
def lLn (Λ : l_T) : Nat := match Λ with
  | (_, _, _, _, _, _, _, _, _, _, _, _, _, _, L, _) => L
def lXs (Λ : l_T) : Nat → Int32 := match Λ with
  | (_, _, _, _, _, _, _, _, _, _, _, _, _, _, _, xs) => xs
theorem l_aload0 {Λ : l_T} {pc : Nat} {i : Int32} {st : List Value} {hc hm : hp_T}  (X : lC Λ) (d : decode code pc = .ok (.aload_n 0, 1))  (K : lA Λ (pc + 1) i (.ref (lBr Λ) :: st) hc hm) : lA Λ pc i st hc hm := by
  obtain ⟨p, l, e, s, m, below, meth, c, D, qc, cc, qm, cm, b, L, xs⟩ := Λ
  obtain ⟨hx, hb, hr, hml, hown, hts, hX, hbl, hlocks, hKc, hKm, hDc, hDm, hdis⟩ := X
  intro H locs ls hPc hPm hS hl
  exact lv_aload_n hx hb d rfl (lv_at hl 0 rfl) (K H locs ls hPc hPm hS hl)
theorem l_aload1 {Λ : l_T} {pc : Nat} {i : Int32} {st : List Value} {hc hm : hp_T}  (X : lC Λ) (d : decode code pc = .ok (.aload_n 1, 1))  (K : lA Λ (pc + 1) i (.ref (lXr Λ) :: st) hc hm) : lA Λ pc i st hc hm := by
  obtain ⟨p, l, e, s, m, below, meth, c, D, qc, cc, qm, cm, b, L, xs⟩ := Λ
  obtain ⟨hx, hb, hr, hml, hown, hts, hX, hbl, hlocks, hKc, hKm, hDc, hDm, hdis⟩ := X
  intro H locs ls hPc hPm hS hl
  exact lv_aload_n hx hb d rfl (lv_at hl 1 rfl) (K H locs ls hPc hPm hS hl)
theorem l_aload2 {Λ : l_T} {pc : Nat} {i : Int32} {st : List Value} {hc hm : hp_T}  (X : lC Λ) (d : decode code pc = .ok (.aload_n 2, 1))  (K : lA Λ (pc + 1) i (.ref (lMr Λ) :: st) hc hm) : lA Λ pc i st hc hm := by
  obtain ⟨p, l, e, s, m, below, meth, c, D, qc, cc, qm, cm, b, L, xs⟩ := Λ
  obtain ⟨hx, hb, hr, hml, hown, hts, hX, hbl, hlocks, hKc, hKm, hDc, hDm, hdis⟩ := X
  intro H locs ls hPc hPm hS hl
  exact lv_aload_n hx hb d rfl (lv_at hl 2 rfl) (K H locs ls hPc hPm hS hl)
theorem l_iload3 {Λ : l_T} {pc : Nat} {i : Int32} {st : List Value} {hc hm : hp_T}  (X : lC Λ) (d : decode code pc = .ok (.iload_n 3, 1))  (K : lA Λ (pc + 1) i (.int i :: st) hc hm) : lA Λ pc i st hc hm := by
  obtain ⟨p, l, e, s, m, below, meth, c, D, qc, cc, qm, cm, b, L, xs⟩ := Λ
  obtain ⟨hx, hb, hr, hml, hown, hts, hX, hbl, hlocks, hKc, hKm, hDc, hDm, hdis⟩ := X
  intro H locs ls hPc hPm hS hl
  exact lv_iload_n hx hb d rfl (lv_at hl 3 rfl) (K H locs ls hPc hPm hS hl)
theorem l_iconst {Λ : l_T} {pc : Nat} {i : Int32} {st : List Value} {hc hm : hp_T} {n : Int} {v : Int32} (X : lC Λ) (d : decode code pc = .ok (.iconst n, 1)) (hv : Int32.ofInt n = v) (K : lA Λ (pc + 1) i (.int v :: st) hc hm) : lA Λ pc i st hc hm := by
  obtain ⟨p, l, e, s, m, below, meth, c, D, qc, cc, qm, cm, b, L, xs⟩ := Λ
  obtain ⟨hx, hb, hr, hml, hown, hts, hX, hbl, hlocks, hKc, hKm, hDc, hDm, hdis⟩ := X
  intro H locs ls hPc hPm hS hl
  exact lv_iconst hx hb d hv (K H locs ls hPc hPm hS hl)
theorem l_bipush {Λ : l_T} {pc : Nat} {i : Int32} {st : List Value} {hc hm : hp_T} {n : Int} {v : Int32} (X : lC Λ) (d : decode code pc = .ok (.bipush n, 2)) (hv : (Int8.ofInt n).toInt32 = v) (K : lA Λ (pc + 2) i (.int v :: st) hc hm) : lA Λ pc i st hc hm := by
  obtain ⟨p, l, e, s, m, below, meth, c, D, qc, cc, qm, cm, b, L, xs⟩ := Λ
  obtain ⟨hx, hb, hr, hml, hown, hts, hX, hbl, hlocks, hKc, hKm, hDc, hDm, hdis⟩ := X
  intro H locs ls hPc hPm hS hl
  exact lv_bipush hx hb d hv (K H locs ls hPc hPm hS hl)
theorem l_iadd {Λ : l_T} {pc : Nat} {i : Int32} {st : List Value} {hc hm : hp_T} {x y : Int32} (X : lC Λ) (d : decode code pc = .ok (.iadd, 1))  (K : lA Λ (pc + 1) i (.int (x + y) :: st) hc hm) : lA Λ pc i (.int y :: .int x :: st) hc hm := by
  obtain ⟨p, l, e, s, m, below, meth, c, D, qc, cc, qm, cm, b, L, xs⟩ := Λ
  obtain ⟨hx, hb, hr, hml, hown, hts, hX, hbl, hlocks, hKc, hKm, hDc, hDm, hdis⟩ := X
  intro H locs ls hPc hPm hS hl
  exact lv_iadd hx hb d (K H locs ls hPc hPm hS hl)
theorem l_isub {Λ : l_T} {pc : Nat} {i : Int32} {st : List Value} {hc hm : hp_T} {x y : Int32} (X : lC Λ) (d : decode code pc = .ok (.isub, 1))  (K : lA Λ (pc + 1) i (.int (x - y) :: st) hc hm) : lA Λ pc i (.int y :: .int x :: st) hc hm := by
  obtain ⟨p, l, e, s, m, below, meth, c, D, qc, cc, qm, cm, b, L, xs⟩ := Λ
  obtain ⟨hx, hb, hr, hml, hown, hts, hX, hbl, hlocks, hKc, hKm, hDc, hDm, hdis⟩ := X
  intro H locs ls hPc hPm hS hl
  exact lv_isub hx hb d (K H locs ls hPc hPm hS hl)
theorem l_iand {Λ : l_T} {pc : Nat} {i : Int32} {st : List Value} {hc hm : hp_T} {x y : Int32} (X : lC Λ) (d : decode code pc = .ok (.iand, 1))  (K : lA Λ (pc + 1) i (.int (x &&& y) :: st) hc hm) : lA Λ pc i (.int y :: .int x :: st) hc hm := by
  obtain ⟨p, l, e, s, m, below, meth, c, D, qc, cc, qm, cm, b, L, xs⟩ := Λ
  obtain ⟨hx, hb, hr, hml, hown, hts, hX, hbl, hlocks, hKc, hKm, hDc, hDm, hdis⟩ := X
  intro H locs ls hPc hPm hS hl
  exact lv_iand hx hb d (K H locs ls hPc hPm hS hl)
theorem l_lcmp {Λ : l_T} {pc : Nat} {i : Int32} {st : List Value} {hc hm : hp_T} {x y : Int64} (X : lC Λ) (d : decode code pc = .ok (.lcmp, 1))  (K : lA Λ (pc + 1) i (.int (lg_cmp x y) :: st) hc hm) : lA Λ pc i (.long y :: .long x :: st) hc hm := by
  obtain ⟨p, l, e, s, m, below, meth, c, D, qc, cc, qm, cm, b, L, xs⟩ := Λ
  obtain ⟨hx, hb, hr, hml, hown, hts, hX, hbl, hlocks, hKc, hKm, hDc, hDm, hdis⟩ := X
  intro H locs ls hPc hPm hS hl
  exact W.lcmp hx hb d (K H locs ls hPc hPm hS hl)
theorem l_len {Λ : l_T} {pc : Nat} {i : Int32} {st : List Value} {hc hm : hp_T}  (X : lC Λ) (d : decode code pc = .ok (.arraylength, 1))  (K : lA Λ (pc + 1) i (.int (nI (lLn Λ)) :: st) hc hm) : lA Λ pc i (.ref (lBr Λ) :: st) hc hm := by
  obtain ⟨p, l, e, s, m, below, meth, c, D, qc, cc, qm, cm, b, L, xs⟩ := Λ
  obtain ⟨hx, hb, hr, hml, hown, hts, hX, hbl, hlocks, hKc, hKm, hDc, hDm, hdis⟩ := X
  intro H locs ls hPc hPm hS hl
  exact va_slen hx hb hX hbl (Nat.not_le.mpr hbl) hS d (K H locs ls hPc hPm hS hl)
theorem l_sld {Λ : l_T} {pc : Nat} {i : Int32} {st : List Value} {hc hm : hp_T} {x : Int32} (X : lC Λ) (d : decode code pc = .ok (.iaload, 1)) (hin : vp_in x (lLn Λ)) (K : lA Λ (pc + 1) i (.int (lXs Λ x.toNatClampNeg) :: st) hc hm) : lA Λ pc i (.int x :: .ref (lBr Λ) :: st) hc hm := by
  obtain ⟨p, l, e, s, m, below, meth, c, D, qc, cc, qm, cm, b, L, xs⟩ := Λ
  obtain ⟨hx, hb, hr, hml, hown, hts, hX, hbl, hlocks, hKc, hKm, hDc, hDm, hdis⟩ := X
  intro H locs ls hPc hPm hS hl
  exact va_sld hx hb hX hbl (Nat.not_le.mpr hbl) hS hin d (K H locs ls hPc hPm hS hl)
theorem l_goto {Λ : l_T} {pc : Nat} {i : Int32} {st : List Value} {hc hm : hp_T} {off : Int} {tgt : Nat} (X : lC Λ) (d : decode code pc = .ok (.goto off, 3)) (ht : (pc : Int) + off = (tgt : Int)) (K : lA Λ tgt i st hc hm) : lA Λ pc i st hc hm := by
  obtain ⟨p, l, e, s, m, below, meth, c, D, qc, cc, qm, cm, b, L, xs⟩ := Λ
  obtain ⟨hx, hb, hr, hml, hown, hts, hX, hbl, hlocks, hKc, hKm, hDc, hDm, hdis⟩ := X
  intro H locs ls hPc hPm hS hl
  exact lv_goto hx hb d ht (K H locs ls hPc hPm hS hl)
theorem l_icmp_gt {Λ : l_T} {pc : Nat} {i : Int32} {st : List Value} {hc hm : hp_T} {x y : Int32} {off : Int} {tgt : Nat} (X : lC Λ) (d : decode code pc = .ok (.if_icmp .gt off, 3)) (ht : (pc : Int) + off = (tgt : Int)) (kt : y < x → lA Λ tgt i st hc hm) (kf : ¬ y < x → lA Λ (pc + 3) i st hc hm) : lA Λ pc i (.int y :: .int x :: st) hc hm := by
  obtain ⟨p, l, e, s, m, below, meth, c, D, qc, cc, qm, cm, b, L, xs⟩ := Λ
  obtain ⟨hx, hb, hr, hml, hown, hts, hX, hbl, hlocks, hKc, hKm, hDc, hDm, hdis⟩ := X
  intro H locs ls hPc hPm hS hl
  exact lv_icmp_gt hx hb d ht (fun z => kt z H locs ls hPc hPm hS hl) (fun z => kf z H locs ls hPc hPm hS hl)
theorem l_icmp_eq {Λ : l_T} {pc : Nat} {i : Int32} {st : List Value} {hc hm : hp_T} {x y : Int32} {off : Int} {tgt : Nat} (X : lC Λ) (d : decode code pc = .ok (.if_icmp .eq off, 3)) (ht : (pc : Int) + off = (tgt : Int)) (kt : x = y → lA Λ tgt i st hc hm) (kf : ¬ x = y → lA Λ (pc + 3) i st hc hm) : lA Λ pc i (.int y :: .int x :: st) hc hm := by
  obtain ⟨p, l, e, s, m, below, meth, c, D, qc, cc, qm, cm, b, L, xs⟩ := Λ
  obtain ⟨hx, hb, hr, hml, hown, hts, hX, hbl, hlocks, hKc, hKm, hDc, hDm, hdis⟩ := X
  intro H locs ls hPc hPm hS hl
  exact lv_icmp_eq hx hb d ht (fun z => kt z H locs ls hPc hPm hS hl) (fun z => kf z H locs ls hPc hPm hS hl)
theorem l_if_eq {Λ : l_T} {pc : Nat} {i : Int32} {st : List Value} {hc hm : hp_T} {x : Int32} {off : Int} {tgt : Nat} (X : lC Λ) (d : decode code pc = .ok (.ifCond .eq off, 3)) (ht : (pc : Int) + off = (tgt : Int)) (kt : x = 0 → lA Λ tgt i st hc hm) (kf : ¬ x = 0 → lA Λ (pc + 3) i st hc hm) : lA Λ pc i (.int x :: st) hc hm := by
  obtain ⟨p, l, e, s, m, below, meth, c, D, qc, cc, qm, cm, b, L, xs⟩ := Λ
  obtain ⟨hx, hb, hr, hml, hown, hts, hX, hbl, hlocks, hKc, hKm, hDc, hDm, hdis⟩ := X
  intro H locs ls hPc hPm hS hl
  exact lv_if_eq hx hb d ht (fun z => kt z H locs ls hPc hPm hS hl) (fun z => kf z H locs ls hPc hPm hS hl)
theorem l_iinc {Λ : l_T} {pc : Nat} {i : Int32} {st : List Value} {hc hm : hp_T} {v : Int32} (X : lC Λ) (d : decode code pc = .ok (.iinc 3 6, 3)) (hv : i + 6 = v) (K : lA Λ (pc + 3) v st hc hm) : lA Λ pc i st hc hm := by
  obtain ⟨p, l, e, s, m, below, meth, c, D, qc, cc, qm, cm, b, L, xs⟩ := Λ
  obtain ⟨hx, hb, hr, hml, hown, hts, hX, hbl, hlocks, hKc, hKm, hDc, hDm, hdis⟩ := X
  intro H locs ls hPc hPm hS hl
  refine lv_iinc (k := 3) (v := v) (lv' := [(3, .int v), (0, .ref b), (1, .ref (qc 0)), (2, .ref (qm 0))]) hx hb d hl rfl (by rw [← hv]; rfl) (by decide) rfl (fun ls hl => ?_)
  exact K H locs ls hPc hPm hS (lv_sub hl [1, 2, 3, 0] rfl)
theorem l_tableIn {Λ : l_T} {pc : Nat} {i : Int32} {st : List Value} {hc hm : hp_T} {dflt lo1 hi1 : Int} {offs : Array Int} {len : Nat} {x : Int32} (v : Int32) {off : Int} {tgt : Nat} (X : lC Λ) (d : decode code pc = .ok (.tableswitch dflt lo1 hi1 offs, len)) (hx0 : x = v) (h1 : ¬ v.toInt < lo1) (h2 : ¬ hi1 < v.toInt) (ho : offs[(v.toInt - lo1).toNat]? = some off) (ht : (pc : Int) + off = (tgt : Int)) (K : lA Λ tgt i st hc hm) : lA Λ pc i (.int x :: st) hc hm := by
  obtain ⟨p, l, e, s, m, below, meth, c, D, qc, cc, qm, cm, b, L, xs⟩ := Λ
  obtain ⟨hx, hb, hr, hml, hown, hts, hX, hbl, hlocks, hKc, hKm, hDc, hDm, hdis⟩ := X
  intro H locs ls hPc hPm hS hl
  subst hx0
  exact lv_tableIn hx hb d h1 h2 ho ht (K H locs ls hPc hPm hS hl)
theorem l_tableOut {Λ : l_T} {pc : Nat} {i : Int32} {st : List Value} {hc hm : hp_T} {dflt lo1 hi1 : Int} {offs : Array Int} {len : Nat} {x : Int32} {tgt : Nat} (X : lC Λ) (d : decode code pc = .ok (.tableswitch dflt lo1 hi1 offs, len)) (h1 : x.toInt < lo1 ∨ hi1 < x.toInt) (ht : (pc : Int) + dflt = (tgt : Int)) (K : lA Λ tgt i st hc hm) : lA Λ pc i (.int x :: st) hc hm := by
  obtain ⟨p, l, e, s, m, below, meth, c, D, qc, cc, qm, cm, b, L, xs⟩ := Λ
  obtain ⟨hx, hb, hr, hml, hown, hts, hX, hbl, hlocks, hKc, hKm, hDc, hDm, hdis⟩ := X
  intro H locs ls hPc hPm hS hl
  exact lv_tableOut hx hb d h1 ht (K H locs ls hPc hPm hS hl)
theorem l_ret {Λ : l_T} {pc : Nat} {i : Int32} {st : List Value} {hc hm : hp_T} (X : lC Λ) (d : decode code pc = .ok (.ireturn, 1)) : lA Λ pc i [.int 1] hc hm := by
  obtain ⟨p, l, e, s, m, below, meth, c, D, qc, cc, qm, cm, b, L, xs⟩ := Λ
  obtain ⟨hx, hb, hr, hml, hown, hts, hX, hbl, hlocks, hKc, hKm, hDc, hDm, hdis⟩ := X
  intro H locs ls hPc hPm hS hl
  refine va_forget (fun q hq => hS.2.2 q hq) ?_
  refine W.widen (k := 600000) (n := 7302250) (Nat.le_of_ble_eq_true rfl) (Nat.le_of_ble_eq_true rfl) ?_
  exact lw_ret hx hb hr hlocks d
theorem lFree {w : Nat} {q : Nat → Nat} {cA : Nat → ClassId} {h : hp_T} {H0 H : Heap} {locs : List Loc} (hD : va_D (fun z : Nat => H0.size ≤ z) (wsW w q cA h)) (hS : va_S (fun z : Nat => H0.size ≤ z) H0 H locs) : ∀ z, va_A (wsW w q cA h) H.size z → H0.size ≤ z := aFree hD hS (fun _ h => h)
theorem lKeep {w w2 : Nat} {q q2 : Nat → Nat} {cA cA2 : Nat → ClassId} {h h2 : hp_T} {D : va_G} {H H1 : Heap} (hP : va_P D vwCl (wsW w2 q2 cA2 h2) H) (hdis : ∀ i j, i < nW w → j < nW w2 → q i ≠ q2 j) (hk : ∀ z : Nat, z < H.size → ¬ va_A (wsW w q cA h) H.size z → H1[z]? = H[z]?) : va_P D vwCl (wsW w2 q2 cA2 h2) H1 := by
  refine hP.kept fun k x hx => ?_
  have hk2 : k < nW w2 := by
    have := (List.getElem?_eq_some_iff.mp hx).1
    rwa [ws_len] at this
  have hlt := (hP k x hx).lt
  refine hk x.1 hlt fun hz => ?_
  rw [ws_get hk2] at hx
  cases hx
  rcases hz with ⟨k3, e3, hz⟩ | hz
  · have hk3 : k3 < nW w := by
      have := (List.getElem?_eq_some_iff.mp hz).1
      rwa [ws_len] at this
    rw [ws_get hk3] at hz
    exact hdis k3 k hk3 hk2 (congrArg Prod.fst (Option.some.inj hz))
  · exact absurd hz (Nat.not_le.mpr hlt)
theorem l_call0I {Λ : l_T} {pc : Nat} {i : Int32} {st : List Value} {hc hm : hp_T} {h2 : hp_T} {y : MethodName} {bytes : ByteArray} {maxL fr2 lo2 n index : Nat} {As : List Value} {r : Int32} (X : lC Λ) (hM : ∀ q, cI 0 y bytes maxL .int fr2 lo2 q (.ref (q 0) :: As) hc r h2) (hcl : vwCl[9]? = some (y.cls, TX9, 11)) (hy : yV y bytes maxL (some .int) n) (hlk : Cond.methodLink RL index y ∈ gd_tbl) (hn : As.length = n) (hR1 : fr2 + 1 ≤ 9) (hR2 : 8 + (maxL + 11) + lo2 ≤ 332) (hW : (st.map fun v => v.category).sum ≤ 8) (d : decode code pc = .ok (.invokevirtual index, 3)) (K : lA Λ (pc + 3) i (.int r :: st) h2 hm) : lA Λ pc i (As.reverse ++ .ref (lXr Λ) :: st) hc hm := by
  obtain ⟨p, l, e, s, m, below, meth, c, D, qc, cc, qm, cm, b, L, xs⟩ := Λ
  obtain ⟨hx, hb, hr, hml, hown, hts, hX, hbl, hlocks, hKc, hKm, hDc, hDm, hdis⟩ := X
  intro H locs ls hPc hPm hS hl
  have hFc := lFree (hDc hc) hS
  refine va_calli (va_runV (As := As) (rest := st) ⟨hx, hb, hml, hown, hts⟩ (hM qc l D cc H.size) (cwV n hts (gd_wsV hlk hy) rfl rfl rfl ⟨rfl, hy.2.2.2.2⟩ ⟨hR1, hR2⟩) ⟨aPc_blind, va_recv hKc hPc hcl ((ws_get (k := 0) (by decide)).trans rfl), fun U hU hW => ⟨rfl, by rw [hU], by rw [hU]; exact hPc, va_K.moved hW.alike hKc, (hDc hc).weaken (fun _ _ _ _ => trivial)⟩⟩ rfl hn hl.1 rfl (lv_room hW) d ⟨Nat.le_of_ble_eq_true rfl, Nat.le_of_ble_eq_true rfl⟩) hS (fun z _ hz => hFc z hz) hFc (fun r1 u t H1 locs1 ht hvm hw hB hz1 hk1 hS1 => ?_)
  obtain ⟨rfl, rfl⟩ := hw
  obtain ⟨hP1, hK1, hD1⟩ := hB
  rw [ht] at hP1
  exact K H1 locs1 ls hP1 (lKeep hPm hdis hk1) hS1 hl
theorem l_call0L {Λ : l_T} {pc : Nat} {i : Int32} {st : List Value} {hc hm : hp_T} {h2 : hp_T} {y : MethodName} {bytes : ByteArray} {maxL fr2 lo2 n index : Nat} {As : List Value} {r : Int64} (X : lC Λ) (hM : ∀ q, cL 0 y bytes maxL fr2 lo2 q (.ref (q 0) :: As) hc r h2) (hcl : vwCl[9]? = some (y.cls, TX9, 11)) (hy : yV y bytes maxL (some .long) n) (hlk : Cond.methodLink RL index y ∈ gd_tbl) (hn : As.length = n) (hR1 : fr2 + 1 ≤ 9) (hR2 : 8 + (maxL + 11) + lo2 ≤ 332) (hW : (st.map fun v => v.category).sum ≤ 8) (d : decode code pc = .ok (.invokevirtual index, 3)) (K : lA Λ (pc + 3) i (.long r :: st) h2 hm) : lA Λ pc i (As.reverse ++ .ref (lXr Λ) :: st) hc hm := by
  obtain ⟨p, l, e, s, m, below, meth, c, D, qc, cc, qm, cm, b, L, xs⟩ := Λ
  obtain ⟨hx, hb, hr, hml, hown, hts, hX, hbl, hlocks, hKc, hKm, hDc, hDm, hdis⟩ := X
  intro H locs ls hPc hPm hS hl
  have hFc := lFree (hDc hc) hS
  refine va_calll (va_runV (As := As) (rest := st) ⟨hx, hb, hml, hown, hts⟩ (hM qc l D cc H.size) (cwV n hts (gd_wsV hlk hy) rfl rfl rfl ⟨rfl, hy.2.2.2.2⟩ ⟨hR1, hR2⟩) ⟨aPc_blind, va_recv hKc hPc hcl ((ws_get (k := 0) (by decide)).trans rfl), fun U hU hW => ⟨rfl, by rw [hU], by rw [hU]; exact hPc, va_K.moved hW.alike hKc, (hDc hc).weaken (fun _ _ _ _ => trivial)⟩⟩ rfl hn hl.1 rfl (lv_room hW) d ⟨Nat.le_of_ble_eq_true rfl, Nat.le_of_ble_eq_true rfl⟩) hS (fun z _ hz => hFc z hz) hFc (fun r1 u t H1 locs1 ht hvm hw hB hz1 hk1 hS1 => ?_)
  obtain ⟨rfl, rfl⟩ := hw
  obtain ⟨hP1, hK1, hD1⟩ := hB
  rw [ht] at hP1
  exact K H1 locs1 ls hP1 (lKeep hPm hdis hk1) hS1 hl
theorem l_call1I {Λ : l_T} {pc : Nat} {i : Int32} {st : List Value} {hc hm : hp_T} {h2 : hp_T} {y : MethodName} {bytes : ByteArray} {maxL fr2 lo2 n index : Nat} {As : List Value} {r : Int32} (X : lC Λ) (hM : ∀ q, cI 1 y bytes maxL .int fr2 lo2 q (.ref (q 0) :: As) hm r h2) (hcl : vwCl[10]? = some (y.cls, TX10, 33)) (hy : yV y bytes maxL (some .int) n) (hlk : Cond.methodLink RL index y ∈ gd_tbl) (hn : As.length = n) (hR1 : fr2 + 1 ≤ 9) (hR2 : 8 + (maxL + 11) + lo2 ≤ 332) (hW : (st.map fun v => v.category).sum ≤ 8) (d : decode code pc = .ok (.invokevirtual index, 3)) (K : lA Λ (pc + 3) i (.int r :: st) hc h2) : lA Λ pc i (As.reverse ++ .ref (lMr Λ) :: st) hc hm := by
  obtain ⟨p, l, e, s, m, below, meth, c, D, qc, cc, qm, cm, b, L, xs⟩ := Λ
  obtain ⟨hx, hb, hr, hml, hown, hts, hX, hbl, hlocks, hKc, hKm, hDc, hDm, hdis⟩ := X
  intro H locs ls hPc hPm hS hl
  have hFc := lFree (hDm hm) hS
  refine va_calli (va_runV (As := As) (rest := st) ⟨hx, hb, hml, hown, hts⟩ (hM qm l D cm H.size) (cwV n hts (gd_wsV hlk hy) rfl rfl rfl ⟨rfl, hy.2.2.2.2⟩ ⟨hR1, hR2⟩) ⟨aPc_blind, va_recv hKm hPm hcl ((ws_get (k := 0) (by decide)).trans rfl), fun U hU hW => ⟨rfl, by rw [hU], by rw [hU]; exact hPm, va_K.moved hW.alike hKm, (hDm hm).weaken (fun _ _ _ _ => trivial)⟩⟩ rfl hn hl.1 rfl (lv_room hW) d ⟨Nat.le_of_ble_eq_true rfl, Nat.le_of_ble_eq_true rfl⟩) hS (fun z _ hz => hFc z hz) hFc (fun r1 u t H1 locs1 ht hvm hw hB hz1 hk1 hS1 => ?_)
  obtain ⟨rfl, rfl⟩ := hw
  obtain ⟨hP1, hK1, hD1⟩ := hB
  rw [ht] at hP1
  exact K H1 locs1 ls (lKeep hPc (fun i j hi hj e => hdis j i hj hi e.symm) hk1) hP1 hS1 hl
theorem l_call1L {Λ : l_T} {pc : Nat} {i : Int32} {st : List Value} {hc hm : hp_T} {h2 : hp_T} {y : MethodName} {bytes : ByteArray} {maxL fr2 lo2 n index : Nat} {As : List Value} {r : Int64} (X : lC Λ) (hM : ∀ q, cL 1 y bytes maxL fr2 lo2 q (.ref (q 0) :: As) hm r h2) (hcl : vwCl[10]? = some (y.cls, TX10, 33)) (hy : yV y bytes maxL (some .long) n) (hlk : Cond.methodLink RL index y ∈ gd_tbl) (hn : As.length = n) (hR1 : fr2 + 1 ≤ 9) (hR2 : 8 + (maxL + 11) + lo2 ≤ 332) (hW : (st.map fun v => v.category).sum ≤ 8) (d : decode code pc = .ok (.invokevirtual index, 3)) (K : lA Λ (pc + 3) i (.long r :: st) hc h2) : lA Λ pc i (As.reverse ++ .ref (lMr Λ) :: st) hc hm := by
  obtain ⟨p, l, e, s, m, below, meth, c, D, qc, cc, qm, cm, b, L, xs⟩ := Λ
  obtain ⟨hx, hb, hr, hml, hown, hts, hX, hbl, hlocks, hKc, hKm, hDc, hDm, hdis⟩ := X
  intro H locs ls hPc hPm hS hl
  have hFc := lFree (hDm hm) hS
  refine va_calll (va_runV (As := As) (rest := st) ⟨hx, hb, hml, hown, hts⟩ (hM qm l D cm H.size) (cwV n hts (gd_wsV hlk hy) rfl rfl rfl ⟨rfl, hy.2.2.2.2⟩ ⟨hR1, hR2⟩) ⟨aPc_blind, va_recv hKm hPm hcl ((ws_get (k := 0) (by decide)).trans rfl), fun U hU hW => ⟨rfl, by rw [hU], by rw [hU]; exact hPm, va_K.moved hW.alike hKm, (hDm hm).weaken (fun _ _ _ _ => trivial)⟩⟩ rfl hn hl.1 rfl (lv_room hW) d ⟨Nat.le_of_ble_eq_true rfl, Nat.le_of_ble_eq_true rfl⟩) hS (fun z _ hz => hFc z hz) hFc (fun r1 u t H1 locs1 ht hvm hw hB hz1 hk1 hS1 => ?_)
  obtain ⟨rfl, rfl⟩ := hw
  obtain ⟨hP1, hK1, hD1⟩ := hB
  rw [ht] at hP1
  exact K H1 locs1 ls (lKeep hPc (fun i j hi hj e => hdis j i hj hi e.symm) hk1) hP1 hS1 hl
theorem lg_self (x : Int64) : lg_cmp x x = 0 := by
  unfold lg_cmp
  rw [if_neg (Int64.lt_irrefl), if_pos rfl]
/-- both sides go on, answer alike, and stay alike -/
def stp {α : Type} (Rel : hp_T → hp_T → Prop) (x y : Option (α × hp_T)) : Prop := ∃ r h1 h2, x = some (r, h1) ∧ y = some (r, h2) ∧ Rel h1 h2
def LawSteps (Rel : hp_T → hp_T → Prop) : Prop := (∀ (a1 : Int32) (a2 : Int32) (a3 : Int32) hc hm, Rel hc hm → stp Rel (f_X9_put a1 a2 a3 hc) (f_X10_put a1 a2 a3 hm)) ∧ (∀ (a1 : Int32) hc hm, Rel hc hm → stp Rel (f_X9_drop a1 hc) (f_X10_drop a1 hm)) ∧ (∀ (a1 : Int32) (a2 : Int32) hc hm, Rel hc hm → stp Rel (f_X9_move a1 a2 hc) (f_X10_move a1 a2 hm)) ∧ (∀ hc hm, Rel hc hm → stp Rel (f_X9_undo hc) (f_X10_undo hm)) ∧ (∀ (a1 : Int32) hc hm, Rel hc hm → stp Rel (f_X9_fill a1 hc) (f_X10_fill a1 hm)) ∧ (∀ (a1 : Int32) (a2 : Int32) hc hm, Rel hc hm → stp Rel (f_X9_span a1 a2 hc) (f_X10_span a1 a2 hm)) ∧ (∀ (a1 : Int32) hc hm, Rel hc hm → stp Rel (f_X9_rank a1 hc) (f_X10_rank a1 hm)) ∧ (∀ (a1 : Int32) hc hm, Rel hc hm → stp Rel (f_X9_ranked a1 hc) (f_X10_ranked a1 hm)) ∧ (∀ hc hm, Rel hc hm → stp Rel (f_X9_root hc) (f_X10_root hm)) ∧ (∀ (a1 : Int32) (a2 : Int32) hc hm, Rel hc hm → stp Rel (f_X9_tree a1 a2 hc) (f_X10_tree a1 a2 hm)) ∧ (∀ (a1 : Int32) hc hm, Rel hc hm → stp Rel (f_X9_end a1 hc) (f_X10_end a1 hm)) ∧ (∀ (a1 : Int32) (a2 : Int32) hc hm, Rel hc hm → stp Rel (f_X9_looks a1 a2 hc) (f_X10_looks a1 a2 hm)) ∧ (∀ (a1 : Int32) (a2 : Int32) (a3 : Int32) hc hm, Rel hc hm → stp Rel (f_X9_meets a1 a2 a3 hc) (f_X10_meets a1 a2 a3 hm)) ∧ (∀ (a1 : Int32) (a2 : Int32) hc hm, Rel hc hm → stp Rel (f_X9_holds a1 a2 hc) (f_X10_holds a1 a2 hm)) ∧ (∀ (a1 : Int32) (a2 : Int32) hc hm, Rel hc hm → stp Rel (f_X9_taken a1 a2 hc) (f_X10_taken a1 a2 hm)) ∧ (∀ (a1 : Int32) (a2 : Int32) hc hm, Rel hc hm → stp Rel (f_X9_frees a1 a2 hc) (f_X10_frees a1 a2 hm)) ∧ (∀ (a1 : Int32) (a2 : Int32) (a3 : Int32) (a4 : Int32) hc hm, Rel hc hm → stp Rel (f_X9_free a1 a2 a3 a4 hc) (f_X10_free a1 a2 a3 a4 hm)) ∧ (∀ (a1 : Int32) (a2 : Int32) (a3 : Int32) hc hm, Rel hc hm → stp Rel (f_X9_place a1 a2 a3 hc) (f_X10_place a1 a2 a3 hm)) ∧ (∀ hc hm, Rel hc hm → stp Rel (f_X9_deep hc) (f_X10_deep hm)) ∧ (∀ hc hm, Rel hc hm → stp Rel (f_X9_point hc) (f_X10_point hm)) ∧ (∀ (a1 : Int32) hc hm, Rel hc hm → stp Rel (f_X9_room a1 hc) (f_X10_room a1 hm)) ∧ (∀ (a1 : Int32) hc hm, Rel hc hm → stp Rel (f_X9_keep a1 hc) (f_X10_keep a1 hm)) ∧ (∀ hc hm, Rel hc hm → stp Rel (f_X9_clashes hc) (f_X10_clashes hm)) ∧ (∀ (a1 : Int32) (a2 : Int32) hc hm, Rel hc hm → stp Rel (f_X9_clash a1 a2 hc) (f_X10_clash a1 a2 hm)) ∧ (∀ hc hm, Rel hc hm → stp Rel (f_X9_alone hc) (f_X10_alone hm)) ∧ (∀ (a1 : Int32) (a2 : Int32) hc hm, Rel hc hm → stp Rel (f_X9_group a1 a2 hc) (f_X10_group a1 a2 hm)) ∧ (∀ (a1 : Int32) (a2 : Int32) (a3 : Int32) hc hm, Rel hc hm → stp Rel (f_X9_sheet a1 a2 a3 hc) (f_X10_sheet a1 a2 a3 hm)) ∧ (∀ (a1 : Int32) hc hm, Rel hc hm → stp Rel (f_X9_lose a1 hc) (f_X10_lose a1 hm)) ∧ (∀ (a1 : Int32) (a2 : Int32) (a3 : Int32) (a4 : Int32) hc hm, Rel hc hm → stp Rel (f_X9_lay a1 a2 a3 a4 hc) (f_X10_lay a1 a2 a3 a4 hm)) ∧ (∀ (a1 : Int32) (a2 : Int32) (a3 : Int32) hc hm, Rel hc hm → stp Rel (f_X9_get a1 a2 a3 hc) (f_X10_get a1 a2 a3 hm)) ∧ (∀ (a1 : Int32) (a2 : Int32) (a3 : Int32) (a4 : Int32) (a5 : Int32) hc hm, Rel hc hm → stp Rel (f_X9_copy a1 a2 a3 a4 a5 hc) (f_X10_copy a1 a2 a3 a4 a5 hm)) ∧ (∀ (a1 : Int32) (a2 : Int32) (a3 : Int32) hc hm, Rel hc hm → stp Rel (f_X9_write a1 a2 a3 hc) (f_X10_write a1 a2 a3 hm)) ∧ (∀ (a1 : Int32) hc hm, Rel hc hm → stp Rel (f_X9_count a1 hc) (f_X10_count a1 hm)) ∧ (∀ hc hm, Rel hc hm → stp Rel (f_X9_digest hc) (f_X10_digest hm))
theorem ml_L_13 : Cond.methodLink RL 13 yX9_put ∈ gd_tbl := tb_in 326 (by decide +kernel) (by decide +kernel)
theorem yv_X9_put : yV yX9_put cX9_put 4 (some .int) 3 := ⟨tb_in 327 (by decide +kernel) (by decide +kernel), tb_in 328 (by decide +kernel) (by decide +kernel), tb_in 1 (by decide +kernel) (by decide +kernel), tb_in 329 (by decide +kernel) (by decide +kernel), by decide +kernel, by decide +kernel, by decide +kernel⟩
theorem ml_L_17 : Cond.methodLink RL 17 yX10_put ∈ gd_tbl := tb_in 869 (by decide +kernel) (by decide +kernel)
theorem ml_L_18 : Cond.methodLink RL 18 yX9_drop ∈ gd_tbl := tb_in 369 (by decide +kernel) (by decide +kernel)
theorem yv_X9_drop : yV yX9_drop cX9_drop 2 (some .int) 1 := ⟨tb_in 370 (by decide +kernel) (by decide +kernel), tb_in 371 (by decide +kernel) (by decide +kernel), tb_in 1 (by decide +kernel) (by decide +kernel), tb_in 372 (by decide +kernel) (by decide +kernel), by decide +kernel, by decide +kernel, by decide +kernel⟩
theorem ml_L_22 : Cond.methodLink RL 22 yX10_drop ∈ gd_tbl := tb_in 893 (by decide +kernel) (by decide +kernel)
theorem yv_X10_drop : yV yX10_drop cX10_drop 2 (some .int) 1 := ⟨tb_in 894 (by decide +kernel) (by decide +kernel), tb_in 895 (by decide +kernel) (by decide +kernel), tb_in 11 (by decide +kernel) (by decide +kernel), tb_in 896 (by decide +kernel) (by decide +kernel), by decide +kernel, by decide +kernel, by decide +kernel⟩
theorem ml_L_23 : Cond.methodLink RL 23 yX9_move ∈ gd_tbl := tb_in 373 (by decide +kernel) (by decide +kernel)
theorem yv_X9_move : yV yX9_move cX9_move 7 (some .int) 2 := ⟨tb_in 374 (by decide +kernel) (by decide +kernel), tb_in 375 (by decide +kernel) (by decide +kernel), tb_in 1 (by decide +kernel) (by decide +kernel), tb_in 376 (by decide +kernel) (by decide +kernel), by decide +kernel, by decide +kernel, by decide +kernel⟩
theorem ml_L_27 : Cond.methodLink RL 27 yX10_move ∈ gd_tbl := tb_in 901 (by decide +kernel) (by decide +kernel)
theorem yv_X10_move : yV yX10_move cX10_move 3 (some .int) 2 := ⟨tb_in 902 (by decide +kernel) (by decide +kernel), tb_in 903 (by decide +kernel) (by decide +kernel), tb_in 11 (by decide +kernel) (by decide +kernel), tb_in 904 (by decide +kernel) (by decide +kernel), by decide +kernel, by decide +kernel, by decide +kernel⟩
theorem ml_L_28 : Cond.methodLink RL 28 yX9_undo ∈ gd_tbl := tb_in 379 (by decide +kernel) (by decide +kernel)
theorem yv_X9_undo : yV yX9_undo cX9_undo 2 (some .int) 0 := ⟨tb_in 380 (by decide +kernel) (by decide +kernel), tb_in 381 (by decide +kernel) (by decide +kernel), tb_in 1 (by decide +kernel) (by decide +kernel), tb_in 382 (by decide +kernel) (by decide +kernel), by decide +kernel, by decide +kernel, by decide +kernel⟩
theorem ml_L_32 : Cond.methodLink RL 32 yX10_undo ∈ gd_tbl := tb_in 905 (by decide +kernel) (by decide +kernel)
theorem yv_X10_undo : yV yX10_undo cX10_undo 2 (some .int) 0 := ⟨tb_in 906 (by decide +kernel) (by decide +kernel), tb_in 907 (by decide +kernel) (by decide +kernel), tb_in 11 (by decide +kernel) (by decide +kernel), tb_in 908 (by decide +kernel) (by decide +kernel), by decide +kernel, by decide +kernel, by decide +kernel⟩
theorem ml_L_33 : Cond.methodLink RL 33 yX9_fill ∈ gd_tbl := tb_in 387 (by decide +kernel) (by decide +kernel)
theorem yv_X9_fill : yV yX9_fill cX9_fill 6 (some .int) 1 := ⟨tb_in 388 (by decide +kernel) (by decide +kernel), tb_in 389 (by decide +kernel) (by decide +kernel), tb_in 1 (by decide +kernel) (by decide +kernel), tb_in 390 (by decide +kernel) (by decide +kernel), by decide +kernel, by decide +kernel, by decide +kernel⟩
theorem ml_L_36 : Cond.methodLink RL 36 yX10_fill ∈ gd_tbl := tb_in 909 (by decide +kernel) (by decide +kernel)
theorem yv_X10_fill : yV yX10_fill cX10_fill 5 (some .int) 1 := ⟨tb_in 910 (by decide +kernel) (by decide +kernel), tb_in 911 (by decide +kernel) (by decide +kernel), tb_in 11 (by decide +kernel) (by decide +kernel), tb_in 912 (by decide +kernel) (by decide +kernel), by decide +kernel, by decide +kernel, by decide +kernel⟩
theorem ml_L_37 : Cond.methodLink RL 37 yX9_span ∈ gd_tbl := tb_in 402 (by decide +kernel) (by decide +kernel)
theorem ml_L_40 : Cond.methodLink RL 40 yX10_span ∈ gd_tbl := tb_in 918 (by decide +kernel) (by decide +kernel)
theorem ml_L_41 : Cond.methodLink RL 41 yX9_rank ∈ gd_tbl := tb_in 411 (by decide +kernel) (by decide +kernel)
theorem ml_L_44 : Cond.methodLink RL 44 yX10_rank ∈ gd_tbl := tb_in 929 (by decide +kernel) (by decide +kernel)
theorem ml_L_45 : Cond.methodLink RL 45 yX9_ranked ∈ gd_tbl := tb_in 415 (by decide +kernel) (by decide +kernel)
theorem ml_L_48 : Cond.methodLink RL 48 yX10_ranked ∈ gd_tbl := tb_in 941 (by decide +kernel) (by decide +kernel)
theorem yv_X10_ranked : yV yX10_ranked cX10_ranked 2 (some .int) 1 := ⟨tb_in 942 (by decide +kernel) (by decide +kernel), tb_in 943 (by decide +kernel) (by decide +kernel), tb_in 11 (by decide +kernel) (by decide +kernel), tb_in 944 (by decide +kernel) (by decide +kernel), by decide +kernel, by decide +kernel, by decide +kernel⟩
theorem ml_L_49 : Cond.methodLink RL 49 yX9_root ∈ gd_tbl := tb_in 419 (by decide +kernel) (by decide +kernel)
theorem ml_L_52 : Cond.methodLink RL 52 yX10_root ∈ gd_tbl := tb_in 949 (by decide +kernel) (by decide +kernel)
theorem ml_L_53 : Cond.methodLink RL 53 yX9_tree ∈ gd_tbl := tb_in 494 (by decide +kernel) (by decide +kernel)
theorem ml_L_56 : Cond.methodLink RL 56 yX10_tree ∈ gd_tbl := tb_in 978 (by decide +kernel) (by decide +kernel)
theorem ml_L_57 : Cond.methodLink RL 57 yX9_end ∈ gd_tbl := tb_in 498 (by decide +kernel) (by decide +kernel)
theorem ml_L_60 : Cond.methodLink RL 60 yX10_end ∈ gd_tbl := tb_in 987 (by decide +kernel) (by decide +kernel)
theorem ml_L_61 : Cond.methodLink RL 61 yX9_looks ∈ gd_tbl := tb_in 502 (by decide +kernel) (by decide +kernel)
theorem ml_L_64 : Cond.methodLink RL 64 yX10_looks ∈ gd_tbl := tb_in 991 (by decide +kernel) (by decide +kernel)
theorem yv_X10_looks : yV yX10_looks cX10_looks 3 (some .int) 2 := ⟨tb_in 992 (by decide +kernel) (by decide +kernel), tb_in 993 (by decide +kernel) (by decide +kernel), tb_in 11 (by decide +kernel) (by decide +kernel), tb_in 994 (by decide +kernel) (by decide +kernel), by decide +kernel, by decide +kernel, by decide +kernel⟩
theorem ml_L_65 : Cond.methodLink RL 65 yX9_meets ∈ gd_tbl := tb_in 514 (by decide +kernel) (by decide +kernel)
theorem ml_L_68 : Cond.methodLink RL 68 yX10_meets ∈ gd_tbl := tb_in 999 (by decide +kernel) (by decide +kernel)
theorem yv_X10_meets : yV yX10_meets cX10_meets 4 (some .int) 3 := ⟨tb_in 1000 (by decide +kernel) (by decide +kernel), tb_in 1001 (by decide +kernel) (by decide +kernel), tb_in 11 (by decide +kernel) (by decide +kernel), tb_in 1002 (by decide +kernel) (by decide +kernel), by decide +kernel, by decide +kernel, by decide +kernel⟩
theorem ml_L_69 : Cond.methodLink RL 69 yX9_holds ∈ gd_tbl := tb_in 533 (by decide +kernel) (by decide +kernel)
theorem ml_L_72 : Cond.methodLink RL 72 yX10_holds ∈ gd_tbl := tb_in 1012 (by decide +kernel) (by decide +kernel)
theorem ml_L_73 : Cond.methodLink RL 73 yX9_taken ∈ gd_tbl := tb_in 540 (by decide +kernel) (by decide +kernel)
theorem ml_L_76 : Cond.methodLink RL 76 yX10_taken ∈ gd_tbl := tb_in 1016 (by decide +kernel) (by decide +kernel)
theorem yv_X10_taken : yV yX10_taken cX10_taken 3 (some .int) 2 := ⟨tb_in 1017 (by decide +kernel) (by decide +kernel), tb_in 1018 (by decide +kernel) (by decide +kernel), tb_in 11 (by decide +kernel) (by decide +kernel), tb_in 1019 (by decide +kernel) (by decide +kernel), by decide +kernel, by decide +kernel, by decide +kernel⟩
theorem ml_L_77 : Cond.methodLink RL 77 yX9_frees ∈ gd_tbl := tb_in 553 (by decide +kernel) (by decide +kernel)
theorem ml_L_80 : Cond.methodLink RL 80 yX10_frees ∈ gd_tbl := tb_in 1028 (by decide +kernel) (by decide +kernel)
theorem yv_X10_frees : yV yX10_frees cX10_frees 3 (some .int) 2 := ⟨tb_in 1029 (by decide +kernel) (by decide +kernel), tb_in 1030 (by decide +kernel) (by decide +kernel), tb_in 11 (by decide +kernel) (by decide +kernel), tb_in 1031 (by decide +kernel) (by decide +kernel), by decide +kernel, by decide +kernel, by decide +kernel⟩
theorem ml_L_81 : Cond.methodLink RL 81 yX9_free ∈ gd_tbl := tb_in 561 (by decide +kernel) (by decide +kernel)
theorem ml_L_85 : Cond.methodLink RL 85 yX10_free ∈ gd_tbl := tb_in 1032 (by decide +kernel) (by decide +kernel)
theorem yv_X10_free : yV yX10_free cX10_free 5 (some .int) 4 := ⟨tb_in 1033 (by decide +kernel) (by decide +kernel), tb_in 1034 (by decide +kernel) (by decide +kernel), tb_in 11 (by decide +kernel) (by decide +kernel), tb_in 1035 (by decide +kernel) (by decide +kernel), by decide +kernel, by decide +kernel, by decide +kernel⟩
theorem ml_L_86 : Cond.methodLink RL 86 yX9_place ∈ gd_tbl := tb_in 571 (by decide +kernel) (by decide +kernel)
theorem ml_L_89 : Cond.methodLink RL 89 yX10_place ∈ gd_tbl := tb_in 1041 (by decide +kernel) (by decide +kernel)
theorem yv_X10_place : yV yX10_place cX10_place 4 (some .int) 3 := ⟨tb_in 1042 (by decide +kernel) (by decide +kernel), tb_in 1043 (by decide +kernel) (by decide +kernel), tb_in 11 (by decide +kernel) (by decide +kernel), tb_in 1044 (by decide +kernel) (by decide +kernel), by decide +kernel, by decide +kernel, by decide +kernel⟩
theorem ml_L_90 : Cond.methodLink RL 90 yX9_deep ∈ gd_tbl := tb_in 590 (by decide +kernel) (by decide +kernel)
theorem yv_X9_deep : yV yX9_deep cX9_deep 1 (some .int) 0 := ⟨tb_in 591 (by decide +kernel) (by decide +kernel), tb_in 592 (by decide +kernel) (by decide +kernel), tb_in 1 (by decide +kernel) (by decide +kernel), tb_in 593 (by decide +kernel) (by decide +kernel), by decide +kernel, by decide +kernel, by decide +kernel⟩
theorem ml_L_93 : Cond.methodLink RL 93 yX10_deep ∈ gd_tbl := tb_in 1065 (by decide +kernel) (by decide +kernel)
theorem yv_X10_deep : yV yX10_deep cX10_deep 1 (some .int) 0 := ⟨tb_in 1066 (by decide +kernel) (by decide +kernel), tb_in 1067 (by decide +kernel) (by decide +kernel), tb_in 11 (by decide +kernel) (by decide +kernel), tb_in 1068 (by decide +kernel) (by decide +kernel), by decide +kernel, by decide +kernel, by decide +kernel⟩
theorem ml_L_94 : Cond.methodLink RL 94 yX9_point ∈ gd_tbl := tb_in 594 (by decide +kernel) (by decide +kernel)
theorem ml_L_97 : Cond.methodLink RL 97 yX10_point ∈ gd_tbl := tb_in 1073 (by decide +kernel) (by decide +kernel)
theorem yv_X10_point : yV yX10_point cX10_point 1 (some .int) 0 := ⟨tb_in 1074 (by decide +kernel) (by decide +kernel), tb_in 1075 (by decide +kernel) (by decide +kernel), tb_in 11 (by decide +kernel) (by decide +kernel), tb_in 1076 (by decide +kernel) (by decide +kernel), by decide +kernel, by decide +kernel, by decide +kernel⟩
theorem ml_L_98 : Cond.methodLink RL 98 yX9_room ∈ gd_tbl := tb_in 598 (by decide +kernel) (by decide +kernel)
theorem ml_L_101 : Cond.methodLink RL 101 yX10_room ∈ gd_tbl := tb_in 1077 (by decide +kernel) (by decide +kernel)
theorem yv_X10_room : yV yX10_room cX10_room 2 (some .int) 1 := ⟨tb_in 1078 (by decide +kernel) (by decide +kernel), tb_in 1079 (by decide +kernel) (by decide +kernel), tb_in 11 (by decide +kernel) (by decide +kernel), tb_in 1080 (by decide +kernel) (by decide +kernel), by decide +kernel, by decide +kernel, by decide +kernel⟩
theorem ml_L_102 : Cond.methodLink RL 102 yX9_keep ∈ gd_tbl := tb_in 602 (by decide +kernel) (by decide +kernel)
theorem ml_L_105 : Cond.methodLink RL 105 yX10_keep ∈ gd_tbl := tb_in 1097 (by decide +kernel) (by decide +kernel)
theorem yv_X10_keep : yV yX10_keep cX10_keep 2 (some .int) 1 := ⟨tb_in 1098 (by decide +kernel) (by decide +kernel), tb_in 1099 (by decide +kernel) (by decide +kernel), tb_in 11 (by decide +kernel) (by decide +kernel), tb_in 1100 (by decide +kernel) (by decide +kernel), by decide +kernel, by decide +kernel, by decide +kernel⟩
theorem ml_L_106 : Cond.methodLink RL 106 yX9_clashes ∈ gd_tbl := tb_in 606 (by decide +kernel) (by decide +kernel)
theorem yv_X9_clashes : yV yX9_clashes cX9_clashes 1 (some .int) 0 := ⟨tb_in 607 (by decide +kernel) (by decide +kernel), tb_in 608 (by decide +kernel) (by decide +kernel), tb_in 1 (by decide +kernel) (by decide +kernel), tb_in 609 (by decide +kernel) (by decide +kernel), by decide +kernel, by decide +kernel, by decide +kernel⟩
theorem ml_L_109 : Cond.methodLink RL 109 yX10_clashes ∈ gd_tbl := tb_in 1109 (by decide +kernel) (by decide +kernel)
theorem yv_X10_clashes : yV yX10_clashes cX10_clashes 1 (some .int) 0 := ⟨tb_in 1110 (by decide +kernel) (by decide +kernel), tb_in 1111 (by decide +kernel) (by decide +kernel), tb_in 11 (by decide +kernel) (by decide +kernel), tb_in 1112 (by decide +kernel) (by decide +kernel), by decide +kernel, by decide +kernel, by decide +kernel⟩
theorem ml_L_110 : Cond.methodLink RL 110 yX9_clash ∈ gd_tbl := tb_in 610 (by decide +kernel) (by decide +kernel)
theorem ml_L_113 : Cond.methodLink RL 113 yX10_clash ∈ gd_tbl := tb_in 1117 (by decide +kernel) (by decide +kernel)
theorem yv_X10_clash : yV yX10_clash cX10_clash 3 (some .int) 2 := ⟨tb_in 1118 (by decide +kernel) (by decide +kernel), tb_in 1119 (by decide +kernel) (by decide +kernel), tb_in 11 (by decide +kernel) (by decide +kernel), tb_in 1120 (by decide +kernel) (by decide +kernel), by decide +kernel, by decide +kernel, by decide +kernel⟩
theorem ml_L_114 : Cond.methodLink RL 114 yX9_alone ∈ gd_tbl := tb_in 623 (by decide +kernel) (by decide +kernel)
theorem ml_L_118 : Cond.methodLink RL 118 yX10_alone ∈ gd_tbl := tb_in 1133 (by decide +kernel) (by decide +kernel)
theorem yv_X10_alone : yV yX10_alone cX10_alone 1 (some .long) 0 := ⟨tb_in 1134 (by decide +kernel) (by decide +kernel), tb_in 1135 (by decide +kernel) (by decide +kernel), tb_in 11 (by decide +kernel) (by decide +kernel), tb_in 1136 (by decide +kernel) (by decide +kernel), by decide +kernel, by decide +kernel, by decide +kernel⟩
theorem ml_L_119 : Cond.methodLink RL 119 yX9_group ∈ gd_tbl := tb_in 627 (by decide +kernel) (by decide +kernel)
theorem ml_L_122 : Cond.methodLink RL 122 yX10_group ∈ gd_tbl := tb_in 1141 (by decide +kernel) (by decide +kernel)
theorem yv_X10_group : yV yX10_group cX10_group 3 (some .int) 2 := ⟨tb_in 1142 (by decide +kernel) (by decide +kernel), tb_in 1143 (by decide +kernel) (by decide +kernel), tb_in 11 (by decide +kernel) (by decide +kernel), tb_in 1144 (by decide +kernel) (by decide +kernel), by decide +kernel, by decide +kernel, by decide +kernel⟩
theorem ml_L_123 : Cond.methodLink RL 123 yX9_sheet ∈ gd_tbl := tb_in 631 (by decide +kernel) (by decide +kernel)
theorem yv_X9_sheet : yV yX9_sheet cX9_sheet 4 (some .int) 3 := ⟨tb_in 632 (by decide +kernel) (by decide +kernel), tb_in 633 (by decide +kernel) (by decide +kernel), tb_in 1 (by decide +kernel) (by decide +kernel), tb_in 634 (by decide +kernel) (by decide +kernel), by decide +kernel, by decide +kernel, by decide +kernel⟩
theorem ml_L_126 : Cond.methodLink RL 126 yX10_sheet ∈ gd_tbl := tb_in 829 (by decide +kernel) (by decide +kernel)
theorem yv_X10_sheet : yV yX10_sheet cX10_sheet 5 (some .int) 3 := ⟨tb_in 830 (by decide +kernel) (by decide +kernel), tb_in 831 (by decide +kernel) (by decide +kernel), tb_in 11 (by decide +kernel) (by decide +kernel), tb_in 832 (by decide +kernel) (by decide +kernel), by decide +kernel, by decide +kernel, by decide +kernel⟩
theorem ml_L_127 : Cond.methodLink RL 127 yX9_lose ∈ gd_tbl := tb_in 642 (by decide +kernel) (by decide +kernel)
theorem yv_X9_lose : yV yX9_lose cX9_lose 2 (some .int) 1 := ⟨tb_in 643 (by decide +kernel) (by decide +kernel), tb_in 644 (by decide +kernel) (by decide +kernel), tb_in 1 (by decide +kernel) (by decide +kernel), tb_in 645 (by decide +kernel) (by decide +kernel), by decide +kernel, by decide +kernel, by decide +kernel⟩
theorem ml_L_130 : Cond.methodLink RL 130 yX10_lose ∈ gd_tbl := tb_in 845 (by decide +kernel) (by decide +kernel)
theorem yv_X10_lose : yV yX10_lose cX10_lose 2 (some .int) 1 := ⟨tb_in 846 (by decide +kernel) (by decide +kernel), tb_in 847 (by decide +kernel) (by decide +kernel), tb_in 11 (by decide +kernel) (by decide +kernel), tb_in 848 (by decide +kernel) (by decide +kernel), by decide +kernel, by decide +kernel, by decide +kernel⟩
theorem ml_L_131 : Cond.methodLink RL 131 yX9_lay ∈ gd_tbl := tb_in 646 (by decide +kernel) (by decide +kernel)
theorem yv_X9_lay : yV yX9_lay cX9_lay 6 (some .int) 4 := ⟨tb_in 647 (by decide +kernel) (by decide +kernel), tb_in 648 (by decide +kernel) (by decide +kernel), tb_in 1 (by decide +kernel) (by decide +kernel), tb_in 649 (by decide +kernel) (by decide +kernel), by decide +kernel, by decide +kernel, by decide +kernel⟩
theorem ml_L_134 : Cond.methodLink RL 134 yX10_lay ∈ gd_tbl := tb_in 849 (by decide +kernel) (by decide +kernel)
theorem yv_X10_lay : yV yX10_lay cX10_lay 6 (some .int) 4 := ⟨tb_in 850 (by decide +kernel) (by decide +kernel), tb_in 851 (by decide +kernel) (by decide +kernel), tb_in 11 (by decide +kernel) (by decide +kernel), tb_in 852 (by decide +kernel) (by decide +kernel), by decide +kernel, by decide +kernel, by decide +kernel⟩
theorem ml_L_135 : Cond.methodLink RL 135 yX9_get ∈ gd_tbl := tb_in 662 (by decide +kernel) (by decide +kernel)
theorem yv_X9_get : yV yX9_get cX9_get 4 (some .int) 3 := ⟨tb_in 663 (by decide +kernel) (by decide +kernel), tb_in 664 (by decide +kernel) (by decide +kernel), tb_in 1 (by decide +kernel) (by decide +kernel), tb_in 665 (by decide +kernel) (by decide +kernel), by decide +kernel, by decide +kernel, by decide +kernel⟩
theorem ml_L_138 : Cond.methodLink RL 138 yX10_get ∈ gd_tbl := tb_in 860 (by decide +kernel) (by decide +kernel)
theorem yv_X10_get : yV yX10_get cX10_get 4 (some .int) 3 := ⟨tb_in 861 (by decide +kernel) (by decide +kernel), tb_in 862 (by decide +kernel) (by decide +kernel), tb_in 11 (by decide +kernel) (by decide +kernel), tb_in 863 (by decide +kernel) (by decide +kernel), by decide +kernel, by decide +kernel, by decide +kernel⟩
theorem ml_L_139 : Cond.methodLink RL 139 yX9_copy ∈ gd_tbl := tb_in 666 (by decide +kernel) (by decide +kernel)
theorem yv_X9_copy : yV yX9_copy cX9_copy 8 (some .int) 5 := ⟨tb_in 667 (by decide +kernel) (by decide +kernel), tb_in 668 (by decide +kernel) (by decide +kernel), tb_in 1 (by decide +kernel) (by decide +kernel), tb_in 669 (by decide +kernel) (by decide +kernel), by decide +kernel, by decide +kernel, by decide +kernel⟩
theorem ml_L_143 : Cond.methodLink RL 143 yX10_copy ∈ gd_tbl := tb_in 865 (by decide +kernel) (by decide +kernel)
theorem yv_X10_copy : yV yX10_copy cX10_copy 7 (some .int) 5 := ⟨tb_in 866 (by decide +kernel) (by decide +kernel), tb_in 867 (by decide +kernel) (by decide +kernel), tb_in 11 (by decide +kernel) (by decide +kernel), tb_in 868 (by decide +kernel) (by decide +kernel), by decide +kernel, by decide +kernel, by decide +kernel⟩
theorem ml_L_144 : Cond.methodLink RL 144 yX9_write ∈ gd_tbl := tb_in 673 (by decide +kernel) (by decide +kernel)
theorem yv_X9_write : yV yX9_write cX9_write 8 (some .int) 3 := ⟨tb_in 674 (by decide +kernel) (by decide +kernel), tb_in 675 (by decide +kernel) (by decide +kernel), tb_in 1 (by decide +kernel) (by decide +kernel), tb_in 676 (by decide +kernel) (by decide +kernel), by decide +kernel, by decide +kernel, by decide +kernel⟩
theorem ml_L_147 : Cond.methodLink RL 147 yX10_write ∈ gd_tbl := tb_in 1157 (by decide +kernel) (by decide +kernel)
theorem yv_X10_write : yV yX10_write cX10_write 6 (some .int) 3 := ⟨tb_in 1158 (by decide +kernel) (by decide +kernel), tb_in 1159 (by decide +kernel) (by decide +kernel), tb_in 11 (by decide +kernel) (by decide +kernel), tb_in 1160 (by decide +kernel) (by decide +kernel), by decide +kernel, by decide +kernel, by decide +kernel⟩
theorem ml_L_148 : Cond.methodLink RL 148 yX9_count ∈ gd_tbl := tb_in 678 (by decide +kernel) (by decide +kernel)
theorem ml_L_151 : Cond.methodLink RL 151 yX10_count ∈ gd_tbl := tb_in 1161 (by decide +kernel) (by decide +kernel)
theorem ml_L_152 : Cond.methodLink RL 152 yX9_digest ∈ gd_tbl := tb_in 682 (by decide +kernel) (by decide +kernel)
theorem yv_X9_digest : yV yX9_digest cX9_digest 5 (some .long) 0 := ⟨tb_in 683 (by decide +kernel) (by decide +kernel), tb_in 684 (by decide +kernel) (by decide +kernel), tb_in 1 (by decide +kernel) (by decide +kernel), tb_in 685 (by decide +kernel) (by decide +kernel), by decide +kernel, by decide +kernel, by decide +kernel⟩
theorem ml_L_155 : Cond.methodLink RL 155 yX10_digest ∈ gd_tbl := tb_in 1165 (by decide +kernel) (by decide +kernel)
theorem yv_X10_digest : yV yX10_digest cX10_digest 5 (some .long) 0 := ⟨tb_in 1166 (by decide +kernel) (by decide +kernel), tb_in 1167 (by decide +kernel) (by decide +kernel), tb_in 11 (by decide +kernel) (by decide +kernel), tb_in 1168 (by decide +kernel) (by decide +kernel), by decide +kernel, by decide +kernel, by decide +kernel⟩
set_option maxRecDepth 4000 in
theorem l_case0 {Λ : l_T} {i : Int32} {hc hm : hp_T} {Rel : hp_T → hp_T → Prop} (X : lC Λ) (hin : ∀ k : Int32, 0 ≤ k → k ≤ 5 → vp_in (i + k) (lLn Λ)) (S : stp Rel (f_X9_put (lXs Λ (i + 1).toNatClampNeg) (lXs Λ (i + 2).toNatClampNeg) (lXs Λ (i + 3).toNatClampNeg) hc) (f_X10_put (lXs Λ (i + 1).toNatClampNeg) (lXs Λ (i + 2).toNatClampNeg) (lXs Λ (i + 3).toNatClampNeg) hm)) (K : ∀ hc2 hm2, Rel hc2 hm2 → lA Λ 1208 i [] hc2 hm2) : lA Λ 184 i [] hc hm := by
  obtain ⟨r, hc2, hm2, e0, e1, hR2⟩ := S
  refine l_aload1 X dL_law_184 ?_
  refine l_aload0 X dL_law_185 ?_
  refine l_iload3 X dL_law_186 ?_
  refine l_iconst (v := 1) X dL_law_187 (by decide) ?_
  refine l_iadd X dL_law_188 ?_
  refine l_sld X dL_law_189 (hin 1 (by decide) (by decide)) ?_
  refine l_aload0 X dL_law_190 ?_
  refine l_iload3 X dL_law_191 ?_
  refine l_iconst (v := 2) X dL_law_192 (by decide) ?_
  refine l_iadd X dL_law_193 ?_
  refine l_sld X dL_law_194 (hin 2 (by decide) (by decide)) ?_
  refine l_aload0 X dL_law_195 ?_
  refine l_iload3 X dL_law_196 ?_
  refine l_iconst (v := 3) X dL_law_197 (by decide) ?_
  refine l_iadd X dL_law_198 ?_
  refine l_sld X dL_law_199 (hin 3 (by decide) (by decide)) ?_
  refine l_call0I (As := [.int (lXs Λ (i + 1).toNatClampNeg), .int (lXs Λ (i + 2).toNatClampNeg), .int (lXs Λ (i + 3).toNatClampNeg)]) X (fun q => c_X9_put e0) rfl yv_X9_put ml_L_13 rfl (by decide) (by decide) (Nat.le_of_ble_eq_true rfl) dL_law_200 ?_
  refine l_aload2 X dL_law_203 ?_
  refine l_aload0 X dL_law_204 ?_
  refine l_iload3 X dL_law_205 ?_
  refine l_iconst (v := 1) X dL_law_206 (by decide) ?_
  refine l_iadd X dL_law_207 ?_
  refine l_sld X dL_law_208 (hin 1 (by decide) (by decide)) ?_
  refine l_aload0 X dL_law_209 ?_
  refine l_iload3 X dL_law_210 ?_
  refine l_iconst (v := 2) X dL_law_211 (by decide) ?_
  refine l_iadd X dL_law_212 ?_
  refine l_sld X dL_law_213 (hin 2 (by decide) (by decide)) ?_
  refine l_aload0 X dL_law_214 ?_
  refine l_iload3 X dL_law_215 ?_
  refine l_iconst (v := 3) X dL_law_216 (by decide) ?_
  refine l_iadd X dL_law_217 ?_
  refine l_sld X dL_law_218 (hin 3 (by decide) (by decide)) ?_
  refine l_call1I (As := [.int (lXs Λ (i + 1).toNatClampNeg), .int (lXs Λ (i + 2).toNatClampNeg), .int (lXs Λ (i + 3).toNatClampNeg)]) X (fun q => c_X10_put e1) rfl yv_X10_put ml_L_17 rfl (by decide) (by decide) (Nat.le_of_ble_eq_true rfl) dL_law_219 ?_
  refine l_icmp_eq (tgt := 1208) X dL_law_222 (by decide) (fun _ => ?_) (fun z => absurd rfl z)
  exact K _ _ hR2
set_option maxRecDepth 4000 in
theorem l_case1 {Λ : l_T} {i : Int32} {hc hm : hp_T} {Rel : hp_T → hp_T → Prop} (X : lC Λ) (hin : ∀ k : Int32, 0 ≤ k → k ≤ 5 → vp_in (i + k) (lLn Λ)) (S : stp Rel (f_X9_drop (lXs Λ (i + 1).toNatClampNeg) hc) (f_X10_drop (lXs Λ (i + 1).toNatClampNeg) hm)) (K : ∀ hc2 hm2, Rel hc2 hm2 → lA Λ 1208 i [] hc2 hm2) : lA Λ 227 i [] hc hm := by
  obtain ⟨r, hc2, hm2, e0, e1, hR2⟩ := S
  refine l_aload1 X dL_law_227 ?_
  refine l_aload0 X dL_law_228 ?_
  refine l_iload3 X dL_law_229 ?_
  refine l_iconst (v := 1) X dL_law_230 (by decide) ?_
  refine l_iadd X dL_law_231 ?_
  refine l_sld X dL_law_232 (hin 1 (by decide) (by decide)) ?_
  refine l_call0I (As := [.int (lXs Λ (i + 1).toNatClampNeg)]) X (fun q => c_X9_drop e0) rfl yv_X9_drop ml_L_18 rfl (by decide) (by decide) (Nat.le_of_ble_eq_true rfl) dL_law_233 ?_
  refine l_aload2 X dL_law_236 ?_
  refine l_aload0 X dL_law_237 ?_
  refine l_iload3 X dL_law_238 ?_
  refine l_iconst (v := 1) X dL_law_239 (by decide) ?_
  refine l_iadd X dL_law_240 ?_
  refine l_sld X dL_law_241 (hin 1 (by decide) (by decide)) ?_
  refine l_call1I (As := [.int (lXs Λ (i + 1).toNatClampNeg)]) X (fun q => c_X10_drop e1) rfl yv_X10_drop ml_L_22 rfl (by decide) (by decide) (Nat.le_of_ble_eq_true rfl) dL_law_242 ?_
  refine l_icmp_eq (tgt := 1208) X dL_law_245 (by decide) (fun _ => ?_) (fun z => absurd rfl z)
  exact K _ _ hR2
set_option maxRecDepth 4000 in
theorem l_case2 {Λ : l_T} {i : Int32} {hc hm : hp_T} {Rel : hp_T → hp_T → Prop} (X : lC Λ) (hin : ∀ k : Int32, 0 ≤ k → k ≤ 5 → vp_in (i + k) (lLn Λ)) (S : stp Rel (f_X9_move (lXs Λ (i + 1).toNatClampNeg) (lXs Λ (i + 2).toNatClampNeg) hc) (f_X10_move (lXs Λ (i + 1).toNatClampNeg) (lXs Λ (i + 2).toNatClampNeg) hm)) (K : ∀ hc2 hm2, Rel hc2 hm2 → lA Λ 1208 i [] hc2 hm2) : lA Λ 250 i [] hc hm := by
  obtain ⟨r, hc2, hm2, e0, e1, hR2⟩ := S
  refine l_aload1 X dL_law_250 ?_
  refine l_aload0 X dL_law_251 ?_
  refine l_iload3 X dL_law_252 ?_
  refine l_iconst (v := 1) X dL_law_253 (by decide) ?_
  refine l_iadd X dL_law_254 ?_
  refine l_sld X dL_law_255 (hin 1 (by decide) (by decide)) ?_
  refine l_aload0 X dL_law_256 ?_
  refine l_iload3 X dL_law_257 ?_
  refine l_iconst (v := 2) X dL_law_258 (by decide) ?_
  refine l_iadd X dL_law_259 ?_
  refine l_sld X dL_law_260 (hin 2 (by decide) (by decide)) ?_
  refine l_call0I (As := [.int (lXs Λ (i + 1).toNatClampNeg), .int (lXs Λ (i + 2).toNatClampNeg)]) X (fun q => c_X9_move e0) rfl yv_X9_move ml_L_23 rfl (by decide) (by decide) (Nat.le_of_ble_eq_true rfl) dL_law_261 ?_
  refine l_aload2 X dL_law_264 ?_
  refine l_aload0 X dL_law_265 ?_
  refine l_iload3 X dL_law_266 ?_
  refine l_iconst (v := 1) X dL_law_267 (by decide) ?_
  refine l_iadd X dL_law_268 ?_
  refine l_sld X dL_law_269 (hin 1 (by decide) (by decide)) ?_
  refine l_aload0 X dL_law_270 ?_
  refine l_iload3 X dL_law_271 ?_
  refine l_iconst (v := 2) X dL_law_272 (by decide) ?_
  refine l_iadd X dL_law_273 ?_
  refine l_sld X dL_law_274 (hin 2 (by decide) (by decide)) ?_
  refine l_call1I (As := [.int (lXs Λ (i + 1).toNatClampNeg), .int (lXs Λ (i + 2).toNatClampNeg)]) X (fun q => c_X10_move e1) rfl yv_X10_move ml_L_27 rfl (by decide) (by decide) (Nat.le_of_ble_eq_true rfl) dL_law_275 ?_
  refine l_icmp_eq (tgt := 1208) X dL_law_278 (by decide) (fun _ => ?_) (fun z => absurd rfl z)
  exact K _ _ hR2
set_option maxRecDepth 4000 in
theorem l_case3 {Λ : l_T} {i : Int32} {hc hm : hp_T} {Rel : hp_T → hp_T → Prop} (X : lC Λ) (hin : ∀ k : Int32, 0 ≤ k → k ≤ 5 → vp_in (i + k) (lLn Λ)) (S : stp Rel (f_X9_undo  hc) (f_X10_undo  hm)) (K : ∀ hc2 hm2, Rel hc2 hm2 → lA Λ 1208 i [] hc2 hm2) : lA Λ 283 i [] hc hm := by
  obtain ⟨r, hc2, hm2, e0, e1, hR2⟩ := S
  refine l_aload1 X dL_law_283 ?_
  refine l_call0I (As := []) X (fun q => c_X9_undo e0) rfl yv_X9_undo ml_L_28 rfl (by decide) (by decide) (Nat.le_of_ble_eq_true rfl) dL_law_284 ?_
  refine l_aload2 X dL_law_287 ?_
  refine l_call1I (As := []) X (fun q => c_X10_undo e1) rfl yv_X10_undo ml_L_32 rfl (by decide) (by decide) (Nat.le_of_ble_eq_true rfl) dL_law_288 ?_
  refine l_icmp_eq (tgt := 1208) X dL_law_291 (by decide) (fun _ => ?_) (fun z => absurd rfl z)
  exact K _ _ hR2
set_option maxRecDepth 4000 in
theorem l_case4 {Λ : l_T} {i : Int32} {hc hm : hp_T} {Rel : hp_T → hp_T → Prop} (X : lC Λ) (hin : ∀ k : Int32, 0 ≤ k → k ≤ 5 → vp_in (i + k) (lLn Λ)) (S : stp Rel (f_X9_fill (lXs Λ (i + 1).toNatClampNeg) hc) (f_X10_fill (lXs Λ (i + 1).toNatClampNeg) hm)) (K : ∀ hc2 hm2, Rel hc2 hm2 → lA Λ 1208 i [] hc2 hm2) : lA Λ 296 i [] hc hm := by
  obtain ⟨r, hc2, hm2, e0, e1, hR2⟩ := S
  refine l_aload1 X dL_law_296 ?_
  refine l_aload0 X dL_law_297 ?_
  refine l_iload3 X dL_law_298 ?_
  refine l_iconst (v := 1) X dL_law_299 (by decide) ?_
  refine l_iadd X dL_law_300 ?_
  refine l_sld X dL_law_301 (hin 1 (by decide) (by decide)) ?_
  refine l_call0I (As := [.int (lXs Λ (i + 1).toNatClampNeg)]) X (fun q => c_X9_fill e0) rfl yv_X9_fill ml_L_33 rfl (by decide) (by decide) (Nat.le_of_ble_eq_true rfl) dL_law_302 ?_
  refine l_aload2 X dL_law_305 ?_
  refine l_aload0 X dL_law_306 ?_
  refine l_iload3 X dL_law_307 ?_
  refine l_iconst (v := 1) X dL_law_308 (by decide) ?_
  refine l_iadd X dL_law_309 ?_
  refine l_sld X dL_law_310 (hin 1 (by decide) (by decide)) ?_
  refine l_call1I (As := [.int (lXs Λ (i + 1).toNatClampNeg)]) X (fun q => c_X10_fill e1) rfl yv_X10_fill ml_L_36 rfl (by decide) (by decide) (Nat.le_of_ble_eq_true rfl) dL_law_311 ?_
  refine l_icmp_eq (tgt := 1208) X dL_law_314 (by decide) (fun _ => ?_) (fun z => absurd rfl z)
  exact K _ _ hR2
set_option maxRecDepth 4000 in
theorem l_case5 {Λ : l_T} {i : Int32} {hc hm : hp_T} {Rel : hp_T → hp_T → Prop} (X : lC Λ) (hin : ∀ k : Int32, 0 ≤ k → k ≤ 5 → vp_in (i + k) (lLn Λ)) (S : stp Rel (f_X9_span (lXs Λ (i + 1).toNatClampNeg) (lXs Λ (i + 2).toNatClampNeg) hc) (f_X10_span (lXs Λ (i + 1).toNatClampNeg) (lXs Λ (i + 2).toNatClampNeg) hm)) (K : ∀ hc2 hm2, Rel hc2 hm2 → lA Λ 1208 i [] hc2 hm2) : lA Λ 319 i [] hc hm := by
  obtain ⟨r, hc2, hm2, e0, e1, hR2⟩ := S
  refine l_aload1 X dL_law_319 ?_
  refine l_aload0 X dL_law_320 ?_
  refine l_iload3 X dL_law_321 ?_
  refine l_iconst (v := 1) X dL_law_322 (by decide) ?_
  refine l_iadd X dL_law_323 ?_
  refine l_sld X dL_law_324 (hin 1 (by decide) (by decide)) ?_
  refine l_aload0 X dL_law_325 ?_
  refine l_iload3 X dL_law_326 ?_
  refine l_iconst (v := 2) X dL_law_327 (by decide) ?_
  refine l_iadd X dL_law_328 ?_
  refine l_sld X dL_law_329 (hin 2 (by decide) (by decide)) ?_
  refine l_call0I (As := [.int (lXs Λ (i + 1).toNatClampNeg), .int (lXs Λ (i + 2).toNatClampNeg)]) X (fun q => c_X9_span e0) rfl yv_X9_span ml_L_37 rfl (by decide) (by decide) (Nat.le_of_ble_eq_true rfl) dL_law_330 ?_
  refine l_aload2 X dL_law_333 ?_
  refine l_aload0 X dL_law_334 ?_
  refine l_iload3 X dL_law_335 ?_
  refine l_iconst (v := 1) X dL_law_336 (by decide) ?_
  refine l_iadd X dL_law_337 ?_
  refine l_sld X dL_law_338 (hin 1 (by decide) (by decide)) ?_
  refine l_aload0 X dL_law_339 ?_
  refine l_iload3 X dL_law_340 ?_
  refine l_iconst (v := 2) X dL_law_341 (by decide) ?_
  refine l_iadd X dL_law_342 ?_
  refine l_sld X dL_law_343 (hin 2 (by decide) (by decide)) ?_
  refine l_call1I (As := [.int (lXs Λ (i + 1).toNatClampNeg), .int (lXs Λ (i + 2).toNatClampNeg)]) X (fun q => c_X10_span e1) rfl yv_X10_span ml_L_40 rfl (by decide) (by decide) (Nat.le_of_ble_eq_true rfl) dL_law_344 ?_
  refine l_icmp_eq (tgt := 1208) X dL_law_347 (by decide) (fun _ => ?_) (fun z => absurd rfl z)
  exact K _ _ hR2
set_option maxRecDepth 4000 in
theorem l_case6 {Λ : l_T} {i : Int32} {hc hm : hp_T} {Rel : hp_T → hp_T → Prop} (X : lC Λ) (hin : ∀ k : Int32, 0 ≤ k → k ≤ 5 → vp_in (i + k) (lLn Λ)) (S : stp Rel (f_X9_rank (lXs Λ (i + 1).toNatClampNeg) hc) (f_X10_rank (lXs Λ (i + 1).toNatClampNeg) hm)) (K : ∀ hc2 hm2, Rel hc2 hm2 → lA Λ 1208 i [] hc2 hm2) : lA Λ 352 i [] hc hm := by
  obtain ⟨r, hc2, hm2, e0, e1, hR2⟩ := S
  refine l_aload1 X dL_law_352 ?_
  refine l_aload0 X dL_law_353 ?_
  refine l_iload3 X dL_law_354 ?_
  refine l_iconst (v := 1) X dL_law_355 (by decide) ?_
  refine l_iadd X dL_law_356 ?_
  refine l_sld X dL_law_357 (hin 1 (by decide) (by decide)) ?_
  refine l_call0I (As := [.int (lXs Λ (i + 1).toNatClampNeg)]) X (fun q => c_X9_rank e0) rfl yv_X9_rank ml_L_41 rfl (by decide) (by decide) (Nat.le_of_ble_eq_true rfl) dL_law_358 ?_
  refine l_aload2 X dL_law_361 ?_
  refine l_aload0 X dL_law_362 ?_
  refine l_iload3 X dL_law_363 ?_
  refine l_iconst (v := 1) X dL_law_364 (by decide) ?_
  refine l_iadd X dL_law_365 ?_
  refine l_sld X dL_law_366 (hin 1 (by decide) (by decide)) ?_
  refine l_call1I (As := [.int (lXs Λ (i + 1).toNatClampNeg)]) X (fun q => c_X10_rank e1) rfl yv_X10_rank ml_L_44 rfl (by decide) (by decide) (Nat.le_of_ble_eq_true rfl) dL_law_367 ?_
  refine l_icmp_eq (tgt := 1208) X dL_law_370 (by decide) (fun _ => ?_) (fun z => absurd rfl z)
  exact K _ _ hR2
set_option maxRecDepth 4000 in
theorem l_case7 {Λ : l_T} {i : Int32} {hc hm : hp_T} {Rel : hp_T → hp_T → Prop} (X : lC Λ) (hin : ∀ k : Int32, 0 ≤ k → k ≤ 5 → vp_in (i + k) (lLn Λ)) (S : stp Rel (f_X9_ranked (lXs Λ (i + 1).toNatClampNeg) hc) (f_X10_ranked (lXs Λ (i + 1).toNatClampNeg) hm)) (K : ∀ hc2 hm2, Rel hc2 hm2 → lA Λ 1208 i [] hc2 hm2) : lA Λ 375 i [] hc hm := by
  obtain ⟨r, hc2, hm2, e0, e1, hR2⟩ := S
  refine l_aload1 X dL_law_375 ?_
  refine l_aload0 X dL_law_376 ?_
  refine l_iload3 X dL_law_377 ?_
  refine l_iconst (v := 1) X dL_law_378 (by decide) ?_
  refine l_iadd X dL_law_379 ?_
  refine l_sld X dL_law_380 (hin 1 (by decide) (by decide)) ?_
  refine l_call0I (As := [.int (lXs Λ (i + 1).toNatClampNeg)]) X (fun q => c_X9_ranked e0) rfl yv_X9_ranked ml_L_45 rfl (by decide) (by decide) (Nat.le_of_ble_eq_true rfl) dL_law_381 ?_
  refine l_aload2 X dL_law_384 ?_
  refine l_aload0 X dL_law_385 ?_
  refine l_iload3 X dL_law_386 ?_
  refine l_iconst (v := 1) X dL_law_387 (by decide) ?_
  refine l_iadd X dL_law_388 ?_
  refine l_sld X dL_law_389 (hin 1 (by decide) (by decide)) ?_
  refine l_call1I (As := [.int (lXs Λ (i + 1).toNatClampNeg)]) X (fun q => c_X10_ranked e1) rfl yv_X10_ranked ml_L_48 rfl (by decide) (by decide) (Nat.le_of_ble_eq_true rfl) dL_law_390 ?_
  refine l_icmp_eq (tgt := 1208) X dL_law_393 (by decide) (fun _ => ?_) (fun z => absurd rfl z)
  exact K _ _ hR2
set_option maxRecDepth 4000 in
theorem l_case8 {Λ : l_T} {i : Int32} {hc hm : hp_T} {Rel : hp_T → hp_T → Prop} (X : lC Λ) (hin : ∀ k : Int32, 0 ≤ k → k ≤ 5 → vp_in (i + k) (lLn Λ)) (S : stp Rel (f_X9_root  hc) (f_X10_root  hm)) (K : ∀ hc2 hm2, Rel hc2 hm2 → lA Λ 1208 i [] hc2 hm2) : lA Λ 398 i [] hc hm := by
  obtain ⟨r, hc2, hm2, e0, e1, hR2⟩ := S
  refine l_aload1 X dL_law_398 ?_
  refine l_call0I (As := []) X (fun q => c_X9_root e0) rfl yv_X9_root ml_L_49 rfl (by decide) (by decide) (Nat.le_of_ble_eq_true rfl) dL_law_399 ?_
  refine l_aload2 X dL_law_402 ?_
  refine l_call1I (As := []) X (fun q => c_X10_root e1) rfl yv_X10_root ml_L_52 rfl (by decide) (by decide) (Nat.le_of_ble_eq_true rfl) dL_law_403 ?_
  refine l_icmp_eq (tgt := 1208) X dL_law_406 (by decide) (fun _ => ?_) (fun z => absurd rfl z)
  exact K _ _ hR2
set_option maxRecDepth 4000 in
theorem l_case9 {Λ : l_T} {i : Int32} {hc hm : hp_T} {Rel : hp_T → hp_T → Prop} (X : lC Λ) (hin : ∀ k : Int32, 0 ≤ k → k ≤ 5 → vp_in (i + k) (lLn Λ)) (S : stp Rel (f_X9_tree (lXs Λ (i + 1).toNatClampNeg) (lXs Λ (i + 2).toNatClampNeg) hc) (f_X10_tree (lXs Λ (i + 1).toNatClampNeg) (lXs Λ (i + 2).toNatClampNeg) hm)) (K : ∀ hc2 hm2, Rel hc2 hm2 → lA Λ 1208 i [] hc2 hm2) : lA Λ 411 i [] hc hm := by
  obtain ⟨r, hc2, hm2, e0, e1, hR2⟩ := S
  refine l_aload1 X dL_law_411 ?_
  refine l_aload0 X dL_law_412 ?_
  refine l_iload3 X dL_law_413 ?_
  refine l_iconst (v := 1) X dL_law_414 (by decide) ?_
  refine l_iadd X dL_law_415 ?_
  refine l_sld X dL_law_416 (hin 1 (by decide) (by decide)) ?_
  refine l_aload0 X dL_law_417 ?_
  refine l_iload3 X dL_law_418 ?_
  refine l_iconst (v := 2) X dL_law_419 (by decide) ?_
  refine l_iadd X dL_law_420 ?_
  refine l_sld X dL_law_421 (hin 2 (by decide) (by decide)) ?_
  refine l_call0I (As := [.int (lXs Λ (i + 1).toNatClampNeg), .int (lXs Λ (i + 2).toNatClampNeg)]) X (fun q => c_X9_tree e0) rfl yv_X9_tree ml_L_53 rfl (by decide) (by decide) (Nat.le_of_ble_eq_true rfl) dL_law_422 ?_
  refine l_aload2 X dL_law_425 ?_
  refine l_aload0 X dL_law_426 ?_
  refine l_iload3 X dL_law_427 ?_
  refine l_iconst (v := 1) X dL_law_428 (by decide) ?_
  refine l_iadd X dL_law_429 ?_
  refine l_sld X dL_law_430 (hin 1 (by decide) (by decide)) ?_
  refine l_aload0 X dL_law_431 ?_
  refine l_iload3 X dL_law_432 ?_
  refine l_iconst (v := 2) X dL_law_433 (by decide) ?_
  refine l_iadd X dL_law_434 ?_
  refine l_sld X dL_law_435 (hin 2 (by decide) (by decide)) ?_
  refine l_call1I (As := [.int (lXs Λ (i + 1).toNatClampNeg), .int (lXs Λ (i + 2).toNatClampNeg)]) X (fun q => c_X10_tree e1) rfl yv_X10_tree ml_L_56 rfl (by decide) (by decide) (Nat.le_of_ble_eq_true rfl) dL_law_436 ?_
  refine l_icmp_eq (tgt := 1208) X dL_law_439 (by decide) (fun _ => ?_) (fun z => absurd rfl z)
  exact K _ _ hR2
set_option maxRecDepth 4000 in
theorem l_case10 {Λ : l_T} {i : Int32} {hc hm : hp_T} {Rel : hp_T → hp_T → Prop} (X : lC Λ) (hin : ∀ k : Int32, 0 ≤ k → k ≤ 5 → vp_in (i + k) (lLn Λ)) (S : stp Rel (f_X9_end (lXs Λ (i + 1).toNatClampNeg) hc) (f_X10_end (lXs Λ (i + 1).toNatClampNeg) hm)) (K : ∀ hc2 hm2, Rel hc2 hm2 → lA Λ 1208 i [] hc2 hm2) : lA Λ 444 i [] hc hm := by
  obtain ⟨r, hc2, hm2, e0, e1, hR2⟩ := S
  refine l_aload1 X dL_law_444 ?_
  refine l_aload0 X dL_law_445 ?_
  refine l_iload3 X dL_law_446 ?_
  refine l_iconst (v := 1) X dL_law_447 (by decide) ?_
  refine l_iadd X dL_law_448 ?_
  refine l_sld X dL_law_449 (hin 1 (by decide) (by decide)) ?_
  refine l_call0I (As := [.int (lXs Λ (i + 1).toNatClampNeg)]) X (fun q => c_X9_end e0) rfl yv_X9_end ml_L_57 rfl (by decide) (by decide) (Nat.le_of_ble_eq_true rfl) dL_law_450 ?_
  refine l_aload2 X dL_law_453 ?_
  refine l_aload0 X dL_law_454 ?_
  refine l_iload3 X dL_law_455 ?_
  refine l_iconst (v := 1) X dL_law_456 (by decide) ?_
  refine l_iadd X dL_law_457 ?_
  refine l_sld X dL_law_458 (hin 1 (by decide) (by decide)) ?_
  refine l_call1I (As := [.int (lXs Λ (i + 1).toNatClampNeg)]) X (fun q => c_X10_end e1) rfl yv_X10_end ml_L_60 rfl (by decide) (by decide) (Nat.le_of_ble_eq_true rfl) dL_law_459 ?_
  refine l_icmp_eq (tgt := 1208) X dL_law_462 (by decide) (fun _ => ?_) (fun z => absurd rfl z)
  exact K _ _ hR2
set_option maxRecDepth 4000 in
theorem l_case11 {Λ : l_T} {i : Int32} {hc hm : hp_T} {Rel : hp_T → hp_T → Prop} (X : lC Λ) (hin : ∀ k : Int32, 0 ≤ k → k ≤ 5 → vp_in (i + k) (lLn Λ)) (S : stp Rel (f_X9_looks (lXs Λ (i + 1).toNatClampNeg) (lXs Λ (i + 2).toNatClampNeg) hc) (f_X10_looks (lXs Λ (i + 1).toNatClampNeg) (lXs Λ (i + 2).toNatClampNeg) hm)) (K : ∀ hc2 hm2, Rel hc2 hm2 → lA Λ 1208 i [] hc2 hm2) : lA Λ 467 i [] hc hm := by
  obtain ⟨r, hc2, hm2, e0, e1, hR2⟩ := S
  refine l_aload1 X dL_law_467 ?_
  refine l_aload0 X dL_law_468 ?_
  refine l_iload3 X dL_law_469 ?_
  refine l_iconst (v := 1) X dL_law_470 (by decide) ?_
  refine l_iadd X dL_law_471 ?_
  refine l_sld X dL_law_472 (hin 1 (by decide) (by decide)) ?_
  refine l_aload0 X dL_law_473 ?_
  refine l_iload3 X dL_law_474 ?_
  refine l_iconst (v := 2) X dL_law_475 (by decide) ?_
  refine l_iadd X dL_law_476 ?_
  refine l_sld X dL_law_477 (hin 2 (by decide) (by decide)) ?_
  refine l_call0I (As := [.int (lXs Λ (i + 1).toNatClampNeg), .int (lXs Λ (i + 2).toNatClampNeg)]) X (fun q => c_X9_looks e0) rfl yv_X9_looks ml_L_61 rfl (by decide) (by decide) (Nat.le_of_ble_eq_true rfl) dL_law_478 ?_
  refine l_aload2 X dL_law_481 ?_
  refine l_aload0 X dL_law_482 ?_
  refine l_iload3 X dL_law_483 ?_
  refine l_iconst (v := 1) X dL_law_484 (by decide) ?_
  refine l_iadd X dL_law_485 ?_
  refine l_sld X dL_law_486 (hin 1 (by decide) (by decide)) ?_
  refine l_aload0 X dL_law_487 ?_
  refine l_iload3 X dL_law_488 ?_
  refine l_iconst (v := 2) X dL_law_489 (by decide) ?_
  refine l_iadd X dL_law_490 ?_
  refine l_sld X dL_law_491 (hin 2 (by decide) (by decide)) ?_
  refine l_call1I (As := [.int (lXs Λ (i + 1).toNatClampNeg), .int (lXs Λ (i + 2).toNatClampNeg)]) X (fun q => c_X10_looks e1) rfl yv_X10_looks ml_L_64 rfl (by decide) (by decide) (Nat.le_of_ble_eq_true rfl) dL_law_492 ?_
  refine l_icmp_eq (tgt := 1208) X dL_law_495 (by decide) (fun _ => ?_) (fun z => absurd rfl z)
  exact K _ _ hR2
set_option maxRecDepth 4000 in
theorem l_case12 {Λ : l_T} {i : Int32} {hc hm : hp_T} {Rel : hp_T → hp_T → Prop} (X : lC Λ) (hin : ∀ k : Int32, 0 ≤ k → k ≤ 5 → vp_in (i + k) (lLn Λ)) (S : stp Rel (f_X9_meets (lXs Λ (i + 1).toNatClampNeg) (lXs Λ (i + 2).toNatClampNeg) (lXs Λ (i + 3).toNatClampNeg) hc) (f_X10_meets (lXs Λ (i + 1).toNatClampNeg) (lXs Λ (i + 2).toNatClampNeg) (lXs Λ (i + 3).toNatClampNeg) hm)) (K : ∀ hc2 hm2, Rel hc2 hm2 → lA Λ 1208 i [] hc2 hm2) : lA Λ 500 i [] hc hm := by
  obtain ⟨r, hc2, hm2, e0, e1, hR2⟩ := S
  refine l_aload1 X dL_law_500 ?_
  refine l_aload0 X dL_law_501 ?_
  refine l_iload3 X dL_law_502 ?_
  refine l_iconst (v := 1) X dL_law_503 (by decide) ?_
  refine l_iadd X dL_law_504 ?_
  refine l_sld X dL_law_505 (hin 1 (by decide) (by decide)) ?_
  refine l_aload0 X dL_law_506 ?_
  refine l_iload3 X dL_law_507 ?_
  refine l_iconst (v := 2) X dL_law_508 (by decide) ?_
  refine l_iadd X dL_law_509 ?_
  refine l_sld X dL_law_510 (hin 2 (by decide) (by decide)) ?_
  refine l_aload0 X dL_law_511 ?_
  refine l_iload3 X dL_law_512 ?_
  refine l_iconst (v := 3) X dL_law_513 (by decide) ?_
  refine l_iadd X dL_law_514 ?_
  refine l_sld X dL_law_515 (hin 3 (by decide) (by decide)) ?_
  refine l_call0I (As := [.int (lXs Λ (i + 1).toNatClampNeg), .int (lXs Λ (i + 2).toNatClampNeg), .int (lXs Λ (i + 3).toNatClampNeg)]) X (fun q => c_X9_meets e0) rfl yv_X9_meets ml_L_65 rfl (by decide) (by decide) (Nat.le_of_ble_eq_true rfl) dL_law_516 ?_
  refine l_aload2 X dL_law_519 ?_
  refine l_aload0 X dL_law_520 ?_
  refine l_iload3 X dL_law_521 ?_
  refine l_iconst (v := 1) X dL_law_522 (by decide) ?_
  refine l_iadd X dL_law_523 ?_
  refine l_sld X dL_law_524 (hin 1 (by decide) (by decide)) ?_
  refine l_aload0 X dL_law_525 ?_
  refine l_iload3 X dL_law_526 ?_
  refine l_iconst (v := 2) X dL_law_527 (by decide) ?_
  refine l_iadd X dL_law_528 ?_
  refine l_sld X dL_law_529 (hin 2 (by decide) (by decide)) ?_
  refine l_aload0 X dL_law_530 ?_
  refine l_iload3 X dL_law_531 ?_
  refine l_iconst (v := 3) X dL_law_532 (by decide) ?_
  refine l_iadd X dL_law_533 ?_
  refine l_sld X dL_law_534 (hin 3 (by decide) (by decide)) ?_
  refine l_call1I (As := [.int (lXs Λ (i + 1).toNatClampNeg), .int (lXs Λ (i + 2).toNatClampNeg), .int (lXs Λ (i + 3).toNatClampNeg)]) X (fun q => c_X10_meets e1) rfl yv_X10_meets ml_L_68 rfl (by decide) (by decide) (Nat.le_of_ble_eq_true rfl) dL_law_535 ?_
  refine l_icmp_eq (tgt := 1208) X dL_law_538 (by decide) (fun _ => ?_) (fun z => absurd rfl z)
  exact K _ _ hR2
set_option maxRecDepth 4000 in
theorem l_case13 {Λ : l_T} {i : Int32} {hc hm : hp_T} {Rel : hp_T → hp_T → Prop} (X : lC Λ) (hin : ∀ k : Int32, 0 ≤ k → k ≤ 5 → vp_in (i + k) (lLn Λ)) (S : stp Rel (f_X9_holds (lXs Λ (i + 1).toNatClampNeg) (lXs Λ (i + 2).toNatClampNeg) hc) (f_X10_holds (lXs Λ (i + 1).toNatClampNeg) (lXs Λ (i + 2).toNatClampNeg) hm)) (K : ∀ hc2 hm2, Rel hc2 hm2 → lA Λ 1208 i [] hc2 hm2) : lA Λ 543 i [] hc hm := by
  obtain ⟨r, hc2, hm2, e0, e1, hR2⟩ := S
  refine l_aload1 X dL_law_543 ?_
  refine l_aload0 X dL_law_544 ?_
  refine l_iload3 X dL_law_545 ?_
  refine l_iconst (v := 1) X dL_law_546 (by decide) ?_
  refine l_iadd X dL_law_547 ?_
  refine l_sld X dL_law_548 (hin 1 (by decide) (by decide)) ?_
  refine l_aload0 X dL_law_549 ?_
  refine l_iload3 X dL_law_550 ?_
  refine l_iconst (v := 2) X dL_law_551 (by decide) ?_
  refine l_iadd X dL_law_552 ?_
  refine l_sld X dL_law_553 (hin 2 (by decide) (by decide)) ?_
  refine l_call0I (As := [.int (lXs Λ (i + 1).toNatClampNeg), .int (lXs Λ (i + 2).toNatClampNeg)]) X (fun q => c_X9_holds e0) rfl yv_X9_holds ml_L_69 rfl (by decide) (by decide) (Nat.le_of_ble_eq_true rfl) dL_law_554 ?_
  refine l_aload2 X dL_law_557 ?_
  refine l_aload0 X dL_law_558 ?_
  refine l_iload3 X dL_law_559 ?_
  refine l_iconst (v := 1) X dL_law_560 (by decide) ?_
  refine l_iadd X dL_law_561 ?_
  refine l_sld X dL_law_562 (hin 1 (by decide) (by decide)) ?_
  refine l_aload0 X dL_law_563 ?_
  refine l_iload3 X dL_law_564 ?_
  refine l_iconst (v := 2) X dL_law_565 (by decide) ?_
  refine l_iadd X dL_law_566 ?_
  refine l_sld X dL_law_567 (hin 2 (by decide) (by decide)) ?_
  refine l_call1I (As := [.int (lXs Λ (i + 1).toNatClampNeg), .int (lXs Λ (i + 2).toNatClampNeg)]) X (fun q => c_X10_holds e1) rfl yv_X10_holds ml_L_72 rfl (by decide) (by decide) (Nat.le_of_ble_eq_true rfl) dL_law_568 ?_
  refine l_icmp_eq (tgt := 1208) X dL_law_571 (by decide) (fun _ => ?_) (fun z => absurd rfl z)
  exact K _ _ hR2
set_option maxRecDepth 4000 in
theorem l_case14 {Λ : l_T} {i : Int32} {hc hm : hp_T} {Rel : hp_T → hp_T → Prop} (X : lC Λ) (hin : ∀ k : Int32, 0 ≤ k → k ≤ 5 → vp_in (i + k) (lLn Λ)) (S : stp Rel (f_X9_taken (lXs Λ (i + 1).toNatClampNeg) (lXs Λ (i + 2).toNatClampNeg) hc) (f_X10_taken (lXs Λ (i + 1).toNatClampNeg) (lXs Λ (i + 2).toNatClampNeg) hm)) (K : ∀ hc2 hm2, Rel hc2 hm2 → lA Λ 1208 i [] hc2 hm2) : lA Λ 576 i [] hc hm := by
  obtain ⟨r, hc2, hm2, e0, e1, hR2⟩ := S
  refine l_aload1 X dL_law_576 ?_
  refine l_aload0 X dL_law_577 ?_
  refine l_iload3 X dL_law_578 ?_
  refine l_iconst (v := 1) X dL_law_579 (by decide) ?_
  refine l_iadd X dL_law_580 ?_
  refine l_sld X dL_law_581 (hin 1 (by decide) (by decide)) ?_
  refine l_aload0 X dL_law_582 ?_
  refine l_iload3 X dL_law_583 ?_
  refine l_iconst (v := 2) X dL_law_584 (by decide) ?_
  refine l_iadd X dL_law_585 ?_
  refine l_sld X dL_law_586 (hin 2 (by decide) (by decide)) ?_
  refine l_call0I (As := [.int (lXs Λ (i + 1).toNatClampNeg), .int (lXs Λ (i + 2).toNatClampNeg)]) X (fun q => c_X9_taken e0) rfl yv_X9_taken ml_L_73 rfl (by decide) (by decide) (Nat.le_of_ble_eq_true rfl) dL_law_587 ?_
  refine l_aload2 X dL_law_590 ?_
  refine l_aload0 X dL_law_591 ?_
  refine l_iload3 X dL_law_592 ?_
  refine l_iconst (v := 1) X dL_law_593 (by decide) ?_
  refine l_iadd X dL_law_594 ?_
  refine l_sld X dL_law_595 (hin 1 (by decide) (by decide)) ?_
  refine l_aload0 X dL_law_596 ?_
  refine l_iload3 X dL_law_597 ?_
  refine l_iconst (v := 2) X dL_law_598 (by decide) ?_
  refine l_iadd X dL_law_599 ?_
  refine l_sld X dL_law_600 (hin 2 (by decide) (by decide)) ?_
  refine l_call1I (As := [.int (lXs Λ (i + 1).toNatClampNeg), .int (lXs Λ (i + 2).toNatClampNeg)]) X (fun q => c_X10_taken e1) rfl yv_X10_taken ml_L_76 rfl (by decide) (by decide) (Nat.le_of_ble_eq_true rfl) dL_law_601 ?_
  refine l_icmp_eq (tgt := 1208) X dL_law_604 (by decide) (fun _ => ?_) (fun z => absurd rfl z)
  exact K _ _ hR2
set_option maxRecDepth 4000 in
theorem l_case15 {Λ : l_T} {i : Int32} {hc hm : hp_T} {Rel : hp_T → hp_T → Prop} (X : lC Λ) (hin : ∀ k : Int32, 0 ≤ k → k ≤ 5 → vp_in (i + k) (lLn Λ)) (S : stp Rel (f_X9_frees (lXs Λ (i + 1).toNatClampNeg) (lXs Λ (i + 2).toNatClampNeg) hc) (f_X10_frees (lXs Λ (i + 1).toNatClampNeg) (lXs Λ (i + 2).toNatClampNeg) hm)) (K : ∀ hc2 hm2, Rel hc2 hm2 → lA Λ 1208 i [] hc2 hm2) : lA Λ 609 i [] hc hm := by
  obtain ⟨r, hc2, hm2, e0, e1, hR2⟩ := S
  refine l_aload1 X dL_law_609 ?_
  refine l_aload0 X dL_law_610 ?_
  refine l_iload3 X dL_law_611 ?_
  refine l_iconst (v := 1) X dL_law_612 (by decide) ?_
  refine l_iadd X dL_law_613 ?_
  refine l_sld X dL_law_614 (hin 1 (by decide) (by decide)) ?_
  refine l_aload0 X dL_law_615 ?_
  refine l_iload3 X dL_law_616 ?_
  refine l_iconst (v := 2) X dL_law_617 (by decide) ?_
  refine l_iadd X dL_law_618 ?_
  refine l_sld X dL_law_619 (hin 2 (by decide) (by decide)) ?_
  refine l_call0I (As := [.int (lXs Λ (i + 1).toNatClampNeg), .int (lXs Λ (i + 2).toNatClampNeg)]) X (fun q => c_X9_frees e0) rfl yv_X9_frees ml_L_77 rfl (by decide) (by decide) (Nat.le_of_ble_eq_true rfl) dL_law_620 ?_
  refine l_aload2 X dL_law_623 ?_
  refine l_aload0 X dL_law_624 ?_
  refine l_iload3 X dL_law_625 ?_
  refine l_iconst (v := 1) X dL_law_626 (by decide) ?_
  refine l_iadd X dL_law_627 ?_
  refine l_sld X dL_law_628 (hin 1 (by decide) (by decide)) ?_
  refine l_aload0 X dL_law_629 ?_
  refine l_iload3 X dL_law_630 ?_
  refine l_iconst (v := 2) X dL_law_631 (by decide) ?_
  refine l_iadd X dL_law_632 ?_
  refine l_sld X dL_law_633 (hin 2 (by decide) (by decide)) ?_
  refine l_call1I (As := [.int (lXs Λ (i + 1).toNatClampNeg), .int (lXs Λ (i + 2).toNatClampNeg)]) X (fun q => c_X10_frees e1) rfl yv_X10_frees ml_L_80 rfl (by decide) (by decide) (Nat.le_of_ble_eq_true rfl) dL_law_634 ?_
  refine l_icmp_eq (tgt := 1208) X dL_law_637 (by decide) (fun _ => ?_) (fun z => absurd rfl z)
  exact K _ _ hR2
set_option maxRecDepth 4000 in
theorem l_case16 {Λ : l_T} {i : Int32} {hc hm : hp_T} {Rel : hp_T → hp_T → Prop} (X : lC Λ) (hin : ∀ k : Int32, 0 ≤ k → k ≤ 5 → vp_in (i + k) (lLn Λ)) (S : stp Rel (f_X9_free (lXs Λ (i + 1).toNatClampNeg) (lXs Λ (i + 2).toNatClampNeg) (lXs Λ (i + 3).toNatClampNeg) (lXs Λ (i + 4).toNatClampNeg) hc) (f_X10_free (lXs Λ (i + 1).toNatClampNeg) (lXs Λ (i + 2).toNatClampNeg) (lXs Λ (i + 3).toNatClampNeg) (lXs Λ (i + 4).toNatClampNeg) hm)) (K : ∀ hc2 hm2, Rel hc2 hm2 → lA Λ 1208 i [] hc2 hm2) : lA Λ 642 i [] hc hm := by
  obtain ⟨r, hc2, hm2, e0, e1, hR2⟩ := S
  refine l_aload1 X dL_law_642 ?_
  refine l_aload0 X dL_law_643 ?_
  refine l_iload3 X dL_law_644 ?_
  refine l_iconst (v := 1) X dL_law_645 (by decide) ?_
  refine l_iadd X dL_law_646 ?_
  refine l_sld X dL_law_647 (hin 1 (by decide) (by decide)) ?_
  refine l_aload0 X dL_law_648 ?_
  refine l_iload3 X dL_law_649 ?_
  refine l_iconst (v := 2) X dL_law_650 (by decide) ?_
  refine l_iadd X dL_law_651 ?_
  refine l_sld X dL_law_652 (hin 2 (by decide) (by decide)) ?_
  refine l_aload0 X dL_law_653 ?_
  refine l_iload3 X dL_law_654 ?_
  refine l_iconst (v := 3) X dL_law_655 (by decide) ?_
  refine l_iadd X dL_law_656 ?_
  refine l_sld X dL_law_657 (hin 3 (by decide) (by decide)) ?_
  refine l_aload0 X dL_law_658 ?_
  refine l_iload3 X dL_law_659 ?_
  refine l_iconst (v := 4) X dL_law_660 (by decide) ?_
  refine l_iadd X dL_law_661 ?_
  refine l_sld X dL_law_662 (hin 4 (by decide) (by decide)) ?_
  refine l_call0I (As := [.int (lXs Λ (i + 1).toNatClampNeg), .int (lXs Λ (i + 2).toNatClampNeg), .int (lXs Λ (i + 3).toNatClampNeg), .int (lXs Λ (i + 4).toNatClampNeg)]) X (fun q => c_X9_free e0) rfl yv_X9_free ml_L_81 rfl (by decide) (by decide) (Nat.le_of_ble_eq_true rfl) dL_law_663 ?_
  refine l_aload2 X dL_law_666 ?_
  refine l_aload0 X dL_law_667 ?_
  refine l_iload3 X dL_law_668 ?_
  refine l_iconst (v := 1) X dL_law_669 (by decide) ?_
  refine l_iadd X dL_law_670 ?_
  refine l_sld X dL_law_671 (hin 1 (by decide) (by decide)) ?_
  refine l_aload0 X dL_law_672 ?_
  refine l_iload3 X dL_law_673 ?_
  refine l_iconst (v := 2) X dL_law_674 (by decide) ?_
  refine l_iadd X dL_law_675 ?_
  refine l_sld X dL_law_676 (hin 2 (by decide) (by decide)) ?_
  refine l_aload0 X dL_law_677 ?_
  refine l_iload3 X dL_law_678 ?_
  refine l_iconst (v := 3) X dL_law_679 (by decide) ?_
  refine l_iadd X dL_law_680 ?_
  refine l_sld X dL_law_681 (hin 3 (by decide) (by decide)) ?_
  refine l_aload0 X dL_law_682 ?_
  refine l_iload3 X dL_law_683 ?_
  refine l_iconst (v := 4) X dL_law_684 (by decide) ?_
  refine l_iadd X dL_law_685 ?_
  refine l_sld X dL_law_686 (hin 4 (by decide) (by decide)) ?_
  refine l_call1I (As := [.int (lXs Λ (i + 1).toNatClampNeg), .int (lXs Λ (i + 2).toNatClampNeg), .int (lXs Λ (i + 3).toNatClampNeg), .int (lXs Λ (i + 4).toNatClampNeg)]) X (fun q => c_X10_free e1) rfl yv_X10_free ml_L_85 rfl (by decide) (by decide) (Nat.le_of_ble_eq_true rfl) dL_law_687 ?_
  refine l_icmp_eq (tgt := 1208) X dL_law_690 (by decide) (fun _ => ?_) (fun z => absurd rfl z)
  exact K _ _ hR2
set_option maxRecDepth 4000 in
theorem l_case17 {Λ : l_T} {i : Int32} {hc hm : hp_T} {Rel : hp_T → hp_T → Prop} (X : lC Λ) (hin : ∀ k : Int32, 0 ≤ k → k ≤ 5 → vp_in (i + k) (lLn Λ)) (S : stp Rel (f_X9_place (lXs Λ (i + 1).toNatClampNeg) (lXs Λ (i + 2).toNatClampNeg) (lXs Λ (i + 3).toNatClampNeg) hc) (f_X10_place (lXs Λ (i + 1).toNatClampNeg) (lXs Λ (i + 2).toNatClampNeg) (lXs Λ (i + 3).toNatClampNeg) hm)) (K : ∀ hc2 hm2, Rel hc2 hm2 → lA Λ 1208 i [] hc2 hm2) : lA Λ 695 i [] hc hm := by
  obtain ⟨r, hc2, hm2, e0, e1, hR2⟩ := S
  refine l_aload1 X dL_law_695 ?_
  refine l_aload0 X dL_law_696 ?_
  refine l_iload3 X dL_law_697 ?_
  refine l_iconst (v := 1) X dL_law_698 (by decide) ?_
  refine l_iadd X dL_law_699 ?_
  refine l_sld X dL_law_700 (hin 1 (by decide) (by decide)) ?_
  refine l_aload0 X dL_law_701 ?_
  refine l_iload3 X dL_law_702 ?_
  refine l_iconst (v := 2) X dL_law_703 (by decide) ?_
  refine l_iadd X dL_law_704 ?_
  refine l_sld X dL_law_705 (hin 2 (by decide) (by decide)) ?_
  refine l_aload0 X dL_law_706 ?_
  refine l_iload3 X dL_law_707 ?_
  refine l_iconst (v := 3) X dL_law_708 (by decide) ?_
  refine l_iadd X dL_law_709 ?_
  refine l_sld X dL_law_710 (hin 3 (by decide) (by decide)) ?_
  refine l_call0I (As := [.int (lXs Λ (i + 1).toNatClampNeg), .int (lXs Λ (i + 2).toNatClampNeg), .int (lXs Λ (i + 3).toNatClampNeg)]) X (fun q => c_X9_place e0) rfl yv_X9_place ml_L_86 rfl (by decide) (by decide) (Nat.le_of_ble_eq_true rfl) dL_law_711 ?_
  refine l_aload2 X dL_law_714 ?_
  refine l_aload0 X dL_law_715 ?_
  refine l_iload3 X dL_law_716 ?_
  refine l_iconst (v := 1) X dL_law_717 (by decide) ?_
  refine l_iadd X dL_law_718 ?_
  refine l_sld X dL_law_719 (hin 1 (by decide) (by decide)) ?_
  refine l_aload0 X dL_law_720 ?_
  refine l_iload3 X dL_law_721 ?_
  refine l_iconst (v := 2) X dL_law_722 (by decide) ?_
  refine l_iadd X dL_law_723 ?_
  refine l_sld X dL_law_724 (hin 2 (by decide) (by decide)) ?_
  refine l_aload0 X dL_law_725 ?_
  refine l_iload3 X dL_law_726 ?_
  refine l_iconst (v := 3) X dL_law_727 (by decide) ?_
  refine l_iadd X dL_law_728 ?_
  refine l_sld X dL_law_729 (hin 3 (by decide) (by decide)) ?_
  refine l_call1I (As := [.int (lXs Λ (i + 1).toNatClampNeg), .int (lXs Λ (i + 2).toNatClampNeg), .int (lXs Λ (i + 3).toNatClampNeg)]) X (fun q => c_X10_place e1) rfl yv_X10_place ml_L_89 rfl (by decide) (by decide) (Nat.le_of_ble_eq_true rfl) dL_law_730 ?_
  refine l_icmp_eq (tgt := 1208) X dL_law_733 (by decide) (fun _ => ?_) (fun z => absurd rfl z)
  exact K _ _ hR2
set_option maxRecDepth 4000 in
theorem l_case18 {Λ : l_T} {i : Int32} {hc hm : hp_T} {Rel : hp_T → hp_T → Prop} (X : lC Λ) (hin : ∀ k : Int32, 0 ≤ k → k ≤ 5 → vp_in (i + k) (lLn Λ)) (S : stp Rel (f_X9_deep  hc) (f_X10_deep  hm)) (K : ∀ hc2 hm2, Rel hc2 hm2 → lA Λ 1208 i [] hc2 hm2) : lA Λ 738 i [] hc hm := by
  obtain ⟨r, hc2, hm2, e0, e1, hR2⟩ := S
  refine l_aload1 X dL_law_738 ?_
  refine l_call0I (As := []) X (fun q => c_X9_deep e0) rfl yv_X9_deep ml_L_90 rfl (by decide) (by decide) (Nat.le_of_ble_eq_true rfl) dL_law_739 ?_
  refine l_aload2 X dL_law_742 ?_
  refine l_call1I (As := []) X (fun q => c_X10_deep e1) rfl yv_X10_deep ml_L_93 rfl (by decide) (by decide) (Nat.le_of_ble_eq_true rfl) dL_law_743 ?_
  refine l_icmp_eq (tgt := 1208) X dL_law_746 (by decide) (fun _ => ?_) (fun z => absurd rfl z)
  exact K _ _ hR2
set_option maxRecDepth 4000 in
theorem l_case19 {Λ : l_T} {i : Int32} {hc hm : hp_T} {Rel : hp_T → hp_T → Prop} (X : lC Λ) (hin : ∀ k : Int32, 0 ≤ k → k ≤ 5 → vp_in (i + k) (lLn Λ)) (S : stp Rel (f_X9_point  hc) (f_X10_point  hm)) (K : ∀ hc2 hm2, Rel hc2 hm2 → lA Λ 1208 i [] hc2 hm2) : lA Λ 751 i [] hc hm := by
  obtain ⟨r, hc2, hm2, e0, e1, hR2⟩ := S
  refine l_aload1 X dL_law_751 ?_
  refine l_call0I (As := []) X (fun q => c_X9_point e0) rfl yv_X9_point ml_L_94 rfl (by decide) (by decide) (Nat.le_of_ble_eq_true rfl) dL_law_752 ?_
  refine l_aload2 X dL_law_755 ?_
  refine l_call1I (As := []) X (fun q => c_X10_point e1) rfl yv_X10_point ml_L_97 rfl (by decide) (by decide) (Nat.le_of_ble_eq_true rfl) dL_law_756 ?_
  refine l_icmp_eq (tgt := 1208) X dL_law_759 (by decide) (fun _ => ?_) (fun z => absurd rfl z)
  exact K _ _ hR2
set_option maxRecDepth 4000 in
theorem l_case20 {Λ : l_T} {i : Int32} {hc hm : hp_T} {Rel : hp_T → hp_T → Prop} (X : lC Λ) (hin : ∀ k : Int32, 0 ≤ k → k ≤ 5 → vp_in (i + k) (lLn Λ)) (S : stp Rel (f_X9_room (lXs Λ (i + 1).toNatClampNeg) hc) (f_X10_room (lXs Λ (i + 1).toNatClampNeg) hm)) (K : ∀ hc2 hm2, Rel hc2 hm2 → lA Λ 1208 i [] hc2 hm2) : lA Λ 764 i [] hc hm := by
  obtain ⟨r, hc2, hm2, e0, e1, hR2⟩ := S
  refine l_aload1 X dL_law_764 ?_
  refine l_aload0 X dL_law_765 ?_
  refine l_iload3 X dL_law_766 ?_
  refine l_iconst (v := 1) X dL_law_767 (by decide) ?_
  refine l_iadd X dL_law_768 ?_
  refine l_sld X dL_law_769 (hin 1 (by decide) (by decide)) ?_
  refine l_call0I (As := [.int (lXs Λ (i + 1).toNatClampNeg)]) X (fun q => c_X9_room e0) rfl yv_X9_room ml_L_98 rfl (by decide) (by decide) (Nat.le_of_ble_eq_true rfl) dL_law_770 ?_
  refine l_aload2 X dL_law_773 ?_
  refine l_aload0 X dL_law_774 ?_
  refine l_iload3 X dL_law_775 ?_
  refine l_iconst (v := 1) X dL_law_776 (by decide) ?_
  refine l_iadd X dL_law_777 ?_
  refine l_sld X dL_law_778 (hin 1 (by decide) (by decide)) ?_
  refine l_call1I (As := [.int (lXs Λ (i + 1).toNatClampNeg)]) X (fun q => c_X10_room e1) rfl yv_X10_room ml_L_101 rfl (by decide) (by decide) (Nat.le_of_ble_eq_true rfl) dL_law_779 ?_
  refine l_icmp_eq (tgt := 1208) X dL_law_782 (by decide) (fun _ => ?_) (fun z => absurd rfl z)
  exact K _ _ hR2
set_option maxRecDepth 4000 in
theorem l_case21 {Λ : l_T} {i : Int32} {hc hm : hp_T} {Rel : hp_T → hp_T → Prop} (X : lC Λ) (hin : ∀ k : Int32, 0 ≤ k → k ≤ 5 → vp_in (i + k) (lLn Λ)) (S : stp Rel (f_X9_keep (lXs Λ (i + 1).toNatClampNeg) hc) (f_X10_keep (lXs Λ (i + 1).toNatClampNeg) hm)) (K : ∀ hc2 hm2, Rel hc2 hm2 → lA Λ 1208 i [] hc2 hm2) : lA Λ 787 i [] hc hm := by
  obtain ⟨r, hc2, hm2, e0, e1, hR2⟩ := S
  refine l_aload1 X dL_law_787 ?_
  refine l_aload0 X dL_law_788 ?_
  refine l_iload3 X dL_law_789 ?_
  refine l_iconst (v := 1) X dL_law_790 (by decide) ?_
  refine l_iadd X dL_law_791 ?_
  refine l_sld X dL_law_792 (hin 1 (by decide) (by decide)) ?_
  refine l_call0I (As := [.int (lXs Λ (i + 1).toNatClampNeg)]) X (fun q => c_X9_keep e0) rfl yv_X9_keep ml_L_102 rfl (by decide) (by decide) (Nat.le_of_ble_eq_true rfl) dL_law_793 ?_
  refine l_aload2 X dL_law_796 ?_
  refine l_aload0 X dL_law_797 ?_
  refine l_iload3 X dL_law_798 ?_
  refine l_iconst (v := 1) X dL_law_799 (by decide) ?_
  refine l_iadd X dL_law_800 ?_
  refine l_sld X dL_law_801 (hin 1 (by decide) (by decide)) ?_
  refine l_call1I (As := [.int (lXs Λ (i + 1).toNatClampNeg)]) X (fun q => c_X10_keep e1) rfl yv_X10_keep ml_L_105 rfl (by decide) (by decide) (Nat.le_of_ble_eq_true rfl) dL_law_802 ?_
  refine l_icmp_eq (tgt := 1208) X dL_law_805 (by decide) (fun _ => ?_) (fun z => absurd rfl z)
  exact K _ _ hR2
set_option maxRecDepth 4000 in
theorem l_case22 {Λ : l_T} {i : Int32} {hc hm : hp_T} {Rel : hp_T → hp_T → Prop} (X : lC Λ) (hin : ∀ k : Int32, 0 ≤ k → k ≤ 5 → vp_in (i + k) (lLn Λ)) (S : stp Rel (f_X9_clashes  hc) (f_X10_clashes  hm)) (K : ∀ hc2 hm2, Rel hc2 hm2 → lA Λ 1208 i [] hc2 hm2) : lA Λ 810 i [] hc hm := by
  obtain ⟨r, hc2, hm2, e0, e1, hR2⟩ := S
  refine l_aload1 X dL_law_810 ?_
  refine l_call0I (As := []) X (fun q => c_X9_clashes e0) rfl yv_X9_clashes ml_L_106 rfl (by decide) (by decide) (Nat.le_of_ble_eq_true rfl) dL_law_811 ?_
  refine l_aload2 X dL_law_814 ?_
  refine l_call1I (As := []) X (fun q => c_X10_clashes e1) rfl yv_X10_clashes ml_L_109 rfl (by decide) (by decide) (Nat.le_of_ble_eq_true rfl) dL_law_815 ?_
  refine l_icmp_eq (tgt := 1208) X dL_law_818 (by decide) (fun _ => ?_) (fun z => absurd rfl z)
  exact K _ _ hR2
set_option maxRecDepth 4000 in
theorem l_case23 {Λ : l_T} {i : Int32} {hc hm : hp_T} {Rel : hp_T → hp_T → Prop} (X : lC Λ) (hin : ∀ k : Int32, 0 ≤ k → k ≤ 5 → vp_in (i + k) (lLn Λ)) (S : stp Rel (f_X9_clash (lXs Λ (i + 1).toNatClampNeg) (lXs Λ (i + 2).toNatClampNeg) hc) (f_X10_clash (lXs Λ (i + 1).toNatClampNeg) (lXs Λ (i + 2).toNatClampNeg) hm)) (K : ∀ hc2 hm2, Rel hc2 hm2 → lA Λ 1208 i [] hc2 hm2) : lA Λ 823 i [] hc hm := by
  obtain ⟨r, hc2, hm2, e0, e1, hR2⟩ := S
  refine l_aload1 X dL_law_823 ?_
  refine l_aload0 X dL_law_824 ?_
  refine l_iload3 X dL_law_825 ?_
  refine l_iconst (v := 1) X dL_law_826 (by decide) ?_
  refine l_iadd X dL_law_827 ?_
  refine l_sld X dL_law_828 (hin 1 (by decide) (by decide)) ?_
  refine l_aload0 X dL_law_829 ?_
  refine l_iload3 X dL_law_830 ?_
  refine l_iconst (v := 2) X dL_law_831 (by decide) ?_
  refine l_iadd X dL_law_832 ?_
  refine l_sld X dL_law_833 (hin 2 (by decide) (by decide)) ?_
  refine l_call0I (As := [.int (lXs Λ (i + 1).toNatClampNeg), .int (lXs Λ (i + 2).toNatClampNeg)]) X (fun q => c_X9_clash e0) rfl yv_X9_clash ml_L_110 rfl (by decide) (by decide) (Nat.le_of_ble_eq_true rfl) dL_law_834 ?_
  refine l_aload2 X dL_law_837 ?_
  refine l_aload0 X dL_law_838 ?_
  refine l_iload3 X dL_law_839 ?_
  refine l_iconst (v := 1) X dL_law_840 (by decide) ?_
  refine l_iadd X dL_law_841 ?_
  refine l_sld X dL_law_842 (hin 1 (by decide) (by decide)) ?_
  refine l_aload0 X dL_law_843 ?_
  refine l_iload3 X dL_law_844 ?_
  refine l_iconst (v := 2) X dL_law_845 (by decide) ?_
  refine l_iadd X dL_law_846 ?_
  refine l_sld X dL_law_847 (hin 2 (by decide) (by decide)) ?_
  refine l_call1I (As := [.int (lXs Λ (i + 1).toNatClampNeg), .int (lXs Λ (i + 2).toNatClampNeg)]) X (fun q => c_X10_clash e1) rfl yv_X10_clash ml_L_113 rfl (by decide) (by decide) (Nat.le_of_ble_eq_true rfl) dL_law_848 ?_
  refine l_icmp_eq (tgt := 1208) X dL_law_851 (by decide) (fun _ => ?_) (fun z => absurd rfl z)
  exact K _ _ hR2
set_option maxRecDepth 4000 in
theorem l_case24 {Λ : l_T} {i : Int32} {hc hm : hp_T} {Rel : hp_T → hp_T → Prop} (X : lC Λ) (hin : ∀ k : Int32, 0 ≤ k → k ≤ 5 → vp_in (i + k) (lLn Λ)) (S : stp Rel (f_X9_alone  hc) (f_X10_alone  hm)) (K : ∀ hc2 hm2, Rel hc2 hm2 → lA Λ 1208 i [] hc2 hm2) : lA Λ 856 i [] hc hm := by
  obtain ⟨r, hc2, hm2, e0, e1, hR2⟩ := S
  refine l_aload1 X dL_law_856 ?_
  refine l_call0L (As := []) X (fun q => c_X9_alone e0) rfl yv_X9_alone ml_L_114 rfl (by decide) (by decide) (Nat.le_of_ble_eq_true rfl) dL_law_857 ?_
  refine l_aload2 X dL_law_860 ?_
  refine l_call1L (As := []) X (fun q => c_X10_alone e1) rfl yv_X10_alone ml_L_118 rfl (by decide) (by decide) (Nat.le_of_ble_eq_true rfl) dL_law_861 ?_
  refine l_lcmp X dL_law_864 ?_
  rw [lg_self]
  refine l_if_eq (tgt := 1208) X dL_law_865 (by decide) (fun _ => ?_) (fun z => absurd rfl z)
  exact K _ _ hR2
set_option maxRecDepth 4000 in
theorem l_case25 {Λ : l_T} {i : Int32} {hc hm : hp_T} {Rel : hp_T → hp_T → Prop} (X : lC Λ) (hin : ∀ k : Int32, 0 ≤ k → k ≤ 5 → vp_in (i + k) (lLn Λ)) (S : stp Rel (f_X9_group (lXs Λ (i + 1).toNatClampNeg) (lXs Λ (i + 2).toNatClampNeg) hc) (f_X10_group (lXs Λ (i + 1).toNatClampNeg) (lXs Λ (i + 2).toNatClampNeg) hm)) (K : ∀ hc2 hm2, Rel hc2 hm2 → lA Λ 1208 i [] hc2 hm2) : lA Λ 870 i [] hc hm := by
  obtain ⟨r, hc2, hm2, e0, e1, hR2⟩ := S
  refine l_aload1 X dL_law_870 ?_
  refine l_aload0 X dL_law_871 ?_
  refine l_iload3 X dL_law_872 ?_
  refine l_iconst (v := 1) X dL_law_873 (by decide) ?_
  refine l_iadd X dL_law_874 ?_
  refine l_sld X dL_law_875 (hin 1 (by decide) (by decide)) ?_
  refine l_aload0 X dL_law_876 ?_
  refine l_iload3 X dL_law_877 ?_
  refine l_iconst (v := 2) X dL_law_878 (by decide) ?_
  refine l_iadd X dL_law_879 ?_
  refine l_sld X dL_law_880 (hin 2 (by decide) (by decide)) ?_
  refine l_call0I (As := [.int (lXs Λ (i + 1).toNatClampNeg), .int (lXs Λ (i + 2).toNatClampNeg)]) X (fun q => c_X9_group e0) rfl yv_X9_group ml_L_119 rfl (by decide) (by decide) (Nat.le_of_ble_eq_true rfl) dL_law_881 ?_
  refine l_aload2 X dL_law_884 ?_
  refine l_aload0 X dL_law_885 ?_
  refine l_iload3 X dL_law_886 ?_
  refine l_iconst (v := 1) X dL_law_887 (by decide) ?_
  refine l_iadd X dL_law_888 ?_
  refine l_sld X dL_law_889 (hin 1 (by decide) (by decide)) ?_
  refine l_aload0 X dL_law_890 ?_
  refine l_iload3 X dL_law_891 ?_
  refine l_iconst (v := 2) X dL_law_892 (by decide) ?_
  refine l_iadd X dL_law_893 ?_
  refine l_sld X dL_law_894 (hin 2 (by decide) (by decide)) ?_
  refine l_call1I (As := [.int (lXs Λ (i + 1).toNatClampNeg), .int (lXs Λ (i + 2).toNatClampNeg)]) X (fun q => c_X10_group e1) rfl yv_X10_group ml_L_122 rfl (by decide) (by decide) (Nat.le_of_ble_eq_true rfl) dL_law_895 ?_
  refine l_icmp_eq (tgt := 1208) X dL_law_898 (by decide) (fun _ => ?_) (fun z => absurd rfl z)
  exact K _ _ hR2
set_option maxRecDepth 4000 in
theorem l_case26 {Λ : l_T} {i : Int32} {hc hm : hp_T} {Rel : hp_T → hp_T → Prop} (X : lC Λ) (hin : ∀ k : Int32, 0 ≤ k → k ≤ 5 → vp_in (i + k) (lLn Λ)) (S : stp Rel (f_X9_sheet (lXs Λ (i + 1).toNatClampNeg) (lXs Λ (i + 2).toNatClampNeg) (lXs Λ (i + 3).toNatClampNeg) hc) (f_X10_sheet (lXs Λ (i + 1).toNatClampNeg) (lXs Λ (i + 2).toNatClampNeg) (lXs Λ (i + 3).toNatClampNeg) hm)) (K : ∀ hc2 hm2, Rel hc2 hm2 → lA Λ 1208 i [] hc2 hm2) : lA Λ 903 i [] hc hm := by
  obtain ⟨r, hc2, hm2, e0, e1, hR2⟩ := S
  refine l_aload1 X dL_law_903 ?_
  refine l_aload0 X dL_law_904 ?_
  refine l_iload3 X dL_law_905 ?_
  refine l_iconst (v := 1) X dL_law_906 (by decide) ?_
  refine l_iadd X dL_law_907 ?_
  refine l_sld X dL_law_908 (hin 1 (by decide) (by decide)) ?_
  refine l_aload0 X dL_law_909 ?_
  refine l_iload3 X dL_law_910 ?_
  refine l_iconst (v := 2) X dL_law_911 (by decide) ?_
  refine l_iadd X dL_law_912 ?_
  refine l_sld X dL_law_913 (hin 2 (by decide) (by decide)) ?_
  refine l_aload0 X dL_law_914 ?_
  refine l_iload3 X dL_law_915 ?_
  refine l_iconst (v := 3) X dL_law_916 (by decide) ?_
  refine l_iadd X dL_law_917 ?_
  refine l_sld X dL_law_918 (hin 3 (by decide) (by decide)) ?_
  refine l_call0I (As := [.int (lXs Λ (i + 1).toNatClampNeg), .int (lXs Λ (i + 2).toNatClampNeg), .int (lXs Λ (i + 3).toNatClampNeg)]) X (fun q => c_X9_sheet e0) rfl yv_X9_sheet ml_L_123 rfl (by decide) (by decide) (Nat.le_of_ble_eq_true rfl) dL_law_919 ?_
  refine l_aload2 X dL_law_922 ?_
  refine l_aload0 X dL_law_923 ?_
  refine l_iload3 X dL_law_924 ?_
  refine l_iconst (v := 1) X dL_law_925 (by decide) ?_
  refine l_iadd X dL_law_926 ?_
  refine l_sld X dL_law_927 (hin 1 (by decide) (by decide)) ?_
  refine l_aload0 X dL_law_928 ?_
  refine l_iload3 X dL_law_929 ?_
  refine l_iconst (v := 2) X dL_law_930 (by decide) ?_
  refine l_iadd X dL_law_931 ?_
  refine l_sld X dL_law_932 (hin 2 (by decide) (by decide)) ?_
  refine l_aload0 X dL_law_933 ?_
  refine l_iload3 X dL_law_934 ?_
  refine l_iconst (v := 3) X dL_law_935 (by decide) ?_
  refine l_iadd X dL_law_936 ?_
  refine l_sld X dL_law_937 (hin 3 (by decide) (by decide)) ?_
  refine l_call1I (As := [.int (lXs Λ (i + 1).toNatClampNeg), .int (lXs Λ (i + 2).toNatClampNeg), .int (lXs Λ (i + 3).toNatClampNeg)]) X (fun q => c_X10_sheet e1) rfl yv_X10_sheet ml_L_126 rfl (by decide) (by decide) (Nat.le_of_ble_eq_true rfl) dL_law_938 ?_
  refine l_icmp_eq (tgt := 1208) X dL_law_941 (by decide) (fun _ => ?_) (fun z => absurd rfl z)
  exact K _ _ hR2
set_option maxRecDepth 4000 in
theorem l_case27 {Λ : l_T} {i : Int32} {hc hm : hp_T} {Rel : hp_T → hp_T → Prop} (X : lC Λ) (hin : ∀ k : Int32, 0 ≤ k → k ≤ 5 → vp_in (i + k) (lLn Λ)) (S : stp Rel (f_X9_lose (lXs Λ (i + 1).toNatClampNeg) hc) (f_X10_lose (lXs Λ (i + 1).toNatClampNeg) hm)) (K : ∀ hc2 hm2, Rel hc2 hm2 → lA Λ 1208 i [] hc2 hm2) : lA Λ 946 i [] hc hm := by
  obtain ⟨r, hc2, hm2, e0, e1, hR2⟩ := S
  refine l_aload1 X dL_law_946 ?_
  refine l_aload0 X dL_law_947 ?_
  refine l_iload3 X dL_law_948 ?_
  refine l_iconst (v := 1) X dL_law_949 (by decide) ?_
  refine l_iadd X dL_law_950 ?_
  refine l_sld X dL_law_951 (hin 1 (by decide) (by decide)) ?_
  refine l_call0I (As := [.int (lXs Λ (i + 1).toNatClampNeg)]) X (fun q => c_X9_lose e0) rfl yv_X9_lose ml_L_127 rfl (by decide) (by decide) (Nat.le_of_ble_eq_true rfl) dL_law_952 ?_
  refine l_aload2 X dL_law_955 ?_
  refine l_aload0 X dL_law_956 ?_
  refine l_iload3 X dL_law_957 ?_
  refine l_iconst (v := 1) X dL_law_958 (by decide) ?_
  refine l_iadd X dL_law_959 ?_
  refine l_sld X dL_law_960 (hin 1 (by decide) (by decide)) ?_
  refine l_call1I (As := [.int (lXs Λ (i + 1).toNatClampNeg)]) X (fun q => c_X10_lose e1) rfl yv_X10_lose ml_L_130 rfl (by decide) (by decide) (Nat.le_of_ble_eq_true rfl) dL_law_961 ?_
  refine l_icmp_eq (tgt := 1208) X dL_law_964 (by decide) (fun _ => ?_) (fun z => absurd rfl z)
  exact K _ _ hR2
set_option maxRecDepth 4000 in
theorem l_case28 {Λ : l_T} {i : Int32} {hc hm : hp_T} {Rel : hp_T → hp_T → Prop} (X : lC Λ) (hin : ∀ k : Int32, 0 ≤ k → k ≤ 5 → vp_in (i + k) (lLn Λ)) (S : stp Rel (f_X9_lay (lXs Λ (i + 1).toNatClampNeg) (lXs Λ (i + 2).toNatClampNeg) (lXs Λ (i + 3).toNatClampNeg) (lXs Λ (i + 4).toNatClampNeg) hc) (f_X10_lay (lXs Λ (i + 1).toNatClampNeg) (lXs Λ (i + 2).toNatClampNeg) (lXs Λ (i + 3).toNatClampNeg) (lXs Λ (i + 4).toNatClampNeg) hm)) (K : ∀ hc2 hm2, Rel hc2 hm2 → lA Λ 1208 i [] hc2 hm2) : lA Λ 969 i [] hc hm := by
  obtain ⟨r, hc2, hm2, e0, e1, hR2⟩ := S
  refine l_aload1 X dL_law_969 ?_
  refine l_aload0 X dL_law_970 ?_
  refine l_iload3 X dL_law_971 ?_
  refine l_iconst (v := 1) X dL_law_972 (by decide) ?_
  refine l_iadd X dL_law_973 ?_
  refine l_sld X dL_law_974 (hin 1 (by decide) (by decide)) ?_
  refine l_aload0 X dL_law_975 ?_
  refine l_iload3 X dL_law_976 ?_
  refine l_iconst (v := 2) X dL_law_977 (by decide) ?_
  refine l_iadd X dL_law_978 ?_
  refine l_sld X dL_law_979 (hin 2 (by decide) (by decide)) ?_
  refine l_aload0 X dL_law_980 ?_
  refine l_iload3 X dL_law_981 ?_
  refine l_iconst (v := 3) X dL_law_982 (by decide) ?_
  refine l_iadd X dL_law_983 ?_
  refine l_sld X dL_law_984 (hin 3 (by decide) (by decide)) ?_
  refine l_aload0 X dL_law_985 ?_
  refine l_iload3 X dL_law_986 ?_
  refine l_iconst (v := 4) X dL_law_987 (by decide) ?_
  refine l_iadd X dL_law_988 ?_
  refine l_sld X dL_law_989 (hin 4 (by decide) (by decide)) ?_
  refine l_call0I (As := [.int (lXs Λ (i + 1).toNatClampNeg), .int (lXs Λ (i + 2).toNatClampNeg), .int (lXs Λ (i + 3).toNatClampNeg), .int (lXs Λ (i + 4).toNatClampNeg)]) X (fun q => c_X9_lay e0) rfl yv_X9_lay ml_L_131 rfl (by decide) (by decide) (Nat.le_of_ble_eq_true rfl) dL_law_990 ?_
  refine l_aload2 X dL_law_993 ?_
  refine l_aload0 X dL_law_994 ?_
  refine l_iload3 X dL_law_995 ?_
  refine l_iconst (v := 1) X dL_law_996 (by decide) ?_
  refine l_iadd X dL_law_997 ?_
  refine l_sld X dL_law_998 (hin 1 (by decide) (by decide)) ?_
  refine l_aload0 X dL_law_999 ?_
  refine l_iload3 X dL_law_1000 ?_
  refine l_iconst (v := 2) X dL_law_1001 (by decide) ?_
  refine l_iadd X dL_law_1002 ?_
  refine l_sld X dL_law_1003 (hin 2 (by decide) (by decide)) ?_
  refine l_aload0 X dL_law_1004 ?_
  refine l_iload3 X dL_law_1005 ?_
  refine l_iconst (v := 3) X dL_law_1006 (by decide) ?_
  refine l_iadd X dL_law_1007 ?_
  refine l_sld X dL_law_1008 (hin 3 (by decide) (by decide)) ?_
  refine l_aload0 X dL_law_1009 ?_
  refine l_iload3 X dL_law_1010 ?_
  refine l_iconst (v := 4) X dL_law_1011 (by decide) ?_
  refine l_iadd X dL_law_1012 ?_
  refine l_sld X dL_law_1013 (hin 4 (by decide) (by decide)) ?_
  refine l_call1I (As := [.int (lXs Λ (i + 1).toNatClampNeg), .int (lXs Λ (i + 2).toNatClampNeg), .int (lXs Λ (i + 3).toNatClampNeg), .int (lXs Λ (i + 4).toNatClampNeg)]) X (fun q => c_X10_lay e1) rfl yv_X10_lay ml_L_134 rfl (by decide) (by decide) (Nat.le_of_ble_eq_true rfl) dL_law_1014 ?_
  refine l_icmp_eq (tgt := 1208) X dL_law_1017 (by decide) (fun _ => ?_) (fun z => absurd rfl z)
  exact K _ _ hR2
set_option maxRecDepth 4000 in
theorem l_case29 {Λ : l_T} {i : Int32} {hc hm : hp_T} {Rel : hp_T → hp_T → Prop} (X : lC Λ) (hin : ∀ k : Int32, 0 ≤ k → k ≤ 5 → vp_in (i + k) (lLn Λ)) (S : stp Rel (f_X9_get (lXs Λ (i + 1).toNatClampNeg) (lXs Λ (i + 2).toNatClampNeg) (lXs Λ (i + 3).toNatClampNeg) hc) (f_X10_get (lXs Λ (i + 1).toNatClampNeg) (lXs Λ (i + 2).toNatClampNeg) (lXs Λ (i + 3).toNatClampNeg) hm)) (K : ∀ hc2 hm2, Rel hc2 hm2 → lA Λ 1208 i [] hc2 hm2) : lA Λ 1022 i [] hc hm := by
  obtain ⟨r, hc2, hm2, e0, e1, hR2⟩ := S
  refine l_aload1 X dL_law_1022 ?_
  refine l_aload0 X dL_law_1023 ?_
  refine l_iload3 X dL_law_1024 ?_
  refine l_iconst (v := 1) X dL_law_1025 (by decide) ?_
  refine l_iadd X dL_law_1026 ?_
  refine l_sld X dL_law_1027 (hin 1 (by decide) (by decide)) ?_
  refine l_aload0 X dL_law_1028 ?_
  refine l_iload3 X dL_law_1029 ?_
  refine l_iconst (v := 2) X dL_law_1030 (by decide) ?_
  refine l_iadd X dL_law_1031 ?_
  refine l_sld X dL_law_1032 (hin 2 (by decide) (by decide)) ?_
  refine l_aload0 X dL_law_1033 ?_
  refine l_iload3 X dL_law_1034 ?_
  refine l_iconst (v := 3) X dL_law_1035 (by decide) ?_
  refine l_iadd X dL_law_1036 ?_
  refine l_sld X dL_law_1037 (hin 3 (by decide) (by decide)) ?_
  refine l_call0I (As := [.int (lXs Λ (i + 1).toNatClampNeg), .int (lXs Λ (i + 2).toNatClampNeg), .int (lXs Λ (i + 3).toNatClampNeg)]) X (fun q => c_X9_get e0) rfl yv_X9_get ml_L_135 rfl (by decide) (by decide) (Nat.le_of_ble_eq_true rfl) dL_law_1038 ?_
  refine l_aload2 X dL_law_1041 ?_
  refine l_aload0 X dL_law_1042 ?_
  refine l_iload3 X dL_law_1043 ?_
  refine l_iconst (v := 1) X dL_law_1044 (by decide) ?_
  refine l_iadd X dL_law_1045 ?_
  refine l_sld X dL_law_1046 (hin 1 (by decide) (by decide)) ?_
  refine l_aload0 X dL_law_1047 ?_
  refine l_iload3 X dL_law_1048 ?_
  refine l_iconst (v := 2) X dL_law_1049 (by decide) ?_
  refine l_iadd X dL_law_1050 ?_
  refine l_sld X dL_law_1051 (hin 2 (by decide) (by decide)) ?_
  refine l_aload0 X dL_law_1052 ?_
  refine l_iload3 X dL_law_1053 ?_
  refine l_iconst (v := 3) X dL_law_1054 (by decide) ?_
  refine l_iadd X dL_law_1055 ?_
  refine l_sld X dL_law_1056 (hin 3 (by decide) (by decide)) ?_
  refine l_call1I (As := [.int (lXs Λ (i + 1).toNatClampNeg), .int (lXs Λ (i + 2).toNatClampNeg), .int (lXs Λ (i + 3).toNatClampNeg)]) X (fun q => c_X10_get e1) rfl yv_X10_get ml_L_138 rfl (by decide) (by decide) (Nat.le_of_ble_eq_true rfl) dL_law_1057 ?_
  refine l_icmp_eq (tgt := 1208) X dL_law_1060 (by decide) (fun _ => ?_) (fun z => absurd rfl z)
  exact K _ _ hR2
set_option maxRecDepth 4000 in
theorem l_case30 {Λ : l_T} {i : Int32} {hc hm : hp_T} {Rel : hp_T → hp_T → Prop} (X : lC Λ) (hin : ∀ k : Int32, 0 ≤ k → k ≤ 5 → vp_in (i + k) (lLn Λ)) (S : stp Rel (f_X9_copy (lXs Λ (i + 1).toNatClampNeg) (lXs Λ (i + 2).toNatClampNeg) (lXs Λ (i + 3).toNatClampNeg) (lXs Λ (i + 4).toNatClampNeg) (lXs Λ (i + 5).toNatClampNeg) hc) (f_X10_copy (lXs Λ (i + 1).toNatClampNeg) (lXs Λ (i + 2).toNatClampNeg) (lXs Λ (i + 3).toNatClampNeg) (lXs Λ (i + 4).toNatClampNeg) (lXs Λ (i + 5).toNatClampNeg) hm)) (K : ∀ hc2 hm2, Rel hc2 hm2 → lA Λ 1208 i [] hc2 hm2) : lA Λ 1065 i [] hc hm := by
  obtain ⟨r, hc2, hm2, e0, e1, hR2⟩ := S
  refine l_aload1 X dL_law_1065 ?_
  refine l_aload0 X dL_law_1066 ?_
  refine l_iload3 X dL_law_1067 ?_
  refine l_iconst (v := 1) X dL_law_1068 (by decide) ?_
  refine l_iadd X dL_law_1069 ?_
  refine l_sld X dL_law_1070 (hin 1 (by decide) (by decide)) ?_
  refine l_aload0 X dL_law_1071 ?_
  refine l_iload3 X dL_law_1072 ?_
  refine l_iconst (v := 2) X dL_law_1073 (by decide) ?_
  refine l_iadd X dL_law_1074 ?_
  refine l_sld X dL_law_1075 (hin 2 (by decide) (by decide)) ?_
  refine l_aload0 X dL_law_1076 ?_
  refine l_iload3 X dL_law_1077 ?_
  refine l_iconst (v := 3) X dL_law_1078 (by decide) ?_
  refine l_iadd X dL_law_1079 ?_
  refine l_sld X dL_law_1080 (hin 3 (by decide) (by decide)) ?_
  refine l_aload0 X dL_law_1081 ?_
  refine l_iload3 X dL_law_1082 ?_
  refine l_iconst (v := 4) X dL_law_1083 (by decide) ?_
  refine l_iadd X dL_law_1084 ?_
  refine l_sld X dL_law_1085 (hin 4 (by decide) (by decide)) ?_
  refine l_aload0 X dL_law_1086 ?_
  refine l_iload3 X dL_law_1087 ?_
  refine l_iconst (v := 5) X dL_law_1088 (by decide) ?_
  refine l_iadd X dL_law_1089 ?_
  refine l_sld X dL_law_1090 (hin 5 (by decide) (by decide)) ?_
  refine l_call0I (As := [.int (lXs Λ (i + 1).toNatClampNeg), .int (lXs Λ (i + 2).toNatClampNeg), .int (lXs Λ (i + 3).toNatClampNeg), .int (lXs Λ (i + 4).toNatClampNeg), .int (lXs Λ (i + 5).toNatClampNeg)]) X (fun q => c_X9_copy e0) rfl yv_X9_copy ml_L_139 rfl (by decide) (by decide) (Nat.le_of_ble_eq_true rfl) dL_law_1091 ?_
  refine l_aload2 X dL_law_1094 ?_
  refine l_aload0 X dL_law_1095 ?_
  refine l_iload3 X dL_law_1096 ?_
  refine l_iconst (v := 1) X dL_law_1097 (by decide) ?_
  refine l_iadd X dL_law_1098 ?_
  refine l_sld X dL_law_1099 (hin 1 (by decide) (by decide)) ?_
  refine l_aload0 X dL_law_1100 ?_
  refine l_iload3 X dL_law_1101 ?_
  refine l_iconst (v := 2) X dL_law_1102 (by decide) ?_
  refine l_iadd X dL_law_1103 ?_
  refine l_sld X dL_law_1104 (hin 2 (by decide) (by decide)) ?_
  refine l_aload0 X dL_law_1105 ?_
  refine l_iload3 X dL_law_1106 ?_
  refine l_iconst (v := 3) X dL_law_1107 (by decide) ?_
  refine l_iadd X dL_law_1108 ?_
  refine l_sld X dL_law_1109 (hin 3 (by decide) (by decide)) ?_
  refine l_aload0 X dL_law_1110 ?_
  refine l_iload3 X dL_law_1111 ?_
  refine l_iconst (v := 4) X dL_law_1112 (by decide) ?_
  refine l_iadd X dL_law_1113 ?_
  refine l_sld X dL_law_1114 (hin 4 (by decide) (by decide)) ?_
  refine l_aload0 X dL_law_1115 ?_
  refine l_iload3 X dL_law_1116 ?_
  refine l_iconst (v := 5) X dL_law_1117 (by decide) ?_
  refine l_iadd X dL_law_1118 ?_
  refine l_sld X dL_law_1119 (hin 5 (by decide) (by decide)) ?_
  refine l_call1I (As := [.int (lXs Λ (i + 1).toNatClampNeg), .int (lXs Λ (i + 2).toNatClampNeg), .int (lXs Λ (i + 3).toNatClampNeg), .int (lXs Λ (i + 4).toNatClampNeg), .int (lXs Λ (i + 5).toNatClampNeg)]) X (fun q => c_X10_copy e1) rfl yv_X10_copy ml_L_143 rfl (by decide) (by decide) (Nat.le_of_ble_eq_true rfl) dL_law_1120 ?_
  refine l_icmp_eq (tgt := 1208) X dL_law_1123 (by decide) (fun _ => ?_) (fun z => absurd rfl z)
  exact K _ _ hR2
set_option maxRecDepth 4000 in
theorem l_case31 {Λ : l_T} {i : Int32} {hc hm : hp_T} {Rel : hp_T → hp_T → Prop} (X : lC Λ) (hin : ∀ k : Int32, 0 ≤ k → k ≤ 5 → vp_in (i + k) (lLn Λ)) (S : stp Rel (f_X9_write (lXs Λ (i + 1).toNatClampNeg) (lXs Λ (i + 2).toNatClampNeg) (lXs Λ (i + 3).toNatClampNeg) hc) (f_X10_write (lXs Λ (i + 1).toNatClampNeg) (lXs Λ (i + 2).toNatClampNeg) (lXs Λ (i + 3).toNatClampNeg) hm)) (K : ∀ hc2 hm2, Rel hc2 hm2 → lA Λ 1208 i [] hc2 hm2) : lA Λ 1128 i [] hc hm := by
  obtain ⟨r, hc2, hm2, e0, e1, hR2⟩ := S
  refine l_aload1 X dL_law_1128 ?_
  refine l_aload0 X dL_law_1129 ?_
  refine l_iload3 X dL_law_1130 ?_
  refine l_iconst (v := 1) X dL_law_1131 (by decide) ?_
  refine l_iadd X dL_law_1132 ?_
  refine l_sld X dL_law_1133 (hin 1 (by decide) (by decide)) ?_
  refine l_aload0 X dL_law_1134 ?_
  refine l_iload3 X dL_law_1135 ?_
  refine l_iconst (v := 2) X dL_law_1136 (by decide) ?_
  refine l_iadd X dL_law_1137 ?_
  refine l_sld X dL_law_1138 (hin 2 (by decide) (by decide)) ?_
  refine l_aload0 X dL_law_1139 ?_
  refine l_iload3 X dL_law_1140 ?_
  refine l_iconst (v := 3) X dL_law_1141 (by decide) ?_
  refine l_iadd X dL_law_1142 ?_
  refine l_sld X dL_law_1143 (hin 3 (by decide) (by decide)) ?_
  refine l_call0I (As := [.int (lXs Λ (i + 1).toNatClampNeg), .int (lXs Λ (i + 2).toNatClampNeg), .int (lXs Λ (i + 3).toNatClampNeg)]) X (fun q => c_X9_write e0) rfl yv_X9_write ml_L_144 rfl (by decide) (by decide) (Nat.le_of_ble_eq_true rfl) dL_law_1144 ?_
  refine l_aload2 X dL_law_1147 ?_
  refine l_aload0 X dL_law_1148 ?_
  refine l_iload3 X dL_law_1149 ?_
  refine l_iconst (v := 1) X dL_law_1150 (by decide) ?_
  refine l_iadd X dL_law_1151 ?_
  refine l_sld X dL_law_1152 (hin 1 (by decide) (by decide)) ?_
  refine l_aload0 X dL_law_1153 ?_
  refine l_iload3 X dL_law_1154 ?_
  refine l_iconst (v := 2) X dL_law_1155 (by decide) ?_
  refine l_iadd X dL_law_1156 ?_
  refine l_sld X dL_law_1157 (hin 2 (by decide) (by decide)) ?_
  refine l_aload0 X dL_law_1158 ?_
  refine l_iload3 X dL_law_1159 ?_
  refine l_iconst (v := 3) X dL_law_1160 (by decide) ?_
  refine l_iadd X dL_law_1161 ?_
  refine l_sld X dL_law_1162 (hin 3 (by decide) (by decide)) ?_
  refine l_call1I (As := [.int (lXs Λ (i + 1).toNatClampNeg), .int (lXs Λ (i + 2).toNatClampNeg), .int (lXs Λ (i + 3).toNatClampNeg)]) X (fun q => c_X10_write e1) rfl yv_X10_write ml_L_147 rfl (by decide) (by decide) (Nat.le_of_ble_eq_true rfl) dL_law_1163 ?_
  refine l_icmp_eq (tgt := 1208) X dL_law_1166 (by decide) (fun _ => ?_) (fun z => absurd rfl z)
  exact K _ _ hR2
set_option maxRecDepth 4000 in
theorem l_case32 {Λ : l_T} {i : Int32} {hc hm : hp_T} {Rel : hp_T → hp_T → Prop} (X : lC Λ) (hin : ∀ k : Int32, 0 ≤ k → k ≤ 5 → vp_in (i + k) (lLn Λ)) (S : stp Rel (f_X9_count (lXs Λ (i + 1).toNatClampNeg) hc) (f_X10_count (lXs Λ (i + 1).toNatClampNeg) hm)) (K : ∀ hc2 hm2, Rel hc2 hm2 → lA Λ 1208 i [] hc2 hm2) : lA Λ 1171 i [] hc hm := by
  obtain ⟨r, hc2, hm2, e0, e1, hR2⟩ := S
  refine l_aload1 X dL_law_1171 ?_
  refine l_aload0 X dL_law_1172 ?_
  refine l_iload3 X dL_law_1173 ?_
  refine l_iconst (v := 1) X dL_law_1174 (by decide) ?_
  refine l_iadd X dL_law_1175 ?_
  refine l_sld X dL_law_1176 (hin 1 (by decide) (by decide)) ?_
  refine l_call0I (As := [.int (lXs Λ (i + 1).toNatClampNeg)]) X (fun q => c_X9_count e0) rfl yv_X9_count ml_L_148 rfl (by decide) (by decide) (Nat.le_of_ble_eq_true rfl) dL_law_1177 ?_
  refine l_aload2 X dL_law_1180 ?_
  refine l_aload0 X dL_law_1181 ?_
  refine l_iload3 X dL_law_1182 ?_
  refine l_iconst (v := 1) X dL_law_1183 (by decide) ?_
  refine l_iadd X dL_law_1184 ?_
  refine l_sld X dL_law_1185 (hin 1 (by decide) (by decide)) ?_
  refine l_call1I (As := [.int (lXs Λ (i + 1).toNatClampNeg)]) X (fun q => c_X10_count e1) rfl yv_X10_count ml_L_151 rfl (by decide) (by decide) (Nat.le_of_ble_eq_true rfl) dL_law_1186 ?_
  refine l_icmp_eq (tgt := 1208) X dL_law_1189 (by decide) (fun _ => ?_) (fun z => absurd rfl z)
  exact K _ _ hR2
set_option maxRecDepth 4000 in
theorem l_case33 {Λ : l_T} {i : Int32} {hc hm : hp_T} {Rel : hp_T → hp_T → Prop} (X : lC Λ) (hin : ∀ k : Int32, 0 ≤ k → k ≤ 5 → vp_in (i + k) (lLn Λ)) (S : stp Rel (f_X9_digest  hc) (f_X10_digest  hm)) (K : ∀ hc2 hm2, Rel hc2 hm2 → lA Λ 1208 i [] hc2 hm2) : lA Λ 1194 i [] hc hm := by
  obtain ⟨r, hc2, hm2, e0, e1, hR2⟩ := S
  refine l_aload1 X dL_law_1194 ?_
  refine l_call0L (As := []) X (fun q => c_X9_digest e0) rfl yv_X9_digest ml_L_152 rfl (by decide) (by decide) (Nat.le_of_ble_eq_true rfl) dL_law_1195 ?_
  refine l_aload2 X dL_law_1198 ?_
  refine l_call1L (As := []) X (fun q => c_X10_digest e1) rfl yv_X10_digest ml_L_155 rfl (by decide) (by decide) (Nat.le_of_ble_eq_true rfl) dL_law_1199 ?_
  refine l_lcmp X dL_law_1202 ?_
  rw [lg_self]
  refine l_if_eq (tgt := 1208) X dL_law_1203 (by decide) (fun _ => ?_) (fun z => absurd rfl z)
  exact K _ _ hR2
theorem l_bnd {j L : Nat} (hj : j + 6 ≤ L) (hL : L ≤ 3072) : ∀ k : Int32, 0 ≤ k → k ≤ 5 → vp_in (nI j + k) L := by
  intro k h0 h5
  rw [vp_in_iff]
  have e0 : 0 ≤ k.toInt := Int32.le_iff_toInt_le.mp h0
  have e5 : k.toInt ≤ 5 := Int32.le_iff_toInt_le.mp h5
  have ej : (nI j).toInt = (j : Int) := nI_toInt (by omega)
  have es : (nI j + k).toInt = (j : Int) + k.toInt := by
    rw [Int32.toInt_add, ej]
    exact Int.bmod_eq_of_le (by omega) (by omega)
  omega

theorem l_gt {j L : Nat} (hb : j ≤ L) (hj : ¬ j + 6 ≤ L) (hL : L ≤ 3072) : nI L - 6 < nI j := by
  rw [Int32.lt_iff_toInt_lt]
  have e1 : (nI L - 6).toInt = (L : Int) - 6 := by
    rw [Int32.toInt_sub, nI_toInt (by omega)]
    exact Int.bmod_eq_of_le (by show _ ≤ (L : Int) - 6; omega) (by show (L : Int) - 6 < _; omega)
  rw [e1]
  rw [nI_toInt (by omega)]; omega
theorem l_ngt {j L : Nat} (hj : j + 6 ≤ L) (hL : L ≤ 3072) : ¬ nI L - 6 < nI j := by
  rw [Int32.lt_iff_toInt_lt]
  have e1 : (nI L - 6).toInt = (L : Int) - 6 := by
    rw [Int32.toInt_sub, nI_toInt (by omega)]
    exact Int.bmod_eq_of_le (by show _ ≤ (L : Int) - 6; omega) (by show (L : Int) - 6 < _; omega)
  rw [e1, nI_toInt (by omega)]; omega
set_option maxRecDepth 10000 in
set_option maxHeartbeats 4000000 in
theorem law_loop {Λ : l_T} {Rel : hp_T → hp_T → Prop} (S : LawSteps Rel) (X : lC Λ) (hL : lLn Λ ≤ 3072) : ∀ (n j : Nat) (hc hm : hp_T), Rel hc hm → j ≤ lLn Λ → lLn Λ < j + 6 * n + 6 → lA Λ 18 (nI j) [] hc hm := by
  intro n
  induction n with
  | zero =>
    intro j hc hm hR hjb hn
    refine l_iload3 X dL_law_18 ?_
    refine l_aload0 X dL_law_19 ?_
    refine l_len X dL_law_20 ?_
    refine l_bipush (v := 6) X dL_law_21 (by decide) ?_
    refine l_isub X dL_law_23 ?_
    refine l_icmp_gt (tgt := 1214) X dL_law_24 (by decide) (fun _ => ?_) (fun z => absurd (l_gt hjb (by omega) hL) z)
    refine l_iconst (v := 1) X dL_law_1214 (by decide) ?_
    exact l_ret (st := []) X dL_law_1215
  | succ n ih =>
    intro j hc hm hR hjb hn
    refine l_iload3 X dL_law_18 ?_
    refine l_aload0 X dL_law_19 ?_
    refine l_len X dL_law_20 ?_
    refine l_bipush (v := 6) X dL_law_21 (by decide) ?_
    refine l_isub X dL_law_23 ?_
    by_cases hj : j + 6 ≤ lLn Λ
    case neg =>
      refine l_icmp_gt (tgt := 1214) X dL_law_24 (by decide) (fun _ => ?_) (fun z => absurd (l_gt hjb (by omega) hL) z)
      refine l_iconst (v := 1) X dL_law_1214 (by decide) ?_
      exact l_ret (st := []) X dL_law_1215
    refine l_icmp_gt (tgt := 1214) X dL_law_24 (by decide) (fun z => absurd z (l_ngt hj hL)) (fun _ => ?_)
    have hb6 := l_bnd hj hL
    have K2 : ∀ hc2 hm2, Rel hc2 hm2 → lA Λ 1208 (nI j) [] hc2 hm2 := fun hc2 hm2 hR2 => by
      refine l_iinc (v := nI (j + 6)) X dL_law_1208 (nI_add j 6) ?_
      refine l_goto (tgt := 18) X dL_law_1211 (by decide) ?_
      exact ih (j + 6) hc2 hm2 hR2 hj (by omega)
    refine l_aload0 X dL_law_27 ?_
    refine l_iload3 X dL_law_28 ?_
    refine l_sld X dL_law_29 (by have := hb6 0 (by decide) (by decide); rwa [Int32.add_zero] at this) ?_
    refine l_bipush (v := 63) X dL_law_30 (by decide) ?_
    refine l_iand X dL_law_32 ?_
    by_cases c0 : lXs Λ (nI j).toNatClampNeg &&& 63 = 0
    · refine l_tableIn (tgt := 184) 0 X dL_law_33 c0 (by decide) (by decide) rfl (by decide) ?_
      exact l_case0 X hb6 (S.1 _ _ _ hc hm hR) K2
    by_cases c1 : lXs Λ (nI j).toNatClampNeg &&& 63 = 1
    · refine l_tableIn (tgt := 227) 1 X dL_law_33 c1 (by decide) (by decide) rfl (by decide) ?_
      exact l_case1 X hb6 (S.2.1 _ hc hm hR) K2
    by_cases c2 : lXs Λ (nI j).toNatClampNeg &&& 63 = 2
    · refine l_tableIn (tgt := 250) 2 X dL_law_33 c2 (by decide) (by decide) rfl (by decide) ?_
      exact l_case2 X hb6 (S.2.2.1 _ _ hc hm hR) K2
    by_cases c3 : lXs Λ (nI j).toNatClampNeg &&& 63 = 3
    · refine l_tableIn (tgt := 283) 3 X dL_law_33 c3 (by decide) (by decide) rfl (by decide) ?_
      exact l_case3 X hb6 (S.2.2.2.1 hc hm hR) K2
    by_cases c4 : lXs Λ (nI j).toNatClampNeg &&& 63 = 4
    · refine l_tableIn (tgt := 296) 4 X dL_law_33 c4 (by decide) (by decide) rfl (by decide) ?_
      exact l_case4 X hb6 (S.2.2.2.2.1 _ hc hm hR) K2
    by_cases c5 : lXs Λ (nI j).toNatClampNeg &&& 63 = 5
    · refine l_tableIn (tgt := 319) 5 X dL_law_33 c5 (by decide) (by decide) rfl (by decide) ?_
      exact l_case5 X hb6 (S.2.2.2.2.2.1 _ _ hc hm hR) K2
    by_cases c6 : lXs Λ (nI j).toNatClampNeg &&& 63 = 6
    · refine l_tableIn (tgt := 352) 6 X dL_law_33 c6 (by decide) (by decide) rfl (by decide) ?_
      exact l_case6 X hb6 (S.2.2.2.2.2.2.1 _ hc hm hR) K2
    by_cases c7 : lXs Λ (nI j).toNatClampNeg &&& 63 = 7
    · refine l_tableIn (tgt := 375) 7 X dL_law_33 c7 (by decide) (by decide) rfl (by decide) ?_
      exact l_case7 X hb6 (S.2.2.2.2.2.2.2.1 _ hc hm hR) K2
    by_cases c8 : lXs Λ (nI j).toNatClampNeg &&& 63 = 8
    · refine l_tableIn (tgt := 398) 8 X dL_law_33 c8 (by decide) (by decide) rfl (by decide) ?_
      exact l_case8 X hb6 (S.2.2.2.2.2.2.2.2.1 hc hm hR) K2
    by_cases c9 : lXs Λ (nI j).toNatClampNeg &&& 63 = 9
    · refine l_tableIn (tgt := 411) 9 X dL_law_33 c9 (by decide) (by decide) rfl (by decide) ?_
      exact l_case9 X hb6 (S.2.2.2.2.2.2.2.2.2.1 _ _ hc hm hR) K2
    by_cases c10 : lXs Λ (nI j).toNatClampNeg &&& 63 = 10
    · refine l_tableIn (tgt := 444) 10 X dL_law_33 c10 (by decide) (by decide) rfl (by decide) ?_
      exact l_case10 X hb6 (S.2.2.2.2.2.2.2.2.2.2.1 _ hc hm hR) K2
    by_cases c11 : lXs Λ (nI j).toNatClampNeg &&& 63 = 11
    · refine l_tableIn (tgt := 467) 11 X dL_law_33 c11 (by decide) (by decide) rfl (by decide) ?_
      exact l_case11 X hb6 (S.2.2.2.2.2.2.2.2.2.2.2.1 _ _ hc hm hR) K2
    by_cases c12 : lXs Λ (nI j).toNatClampNeg &&& 63 = 12
    · refine l_tableIn (tgt := 500) 12 X dL_law_33 c12 (by decide) (by decide) rfl (by decide) ?_
      exact l_case12 X hb6 (S.2.2.2.2.2.2.2.2.2.2.2.2.1 _ _ _ hc hm hR) K2
    by_cases c13 : lXs Λ (nI j).toNatClampNeg &&& 63 = 13
    · refine l_tableIn (tgt := 543) 13 X dL_law_33 c13 (by decide) (by decide) rfl (by decide) ?_
      exact l_case13 X hb6 (S.2.2.2.2.2.2.2.2.2.2.2.2.2.1 _ _ hc hm hR) K2
    by_cases c14 : lXs Λ (nI j).toNatClampNeg &&& 63 = 14
    · refine l_tableIn (tgt := 576) 14 X dL_law_33 c14 (by decide) (by decide) rfl (by decide) ?_
      exact l_case14 X hb6 (S.2.2.2.2.2.2.2.2.2.2.2.2.2.2.1 _ _ hc hm hR) K2
    by_cases c15 : lXs Λ (nI j).toNatClampNeg &&& 63 = 15
    · refine l_tableIn (tgt := 609) 15 X dL_law_33 c15 (by decide) (by decide) rfl (by decide) ?_
      exact l_case15 X hb6 (S.2.2.2.2.2.2.2.2.2.2.2.2.2.2.2.1 _ _ hc hm hR) K2
    by_cases c16 : lXs Λ (nI j).toNatClampNeg &&& 63 = 16
    · refine l_tableIn (tgt := 642) 16 X dL_law_33 c16 (by decide) (by decide) rfl (by decide) ?_
      exact l_case16 X hb6 (S.2.2.2.2.2.2.2.2.2.2.2.2.2.2.2.2.1 _ _ _ _ hc hm hR) K2
    by_cases c17 : lXs Λ (nI j).toNatClampNeg &&& 63 = 17
    · refine l_tableIn (tgt := 695) 17 X dL_law_33 c17 (by decide) (by decide) rfl (by decide) ?_
      exact l_case17 X hb6 (S.2.2.2.2.2.2.2.2.2.2.2.2.2.2.2.2.2.1 _ _ _ hc hm hR) K2
    by_cases c18 : lXs Λ (nI j).toNatClampNeg &&& 63 = 18
    · refine l_tableIn (tgt := 738) 18 X dL_law_33 c18 (by decide) (by decide) rfl (by decide) ?_
      exact l_case18 X hb6 (S.2.2.2.2.2.2.2.2.2.2.2.2.2.2.2.2.2.2.1 hc hm hR) K2
    by_cases c19 : lXs Λ (nI j).toNatClampNeg &&& 63 = 19
    · refine l_tableIn (tgt := 751) 19 X dL_law_33 c19 (by decide) (by decide) rfl (by decide) ?_
      exact l_case19 X hb6 (S.2.2.2.2.2.2.2.2.2.2.2.2.2.2.2.2.2.2.2.1 hc hm hR) K2
    by_cases c20 : lXs Λ (nI j).toNatClampNeg &&& 63 = 20
    · refine l_tableIn (tgt := 764) 20 X dL_law_33 c20 (by decide) (by decide) rfl (by decide) ?_
      exact l_case20 X hb6 (S.2.2.2.2.2.2.2.2.2.2.2.2.2.2.2.2.2.2.2.2.1 _ hc hm hR) K2
    by_cases c21 : lXs Λ (nI j).toNatClampNeg &&& 63 = 21
    · refine l_tableIn (tgt := 787) 21 X dL_law_33 c21 (by decide) (by decide) rfl (by decide) ?_
      exact l_case21 X hb6 (S.2.2.2.2.2.2.2.2.2.2.2.2.2.2.2.2.2.2.2.2.2.1 _ hc hm hR) K2
    by_cases c22 : lXs Λ (nI j).toNatClampNeg &&& 63 = 22
    · refine l_tableIn (tgt := 810) 22 X dL_law_33 c22 (by decide) (by decide) rfl (by decide) ?_
      exact l_case22 X hb6 (S.2.2.2.2.2.2.2.2.2.2.2.2.2.2.2.2.2.2.2.2.2.2.1 hc hm hR) K2
    by_cases c23 : lXs Λ (nI j).toNatClampNeg &&& 63 = 23
    · refine l_tableIn (tgt := 823) 23 X dL_law_33 c23 (by decide) (by decide) rfl (by decide) ?_
      exact l_case23 X hb6 (S.2.2.2.2.2.2.2.2.2.2.2.2.2.2.2.2.2.2.2.2.2.2.2.1 _ _ hc hm hR) K2
    by_cases c24 : lXs Λ (nI j).toNatClampNeg &&& 63 = 24
    · refine l_tableIn (tgt := 856) 24 X dL_law_33 c24 (by decide) (by decide) rfl (by decide) ?_
      exact l_case24 X hb6 (S.2.2.2.2.2.2.2.2.2.2.2.2.2.2.2.2.2.2.2.2.2.2.2.2.1 hc hm hR) K2
    by_cases c25 : lXs Λ (nI j).toNatClampNeg &&& 63 = 25
    · refine l_tableIn (tgt := 870) 25 X dL_law_33 c25 (by decide) (by decide) rfl (by decide) ?_
      exact l_case25 X hb6 (S.2.2.2.2.2.2.2.2.2.2.2.2.2.2.2.2.2.2.2.2.2.2.2.2.2.1 _ _ hc hm hR) K2
    by_cases c26 : lXs Λ (nI j).toNatClampNeg &&& 63 = 26
    · refine l_tableIn (tgt := 903) 26 X dL_law_33 c26 (by decide) (by decide) rfl (by decide) ?_
      exact l_case26 X hb6 (S.2.2.2.2.2.2.2.2.2.2.2.2.2.2.2.2.2.2.2.2.2.2.2.2.2.2.1 _ _ _ hc hm hR) K2
    by_cases c27 : lXs Λ (nI j).toNatClampNeg &&& 63 = 27
    · refine l_tableIn (tgt := 946) 27 X dL_law_33 c27 (by decide) (by decide) rfl (by decide) ?_
      exact l_case27 X hb6 (S.2.2.2.2.2.2.2.2.2.2.2.2.2.2.2.2.2.2.2.2.2.2.2.2.2.2.2.1 _ hc hm hR) K2
    by_cases c28 : lXs Λ (nI j).toNatClampNeg &&& 63 = 28
    · refine l_tableIn (tgt := 969) 28 X dL_law_33 c28 (by decide) (by decide) rfl (by decide) ?_
      exact l_case28 X hb6 (S.2.2.2.2.2.2.2.2.2.2.2.2.2.2.2.2.2.2.2.2.2.2.2.2.2.2.2.2.1 _ _ _ _ hc hm hR) K2
    by_cases c29 : lXs Λ (nI j).toNatClampNeg &&& 63 = 29
    · refine l_tableIn (tgt := 1022) 29 X dL_law_33 c29 (by decide) (by decide) rfl (by decide) ?_
      exact l_case29 X hb6 (S.2.2.2.2.2.2.2.2.2.2.2.2.2.2.2.2.2.2.2.2.2.2.2.2.2.2.2.2.2.1 _ _ _ hc hm hR) K2
    by_cases c30 : lXs Λ (nI j).toNatClampNeg &&& 63 = 30
    · refine l_tableIn (tgt := 1065) 30 X dL_law_33 c30 (by decide) (by decide) rfl (by decide) ?_
      exact l_case30 X hb6 (S.2.2.2.2.2.2.2.2.2.2.2.2.2.2.2.2.2.2.2.2.2.2.2.2.2.2.2.2.2.2.1 _ _ _ _ _ hc hm hR) K2
    by_cases c31 : lXs Λ (nI j).toNatClampNeg &&& 63 = 31
    · refine l_tableIn (tgt := 1128) 31 X dL_law_33 c31 (by decide) (by decide) rfl (by decide) ?_
      exact l_case31 X hb6 (S.2.2.2.2.2.2.2.2.2.2.2.2.2.2.2.2.2.2.2.2.2.2.2.2.2.2.2.2.2.2.2.1 _ _ _ hc hm hR) K2
    by_cases c32 : lXs Λ (nI j).toNatClampNeg &&& 63 = 32
    · refine l_tableIn (tgt := 1171) 32 X dL_law_33 c32 (by decide) (by decide) rfl (by decide) ?_
      exact l_case32 X hb6 (S.2.2.2.2.2.2.2.2.2.2.2.2.2.2.2.2.2.2.2.2.2.2.2.2.2.2.2.2.2.2.2.2.1 _ hc hm hR) K2
    by_cases c33 : lXs Λ (nI j).toNatClampNeg &&& 63 = 33
    · refine l_tableIn (tgt := 1194) 33 X dL_law_33 c33 (by decide) (by decide) rfl (by decide) ?_
      exact l_case33 X hb6 (S.2.2.2.2.2.2.2.2.2.2.2.2.2.2.2.2.2.2.2.2.2.2.2.2.2.2.2.2.2.2.2.2.2 hc hm hR) K2
    refine l_tableOut (tgt := 1208) X dL_law_33 (by have a0 := i32_ne 0 (by decide) c0; have a1 := i32_ne 1 (by decide) c1; have a2 := i32_ne 2 (by decide) c2; have a3 := i32_ne 3 (by decide) c3; have a4 := i32_ne 4 (by decide) c4; have a5 := i32_ne 5 (by decide) c5; have a6 := i32_ne 6 (by decide) c6; have a7 := i32_ne 7 (by decide) c7; have a8 := i32_ne 8 (by decide) c8; have a9 := i32_ne 9 (by decide) c9; have a10 := i32_ne 10 (by decide) c10; have a11 := i32_ne 11 (by decide) c11; have a12 := i32_ne 12 (by decide) c12; have a13 := i32_ne 13 (by decide) c13; have a14 := i32_ne 14 (by decide) c14; have a15 := i32_ne 15 (by decide) c15; have a16 := i32_ne 16 (by decide) c16; have a17 := i32_ne 17 (by decide) c17; have a18 := i32_ne 18 (by decide) c18; have a19 := i32_ne 19 (by decide) c19; have a20 := i32_ne 20 (by decide) c20; have a21 := i32_ne 21 (by decide) c21; have a22 := i32_ne 22 (by decide) c22; have a23 := i32_ne 23 (by decide) c23; have a24 := i32_ne 24 (by decide) c24; have a25 := i32_ne 25 (by decide) c25; have a26 := i32_ne 26 (by decide) c26; have a27 := i32_ne 27 (by decide) c27; have a28 := i32_ne 28 (by decide) c28; have a29 := i32_ne 29 (by decide) c29; have a30 := i32_ne 30 (by decide) c30; have a31 := i32_ne 31 (by decide) c31; have a32 := i32_ne 32 (by decide) c32; have a33 := i32_ne 33 (by decide) c33; omega) (by decide) ?_
    exact K2 _ _ hR
