def aN (Γ : g_T) (k : Nat) : Prop := match Γ with
  | (_, _, _, _, _, _, _, _, _, _, _, _, _, _, _, nL, _, _) => k < nL
def lo_mask : List Bool → List (Option Value) → List (Option Value)
  | true :: m, v :: r => v :: lo_mask m r
  | false :: m, _ :: r => none :: lo_mask m r
  | _, _ => []
theorem lo_mask_at : ∀ (m : List Bool) (b : List (Option Value)) (j : Nat) (v : Value), (lo_mask m b)[j]? = some (some v) → b[j]? = some (some v)
  | [], _, j, v, h => by simp [lo_mask] at h
  | true :: m, [], j, v, h => by simp [lo_mask] at h
  | false :: m, [], j, v, h => by simp [lo_mask] at h
  | true :: m, b :: r, 0, v, h => by simpa [lo_mask] using h
  | false :: m, b :: r, 0, v, h => by simp [lo_mask] at h
  | true :: m, b :: r, j + 1, v, h => by
    have := lo_mask_at m r j v (by simpa [lo_mask] using h)
    simpa using this
  | false :: m, b :: r, j + 1, v, h => by
    have := lo_mask_at m r j v (by simpa [lo_mask] using h)
    simpa using this
theorem lo_less {ls : Array Slot} {n : Nat} {b : List (Option Value)} (m : List Bool) (hl : lo_has ls n b) : lo_has ls n (lo_mask m b) := lo_of hl fun j v hj => by
  have := lo_mem b 0 j v (lo_mask_at m b j v hj)
  simpa using this
/-! rows of the abstract walk -/
theorem aI_iconst {Γ : g_T} {own : String} {cc : ByteArray} {fr lo pc : Nat} {lv : List (Option Value)} {st : List Value} {h : hp_T} {n : Int}{v : Int32} (X : aG Γ own cc fr lo) (d : decode cc pc = .ok (.iconst n, 1)) (hv : Int32.ofInt n = v) (K : aA Γ (pc + 1) lv (.int v :: st) h) : aA Γ pc lv st h := by
  obtain ⟨p, l, e, R, s, m, args, below, meth, c, Q, A, wsf, D, tys, nL, nc, ns⟩ := Γ
  obtain ⟨hx, hb, hml, hown, hts, hK, hA, hfr, hlo, hnc, hns⟩ := X
  intro H locs ls hP hD hS hl
  exact lv_iconst hx hb d hv (K H locs ls hP hD hS hl)
theorem aI_bipush {Γ : g_T} {own : String} {cc : ByteArray} {fr lo pc : Nat} {lv : List (Option Value)} {st : List Value} {h : hp_T} {n : Int}{v : Int32} (X : aG Γ own cc fr lo) (d : decode cc pc = .ok (.bipush n, 2)) (hv : (Int8.ofInt n).toInt32 = v) (K : aA Γ (pc + 2) lv (.int v :: st) h) : aA Γ pc lv st h := by
  obtain ⟨p, l, e, R, s, m, args, below, meth, c, Q, A, wsf, D, tys, nL, nc, ns⟩ := Γ
  obtain ⟨hx, hb, hml, hown, hts, hK, hA, hfr, hlo, hnc, hns⟩ := X
  intro H locs ls hP hD hS hl
  exact lv_bipush hx hb d hv (K H locs ls hP hD hS hl)
theorem aI_sipush {Γ : g_T} {own : String} {cc : ByteArray} {fr lo pc : Nat} {lv : List (Option Value)} {st : List Value} {h : hp_T} {n : Int}{v : Int32} (X : aG Γ own cc fr lo) (d : decode cc pc = .ok (.sipush n, 3)) (hv : (Int16.ofInt n).toInt32 = v) (K : aA Γ (pc + 3) lv (.int v :: st) h) : aA Γ pc lv st h := by
  obtain ⟨p, l, e, R, s, m, args, below, meth, c, Q, A, wsf, D, tys, nL, nc, ns⟩ := Γ
  obtain ⟨hx, hb, hml, hown, hts, hK, hA, hfr, hlo, hnc, hns⟩ := X
  intro H locs ls hP hD hS hl
  exact lv_sipush hx hb d hv (K H locs ls hP hD hS hl)
theorem aI_lconst {Γ : g_T} {own : String} {cc : ByteArray} {fr lo pc : Nat} {lv : List (Option Value)} {st : List Value} {h : hp_T} {n : Fin 2}{v : Int64} (X : aG Γ own cc fr lo) (d : decode cc pc = .ok (.lconst n, 1)) (hv : Int64.ofNat (n : Nat) = v) (K : aA Γ (pc + 1) lv (.long v :: st) h) : aA Γ pc lv st h := by
  obtain ⟨p, l, e, R, s, m, args, below, meth, c, Q, A, wsf, D, tys, nL, nc, ns⟩ := Γ
  obtain ⟨hx, hb, hml, hown, hts, hK, hA, hfr, hlo, hnc, hns⟩ := X
  intro H locs ls hP hD hS hl
  exact lv_lconst hx hb d hv (K H locs ls hP hD hS hl)
theorem aI_ldc {Γ : g_T} {own : String} {cc : ByteArray} {fr lo pc : Nat} {lv : List (Option Value)} {st : List Value} {h : hp_T} {index : Nat}{v : Int32} (X : aG Γ own cc fr lo) (d : decode cc pc = .ok (.ldc index, 2)) (hc : Cond.constant own index v ∈ gd_tbl) (K : aA Γ (pc + 2) lv (.int v :: st) h) : aA Γ pc lv st h := by
  obtain ⟨p, l, e, R, s, m, args, below, meth, c, Q, A, wsf, D, tys, nL, nc, ns⟩ := Γ
  obtain ⟨hx, hb, hml, hown, hts, hK, hA, hfr, hlo, hnc, hns⟩ := X
  intro H locs ls hP hD hS hl
  exact lv_ldc hx hb hown (hts _ hc) d (K H locs ls hP hD hS hl)
theorem aI_ldcw {Γ : g_T} {own : String} {cc : ByteArray} {fr lo pc : Nat} {lv : List (Option Value)} {st : List Value} {h : hp_T} {index : Nat}{v : Int32} (X : aG Γ own cc fr lo) (d : decode cc pc = .ok (.ldc_w index, 3)) (hc : Cond.constant own index v ∈ gd_tbl) (K : aA Γ (pc + 3) lv (.int v :: st) h) : aA Γ pc lv st h := by
  obtain ⟨p, l, e, R, s, m, args, below, meth, c, Q, A, wsf, D, tys, nL, nc, ns⟩ := Γ
  obtain ⟨hx, hb, hml, hown, hts, hK, hA, hfr, hlo, hnc, hns⟩ := X
  intro H locs ls hP hD hS hl
  exact lv_ldcw hx hb hown (hts _ hc) d (K H locs ls hP hD hS hl)
theorem aI_ldc2 {Γ : g_T} {own : String} {cc : ByteArray} {fr lo pc : Nat} {lv : List (Option Value)} {st : List Value} {h : hp_T} {index : Nat}{v : Int64} (X : aG Γ own cc fr lo) (d : decode cc pc = .ok (.ldc2_w index, 3)) (hc : Cond.constantLong own index v ∈ gd_tbl) (K : aA Γ (pc + 3) lv (.long v :: st) h) : aA Γ pc lv st h := by
  obtain ⟨p, l, e, R, s, m, args, below, meth, c, Q, A, wsf, D, tys, nL, nc, ns⟩ := Γ
  obtain ⟨hx, hb, hml, hown, hts, hK, hA, hfr, hlo, hnc, hns⟩ := X
  intro H locs ls hP hD hS hl
  exact lv_ldc2 hx hb hown (hts _ hc) d (K H locs ls hP hD hS hl)
theorem aI_iload_n {Γ : g_T} {own : String} {cc : ByteArray} {fr lo pc : Nat} {lv : List (Option Value)} {st : List Value} {h : hp_T} {k : Fin 4}{x : Int32} (X : aG Γ own cc fr lo) (d : decode cc pc = .ok (.iload_n k, 1)) (hv : lv[(k : Nat)]? = some (some (.int x))) (K : aA Γ (pc + 1) lv (.int x :: st) h) : aA Γ pc lv st h := by
  obtain ⟨p, l, e, R, s, m, args, below, meth, c, Q, A, wsf, D, tys, nL, nc, ns⟩ := Γ
  obtain ⟨hx, hb, hml, hown, hts, hK, hA, hfr, hlo, hnc, hns⟩ := X
  intro H locs ls hP hD hS hl
  exact lv_iload_n hx hb d rfl (lo_at hl hv) (K H locs ls hP hD hS hl)
theorem aI_iload {Γ : g_T} {own : String} {cc : ByteArray} {fr lo pc : Nat} {lv : List (Option Value)} {st : List Value} {h : hp_T} {k : Nat}{x : Int32} (X : aG Γ own cc fr lo) (d : decode cc pc = .ok (.iload k, 2)) (hv : lv[k]? = some (some (.int x))) (K : aA Γ (pc + 2) lv (.int x :: st) h) : aA Γ pc lv st h := by
  obtain ⟨p, l, e, R, s, m, args, below, meth, c, Q, A, wsf, D, tys, nL, nc, ns⟩ := Γ
  obtain ⟨hx, hb, hml, hown, hts, hK, hA, hfr, hlo, hnc, hns⟩ := X
  intro H locs ls hP hD hS hl
  exact lv_iload hx hb d (lo_at hl hv) (K H locs ls hP hD hS hl)
theorem aI_istore_n {Γ : g_T} {own : String} {cc : ByteArray} {fr lo pc : Nat} {lv : List (Option Value)} {st : List Value} {h : hp_T} {k : Fin 4} {x : Int32} {lv2 : List (Option Value)} (X : aG Γ own cc fr lo) (d : decode cc pc = .ok (.istore_n k, 1)) (hN : aN Γ ((k : Nat))) (he : (lo_st lv (k : Nat) (.int x)) = lv2) (K : aA Γ (pc + 1) lv2 st h) : aA Γ pc lv (.int x :: st) h := by
  obtain ⟨p, l, e, R, s, m, args, below, meth, c, Q, A, wsf, D, tys, nL, nc, ns⟩ := Γ
  obtain ⟨hx, hb, hml, hown, hts, hK, hA, hfr, hlo, hnc, hns⟩ := X
  intro H locs ls hP hD hS hl
  subst he
  exact lv_istore_n hx hb d rfl hl hN rfl (fun ls2 hl2 => K H locs ls2 hP hD hS (lo_store1 hl2))
theorem aI_istore {Γ : g_T} {own : String} {cc : ByteArray} {fr lo pc : Nat} {lv : List (Option Value)} {st : List Value} {h : hp_T} {k : Nat} {x : Int32} {lv2 : List (Option Value)} (X : aG Γ own cc fr lo) (d : decode cc pc = .ok (.istore k, 2)) (hN : aN Γ (k)) (he : (lo_st lv k (.int x)) = lv2) (K : aA Γ (pc + 2) lv2 st h) : aA Γ pc lv (.int x :: st) h := by
  obtain ⟨p, l, e, R, s, m, args, below, meth, c, Q, A, wsf, D, tys, nL, nc, ns⟩ := Γ
  obtain ⟨hx, hb, hml, hown, hts, hK, hA, hfr, hlo, hnc, hns⟩ := X
  intro H locs ls hP hD hS hl
  subst he
  exact lv_istore hx hb d hl hN rfl (fun ls2 hl2 => K H locs ls2 hP hD hS (lo_store1 hl2))
theorem aI_lload_n {Γ : g_T} {own : String} {cc : ByteArray} {fr lo pc : Nat} {lv : List (Option Value)} {st : List Value} {h : hp_T} {k : Fin 4}{x : Int64} (X : aG Γ own cc fr lo) (d : decode cc pc = .ok (.lload_n k, 1)) (hv : lv[(k : Nat)]? = some (some (.long x))) (K : aA Γ (pc + 1) lv (.long x :: st) h) : aA Γ pc lv st h := by
  obtain ⟨p, l, e, R, s, m, args, below, meth, c, Q, A, wsf, D, tys, nL, nc, ns⟩ := Γ
  obtain ⟨hx, hb, hml, hown, hts, hK, hA, hfr, hlo, hnc, hns⟩ := X
  intro H locs ls hP hD hS hl
  exact lv_lload_n hx hb d rfl (lo_at hl hv) (K H locs ls hP hD hS hl)
theorem aI_lload {Γ : g_T} {own : String} {cc : ByteArray} {fr lo pc : Nat} {lv : List (Option Value)} {st : List Value} {h : hp_T} {k : Nat}{x : Int64} (X : aG Γ own cc fr lo) (d : decode cc pc = .ok (.lload k, 2)) (hv : lv[k]? = some (some (.long x))) (K : aA Γ (pc + 2) lv (.long x :: st) h) : aA Γ pc lv st h := by
  obtain ⟨p, l, e, R, s, m, args, below, meth, c, Q, A, wsf, D, tys, nL, nc, ns⟩ := Γ
  obtain ⟨hx, hb, hml, hown, hts, hK, hA, hfr, hlo, hnc, hns⟩ := X
  intro H locs ls hP hD hS hl
  exact lv_lload hx hb d (lo_at hl hv) (K H locs ls hP hD hS hl)
theorem aI_lstore_n {Γ : g_T} {own : String} {cc : ByteArray} {fr lo pc : Nat} {lv : List (Option Value)} {st : List Value} {h : hp_T} {k : Fin 4} {x : Int64} {lv2 : List (Option Value)} (X : aG Γ own cc fr lo) (d : decode cc pc = .ok (.lstore_n k, 1)) (hN : aN Γ ((k : Nat) + 1)) (he : ((lo_st lv (k : Nat) (.long x)).set ((k : Nat) + 1) none) = lv2) (K : aA Γ (pc + 1) lv2 st h) : aA Γ pc lv (.long x :: st) h := by
  obtain ⟨p, l, e, R, s, m, args, below, meth, c, Q, A, wsf, D, tys, nL, nc, ns⟩ := Γ
  obtain ⟨hx, hb, hml, hown, hts, hK, hA, hfr, hlo, hnc, hns⟩ := X
  intro H locs ls hP hD hS hl
  subst he
  exact lv_lstore_n hx hb d rfl hl hN rfl (fun ls2 hl2 => K H locs ls2 hP hD hS (lo_store2 hl2))
theorem aI_lstore {Γ : g_T} {own : String} {cc : ByteArray} {fr lo pc : Nat} {lv : List (Option Value)} {st : List Value} {h : hp_T} {k : Nat} {x : Int64} {lv2 : List (Option Value)} (X : aG Γ own cc fr lo) (d : decode cc pc = .ok (.lstore k, 2)) (hN : aN Γ (k + 1)) (he : ((lo_st lv k (.long x)).set (k + 1) none) = lv2) (K : aA Γ (pc + 2) lv2 st h) : aA Γ pc lv (.long x :: st) h := by
  obtain ⟨p, l, e, R, s, m, args, below, meth, c, Q, A, wsf, D, tys, nL, nc, ns⟩ := Γ
  obtain ⟨hx, hb, hml, hown, hts, hK, hA, hfr, hlo, hnc, hns⟩ := X
  intro H locs ls hP hD hS hl
  subst he
  exact lv_lstore hx hb d hl hN rfl (fun ls2 hl2 => K H locs ls2 hP hD hS (lo_store2 hl2))
theorem aI_aload_n {Γ : g_T} {own : String} {cc : ByteArray} {fr lo pc : Nat} {lv : List (Option Value)} {st : List Value} {h : hp_T} {k : Fin 4}{x : Nat} (X : aG Γ own cc fr lo) (d : decode cc pc = .ok (.aload_n k, 1)) (hv : lv[(k : Nat)]? = some (some (.ref x))) (K : aA Γ (pc + 1) lv (.ref x :: st) h) : aA Γ pc lv st h := by
  obtain ⟨p, l, e, R, s, m, args, below, meth, c, Q, A, wsf, D, tys, nL, nc, ns⟩ := Γ
  obtain ⟨hx, hb, hml, hown, hts, hK, hA, hfr, hlo, hnc, hns⟩ := X
  intro H locs ls hP hD hS hl
  exact lv_aload_n hx hb d rfl (lo_at hl hv) (K H locs ls hP hD hS hl)
theorem aI_aload {Γ : g_T} {own : String} {cc : ByteArray} {fr lo pc : Nat} {lv : List (Option Value)} {st : List Value} {h : hp_T} {k : Nat}{x : Nat} (X : aG Γ own cc fr lo) (d : decode cc pc = .ok (.aload k, 2)) (hv : lv[k]? = some (some (.ref x))) (K : aA Γ (pc + 2) lv (.ref x :: st) h) : aA Γ pc lv st h := by
  obtain ⟨p, l, e, R, s, m, args, below, meth, c, Q, A, wsf, D, tys, nL, nc, ns⟩ := Γ
  obtain ⟨hx, hb, hml, hown, hts, hK, hA, hfr, hlo, hnc, hns⟩ := X
  intro H locs ls hP hD hS hl
  exact lv_aload hx hb d (lo_at hl hv) (K H locs ls hP hD hS hl)
theorem aI_astore_n {Γ : g_T} {own : String} {cc : ByteArray} {fr lo pc : Nat} {lv : List (Option Value)} {st : List Value} {h : hp_T} {k : Fin 4} {x : Nat} {lv2 : List (Option Value)} (X : aG Γ own cc fr lo) (d : decode cc pc = .ok (.astore_n k, 1)) (hN : aN Γ ((k : Nat))) (he : (lo_st lv (k : Nat) (.ref x)) = lv2) (K : aA Γ (pc + 1) lv2 st h) : aA Γ pc lv (.ref x :: st) h := by
  obtain ⟨p, l, e, R, s, m, args, below, meth, c, Q, A, wsf, D, tys, nL, nc, ns⟩ := Γ
  obtain ⟨hx, hb, hml, hown, hts, hK, hA, hfr, hlo, hnc, hns⟩ := X
  intro H locs ls hP hD hS hl
  subst he
  exact lv_astore_n hx hb d rfl hl hN rfl (fun ls2 hl2 => K H locs ls2 hP hD hS (lo_store1 hl2))
theorem aI_astore {Γ : g_T} {own : String} {cc : ByteArray} {fr lo pc : Nat} {lv : List (Option Value)} {st : List Value} {h : hp_T} {k : Nat} {x : Nat} {lv2 : List (Option Value)} (X : aG Γ own cc fr lo) (d : decode cc pc = .ok (.astore k, 2)) (hN : aN Γ (k)) (he : (lo_st lv k (.ref x)) = lv2) (K : aA Γ (pc + 2) lv2 st h) : aA Γ pc lv (.ref x :: st) h := by
  obtain ⟨p, l, e, R, s, m, args, below, meth, c, Q, A, wsf, D, tys, nL, nc, ns⟩ := Γ
  obtain ⟨hx, hb, hml, hown, hts, hK, hA, hfr, hlo, hnc, hns⟩ := X
  intro H locs ls hP hD hS hl
  subst he
  exact lv_astore hx hb d hl hN rfl (fun ls2 hl2 => K H locs ls2 hP hD hS (lo_store1 hl2))
theorem aI_iinc {Γ : g_T} {own : String} {cc : ByteArray} {fr lo pc : Nat} {lv : List (Option Value)} {st : List Value} {h : hp_T} {k : Nat} {n : Int} {x v : Int32} {lv2 : List (Option Value)} (X : aG Γ own cc fr lo) (d : decode cc pc = .ok (.iinc k n, 3)) (hN : aN Γ k) (hv : lv[k]? = some (some (.int x))) (hn : Int32.ofInt n = v) (he : lo_st lv k (.int (x + v)) = lv2) (K : aA Γ (pc + 3) lv2 st h) : aA Γ pc lv st h := by
  obtain ⟨p, l, e, R, s, m, args, below, meth, c, Q, A, wsf, D, tys, nL, nc, ns⟩ := Γ
  obtain ⟨hx, hb, hml, hown, hts, hK, hA, hfr, hlo, hnc, hns⟩ := X
  intro H locs ls hP hD hS hl
  subst he
  obtain ⟨z, hz⟩ := List.getElem?_of_mem (lo_mem lv 0 k _ hv)
  exact lv_iinc (k := z) hx hb d hl (by simpa using hz) (by rw [hn]) hN rfl (fun ls2 hl2 => K H locs ls2 hP hD hS (lo_store1 hl2))
theorem aI_iadd {Γ : g_T} {own : String} {cc : ByteArray} {fr lo pc : Nat} {lv : List (Option Value)} {st : List Value} {h : hp_T} {x y : Int32} (X : aG Γ own cc fr lo) (d : decode cc pc = .ok (.iadd, 1))  (K : aA Γ (pc + 1) lv (.int (x + y) :: st) h) : aA Γ pc lv (.int y :: .int x :: st) h := by
  obtain ⟨p, l, e, R, s, m, args, below, meth, c, Q, A, wsf, D, tys, nL, nc, ns⟩ := Γ
  obtain ⟨hx, hb, hml, hown, hts, hK, hA, hfr, hlo, hnc, hns⟩ := X
  intro H locs ls hP hD hS hl
  exact lv_iadd hx hb d (K H locs ls hP hD hS hl)
theorem aI_isub {Γ : g_T} {own : String} {cc : ByteArray} {fr lo pc : Nat} {lv : List (Option Value)} {st : List Value} {h : hp_T} {x y : Int32} (X : aG Γ own cc fr lo) (d : decode cc pc = .ok (.isub, 1))  (K : aA Γ (pc + 1) lv (.int (x - y) :: st) h) : aA Γ pc lv (.int y :: .int x :: st) h := by
  obtain ⟨p, l, e, R, s, m, args, below, meth, c, Q, A, wsf, D, tys, nL, nc, ns⟩ := Γ
  obtain ⟨hx, hb, hml, hown, hts, hK, hA, hfr, hlo, hnc, hns⟩ := X
  intro H locs ls hP hD hS hl
  exact lv_isub hx hb d (K H locs ls hP hD hS hl)
theorem aI_imul {Γ : g_T} {own : String} {cc : ByteArray} {fr lo pc : Nat} {lv : List (Option Value)} {st : List Value} {h : hp_T} {x y : Int32} (X : aG Γ own cc fr lo) (d : decode cc pc = .ok (.imul, 1))  (K : aA Γ (pc + 1) lv (.int (x * y) :: st) h) : aA Γ pc lv (.int y :: .int x :: st) h := by
  obtain ⟨p, l, e, R, s, m, args, below, meth, c, Q, A, wsf, D, tys, nL, nc, ns⟩ := Γ
  obtain ⟨hx, hb, hml, hown, hts, hK, hA, hfr, hlo, hnc, hns⟩ := X
  intro H locs ls hP hD hS hl
  exact lv_imul hx hb d (K H locs ls hP hD hS hl)
theorem aI_iand {Γ : g_T} {own : String} {cc : ByteArray} {fr lo pc : Nat} {lv : List (Option Value)} {st : List Value} {h : hp_T} {x y : Int32} (X : aG Γ own cc fr lo) (d : decode cc pc = .ok (.iand, 1))  (K : aA Γ (pc + 1) lv (.int (x &&& y) :: st) h) : aA Γ pc lv (.int y :: .int x :: st) h := by
  obtain ⟨p, l, e, R, s, m, args, below, meth, c, Q, A, wsf, D, tys, nL, nc, ns⟩ := Γ
  obtain ⟨hx, hb, hml, hown, hts, hK, hA, hfr, hlo, hnc, hns⟩ := X
  intro H locs ls hP hD hS hl
  exact lv_iand hx hb d (K H locs ls hP hD hS hl)
theorem aI_ladd {Γ : g_T} {own : String} {cc : ByteArray} {fr lo pc : Nat} {lv : List (Option Value)} {st : List Value} {h : hp_T} {x y : Int64} (X : aG Γ own cc fr lo) (d : decode cc pc = .ok (.ladd, 1))  (K : aA Γ (pc + 1) lv (.long (x + y) :: st) h) : aA Γ pc lv (.long y :: .long x :: st) h := by
  obtain ⟨p, l, e, R, s, m, args, below, meth, c, Q, A, wsf, D, tys, nL, nc, ns⟩ := Γ
  obtain ⟨hx, hb, hml, hown, hts, hK, hA, hfr, hlo, hnc, hns⟩ := X
  intro H locs ls hP hD hS hl
  exact lv_ladd hx hb d (K H locs ls hP hD hS hl)
theorem aI_lmul {Γ : g_T} {own : String} {cc : ByteArray} {fr lo pc : Nat} {lv : List (Option Value)} {st : List Value} {h : hp_T} {x y : Int64} (X : aG Γ own cc fr lo) (d : decode cc pc = .ok (.lmul, 1))  (K : aA Γ (pc + 1) lv (.long (x * y) :: st) h) : aA Γ pc lv (.long y :: .long x :: st) h := by
  obtain ⟨p, l, e, R, s, m, args, below, meth, c, Q, A, wsf, D, tys, nL, nc, ns⟩ := Γ
  obtain ⟨hx, hb, hml, hown, hts, hK, hA, hfr, hlo, hnc, hns⟩ := X
  intro H locs ls hP hD hS hl
  exact lv_lmul hx hb d (K H locs ls hP hD hS hl)
theorem aI_lor {Γ : g_T} {own : String} {cc : ByteArray} {fr lo pc : Nat} {lv : List (Option Value)} {st : List Value} {h : hp_T} {x y : Int64} (X : aG Γ own cc fr lo) (d : decode cc pc = .ok (.lor, 1))  (K : aA Γ (pc + 1) lv (.long (x ||| y) :: st) h) : aA Γ pc lv (.long y :: .long x :: st) h := by
  obtain ⟨p, l, e, R, s, m, args, below, meth, c, Q, A, wsf, D, tys, nL, nc, ns⟩ := Γ
  obtain ⟨hx, hb, hml, hown, hts, hK, hA, hfr, hlo, hnc, hns⟩ := X
  intro H locs ls hP hD hS hl
  exact lv_lor hx hb d (K H locs ls hP hD hS hl)
theorem aI_irem {Γ : g_T} {own : String} {cc : ByteArray} {fr lo pc : Nat} {lv : List (Option Value)} {st : List Value} {h : hp_T} {x y : Int32} (X : aG Γ own cc fr lo) (d : decode cc pc = .ok (.irem, 1)) (hne : ¬ y = 0) (K : aA Γ (pc + 1) lv (.int (x - x / y * y) :: st) h) : aA Γ pc lv (.int y :: .int x :: st) h := by
  obtain ⟨p, l, e, R, s, m, args, below, meth, c, Q, A, wsf, D, tys, nL, nc, ns⟩ := Γ
  obtain ⟨hx, hb, hml, hown, hts, hK, hA, hfr, hlo, hnc, hns⟩ := X
  intro H locs ls hP hD hS hl
  exact lv_irem hx hb d hne (K H locs ls hP hD hS hl)
theorem aI_lcmp {Γ : g_T} {own : String} {cc : ByteArray} {fr lo pc : Nat} {lv : List (Option Value)} {st : List Value} {h : hp_T} {x y : Int64} (X : aG Γ own cc fr lo) (d : decode cc pc = .ok (.lcmp, 1))  (K : aA Γ (pc + 1) lv (.int (lg_cmp x y) :: st) h) : aA Γ pc lv (.long y :: .long x :: st) h := by
  obtain ⟨p, l, e, R, s, m, args, below, meth, c, Q, A, wsf, D, tys, nL, nc, ns⟩ := Γ
  obtain ⟨hx, hb, hml, hown, hts, hK, hA, hfr, hlo, hnc, hns⟩ := X
  intro H locs ls hP hD hS hl
  exact W.lcmp hx hb d (K H locs ls hP hD hS hl)
theorem aI_lshl {Γ : g_T} {own : String} {cc : ByteArray} {fr lo pc : Nat} {lv : List (Option Value)} {st : List Value} {h : hp_T} {x : Int64}{y : Int32} (X : aG Γ own cc fr lo) (d : decode cc pc = .ok (.lshl, 1))  (K : aA Γ (pc + 1) lv (.long (x <<< (y.toInt64 &&& 63)) :: st) h) : aA Γ pc lv (.int y :: .long x :: st) h := by
  obtain ⟨p, l, e, R, s, m, args, below, meth, c, Q, A, wsf, D, tys, nL, nc, ns⟩ := Γ
  obtain ⟨hx, hb, hml, hown, hts, hK, hA, hfr, hlo, hnc, hns⟩ := X
  intro H locs ls hP hD hS hl
  exact lv_lshl hx hb d rfl (K H locs ls hP hD hS hl)
theorem aI_i2l {Γ : g_T} {own : String} {cc : ByteArray} {fr lo pc : Nat} {lv : List (Option Value)} {st : List Value} {h : hp_T} {x : Int32} (X : aG Γ own cc fr lo) (d : decode cc pc = .ok (.i2l, 1))  (K : aA Γ (pc + 1) lv (.long x.toInt64 :: st) h) : aA Γ pc lv (.int x :: st) h := by
  obtain ⟨p, l, e, R, s, m, args, below, meth, c, Q, A, wsf, D, tys, nL, nc, ns⟩ := Γ
  obtain ⟨hx, hb, hml, hown, hts, hK, hA, hfr, hlo, hnc, hns⟩ := X
  intro H locs ls hP hD hS hl
  exact lv_i2l hx hb d rfl (K H locs ls hP hD hS hl)
theorem aI_l2i {Γ : g_T} {own : String} {cc : ByteArray} {fr lo pc : Nat} {lv : List (Option Value)} {st : List Value} {h : hp_T} {x : Int64} (X : aG Γ own cc fr lo) (d : decode cc pc = .ok (.l2i, 1))  (K : aA Γ (pc + 1) lv (.int x.toInt32 :: st) h) : aA Γ pc lv (.long x :: st) h := by
  obtain ⟨p, l, e, R, s, m, args, below, meth, c, Q, A, wsf, D, tys, nL, nc, ns⟩ := Γ
  obtain ⟨hx, hb, hml, hown, hts, hK, hA, hfr, hlo, hnc, hns⟩ := X
  intro H locs ls hP hD hS hl
  exact lv_l2i hx hb d rfl (K H locs ls hP hD hS hl)
theorem aI_i2b {Γ : g_T} {own : String} {cc : ByteArray} {fr lo pc : Nat} {lv : List (Option Value)} {st : List Value} {h : hp_T} {x : Int32} (X : aG Γ own cc fr lo) (d : decode cc pc = .ok (.i2b, 1))  (K : aA Γ (pc + 1) lv (.int x.toInt8.toInt32 :: st) h) : aA Γ pc lv (.int x :: st) h := by
  obtain ⟨p, l, e, R, s, m, args, below, meth, c, Q, A, wsf, D, tys, nL, nc, ns⟩ := Γ
  obtain ⟨hx, hb, hml, hown, hts, hK, hA, hfr, hlo, hnc, hns⟩ := X
  intro H locs ls hP hD hS hl
  exact lv_i2b hx hb d rfl (K H locs ls hP hD hS hl)
theorem aI_i2s {Γ : g_T} {own : String} {cc : ByteArray} {fr lo pc : Nat} {lv : List (Option Value)} {st : List Value} {h : hp_T} {x : Int32} (X : aG Γ own cc fr lo) (d : decode cc pc = .ok (.i2s, 1))  (K : aA Γ (pc + 1) lv (.int x.toInt16.toInt32 :: st) h) : aA Γ pc lv (.int x :: st) h := by
  obtain ⟨p, l, e, R, s, m, args, below, meth, c, Q, A, wsf, D, tys, nL, nc, ns⟩ := Γ
  obtain ⟨hx, hb, hml, hown, hts, hK, hA, hfr, hlo, hnc, hns⟩ := X
  intro H locs ls hP hD hS hl
  exact lv_i2s hx hb d rfl (K H locs ls hP hD hS hl)
theorem aI_dup {Γ : g_T} {own : String} {cc : ByteArray} {fr lo pc : Nat} {lv : List (Option Value)} {st : List Value} {h : hp_T} {v : Value} (X : aG Γ own cc fr lo) (d : decode cc pc = .ok (.dup, 1)) (hv : v.category = 1) (K : aA Γ (pc + 1) lv (v :: v :: st) h) : aA Γ pc lv (v :: st) h := by
  obtain ⟨p, l, e, R, s, m, args, below, meth, c, Q, A, wsf, D, tys, nL, nc, ns⟩ := Γ
  obtain ⟨hx, hb, hml, hown, hts, hK, hA, hfr, hlo, hnc, hns⟩ := X
  intro H locs ls hP hD hS hl
  exact lv_dup hx hb d hv (K H locs ls hP hD hS hl)
theorem aI_dup2 {Γ : g_T} {own : String} {cc : ByteArray} {fr lo pc : Nat} {lv : List (Option Value)} {st : List Value} {h : hp_T} {v w : Value} (X : aG Γ own cc fr lo) (d : decode cc pc = .ok (.dup2, 1)) (hv : v.category = 1) (hw : w.category = 1) (K : aA Γ (pc + 1) lv (v :: w :: v :: w :: st) h) : aA Γ pc lv (v :: w :: st) h := by
  obtain ⟨p, l, e, R, s, m, args, below, meth, c, Q, A, wsf, D, tys, nL, nc, ns⟩ := Γ
  obtain ⟨hx, hb, hml, hown, hts, hK, hA, hfr, hlo, hnc, hns⟩ := X
  intro H locs ls hP hD hS hl
  exact lv_dup2_11 hx hb d hv hw (K H locs ls hP hD hS hl)
theorem aI_goto {Γ : g_T} {own : String} {cc : ByteArray} {fr lo pc : Nat} {lv : List (Option Value)} {st : List Value} {h : hp_T} {off : Int}{tgt : Nat} (X : aG Γ own cc fr lo) (d : decode cc pc = .ok (.goto off, 3)) (ht : (pc : Int) + off = (tgt : Int)) (K : aA Γ tgt lv st h) : aA Γ pc lv st h := by
  obtain ⟨p, l, e, R, s, m, args, below, meth, c, Q, A, wsf, D, tys, nL, nc, ns⟩ := Γ
  obtain ⟨hx, hb, hml, hown, hts, hK, hA, hfr, hlo, hnc, hns⟩ := X
  intro H locs ls hP hD hS hl
  exact lv_goto hx hb d ht (K H locs ls hP hD hS hl)
theorem aI_icmp_eq {Γ : g_T} {own : String} {cc : ByteArray} {fr lo pc : Nat} {lv : List (Option Value)} {st : List Value} {h : hp_T} {x y : Int32} {off : Int} {tgt : Nat} (X : aG Γ own cc fr lo) (d : decode cc pc = .ok (.if_icmp .eq off, 3)) (ht : (pc : Int) + off = (tgt : Int)) (kt : x = y → aA Γ tgt lv st h) (kf : ¬ x = y → aA Γ (pc + 3) lv st h) : aA Γ pc lv (.int y :: .int x :: st) h := by
  obtain ⟨p, l, e, R, s, m, args, below, meth, c, Q, A, wsf, D, tys, nL, nc, ns⟩ := Γ
  obtain ⟨hx, hb, hml, hown, hts, hK, hA, hfr, hlo, hnc, hns⟩ := X
  intro H locs ls hP hD hS hl
  exact lv_icmp_eq hx hb d ht (fun q => kt q H locs ls hP hD hS hl) (fun q => kf q H locs ls hP hD hS hl)
theorem aI_if_eq {Γ : g_T} {own : String} {cc : ByteArray} {fr lo pc : Nat} {lv : List (Option Value)} {st : List Value} {h : hp_T} {x : Int32} {off : Int} {tgt : Nat} (X : aG Γ own cc fr lo) (d : decode cc pc = .ok (.ifCond .eq off, 3)) (ht : (pc : Int) + off = (tgt : Int)) (kt : x = 0 → aA Γ tgt lv st h) (kf : ¬ x = 0 → aA Γ (pc + 3) lv st h) : aA Γ pc lv (.int x :: st) h := by
  obtain ⟨p, l, e, R, s, m, args, below, meth, c, Q, A, wsf, D, tys, nL, nc, ns⟩ := Γ
  obtain ⟨hx, hb, hml, hown, hts, hK, hA, hfr, hlo, hnc, hns⟩ := X
  intro H locs ls hP hD hS hl
  exact lv_if_eq hx hb d ht (fun q => kt q H locs ls hP hD hS hl) (fun q => kf q H locs ls hP hD hS hl)
theorem aI_icmp_ne {Γ : g_T} {own : String} {cc : ByteArray} {fr lo pc : Nat} {lv : List (Option Value)} {st : List Value} {h : hp_T} {x y : Int32} {off : Int} {tgt : Nat} (X : aG Γ own cc fr lo) (d : decode cc pc = .ok (.if_icmp .ne off, 3)) (ht : (pc : Int) + off = (tgt : Int)) (kt : ¬ x = y → aA Γ tgt lv st h) (kf : x = y → aA Γ (pc + 3) lv st h) : aA Γ pc lv (.int y :: .int x :: st) h := by
  obtain ⟨p, l, e, R, s, m, args, below, meth, c, Q, A, wsf, D, tys, nL, nc, ns⟩ := Γ
  obtain ⟨hx, hb, hml, hown, hts, hK, hA, hfr, hlo, hnc, hns⟩ := X
  intro H locs ls hP hD hS hl
  exact lv_icmp_ne hx hb d ht (fun q => kt q H locs ls hP hD hS hl) (fun q => kf q H locs ls hP hD hS hl)
theorem aI_if_ne {Γ : g_T} {own : String} {cc : ByteArray} {fr lo pc : Nat} {lv : List (Option Value)} {st : List Value} {h : hp_T} {x : Int32} {off : Int} {tgt : Nat} (X : aG Γ own cc fr lo) (d : decode cc pc = .ok (.ifCond .ne off, 3)) (ht : (pc : Int) + off = (tgt : Int)) (kt : ¬ x = 0 → aA Γ tgt lv st h) (kf : x = 0 → aA Γ (pc + 3) lv st h) : aA Γ pc lv (.int x :: st) h := by
  obtain ⟨p, l, e, R, s, m, args, below, meth, c, Q, A, wsf, D, tys, nL, nc, ns⟩ := Γ
  obtain ⟨hx, hb, hml, hown, hts, hK, hA, hfr, hlo, hnc, hns⟩ := X
  intro H locs ls hP hD hS hl
  exact lv_if_ne hx hb d ht (fun q => kt q H locs ls hP hD hS hl) (fun q => kf q H locs ls hP hD hS hl)
theorem aI_icmp_lt {Γ : g_T} {own : String} {cc : ByteArray} {fr lo pc : Nat} {lv : List (Option Value)} {st : List Value} {h : hp_T} {x y : Int32} {off : Int} {tgt : Nat} (X : aG Γ own cc fr lo) (d : decode cc pc = .ok (.if_icmp .lt off, 3)) (ht : (pc : Int) + off = (tgt : Int)) (kt : x < y → aA Γ tgt lv st h) (kf : ¬ x < y → aA Γ (pc + 3) lv st h) : aA Γ pc lv (.int y :: .int x :: st) h := by
  obtain ⟨p, l, e, R, s, m, args, below, meth, c, Q, A, wsf, D, tys, nL, nc, ns⟩ := Γ
  obtain ⟨hx, hb, hml, hown, hts, hK, hA, hfr, hlo, hnc, hns⟩ := X
  intro H locs ls hP hD hS hl
  exact lv_icmp_lt hx hb d ht (fun q => kt q H locs ls hP hD hS hl) (fun q => kf q H locs ls hP hD hS hl)
theorem aI_if_lt {Γ : g_T} {own : String} {cc : ByteArray} {fr lo pc : Nat} {lv : List (Option Value)} {st : List Value} {h : hp_T} {x : Int32} {off : Int} {tgt : Nat} (X : aG Γ own cc fr lo) (d : decode cc pc = .ok (.ifCond .lt off, 3)) (ht : (pc : Int) + off = (tgt : Int)) (kt : x < 0 → aA Γ tgt lv st h) (kf : ¬ x < 0 → aA Γ (pc + 3) lv st h) : aA Γ pc lv (.int x :: st) h := by
  obtain ⟨p, l, e, R, s, m, args, below, meth, c, Q, A, wsf, D, tys, nL, nc, ns⟩ := Γ
  obtain ⟨hx, hb, hml, hown, hts, hK, hA, hfr, hlo, hnc, hns⟩ := X
  intro H locs ls hP hD hS hl
  exact lv_if_lt hx hb d ht (fun q => kt q H locs ls hP hD hS hl) (fun q => kf q H locs ls hP hD hS hl)
theorem aI_icmp_ge {Γ : g_T} {own : String} {cc : ByteArray} {fr lo pc : Nat} {lv : List (Option Value)} {st : List Value} {h : hp_T} {x y : Int32} {off : Int} {tgt : Nat} (X : aG Γ own cc fr lo) (d : decode cc pc = .ok (.if_icmp .ge off, 3)) (ht : (pc : Int) + off = (tgt : Int)) (kt : y ≤ x → aA Γ tgt lv st h) (kf : ¬ y ≤ x → aA Γ (pc + 3) lv st h) : aA Γ pc lv (.int y :: .int x :: st) h := by
  obtain ⟨p, l, e, R, s, m, args, below, meth, c, Q, A, wsf, D, tys, nL, nc, ns⟩ := Γ
  obtain ⟨hx, hb, hml, hown, hts, hK, hA, hfr, hlo, hnc, hns⟩ := X
  intro H locs ls hP hD hS hl
  exact lv_icmp_ge hx hb d ht (fun q => kt q H locs ls hP hD hS hl) (fun q => kf q H locs ls hP hD hS hl)
theorem aI_if_ge {Γ : g_T} {own : String} {cc : ByteArray} {fr lo pc : Nat} {lv : List (Option Value)} {st : List Value} {h : hp_T} {x : Int32} {off : Int} {tgt : Nat} (X : aG Γ own cc fr lo) (d : decode cc pc = .ok (.ifCond .ge off, 3)) (ht : (pc : Int) + off = (tgt : Int)) (kt : 0 ≤ x → aA Γ tgt lv st h) (kf : ¬ 0 ≤ x → aA Γ (pc + 3) lv st h) : aA Γ pc lv (.int x :: st) h := by
  obtain ⟨p, l, e, R, s, m, args, below, meth, c, Q, A, wsf, D, tys, nL, nc, ns⟩ := Γ
  obtain ⟨hx, hb, hml, hown, hts, hK, hA, hfr, hlo, hnc, hns⟩ := X
  intro H locs ls hP hD hS hl
  exact lv_if_ge hx hb d ht (fun q => kt q H locs ls hP hD hS hl) (fun q => kf q H locs ls hP hD hS hl)
theorem aI_icmp_gt {Γ : g_T} {own : String} {cc : ByteArray} {fr lo pc : Nat} {lv : List (Option Value)} {st : List Value} {h : hp_T} {x y : Int32} {off : Int} {tgt : Nat} (X : aG Γ own cc fr lo) (d : decode cc pc = .ok (.if_icmp .gt off, 3)) (ht : (pc : Int) + off = (tgt : Int)) (kt : y < x → aA Γ tgt lv st h) (kf : ¬ y < x → aA Γ (pc + 3) lv st h) : aA Γ pc lv (.int y :: .int x :: st) h := by
  obtain ⟨p, l, e, R, s, m, args, below, meth, c, Q, A, wsf, D, tys, nL, nc, ns⟩ := Γ
  obtain ⟨hx, hb, hml, hown, hts, hK, hA, hfr, hlo, hnc, hns⟩ := X
  intro H locs ls hP hD hS hl
  exact lv_icmp_gt hx hb d ht (fun q => kt q H locs ls hP hD hS hl) (fun q => kf q H locs ls hP hD hS hl)
theorem aI_if_gt {Γ : g_T} {own : String} {cc : ByteArray} {fr lo pc : Nat} {lv : List (Option Value)} {st : List Value} {h : hp_T} {x : Int32} {off : Int} {tgt : Nat} (X : aG Γ own cc fr lo) (d : decode cc pc = .ok (.ifCond .gt off, 3)) (ht : (pc : Int) + off = (tgt : Int)) (kt : 0 < x → aA Γ tgt lv st h) (kf : ¬ 0 < x → aA Γ (pc + 3) lv st h) : aA Γ pc lv (.int x :: st) h := by
  obtain ⟨p, l, e, R, s, m, args, below, meth, c, Q, A, wsf, D, tys, nL, nc, ns⟩ := Γ
  obtain ⟨hx, hb, hml, hown, hts, hK, hA, hfr, hlo, hnc, hns⟩ := X
  intro H locs ls hP hD hS hl
  exact lv_if_gt hx hb d ht (fun q => kt q H locs ls hP hD hS hl) (fun q => kf q H locs ls hP hD hS hl)
theorem aI_icmp_le {Γ : g_T} {own : String} {cc : ByteArray} {fr lo pc : Nat} {lv : List (Option Value)} {st : List Value} {h : hp_T} {x y : Int32} {off : Int} {tgt : Nat} (X : aG Γ own cc fr lo) (d : decode cc pc = .ok (.if_icmp .le off, 3)) (ht : (pc : Int) + off = (tgt : Int)) (kt : x ≤ y → aA Γ tgt lv st h) (kf : ¬ x ≤ y → aA Γ (pc + 3) lv st h) : aA Γ pc lv (.int y :: .int x :: st) h := by
  obtain ⟨p, l, e, R, s, m, args, below, meth, c, Q, A, wsf, D, tys, nL, nc, ns⟩ := Γ
  obtain ⟨hx, hb, hml, hown, hts, hK, hA, hfr, hlo, hnc, hns⟩ := X
  intro H locs ls hP hD hS hl
  exact lv_icmp_le hx hb d ht (fun q => kt q H locs ls hP hD hS hl) (fun q => kf q H locs ls hP hD hS hl)
theorem aI_if_le {Γ : g_T} {own : String} {cc : ByteArray} {fr lo pc : Nat} {lv : List (Option Value)} {st : List Value} {h : hp_T} {x : Int32} {off : Int} {tgt : Nat} (X : aG Γ own cc fr lo) (d : decode cc pc = .ok (.ifCond .le off, 3)) (ht : (pc : Int) + off = (tgt : Int)) (kt : x ≤ 0 → aA Γ tgt lv st h) (kf : ¬ x ≤ 0 → aA Γ (pc + 3) lv st h) : aA Γ pc lv (.int x :: st) h := by
  obtain ⟨p, l, e, R, s, m, args, below, meth, c, Q, A, wsf, D, tys, nL, nc, ns⟩ := Γ
  obtain ⟨hx, hb, hml, hown, hts, hK, hA, hfr, hlo, hnc, hns⟩ := X
  intro H locs ls hP hD hS hl
  exact lv_if_le hx hb d ht (fun q => kt q H locs ls hP hD hS hl) (fun q => kf q H locs ls hP hD hS hl)
theorem aI_tableIn {Γ : g_T} {own : String} {cc : ByteArray} {fr lo pc : Nat} {lv : List (Option Value)} {st : List Value} {h : hp_T} {dflt lo1 hi1 : Int} {offs : Array Int} {len : Nat} {x : Int32} (v : Int32) {off : Int} {tgt : Nat} (X : aG Γ own cc fr lo) (d : decode cc pc = .ok (.tableswitch dflt lo1 hi1 offs, len)) (hx0 : x = v) (h1 : ¬ v.toInt < lo1) (h2 : ¬ hi1 < v.toInt) (ho : offs[(v.toInt - lo1).toNat]? = some off) (ht : (pc : Int) + off = (tgt : Int)) (K : aA Γ tgt lv st h) : aA Γ pc lv (.int x :: st) h := by
  obtain ⟨p, l, e, R, s, m, args, below, meth, c, Q, A, wsf, D, tys, nL, nc, ns⟩ := Γ
  obtain ⟨hx, hb, hml, hown, hts, hK, hA, hfr, hlo, hnc, hns⟩ := X
  intro H locs ls hP hD hS hl
  subst hx0
  exact lv_tableIn hx hb d h1 h2 ho ht (K H locs ls hP hD hS hl)
theorem aI_tableOut {Γ : g_T} {own : String} {cc : ByteArray} {fr lo pc : Nat} {lv : List (Option Value)} {st : List Value} {h : hp_T} {dflt lo1 hi1 : Int} {offs : Array Int} {len : Nat} {x : Int32} {tgt : Nat} (X : aG Γ own cc fr lo) (d : decode cc pc = .ok (.tableswitch dflt lo1 hi1 offs, len)) (h1 : x.toInt < lo1 ∨ hi1 < x.toInt) (ht : (pc : Int) + dflt = (tgt : Int)) (K : aA Γ tgt lv st h) : aA Γ pc lv (.int x :: st) h := by
  obtain ⟨p, l, e, R, s, m, args, below, meth, c, Q, A, wsf, D, tys, nL, nc, ns⟩ := Γ
  obtain ⟨hx, hb, hml, hown, hts, hK, hA, hfr, hlo, hnc, hns⟩ := X
  intro H locs ls hP hD hS hl
  exact lv_tableOut hx hb d h1 ht (K H locs ls hP hD hS hl)
theorem aI_lookup {Γ : g_T} {own : String} {cc : ByteArray} {fr lo pc : Nat} {lv : List (Option Value)} {st : List Value} {h : hp_T} {dflt : Int} {ps : Array (Int × Int)} {len : Nat} {x : Int32} {off : Int} {tgt : Nat} (X : aG Γ own cc fr lo) (d : decode cc pc = .ok (.lookupswitch dflt ps, len)) (hp : (ps.toList.zip (ps.toList.drop 1)).all (fun (a, next) => a.1 < next.1) = true) (ho : Op.lookupswitch.offset ps.toList dflt x.toInt = off) (ht : (pc : Int) + off = (tgt : Int)) (K : aA Γ tgt lv st h) : aA Γ pc lv (.int x :: st) h := by
  obtain ⟨p, l, e, R, s, m, args, below, meth, c, Q, A, wsf, D, tys, nL, nc, ns⟩ := Γ
  obtain ⟨hx, hb, hml, hown, hts, hK, hA, hfr, hlo, hnc, hns⟩ := X
  intro H locs ls hP hD hS hl
  exact lv_lookup hx hb d hp ho ht (K H locs ls hP hD hS hl)
theorem aI_max {Γ : g_T} {own : String} {cc : ByteArray} {fr lo pc : Nat} {lv : List (Option Value)} {st : List Value} {h : hp_T} {index : Nat} {x y : Int32} (X : aG Γ own cc fr lo) (hlink : Cond.methodLink own index Lib.Math.max.name ∈ gd_tbl) (hstat : Cond.static Lib.Math.max.name ∈ gd_tbl) (hini : Cond.initialized "java/lang/Math" ∈ gd_tbl) (hcode : Cond.code Lib.Math.max.name Lib.Math.max.code 2 (some .int) ∈ gd_tbl) (h1 : 1 ≤ fr) (h2 : (st.map fun v => v.category).sum + 13 ≤ lo) (d : decode cc pc = .ok (.invokestatic index, 3)) (K : aA Γ (pc + 3) lv (.int (mx x y) :: st) h) : aA Γ pc lv (.int y :: .int x :: st) h := by
  obtain ⟨p, l, e, R, s, m, args, below, meth, c, Q, A, wsf, D, tys, nL, nc, ns⟩ := Γ
  obtain ⟨hx, hb, hml, hown, hts, hK, hA, hfr, hlo, hnc, hns⟩ := X
  intro H locs ls hP hD hS hl
  exact va_mmax hx hb (hml.trans hl.1.symm) hown (hts _ hlink) (hts _ hstat) (hts _ hini) (hts _ hcode) (Nat.le_trans h1 hfr) (Nat.le_trans h2 hlo) hnc hns d (K H locs ls hP hD hS hl)
theorem aI_min {Γ : g_T} {own : String} {cc : ByteArray} {fr lo pc : Nat} {lv : List (Option Value)} {st : List Value} {h : hp_T} {index : Nat} {x y : Int32} (X : aG Γ own cc fr lo) (hlink : Cond.methodLink own index Lib.Math.min.name ∈ gd_tbl) (hstat : Cond.static Lib.Math.min.name ∈ gd_tbl) (hini : Cond.initialized "java/lang/Math" ∈ gd_tbl) (hcode : Cond.code Lib.Math.min.name Lib.Math.min.code 2 (some .int) ∈ gd_tbl) (h1 : 1 ≤ fr) (h2 : (st.map fun v => v.category).sum + 13 ≤ lo) (d : decode cc pc = .ok (.invokestatic index, 3)) (K : aA Γ (pc + 3) lv (.int (mn x y) :: st) h) : aA Γ pc lv (.int y :: .int x :: st) h := by
  obtain ⟨p, l, e, R, s, m, args, below, meth, c, Q, A, wsf, D, tys, nL, nc, ns⟩ := Γ
  obtain ⟨hx, hb, hml, hown, hts, hK, hA, hfr, hlo, hnc, hns⟩ := X
  intro H locs ls hP hD hS hl
  exact va_mmin hx hb (hml.trans hl.1.symm) hown (hts _ hlink) (hts _ hstat) (hts _ hini) (hts _ hcode) (Nat.le_trans h1 hfr) (Nat.le_trans h2 hlo) hnc hns d (K H locs ls hP hD hS hl)
theorem aI_eqi {Γ : g_T} {pc : Nat} {lv : List (Option Value)} {st : List Value} {h : hp_T} {x y : Int32} (e : x = y) (K : aA Γ pc lv (.int x :: st) h) : aA Γ pc lv (.int y :: st) h := e ▸ K
theorem aI_eql {Γ : g_T} {pc : Nat} {lv : List (Option Value)} {st : List Value} {h : hp_T} {x y : Int64} (e : x = y) (K : aA Γ pc lv (.long x :: st) h) : aA Γ pc lv (.long y :: st) h := e ▸ K
theorem aI_eqh {Γ : g_T} {pc : Nat} {lv : List (Option Value)} {st : List Value} {h h2 : hp_T} (e : h2 = h) (K : aA Γ pc lv st h2) : aA Γ pc lv st h := e ▸ K
theorem aI_iret {Γ : g_T} {pc : Nat} {lv : List (Option Value)} {h h2 : hp_T} {x r : Int32} (E : some (x, h) = some (r, h2)) (K : aA Γ pc lv [.int r] h2) : aA Γ pc lv [.int x] h := by
  cases E
  exact K
theorem aI_zret {Γ : g_T} {pc : Nat} {lv : List (Option Value)} {h h2 : hp_T} {x r : Int32} (g : bz x = true) (E : some (x, h) = some (r, h2)) (K : bz r = true → aA Γ pc lv [.int r] h2) : aA Γ pc lv [.int x] h := by
  cases E
  exact K g
theorem aI_lret {Γ : g_T} {pc : Nat} {lv : List (Option Value)} {h h2 : hp_T} {x r : Int64} (E : some (x, h) = some (r, h2)) (K : aA Γ pc lv [.long r] h2) : aA Γ pc lv [.long x] h := by
  cases E
  exact K
theorem aI_vret {Γ : g_T} {pc : Nat} {lv : List (Option Value)} {h h2 : hp_T} (E : some h = some h2) (K : aA Γ pc lv [] h2) : aA Γ pc lv [] h := by
  cases E
  exact K
theorem ix_lt {i : Int32} {n : Nat} (h : ix i n = true) : i.toNatClampNeg < n := Nat.not_le.mp fun q => ix_vp h (Or.inr q)
theorem i32_ne {x c : Int32} (n : Int) (hn : c.toInt = n) (h : ¬ x = c) : x.toInt ≠ n := fun e => h (Int32.toInt_inj.mp (e.trans hn.symm))
/-- fewer locals are told -/
theorem aI_lv {Γ : g_T} {pc : Nat} {lv : List (Option Value)} {st : List Value} {h : hp_T} {lv2 : List (Option Value)} (mk : List Bool) (hs : lo_mask mk lv = lv2) (K : aA Γ pc lv2 st h) : aA Γ pc lv st h := by
  obtain ⟨p, l, e, R, s, m, args, below, meth, c, Q, A, wsf, D, tys, nL, nc, ns⟩ := Γ
  intro H locs ls hP hD hS hl
  subst hs
  exact K H locs ls hP hD hS (lo_less mk hl)
