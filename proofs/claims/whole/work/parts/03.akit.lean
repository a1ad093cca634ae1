/-! the abstract walk: a frame with listed locals over an abstract heap (numbers by cell and place) -/
abbrev hp_T : Type := (Nat → Nat → Int32) × Int64
def hwA (h : hp_T) (k : Nat) (f : Nat → Int32) : hp_T := (fun z => if z = k then f else h.1 z, h.2)
def hw (h : hp_T) (k i : Nat) (x : Int32) : hp_T := hwA h k (upd (h.1 k) i x)
def hwL (h : hp_T) (x : Int64) : hp_T := (h.1, x)
def ix (i : Int32) (n : Nat) : Bool := !(decide (i < 0) || decide (n ≤ i.toNatClampNeg))
theorem ix_vp {i : Int32} {n : Nat} (h : ix i n = true) : vp_in i n := by
  intro hc
  rcases hc with hc | hc <;> simp [ix, hc] at h
def bz (x : Int32) : Bool := decide (x = 0) || decide (x = 1)
def mx (x y : Int32) : Int32 := if x < y then y else x
def mn (x y : Int32) : Int32 := if y < x then y else x
def o_let {α β : Type} (a : α) (K : α → β) : β := K a
def o_call {α ρ : Type} (x : Option (α × hp_T)) (K : α → hp_T → Option ρ) : Option ρ := match x with
  | some (r, h) => K r h
  | none => none
def o_cv {ρ : Type} (x : Option hp_T) (K : hp_T → Option ρ) : Option ρ := match x with
  | some h => K h
  | none => none
theorem o_if {α : Type} {c : Bool} {x : Option α} {z : α} (E : (if c = true then x else none) = some z) : c = true ∧ x = some z := by
  cases c with
  | true => exact ⟨rfl, by simpa using E⟩
  | false => simp at E
theorem o_letE {α β : Type} {a : α} {K : α → β} {z : β} (E : o_let a K = z) : ∃ x, x = a ∧ K x = z := ⟨a, rfl, E⟩
theorem o_callE {α ρ : Type} {x : Option (α × hp_T)} {K : α → hp_T → Option ρ} {z : ρ} (E : o_call x K = some z) : ∃ r h, x = some (r, h) ∧ K r h = some z := by
  cases x with
  | none => cases E
  | some u => exact ⟨u.1, u.2, rfl, E⟩
theorem o_cvE {ρ : Type} {x : Option hp_T} {K : hp_T → Option ρ} {z : ρ} (E : o_cv x K = some z) : ∃ h, x = some h ∧ K h = some z := by
  cases x with
  | none => cases E
  | some u => exact ⟨u, rfl, E⟩
theorem o_pos {α : Type} {c : Prop} [Decidable c] {x y z : α} (hc : c) (E : (if c then x else y) = z) : x = z := by rwa [if_pos hc] at E
theorem o_neg {α : Type} {c : Prop} [Decidable c] {x y z : α} (hc : ¬ c) (E : (if c then x else y) = z) : y = z := by rwa [if_neg hc] at E
/-! locals by place -/
def lo_l : Nat → List (Option Value) → List (Nat × Value)
  | _, [] => []
  | i, none :: r => lo_l (i + 1) r
  | i, some v :: r => (i, v) :: lo_l (i + 1) r
theorem lo_mem : ∀ (lv : List (Option Value)) (i j : Nat) (v : Value), lv[j]? = some (some v) → (i + j, v) ∈ lo_l i lv
  | [], _, _, _, h => by simp at h
  | none :: r, i, 0, v, h => by simp at h
  | some w :: r, i, 0, v, h => by
    simp at h
    subst h
    exact List.mem_cons_self
  | none :: r, i, j + 1, v, h => by
    have := lo_mem r (i + 1) j v (by simpa using h)
    rw [show i + (j + 1) = i + 1 + j by omega]
    exact this
  | some w :: r, i, j + 1, v, h => by
    have := lo_mem r (i + 1) j v (by simpa using h)
    rw [show i + (j + 1) = i + 1 + j by omega]
    exact List.mem_cons_of_mem _ this
theorem lo_mem2 : ∀ (lv : List (Option Value)) (i k : Nat) (v : Value), (k, v) ∈ lo_l i lv → ∃ j, k = i + j ∧ lv[j]? = some (some v)
  | [], _, _, _, h => by cases h
  | none :: r, i, k, v, h => by
    obtain ⟨j, h1, h2⟩ := lo_mem2 r (i + 1) k v h
    exact ⟨j + 1, by omega, by simpa using h2⟩
  | some w :: r, i, k, v, h => by
    rcases List.mem_cons.mp h with h | h
    · cases h
      exact ⟨0, rfl, rfl⟩
    · obtain ⟨j, h1, h2⟩ := lo_mem2 r (i + 1) k v h
      exact ⟨j + 1, by omega, by simpa using h2⟩
def lo_has (ls : Array Slot) (n : Nat) (lv : List (Option Value)) : Prop := lv_has ls n (lo_l 0 lv)
theorem lo_at {ls : Array Slot} {n : Nat} {lv : List (Option Value)} (h : lo_has ls n lv) {j : Nat} {v : Value} (hj : lv[j]? = some (some v)) : ls[j]? = some (.val v) := by
  have := h.2.2 (0 + j, v) (lo_mem lv 0 j v hj)
  simpa using this
theorem lo_of {ls : Array Slot} {n : Nat} {lv : List (Option Value)} {l : List (Nat × Value)} (h : lv_has ls n l) (hs : ∀ j v, lv[j]? = some (some v) → (j, v) ∈ l) : lo_has ls n lv := by
  refine ⟨h.1, h.2.1, fun q hq => ?_⟩
  obtain ⟨k, v⟩ := q
  obtain ⟨j, h1, h2⟩ := lo_mem2 lv 0 k v hq
  have : k = j := by omega
  subst this
  exact h.2.2 _ (hs k v h2)
def lo_cut (lv : List (Option Value)) (j : Nat) : List (Option Value) := match lv[j]? with
  | some (some w) => if w.category = 2 then lv.set j none else lv
  | _ => lv
def lo_st (lv : List (Option Value)) (i : Nat) (v : Value) : List (Option Value) := match i with
  | 0 => lv.set 0 (some v)
  | j + 1 => (lo_cut lv j).set (j + 1) (some v)
theorem lo_cut_at {lv : List (Option Value)} {j k : Nat} {w : Value} (h : (lo_cut lv j)[k]? = some (some w)) : lv[k]? = some (some w) ∧ ¬ (k = j ∧ w.category = 2) := by
  unfold lo_cut at h
  split at h
  · rename_i u hu
    by_cases hc : u.category = 2
    · rw [if_pos hc] at h
      by_cases hk : j = k
      · subst hk
        rw [List.getElem?_set] at h
        simp at h
      · rw [List.getElem?_set_ne hk] at h
        exact ⟨h, fun hh => hk hh.1.symm⟩
    · rw [if_neg hc] at h
      refine ⟨h, fun hh => ?_⟩
      obtain ⟨rfl, hh⟩ := hh
      rw [hu] at h
      cases h
      exact hc hh
  · rename_i hn
    refine ⟨h, fun hh => ?_⟩
    obtain ⟨rfl, -⟩ := hh
    exact hn w h
theorem lo_st_at {lv : List (Option Value)} {i k : Nat} {v w : Value} (h : (lo_st lv i v)[k]? = some (some w)) : (k = i ∧ w = v) ∨ (k ≠ i ∧ lv[k]? = some (some w) ∧ ¬ (k + 1 = i ∧ w.category = 2)) := by
  cases i with
  | zero =>
    by_cases hk : k = 0
    · subst hk
      simp only [lo_st, List.getElem?_set] at h
      by_cases hl : 0 < lv.length
      · simp [hl] at h
        exact Or.inl ⟨rfl, h.symm⟩
      · simp [hl] at h
    · simp only [lo_st] at h
      rw [List.getElem?_set_ne (fun q => hk q.symm)] at h
      exact Or.inr ⟨hk, h, by omega⟩
  | succ j =>
    by_cases hk : k = j + 1
    · subst hk
      simp only [lo_st, List.getElem?_set] at h
      by_cases hl : j + 1 < (lo_cut lv j).length
      · simp [hl] at h
        exact Or.inl ⟨rfl, h.symm⟩
      · simp [hl] at h
    · simp only [lo_st] at h
      rw [List.getElem?_set_ne (fun q => hk q.symm)] at h
      obtain ⟨h1, h2⟩ := lo_cut_at h
      exact Or.inr ⟨hk, h1, fun hh => h2 ⟨by omega, hh.2⟩⟩
theorem lo_store1 {ls : Array Slot} {n i : Nat} {v : Value} {lv : List (Option Value)} (h : lv_has ls n ((i, v) :: (lo_l 0 lv).filter (fun q => !(q.1 == i) && !(q.1 + 1 == i && q.2.category == 2)))) : lo_has ls n (lo_st lv i v) := by
  refine lo_of h fun j w hj => ?_
  rcases lo_st_at hj with ⟨rfl, rfl⟩ | ⟨h1, h2, h3⟩
  · exact List.mem_cons_self
  · refine List.mem_cons_of_mem _ (List.mem_filter.mpr ⟨by simpa using lo_mem lv 0 j w h2, ?_⟩)
    simp only [Bool.and_eq_true, Bool.not_eq_true', beq_eq_false_iff_ne, ne_eq, Bool.and_eq_false_iff]
    refine ⟨h1, ?_⟩
    by_cases hq : j + 1 = i
    · exact Or.inr fun hc => h3 ⟨hq, hc⟩
    · exact Or.inl hq
theorem lo_store2 {ls : Array Slot} {n i : Nat} {v : Value} {lv : List (Option Value)} (h : lv_has ls n ((i, v) :: (lo_l 0 lv).filter (fun q => !(q.1 == i) && (!(q.1 == i + 1) && !(q.1 + 1 == i && q.2.category == 2))))) : lo_has ls n ((lo_st lv i v).set (i + 1) none) := by
  refine lo_of h fun j w hj => ?_
  have hn : ¬ j = i + 1 := by
    intro hh
    subst hh
    rw [List.getElem?_set] at hj
    simp at hj
  rw [List.getElem?_set_ne (fun q => hn q.symm)] at hj
  rcases lo_st_at hj with ⟨rfl, rfl⟩ | ⟨h1, h2, h3⟩
  · exact List.mem_cons_self
  · refine List.mem_cons_of_mem _ (List.mem_filter.mpr ⟨by simpa using lo_mem lv 0 j w h2, ?_⟩)
    simp only [Bool.and_eq_true, Bool.not_eq_true', beq_eq_false_iff_ne, ne_eq, Bool.and_eq_false_iff]
    refine ⟨h1, hn, ?_⟩
    by_cases hq : j + 1 = i
    · exact Or.inr fun hc => h3 ⟨hq, hc⟩
    · exact Or.inl hq
/-! the context of a walk, and the walk -/
abbrev g_T : Type := Program × Launch × Env × Room × State × MethodId × Array Value × List Frame × Method × Code × (State → Prop) × (Nat → Prop) × (hp_T → va_W) × va_G × List (ClassId × FieldType) × Nat × Nat × Nat
def aG (Γ : g_T) (own : String) (cc : ByteArray) (fr lo : Nat) : Prop := match Γ with
  | (p, _, _, R, s, m, args, _, _, c, _, A, _, D, tys, nL, nc, ns) => p.tables.exec = Jvm.exec ∧ c.code = cc ∧ c.maxLocals = nL ∧ s.vm.findClass own = some m.cls ∧ (∀ w ∈ gd_tbl, w.before args s = true) ∧ va_K D vwCl tys s ∧ (∀ q : Nat, s.heap.size ≤ q → A q) ∧ fr ≤ R.frames ∧ lo ≤ R.locals ∧ nc ≤ R.cells ∧ ns ≤ R.slots
def aA (Γ : g_T) (pc : Nat) (lv : List (Option Value)) (st : List Value) (h : hp_T) : Prop := match Γ with
  | (p, l, e, R, s, m, args, below, meth, c, Q, A, wsf, D, _, nL, nc, ns) => ∀ (H : Heap) (locs : List Loc) (ls : Array Slot), va_P D vwCl (wsf h) H → va_D A (wsf h) → va_S A s.heap H locs → lo_has ls nL lv → W p l e R s m args below meth c H locs nc ns Q (F0 m pc ls st)
