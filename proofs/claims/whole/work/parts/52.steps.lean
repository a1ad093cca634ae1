/-! the same questions of a class that may still have to settle -/
theorem same_if {α : Type} {h h2 : hp_T} {c : Prop} [Decidable c] {a b a2 b2 : Option (α × hp_T)} (h1 : c → same h h2 a a2) (h3 : ¬ c → same h h2 b b2) : same h h2 (if c then a else b) (if c then a2 else b2) := by
  by_cases z : c
  · rw [if_pos z, if_pos z]; exact h1 z
  · rw [if_neg z, if_neg z]; exact h3 z
theorem same_r {α : Type} {h h2 : hp_T} {r : α} : same h h2 (some (r, h)) (some (r, h2)) := Or.inl ⟨r, rfl, rfl⟩
theorem same_x {α : Type} {h h2 : hp_T} {x : Option (α × hp_T)} : same h h2 x x := Or.inr rfl
theorem deep_ok {h m : hp_T} (R : RelD DerAll h m) : stp (RelD DerAll) (f_X9_deep h) (f_X10_deep m) := by
  obtain ⟨h2, n, K, E, e4, V⟩ := rel_vr R
  refine step_of (h2 := h2) R ?_ (q_deep V)
  unfold f_X9_deep
  rw [E, V.1.st]
  exact same_x
theorem point_ok {h m : hp_T} (R : RelD DerAll h m) : stp (RelD DerAll) (f_X9_point h) (f_X10_point m) := by
  obtain ⟨h2, n, K, E, e4, V⟩ := rel_vr R
  refine step_of (h2 := h2) R ?_ (q_point V)
  unfold f_X9_point
  rw [E, V.1.st]
  exact same_x
theorem clashes_ok {h m : hp_T} (R : RelD DerAll h m) : stp (RelD DerAll) (f_X9_clashes h) (f_X10_clashes m) := by
  obtain ⟨h2, n, K, E, e4, V⟩ := rel_vr R
  refine step_of (h2 := h2) R ?_ (q_clashes V)
  unfold f_X9_clashes
  rw [E, V.1.st]
  exact same_x
theorem alone_ok {h m : hp_T} (R : RelD DerAll h m) : stp (RelD DerAll) (f_X9_alone h) (f_X10_alone m) := by
  obtain ⟨h2, n, K, E, e4, V⟩ := rel_vr R
  refine step_of (h2 := h2) R ?_ (q_alone V)
  unfold f_X9_alone
  rw [E, V.1.st]
  exact same_x
theorem root_ok {h m : hp_T} (R : RelD DerAll h m) : stp (RelD DerAll) (f_X9_root h) (f_X10_root m) := by
  obtain ⟨h2, n, K, E, e4, V⟩ := rel_vr R
  refine step_of (h2 := h2) R ?_ (q_root V)
  unfold f_X9_root
  rw [E, V.1.st]
  exact same_x
theorem count_ok {h m : hp_T} {w : Int32} (R : RelD DerAll h m) : stp (RelD DerAll) (f_X9_count w h) (f_X10_count w m) := by
  obtain ⟨h2, n, K, E, e4, V⟩ := rel_vr R
  refine step_of (h2 := h2) R ?_ (q_count V)
  unfold f_X9_count
  rw [E, V.1.st]
  exact same_x
theorem taken_ok {h m : hp_T} {a b : Int32} (R : RelD DerAll h m) : stp (RelD DerAll) (f_X9_taken a b h) (f_X10_taken a b m) := by
  obtain ⟨h2, n, K, E, e4, V⟩ := rel_vr R
  refine step_of (h2 := h2) R ?_ (q_taken V)
  unfold f_X9_taken
  rw [e_isStretch, e_isStretch, c_some, c_some]
  refine same_if (fun _ => same_r) fun _ => ?_
  rw [E, V.1.st]
  exact same_x
theorem frees_ok {h m : hp_T} {a b : Int32} (R : RelD DerAll h m) : stp (RelD DerAll) (f_X9_frees a b h) (f_X10_frees a b m) := by
  obtain ⟨h2, n, K, E, e4, V⟩ := rel_vr R
  refine step_of (h2 := h2) R ?_ (q_frees V)
  unfold f_X9_frees
  rw [e_isStretch, e_isStretch, c_some, c_some]
  refine same_if (fun _ => same_r) fun _ => ?_
  rw [E, V.1.st]
  exact same_x
theorem looks_ok {h m : hp_T} {a b : Int32} (R : RelD DerAll h m) : stp (RelD DerAll) (f_X9_looks a b h) (f_X10_looks a b m) := by
  obtain ⟨h2, n, K, E, e4, V⟩ := rel_vr R
  refine step_of (h2 := h2) R ?_ (q_looks V)
  unfold f_X9_looks
  rw [e_isStretch, e_isStretch, c_some, c_some]
  refine same_if (fun _ => same_r) fun _ => ?_
  rw [E, V.1.st]
  exact same_x
theorem free_ok {h m : hp_T} {a b i w : Int32} (R : RelD DerAll h m) : stp (RelD DerAll) (f_X9_free a b i w h) (f_X10_free a b i w m) := by
  obtain ⟨h2, n, K, E, e4, V⟩ := rel_vr R
  refine step_of (h2 := h2) R ?_ (q_free V)
  unfold f_X9_free
  rw [e_isStretch, e_isStretch, c_some, c_some]
  refine same_if (fun _ => same_r) fun _ => same_if (fun _ => same_r) fun _ => same_if (fun _ => same_r) fun _ => same_if (fun _ => same_r) fun _ => same_if (fun _ => ?_) fun _ => same_r
  rw [E, V.1.st]
  exact same_x
theorem place_ok {h m : hp_T} {p z w : Int32} (R : RelD DerAll h m) : stp (RelD DerAll) (f_X9_place p z w h) (f_X10_place p z w m) := by
  obtain ⟨h2, n, K, E, e4, V⟩ := rel_vr R
  refine step_of (h2 := h2) R ?_ (q_place V)
  unfold f_X9_place
  rw [e_isPoint, e_isPoint, c_some, c_some]
  refine same_if (fun _ => same_r) fun _ => same_if (fun _ => same_r) fun _ => same_if (fun _ => same_r) fun _ => same_if (fun _ => same_r) fun _ => same_if (fun _ => ?_) fun _ => same_r
  rw [E, V.1.st]
  exact same_x
theorem room_ok {h m : hp_T} {p : Int32} (R : RelD DerAll h m) : stp (RelD DerAll) (f_X9_room p h) (f_X10_room p m) := by
  obtain ⟨h2, n, K, E, e4, V⟩ := rel_vr R
  refine step_of (h2 := h2) R ?_ (q_room V)
  unfold f_X9_room
  rw [e_isKN, e_isKN, c_some, c_some, e4, E, V.1.st]
  exact same_if (fun _ => same_r) fun _ => same_if (fun _ => same_x) fun _ => same_if (fun _ => same_if (fun _ => same_r) fun _ => same_x) fun _ => same_x
theorem keep_ok {h m : hp_T} {p : Int32} (R : RelD DerAll h m) : stp (RelD DerAll) (f_X9_keep p h) (f_X10_keep p m) := by
  obtain ⟨h2, n, K, E, e4, V⟩ := rel_vr R
  refine step_of (h2 := h2) R ?_ (q_keep V)
  unfold f_X9_keep
  rw [e_isKN, e_isKN, c_some, c_some, E, V.1.st]
  exact same_if (fun _ => same_r) fun _ => same_x
theorem clash_ok {h m : hp_T} {i w : Int32} (R : RelD DerAll h m) : stp (RelD DerAll) (f_X9_clash i w h) (f_X10_clash i w m) := by
  obtain ⟨h2, n, K, E, e4, V⟩ := rel_vr R
  refine step_of (h2 := h2) R ?_ (q_clash V)
  unfold f_X9_clash
  rw [E, V.1.st]
  exact same_if (fun _ => same_r) fun _ => same_if (fun _ => same_r) fun _ => same_if (fun _ => same_r) fun _ => same_if (fun _ => same_x) fun _ => same_r
theorem group_ok {h m : hp_T} {p w : Int32} (R : RelD DerAll h m) : stp (RelD DerAll) (f_X9_group p w h) (f_X10_group p w m) := by
  obtain ⟨h2, n, K, E, e4, V⟩ := rel_vr R
  refine step_of (h2 := h2) R ?_ (q_group V)
  unfold f_X9_group
  rw [e_isKN, e_isKN, c_some, c_some, e4, E, V.1.st]
  exact same_if (fun _ => same_r) fun _ => same_if (fun _ => same_r) fun _ => same_if (fun _ => same_if (fun _ => same_x) fun _ => same_if (fun _ => same_if (fun _ => same_r) fun _ => same_x) fun _ => same_x) fun _ => same_r
theorem tree_ok {h m : hp_T} {p w : Int32} (R : RelD DerAll h m) : stp (RelD DerAll) (f_X9_tree p w h) (f_X10_tree p w m) := by
  obtain ⟨h2, n, K, E, e4, V⟩ := rel_vr R
  refine step_of (h2 := h2) R ?_ (q_tree V)
  unfold f_X9_tree
  rw [e_isKey, e_isKey, c_some, c_some, e4, E, V.1.st]
  exact same_if (fun _ => same_r) fun _ => same_if (fun _ => same_r) fun _ => same_if (fun _ => same_if (fun _ => same_if (fun _ => same_r) fun _ => same_x) fun _ => same_x) fun _ => same_r
theorem end_ok {h m : hp_T} {p : Int32} (R : RelD DerAll h m) : stp (RelD DerAll) (f_X9_end p h) (f_X10_end p m) := by
  obtain ⟨h2, n, K, E, e4, V⟩ := rel_vr R
  refine step_of (h2 := h2) R ?_ (qq_end V)
  unfold f_X9_end f_X9_isThere
  rw [e_isKey, e_isKey, c_some, c_some, e4]
  by_cases cp : kb p
  case neg =>
    rw [b01_f cp, if_pos p00, if_pos p00, c_some, c_some, if_pos p00, if_pos p00]
    exact same_r
  rw [b01_t cp, if_neg n10, if_neg n10]
  obtain ⟨k, hk, rfl⟩ := key_of cp
  rw [if_pos (ix_n hk (by omega)), if_pos (ix_n hk (by omega))]
  by_cases ct : h.1 4 (nI k).toNatClampNeg = 0
  · rw [if_pos ct, if_pos ct, c_some, c_some, if_pos p00, if_pos p00]
    exact same_r
  · rw [if_neg ct, if_neg ct, c_some, c_some, if_neg n10, if_neg n10, E, V.1.st]
    exact same_x
