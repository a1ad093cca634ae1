set_option maxRecDepth 4000 in
theorem w_X1_pointsOf {Γ : g_T} {q : Nat → Nat} {p1 : Int32} {p2 : Int32} {p3 : Int32}  {r : Int32} {h2 : hp_T} {h : hp_T} (X : aC 0 Γ q RX1 cX1_pointsOf 1 21) (N : ∀ k, k < 4 → aN Γ k) (hret : ∀ pc lv, decode cX1_pointsOf pc = .ok (.ireturn, 1) → aA Γ pc lv [.int r] h2) (E : f_X1_pointsOf p1 p2 p3 h = some (r, h2)) : aA Γ 0 [some (.ref (q 22)), some (.int p1), some (.int p2), some (.int p3)] [] h := by
  unfold f_X1_pointsOf at E
  refine aI_aload_n X.1 dX1_pointsOf_0 rfl ?_
  refine gf_1_15 X dX1_pointsOf_1 ?_
  refine aI_iload_n X.1 dX1_pointsOf_4 rfl ?_
  obtain ⟨g1, E⟩ := o_if E
  refine al0_24 X g1 dX1_pointsOf_5 ?_
  refine aI_iload_n X.1 dX1_pointsOf_6 rfl ?_
  refine aI_min X.1 ml_1_46 ms_min mi_Math mc_min (by decide) (Nat.le_of_ble_eq_true rfl) dX1_pointsOf_7 ?_
  refine aI_aload_n X.1 dX1_pointsOf_10 rfl ?_
  refine gf_1_9 X dX1_pointsOf_11 ?_
  refine aI_iload_n X.1 dX1_pointsOf_14 rfl ?_
  obtain ⟨g2, E⟩ := o_if E
  refine al0_23 X g2 dX1_pointsOf_15 ?_
  refine aI_iload_n X.1 dX1_pointsOf_16 rfl ?_
  refine aI_max X.1 ml_1_39 ms_max mi_Math mc_max (by decide) (Nat.le_of_ble_eq_true rfl) dX1_pointsOf_17 ?_
  refine aI_isub X.1 dX1_pointsOf_20 ?_
  refine aI_iconst (v := 0) X.1 dX1_pointsOf_21 (by decide) ?_
  refine aI_max X.1 ml_1_39 ms_max mi_Math mc_max (by decide) (Nat.le_of_ble_eq_true rfl) dX1_pointsOf_22 ?_
  exact aI_iret E (hret _ _ dX1_pointsOf_25)
theorem c_X1_pointsOf {q : Nat → Nat} {p1 : Int32} {p2 : Int32} {p3 : Int32}  {r : Int32} {h2 : hp_T} {h : hp_T} (E : f_X1_pointsOf p1 p2 p3 h = some (r, h2)) : cI 0 yX1_pointsOf cX1_pointsOf 4 .int 1 21 q [.ref (q 22), .int p1, .int p2, .int p3] h r h2 := metI (own := RX1) (by decide) rfl (Nat.le_of_ble_eq_true rfl) rfl (fun Γ X N hret => w_X1_pointsOf X N hret E)
set_option maxRecDepth 4000 in
theorem w_X1_pointsWithin_L1 {Γ : g_T} {q : Nat → Nat}  {u1 : Int32} {u2 : Int32}  {r : Int32} {h2 : hp_T} (X : aC 0 Γ q RX1 cX1_pointsWithin 2 44) (N : ∀ k, k < 5 → aN Γ k) (hret : ∀ pc lv, decode cX1_pointsWithin pc = .ok (.ireturn, 1) → aA Γ pc lv [.int r] h2) {K : Int32 → Int32 → hp_T → Option (Int32 × hp_T)} (hk : ∀ v3 v4 h, K v3 v4 h = some (r, h2) → aA Γ 31 [some (.ref (q 22)), some (.int u1), some (.int u2), some (.int v3), some (.int v4)] [] h) : ∀ (n : Nat) (v3 : Int32) (v4 : Int32) (h : hp_T), f_X1_pointsWithin_L1 u1 u2 K n v3 v4 h = some (r, h2) → aA Γ 5 [some (.ref (q 22)), some (.int u1), some (.int u2), some (.int v3), some (.int v4)] [] h := by
  intro n
  induction n with
  | zero =>
    intro v3 v4 h E
    cases E
  | succ n ih =>
    intro v3 v4 h E
    rw [f_X1_pointsWithin_L1] at E
    refine aI_iload X.1 dX1_pointsWithin_5 rfl ?_
    refine aI_aload_n X.1 dX1_pointsWithin_7 rfl ?_
    refine gf_1_18 X dX1_pointsWithin_8 ?_
    refine aI_icmp_ge (tgt := 31) X.1 dX1_pointsWithin_11 (by decide) (fun c1 => ?_) (fun c1 => ?_)
    · have E := o_pos c1 E
      exact hk v3 v4 h E
    · have E := o_neg c1 E
      refine aI_iload_n X.1 dX1_pointsWithin_14 rfl ?_
      refine aI_aload_n X.1 dX1_pointsWithin_15 rfl ?_
      refine aI_iload X.1 dX1_pointsWithin_16 rfl ?_
      refine aI_iload_n X.1 dX1_pointsWithin_18 rfl ?_
      refine aI_iload_n X.1 dX1_pointsWithin_19 rfl ?_
      obtain ⟨r3, h2, e4, E⟩ := o_callE E
      refine cv_X1_pointsOf X (c_X1_pointsOf e4) ml_1_49 (by decide) (by decide) (Nat.le_of_ble_eq_true rfl) dX1_pointsWithin_20 ?_
      refine aI_iadd X.1 dX1_pointsWithin_23 ?_
      obtain ⟨x5, ex5, E⟩ := o_letE E
      refine aI_eqi ex5 ?_
      refine aI_istore_n (lv2 := [some (.ref (q 22)), some (.int u1), some (.int u2), some (.int x5), some (.int v4)]) X.1 dX1_pointsWithin_24 (N 3 (by decide)) rfl ?_
      obtain ⟨x6, ex6, E⟩ := o_letE E
      refine aI_iinc (v := 1) (lv2 := [some (.ref (q 22)), some (.int u1), some (.int u2), some (.int x5), some (.int x6)]) X.1 dX1_pointsWithin_25 (N 4 (by decide)) rfl (by decide) (by rw [← ex6]; rfl) ?_
      refine aI_goto (tgt := 5) X.1 dX1_pointsWithin_28 (by decide) ?_
      exact ih x5 x6 h2 E
set_option maxRecDepth 4000 in
theorem w_X1_pointsWithin {Γ : g_T} {q : Nat → Nat} {p1 : Int32} {p2 : Int32}  {r : Int32} {h2 : hp_T} {h : hp_T} (X : aC 0 Γ q RX1 cX1_pointsWithin 2 44) (N : ∀ k, k < 5 → aN Γ k) (hret : ∀ pc lv, decode cX1_pointsWithin pc = .ok (.ireturn, 1) → aA Γ pc lv [.int r] h2) (E : f_X1_pointsWithin p1 p2 h = some (r, h2)) : aA Γ 0 [some (.ref (q 22)), some (.int p1), some (.int p2), none, none] [] h := by
  unfold f_X1_pointsWithin at E
  refine aI_iconst (v := 0) X.1 dX1_pointsWithin_0 (by decide) ?_
  refine aI_istore_n (lv2 := [some (.ref (q 22)), some (.int p1), some (.int p2), some (.int (0 : Int32)), none]) X.1 dX1_pointsWithin_1 (N 3 (by decide)) rfl ?_
  refine aI_iconst (v := 0) X.1 dX1_pointsWithin_2 (by decide) ?_
  refine aI_istore (lv2 := [some (.ref (q 22)), some (.int p1), some (.int p2), some (.int (0 : Int32)), some (.int (0 : Int32))]) X.1 dX1_pointsWithin_3 (N 4 (by decide)) rfl ?_
  refine w_X1_pointsWithin_L1  X N hret ?_ 100 (0 : Int32) (0 : Int32) h E
  intro x7 x8 h9 E
  refine aI_iload_n X.1 dX1_pointsWithin_31 rfl ?_
  exact aI_iret E (hret _ _ dX1_pointsWithin_32)
theorem c_X1_pointsWithin {q : Nat → Nat} {p1 : Int32} {p2 : Int32}  {r : Int32} {h2 : hp_T} {h : hp_T} (E : f_X1_pointsWithin p1 p2 h = some (r, h2)) : cI 0 yX1_pointsWithin cX1_pointsWithin 5 .int 2 44 q [.ref (q 22), .int p1, .int p2] h r h2 := metI (own := RX1) (by decide) rfl (Nat.le_of_ble_eq_true rfl) rfl (fun Γ X N hret => w_X1_pointsWithin X N hret E)
set_option maxRecDepth 4000 in
theorem w_X9_taken {Γ : g_T} {q : Nat → Nat} {p1 : Int32} {p2 : Int32}  {r : Int32} {h2 : hp_T} {h : hp_T} (X : aC 0 Γ q RX9 cX9_taken 4 88) (N : ∀ k, k < 3 → aN Γ k) (hret : ∀ pc lv, decode cX9_taken pc = .ok (.ireturn, 1) → aA Γ pc lv [.int r] h2) (E : f_X9_taken p1 p2 h = some (r, h2)) : aA Γ 0 [some (.ref (q 0)), some (.int p1), some (.int p2)] [] h := by
  unfold f_X9_taken at E
  refine aI_iload_n X.1 dX9_taken_0 rfl ?_
  refine aI_iload_n X.1 dX9_taken_1 rfl ?_
  obtain ⟨r2, h1, e3, E⟩ := o_callE E
  refine cv_X9_isStretch X (c_X9_isStretch e3) ml_9_84 (by decide) (by decide) (Nat.le_of_ble_eq_true rfl) dX9_taken_2 ?_
  refine aI_if_ne (tgt := 11) X.1 dX9_taken_5 (by decide) (fun c4 => ?_) (fun c4 => ?_)
  · have E := o_neg c4 E
    refine aI_aload_n X.1 dX9_taken_11 rfl ?_
    obtain ⟨h5, e6, E⟩ := o_cvE E
    refine cv_X9_settle X (c_X9_settle e6) ml_9_151 (by decide) (by decide) (Nat.le_of_ble_eq_true rfl) dX9_taken_12 ?_
    refine aI_iload_n X.1 dX9_taken_15 rfl ?_
    refine aI_iload_n X.1 dX9_taken_16 rfl ?_
    refine aI_isub X.1 dX9_taken_17 ?_
    refine aI_aload_n X.1 dX9_taken_18 rfl ?_
    refine gf_9_33 X dX9_taken_19 ?_
    refine aI_iload_n X.1 dX9_taken_22 rfl ?_
    refine aI_iload_n X.1 dX9_taken_23 rfl ?_
    obtain ⟨r8, h7, e9, E⟩ := o_callE E
    refine cv_X1_pointsWithin X (c_X1_pointsWithin e9) ml_9_196 (by decide) (by decide) (Nat.le_of_ble_eq_true rfl) dX9_taken_24 ?_
    refine aI_isub X.1 dX9_taken_27 ?_
    exact aI_iret E (hret _ _ dX9_taken_28)
  · have E := o_pos c4 E
    refine aI_bipush (v := -2) X.1 dX9_taken_8 (by decide) ?_
    exact aI_iret E (hret _ _ dX9_taken_10)
theorem c_X9_taken {q : Nat → Nat} {p1 : Int32} {p2 : Int32}  {r : Int32} {h2 : hp_T} {h : hp_T} (E : f_X9_taken p1 p2 h = some (r, h2)) : cI 0 yX9_taken cX9_taken 3 .int 4 88 q [.ref (q 0), .int p1, .int p2] h r h2 := metI (own := RX9) (by decide) rfl (Nat.le_of_ble_eq_true rfl) rfl (fun Γ X N hret => w_X9_taken X N hret E)
set_option maxRecDepth 4000 in
theorem w_X1_partsWithin_L1 {Γ : g_T} {q : Nat → Nat}  {u1 : Int32} {u2 : Int32}  {r : Int32} {h2 : hp_T} (X : aC 0 Γ q RX1 cX1_partsWithin 2 44) (N : ∀ k, k < 5 → aN Γ k) (hret : ∀ pc lv, decode cX1_partsWithin pc = .ok (.ireturn, 1) → aA Γ pc lv [.int r] h2) {K : Int32 → Int32 → hp_T → Option (Int32 × hp_T)} (hk : ∀ v3 v4 h, K v3 v4 h = some (r, h2) → aA Γ 39 [some (.ref (q 22)), some (.int u1), some (.int u2), some (.int v3), some (.int v4)] [] h) : ∀ (n : Nat) (v3 : Int32) (v4 : Int32) (h : hp_T), f_X1_partsWithin_L1 u1 u2 K n v3 v4 h = some (r, h2) → aA Γ 5 [some (.ref (q 22)), some (.int u1), some (.int u2), some (.int v3), some (.int v4)] [] h := by
  intro n
  induction n with
  | zero =>
    intro v3 v4 h E
    cases E
  | succ n ih =>
    intro v3 v4 h E
    rw [f_X1_partsWithin_L1] at E
    refine aI_iload X.1 dX1_partsWithin_5 rfl ?_
    refine aI_aload_n X.1 dX1_partsWithin_7 rfl ?_
    refine gf_1_18 X dX1_partsWithin_8 ?_
    refine aI_icmp_ge (tgt := 39) X.1 dX1_partsWithin_11 (by decide) (fun c1 => ?_) (fun c1 => ?_)
    · have E := o_pos c1 E
      exact hk v3 v4 h E
    · have E := o_neg c1 E
      refine aI_iload_n X.1 dX1_partsWithin_14 rfl ?_
      refine aI_aload_n X.1 dX1_partsWithin_15 rfl ?_
      refine aI_iload X.1 dX1_partsWithin_16 rfl ?_
      refine aI_iload_n X.1 dX1_partsWithin_18 rfl ?_
      refine aI_iload_n X.1 dX1_partsWithin_19 rfl ?_
      obtain ⟨r3, h2, e4, E⟩ := o_callE E
      refine cv_X1_pointsOf X (c_X1_pointsOf e4) ml_1_49 (by decide) (by decide) (Nat.le_of_ble_eq_true rfl) dX1_partsWithin_20 ?_
      refine aI_if_le (tgt := 30) X.1 dX1_partsWithin_23 (by decide) (fun c5 => ?_) (fun c5 => ?_)
      · have E := o_pos c5 E
        refine aI_iconst (v := 0) X.1 dX1_partsWithin_30 (by decide) ?_
        refine aI_iadd X.1 dX1_partsWithin_31 ?_
        obtain ⟨x6, ex6, E⟩ := o_letE E
        refine aI_eqi ex6 ?_
        refine aI_istore_n (lv2 := [some (.ref (q 22)), some (.int u1), some (.int u2), some (.int x6), some (.int v4)]) X.1 dX1_partsWithin_32 (N 3 (by decide)) rfl ?_
        obtain ⟨x7, ex7, E⟩ := o_letE E
        refine aI_iinc (v := 1) (lv2 := [some (.ref (q 22)), some (.int u1), some (.int u2), some (.int x6), some (.int x7)]) X.1 dX1_partsWithin_33 (N 4 (by decide)) rfl (by decide) (by rw [← ex7]; rfl) ?_
        refine aI_goto (tgt := 5) X.1 dX1_partsWithin_36 (by decide) ?_
        exact ih x6 x7 h2 E
      · have E := o_neg c5 E
        refine aI_iconst (v := 1) X.1 dX1_partsWithin_26 (by decide) ?_
        refine aI_goto (tgt := 31) X.1 dX1_partsWithin_27 (by decide) ?_
        refine aI_iadd X.1 dX1_partsWithin_31 ?_
        obtain ⟨x8, ex8, E⟩ := o_letE E
        refine aI_eqi ex8 ?_
        refine aI_istore_n (lv2 := [some (.ref (q 22)), some (.int u1), some (.int u2), some (.int x8), some (.int v4)]) X.1 dX1_partsWithin_32 (N 3 (by decide)) rfl ?_
        obtain ⟨x9, ex9, E⟩ := o_letE E
        refine aI_iinc (v := 1) (lv2 := [some (.ref (q 22)), some (.int u1), some (.int u2), some (.int x8), some (.int x9)]) X.1 dX1_partsWithin_33 (N 4 (by decide)) rfl (by decide) (by rw [← ex9]; rfl) ?_
        refine aI_goto (tgt := 5) X.1 dX1_partsWithin_36 (by decide) ?_
        exact ih x8 x9 h2 E
set_option maxRecDepth 4000 in
theorem w_X1_partsWithin {Γ : g_T} {q : Nat → Nat} {p1 : Int32} {p2 : Int32}  {r : Int32} {h2 : hp_T} {h : hp_T} (X : aC 0 Γ q RX1 cX1_partsWithin 2 44) (N : ∀ k, k < 5 → aN Γ k) (hret : ∀ pc lv, decode cX1_partsWithin pc = .ok (.ireturn, 1) → aA Γ pc lv [.int r] h2) (E : f_X1_partsWithin p1 p2 h = some (r, h2)) : aA Γ 0 [some (.ref (q 22)), some (.int p1), some (.int p2), none, none] [] h := by
  unfold f_X1_partsWithin at E
  refine aI_iconst (v := 0) X.1 dX1_partsWithin_0 (by decide) ?_
  refine aI_istore_n (lv2 := [some (.ref (q 22)), some (.int p1), some (.int p2), some (.int (0 : Int32)), none]) X.1 dX1_partsWithin_1 (N 3 (by decide)) rfl ?_
  refine aI_iconst (v := 0) X.1 dX1_partsWithin_2 (by decide) ?_
  refine aI_istore (lv2 := [some (.ref (q 22)), some (.int p1), some (.int p2), some (.int (0 : Int32)), some (.int (0 : Int32))]) X.1 dX1_partsWithin_3 (N 4 (by decide)) rfl ?_
  refine w_X1_partsWithin_L1  X N hret ?_ 100 (0 : Int32) (0 : Int32) h E
  intro x10 x11 h12 E
  refine aI_iload_n X.1 dX1_partsWithin_39 rfl ?_
  exact aI_iret E (hret _ _ dX1_partsWithin_40)
theorem c_X1_partsWithin {q : Nat → Nat} {p1 : Int32} {p2 : Int32}  {r : Int32} {h2 : hp_T} {h : hp_T} (E : f_X1_partsWithin p1 p2 h = some (r, h2)) : cI 0 yX1_partsWithin cX1_partsWithin 5 .int 2 44 q [.ref (q 22), .int p1, .int p2] h r h2 := metI (own := RX1) (by decide) rfl (Nat.le_of_ble_eq_true rfl) rfl (fun Γ X N hret => w_X1_partsWithin X N hret E)
set_option maxRecDepth 4000 in
theorem w_X9_frees {Γ : g_T} {q : Nat → Nat} {p1 : Int32} {p2 : Int32}  {r : Int32} {h2 : hp_T} {h : hp_T} (X : aC 0 Γ q RX9 cX9_frees 4 88) (N : ∀ k, k < 3 → aN Γ k) (hret : ∀ pc lv, decode cX9_frees pc = .ok (.ireturn, 1) → aA Γ pc lv [.int r] h2) (E : f_X9_frees p1 p2 h = some (r, h2)) : aA Γ 0 [some (.ref (q 0)), some (.int p1), some (.int p2)] [] h := by
  unfold f_X9_frees at E
  refine aI_iload_n X.1 dX9_frees_0 rfl ?_
  refine aI_iload_n X.1 dX9_frees_1 rfl ?_
  obtain ⟨r2, h1, e3, E⟩ := o_callE E
  refine cv_X9_isStretch X (c_X9_isStretch e3) ml_9_84 (by decide) (by decide) (Nat.le_of_ble_eq_true rfl) dX9_frees_2 ?_
  refine aI_if_ne (tgt := 11) X.1 dX9_frees_5 (by decide) (fun c4 => ?_) (fun c4 => ?_)
  · have E := o_neg c4 E
    refine aI_aload_n X.1 dX9_frees_11 rfl ?_
    obtain ⟨h5, e6, E⟩ := o_cvE E
    refine cv_X9_settle X (c_X9_settle e6) ml_9_151 (by decide) (by decide) (Nat.le_of_ble_eq_true rfl) dX9_frees_12 ?_
    refine aI_aload_n X.1 dX9_frees_15 rfl ?_
    refine gf_9_33 X dX9_frees_16 ?_
    refine aI_iload_n X.1 dX9_frees_19 rfl ?_
    refine aI_iload_n X.1 dX9_frees_20 rfl ?_
    obtain ⟨r8, h7, e9, E⟩ := o_callE E
    refine cv_X1_partsWithin X (c_X1_partsWithin e9) ml_9_199 (by decide) (by decide) (Nat.le_of_ble_eq_true rfl) dX9_frees_21 ?_
    exact aI_iret E (hret _ _ dX9_frees_24)
  · have E := o_pos c4 E
    refine aI_bipush (v := -2) X.1 dX9_frees_8 (by decide) ?_
    exact aI_iret E (hret _ _ dX9_frees_10)
theorem c_X9_frees {q : Nat → Nat} {p1 : Int32} {p2 : Int32}  {r : Int32} {h2 : hp_T} {h : hp_T} (E : f_X9_frees p1 p2 h = some (r, h2)) : cI 0 yX9_frees cX9_frees 3 .int 4 88 q [.ref (q 0), .int p1, .int p2] h r h2 := metI (own := RX9) (by decide) rfl (Nat.le_of_ble_eq_true rfl) rfl (fun Γ X N hret => w_X9_frees X N hret E)
set_option maxRecDepth 4000 in
theorem w_X1_partAt_L1 {Γ : g_T} {q : Nat → Nat}  {u1 : Int32} {u2 : Int32} {u3 : Int32}  {r : Int32} {h2 : hp_T} (X : aC 0 Γ q RX1 cX1_partAt 2 44) (N : ∀ k, k < 6 → aN Γ k) (hret : ∀ pc lv, decode cX1_partAt pc = .ok (.ireturn, 1) → aA Γ pc lv [.int r] h2) {K : Int32 → Int32 → hp_T → Option (Int32 × hp_T)} (hk : ∀ v4 v5 h, K v4 v5 h = some (r, h2) → aA Γ 44 [some (.ref (q 22)), some (.int u1), some (.int u2), some (.int u3), some (.int v4), some (.int v5)] [] h) : ∀ (n : Nat) (v4 : Int32) (v5 : Int32) (h : hp_T), f_X1_partAt_L1 u1 u2 u3 K n v4 v5 h = some (r, h2) → aA Γ 6 [some (.ref (q 22)), some (.int u1), some (.int u2), some (.int u3), some (.int v4), some (.int v5)] [] h := by
  intro n
  induction n with
  | zero =>
    intro v4 v5 h E
    cases E
  | succ n ih =>
    intro v4 v5 h E
    rw [f_X1_partAt_L1] at E
    refine aI_iload X.1 dX1_partAt_6 rfl ?_
    refine aI_aload_n X.1 dX1_partAt_8 rfl ?_
    refine gf_1_18 X dX1_partAt_9 ?_
    refine aI_icmp_ge (tgt := 44) X.1 dX1_partAt_12 (by decide) (fun c1 => ?_) (fun c1 => ?_)
    · have E := o_pos c1 E
      exact hk v4 v5 h E
    · have E := o_neg c1 E
      refine aI_aload_n X.1 dX1_partAt_15 rfl ?_
      refine aI_iload X.1 dX1_partAt_16 rfl ?_
      refine aI_iload_n X.1 dX1_partAt_18 rfl ?_
      refine aI_iload_n X.1 dX1_partAt_19 rfl ?_
      obtain ⟨r3, h2, e4, E⟩ := o_callE E
      refine cv_X1_pointsOf X (c_X1_pointsOf e4) ml_1_49 (by decide) (by decide) (Nat.le_of_ble_eq_true rfl) dX1_partAt_20 ?_
      refine aI_if_le (tgt := 38) X.1 dX1_partAt_23 (by decide) (fun c5 => ?_) (fun c5 => ?_)
      · have E := o_pos c5 E
        obtain ⟨x6, ex6, E⟩ := o_letE E
        refine aI_iinc (v := 1) (lv2 := [some (.ref (q 22)), some (.int u1), some (.int u2), some (.int u3), some (.int v4), some (.int x6)]) X.1 dX1_partAt_38 (N 5 (by decide)) rfl (by decide) (by rw [← ex6]; rfl) ?_
        refine aI_goto (tgt := 6) X.1 dX1_partAt_41 (by decide) ?_
        exact ih v4 x6 h2 E
      · have E := o_neg c5 E
        refine aI_iload X.1 dX1_partAt_26 rfl ?_
        refine aI_iload_n X.1 dX1_partAt_28 rfl ?_
        refine aI_icmp_ne (tgt := 35) X.1 dX1_partAt_29 (by decide) (fun c7 => ?_) (fun c7 => ?_)
        · have E := o_neg c7 E
          obtain ⟨x8, ex8, E⟩ := o_letE E
          refine aI_iinc (v := 1) (lv2 := [some (.ref (q 22)), some (.int u1), some (.int u2), some (.int u3), some (.int x8), some (.int v5)]) X.1 dX1_partAt_35 (N 4 (by decide)) rfl (by decide) (by rw [← ex8]; rfl) ?_
          obtain ⟨x9, ex9, E⟩ := o_letE E
          refine aI_iinc (v := 1) (lv2 := [some (.ref (q 22)), some (.int u1), some (.int u2), some (.int u3), some (.int x8), some (.int x9)]) X.1 dX1_partAt_38 (N 5 (by decide)) rfl (by decide) (by rw [← ex9]; rfl) ?_
          refine aI_goto (tgt := 6) X.1 dX1_partAt_41 (by decide) ?_
          exact ih x8 x9 h2 E
        · have E := o_pos c7 E
          refine aI_iload X.1 dX1_partAt_32 rfl ?_
          exact aI_iret E (hret _ _ dX1_partAt_34)
set_option maxRecDepth 4000 in
theorem w_X1_partAt {Γ : g_T} {q : Nat → Nat} {p1 : Int32} {p2 : Int32} {p3 : Int32}  {r : Int32} {h2 : hp_T} {h : hp_T} (X : aC 0 Γ q RX1 cX1_partAt 2 44) (N : ∀ k, k < 6 → aN Γ k) (hret : ∀ pc lv, decode cX1_partAt pc = .ok (.ireturn, 1) → aA Γ pc lv [.int r] h2) (E : f_X1_partAt p1 p2 p3 h = some (r, h2)) : aA Γ 0 [some (.ref (q 22)), some (.int p1), some (.int p2), some (.int p3), none, none] [] h := by
  unfold f_X1_partAt at E
  refine aI_iconst (v := 0) X.1 dX1_partAt_0 (by decide) ?_
  refine aI_istore (lv2 := [some (.ref (q 22)), some (.int p1), some (.int p2), some (.int p3), some (.int (0 : Int32)), none]) X.1 dX1_partAt_1 (N 4 (by decide)) rfl ?_
  refine aI_iconst (v := 0) X.1 dX1_partAt_3 (by decide) ?_
  refine aI_istore (lv2 := [some (.ref (q 22)), some (.int p1), some (.int p2), some (.int p3), some (.int (0 : Int32)), some (.int (0 : Int32))]) X.1 dX1_partAt_4 (N 5 (by decide)) rfl ?_
  refine w_X1_partAt_L1  X N hret ?_ 100 (0 : Int32) (0 : Int32) h E
  intro x10 x11 h12 E
  refine aI_iconst (v := -1) X.1 dX1_partAt_44 (by decide) ?_
  exact aI_iret E (hret _ _ dX1_partAt_45)
theorem c_X1_partAt {q : Nat → Nat} {p1 : Int32} {p2 : Int32} {p3 : Int32}  {r : Int32} {h2 : hp_T} {h : hp_T} (E : f_X1_partAt p1 p2 p3 h = some (r, h2)) : cI 0 yX1_partAt cX1_partAt 6 .int 2 44 q [.ref (q 22), .int p1, .int p2, .int p3] h r h2 := metI (own := RX1) (by decide) rfl (Nat.le_of_ble_eq_true rfl) rfl (fun Γ X N hret => w_X1_partAt X N hret E)
set_option maxRecDepth 4000 in
theorem w_X9_free {Γ : g_T} {q : Nat → Nat} {p1 : Int32} {p2 : Int32} {p3 : Int32} {p4 : Int32}  {r : Int32} {h2 : hp_T} {h : hp_T} (X : aC 0 Γ q RX9 cX9_free 4 88) (N : ∀ k, k < 6 → aN Γ k) (hret : ∀ pc lv, decode cX9_free pc = .ok (.ireturn, 1) → aA Γ pc lv [.int r] h2) (E : f_X9_free p1 p2 p3 p4 h = some (r, h2)) : aA Γ 0 [some (.ref (q 0)), some (.int p1), some (.int p2), some (.int p3), some (.int p4), none] [] h := by
  unfold f_X9_free at E
  refine aI_iload_n X.1 dX9_free_0 rfl ?_
  refine aI_iload_n X.1 dX9_free_1 rfl ?_
  obtain ⟨r2, h1, e3, E⟩ := o_callE E
  refine cv_X9_isStretch X (c_X9_isStretch e3) ml_9_84 (by decide) (by decide) (Nat.le_of_ble_eq_true rfl) dX9_free_2 ?_
  refine aI_if_eq (tgt := 29) X.1 dX9_free_5 (by decide) (fun c4 => ?_) (fun c4 => ?_)
  · have E := o_pos c4 E
    refine aI_ldc X.1 dX9_free_29 kc_9_144 ?_
    exact aI_iret E (hret _ _ dX9_free_31)
  · have E := o_neg c4 E
    refine aI_iload_n X.1 dX9_free_8 rfl ?_
    refine aI_if_lt (tgt := 29) X.1 dX9_free_9 (by decide) (fun c5 => ?_) (fun c5 => ?_)
    · have E := o_pos c5 E
      refine aI_ldc X.1 dX9_free_29 kc_9_144 ?_
      exact aI_iret E (hret _ _ dX9_free_31)
    · have E := o_neg c5 E
      refine aI_iload_n X.1 dX9_free_12 rfl ?_
      refine aI_bipush (v := 48) X.1 dX9_free_13 (by decide) ?_
      refine aI_icmp_gt (tgt := 29) X.1 dX9_free_15 (by decide) (fun c6 => ?_) (fun c6 => ?_)
      · have E := o_pos c6 E
        refine aI_ldc X.1 dX9_free_29 kc_9_144 ?_
        exact aI_iret E (hret _ _ dX9_free_31)
      · have E := o_neg c6 E
        refine aI_iload X.1 dX9_free_18 rfl ?_
        refine aI_if_lt (tgt := 29) X.1 dX9_free_20 (by decide) (fun c7 => ?_) (fun c7 => ?_)
        · have E := o_pos c7 E
          refine aI_ldc X.1 dX9_free_29 kc_9_144 ?_
          exact aI_iret E (hret _ _ dX9_free_31)
        · have E := o_neg c7 E
          refine aI_iload X.1 dX9_free_23 rfl ?_
          refine aI_iconst (v := 1) X.1 dX9_free_25 (by decide) ?_
          refine aI_icmp_le (tgt := 32) X.1 dX9_free_26 (by decide) (fun c8 => ?_) (fun c8 => ?_)
          · have E := o_pos c8 E
            refine aI_aload_n X.1 dX9_free_32 rfl ?_
            obtain ⟨h9, e10, E⟩ := o_cvE E
            refine cv_X9_settle X (c_X9_settle e10) ml_9_151 (by decide) (by decide) (Nat.le_of_ble_eq_true rfl) dX9_free_33 ?_
            refine aI_aload_n X.1 dX9_free_36 rfl ?_
            refine gf_9_33 X dX9_free_37 ?_
            refine aI_iload_n X.1 dX9_free_40 rfl ?_
            refine aI_iload_n X.1 dX9_free_41 rfl ?_
            refine aI_iload_n X.1 dX9_free_42 rfl ?_
            obtain ⟨r12, h11, e13, E⟩ := o_callE E
            refine cv_X1_partAt X (c_X1_partAt e13) ml_9_202 (by decide) (by decide) (Nat.le_of_ble_eq_true rfl) dX9_free_43 ?_
            refine aI_istore (lv2 := [some (.ref (q 0)), some (.int p1), some (.int p2), some (.int p3), some (.int p4), some (.int r12)]) X.1 dX9_free_46 (N 5 (by decide)) rfl ?_
            refine aI_iload X.1 dX9_free_48 rfl ?_
            refine aI_iconst (v := -1) X.1 dX9_free_50 (by decide) ?_
            refine aI_icmp_ne (tgt := 57) X.1 dX9_free_51 (by decide) (fun c14 => ?_) (fun c14 => ?_)
            · have E := o_neg c14 E
              refine aI_iload X.1 dX9_free_57 rfl ?_
              refine aI_if_ne (tgt := 79) X.1 dX9_free_59 (by decide) (fun c15 => ?_) (fun c15 => ?_)
              · have E := o_neg c15 E
                refine aI_aload_n X.1 dX9_free_79 rfl ?_
                refine gf_9_33 X dX9_free_80 ?_
                refine gf_9_213 X dX9_free_83 ?_
                refine aI_iload X.1 dX9_free_86 rfl ?_
                obtain ⟨g16, E⟩ := o_if E
                refine al0_24 X g16 dX9_free_88 ?_
                refine aI_iload_n X.1 dX9_free_89 rfl ?_
                refine aI_min X.1 ml_9_216 ms_min mi_Math mc_min (by decide) (Nat.le_of_ble_eq_true rfl) dX9_free_90 ?_
                exact aI_iret E (hret _ _ dX9_free_93)
              · have E := o_pos c15 E
                refine aI_aload_n X.1 dX9_free_62 rfl ?_
                refine gf_9_33 X dX9_free_63 ?_
                refine gf_9_205 X dX9_free_66 ?_
                refine aI_iload X.1 dX9_free_69 rfl ?_
                obtain ⟨g17, E⟩ := o_if E
                refine al0_23 X g17 dX9_free_71 ?_
                refine aI_iload_n X.1 dX9_free_72 rfl ?_
                refine aI_max X.1 ml_9_208 ms_max mi_Math mc_max (by decide) (Nat.le_of_ble_eq_true rfl) dX9_free_73 ?_
                refine aI_goto (tgt := 93) X.1 dX9_free_76 (by decide) ?_
                exact aI_iret E (hret _ _ dX9_free_93)
            · have E := o_pos c14 E
              refine aI_ldc X.1 dX9_free_54 kc_9_144 ?_
              exact aI_iret E (hret _ _ dX9_free_56)
          · have E := o_neg c8 E
            refine aI_ldc X.1 dX9_free_29 kc_9_144 ?_
            exact aI_iret E (hret _ _ dX9_free_31)
theorem c_X9_free {q : Nat → Nat} {p1 : Int32} {p2 : Int32} {p3 : Int32} {p4 : Int32}  {r : Int32} {h2 : hp_T} {h : hp_T} (E : f_X9_free p1 p2 p3 p4 h = some (r, h2)) : cI 0 yX9_free cX9_free 6 .int 4 88 q [.ref (q 0), .int p1, .int p2, .int p3, .int p4] h r h2 := metI (own := RX9) (by decide) rfl (Nat.le_of_ble_eq_true rfl) rfl (fun Γ X N hret => w_X9_free X N hret E)
set_option maxRecDepth 4000 in
theorem w_X1_nextPlace_L1 {Γ : g_T} {q : Nat → Nat}  {u1 : Int32} {u2 : Int32}  {r : Int32} {h2 : hp_T} (X : aC 0 Γ q RX1 cX1_nextPlace 1 21) (N : ∀ k, k < 5 → aN Γ k) (hret : ∀ pc lv, decode cX1_nextPlace pc = .ok (.ireturn, 1) → aA Γ pc lv [.int r] h2) {K : Int32 → hp_T → Option (Int32 × hp_T)} (hk : ∀ v3 h, K v3 h = some (r, h2) → aA Γ 44 [some (.ref (q 22)), some (.int u1), some (.int u2), some (.int v3), none] [] h) : ∀ (n : Nat) (v3 : Int32) (h : hp_T), f_X1_nextPlace_L1 u1 u2 K n v3 h = some (r, h2) → aA Γ 2 [some (.ref (q 22)), some (.int u1), some (.int u2), some (.int v3), none] [] h := by
  intro n
  induction n with
  | zero =>
    intro v3 h E
    cases E
  | succ n ih =>
    intro v3 h E
    rw [f_X1_nextPlace_L1] at E
    refine aI_iload_n X.1 dX1_nextPlace_2 rfl ?_
    refine aI_aload_n X.1 dX1_nextPlace_3 rfl ?_
    refine gf_1_18 X dX1_nextPlace_4 ?_
    refine aI_icmp_ge (tgt := 44) X.1 dX1_nextPlace_7 (by decide) (fun c1 => ?_) (fun c1 => ?_)
    · have E := o_pos c1 E
      exact hk v3 h E
    · have E := o_neg c1 E
      refine aI_aload_n X.1 dX1_nextPlace_10 rfl ?_
      refine gf_1_9 X dX1_nextPlace_11 ?_
      refine aI_iload_n X.1 dX1_nextPlace_14 rfl ?_
      obtain ⟨g2, E⟩ := o_if E
      refine al0_23 X g2 dX1_nextPlace_15 ?_
      refine aI_iload_n X.1 dX1_nextPlace_16 rfl ?_
      refine aI_max X.1 ml_1_39 ms_max mi_Math mc_max (by decide) (Nat.le_of_ble_eq_true rfl) dX1_nextPlace_17 ?_
      obtain ⟨x3, ex3, E⟩ := o_letE E
      refine aI_eqi ex3 ?_
      refine aI_istore (lv2 := [some (.ref (q 22)), some (.int u1), some (.int u2), some (.int v3), some (.int x3)]) X.1 dX1_nextPlace_20 (N 4 (by decide)) rfl ?_
      refine aI_iload X.1 dX1_nextPlace_22 rfl ?_
      refine aI_iload_n X.1 dX1_nextPlace_24 rfl ?_
      refine aI_iadd X.1 dX1_nextPlace_25 ?_
      refine aI_aload_n X.1 dX1_nextPlace_26 rfl ?_
      refine gf_1_15 X dX1_nextPlace_27 ?_
      refine aI_iload_n X.1 dX1_nextPlace_30 rfl ?_
      obtain ⟨g4, E⟩ := o_if E
      refine al0_24 X g4 dX1_nextPlace_31 ?_
      refine aI_icmp_gt (tgt := 38) X.1 dX1_nextPlace_32 (by decide) (fun c5 => ?_) (fun c5 => ?_)
      · have E := o_pos c5 E
        obtain ⟨x6, ex6, E⟩ := o_letE E
        refine aI_iinc (v := 1) (lv2 := [some (.ref (q 22)), some (.int u1), some (.int u2), some (.int x6), some (.int x3)]) X.1 dX1_nextPlace_38 (N 3 (by decide)) rfl (by decide) (by rw [← ex6]; rfl) ?_
        refine aI_goto (tgt := 2) X.1 dX1_nextPlace_41 (by decide) ?_
        refine aI_lv [true, true, true, true, false] (lv2 := [some (.ref (q 22)), some (.int u1), some (.int u2), some (.int x6), none]) rfl ?_
        exact ih x6 h E
      · have E := o_neg c5 E
        refine aI_iload X.1 dX1_nextPlace_35 rfl ?_
        exact aI_iret E (hret _ _ dX1_nextPlace_37)
set_option maxRecDepth 4000 in
theorem w_X1_nextPlace {Γ : g_T} {q : Nat → Nat} {p1 : Int32} {p2 : Int32}  {r : Int32} {h2 : hp_T} {h : hp_T} (X : aC 0 Γ q RX1 cX1_nextPlace 1 21) (N : ∀ k, k < 5 → aN Γ k) (hret : ∀ pc lv, decode cX1_nextPlace pc = .ok (.ireturn, 1) → aA Γ pc lv [.int r] h2) (E : f_X1_nextPlace p1 p2 h = some (r, h2)) : aA Γ 0 [some (.ref (q 22)), some (.int p1), some (.int p2), none, none] [] h := by
  unfold f_X1_nextPlace at E
  refine aI_iconst (v := 0) X.1 dX1_nextPlace_0 (by decide) ?_
  refine aI_istore_n (lv2 := [some (.ref (q 22)), some (.int p1), some (.int p2), some (.int (0 : Int32)), none]) X.1 dX1_nextPlace_1 (N 3 (by decide)) rfl ?_
  refine w_X1_nextPlace_L1  X N hret ?_ 100 (0 : Int32) h E
  intro x7 h8 E
  refine aI_ldc X.1 dX1_nextPlace_44 kc_1_53 ?_
  exact aI_iret E (hret _ _ dX1_nextPlace_46)
theorem c_X1_nextPlace {q : Nat → Nat} {p1 : Int32} {p2 : Int32}  {r : Int32} {h2 : hp_T} {h : hp_T} (E : f_X1_nextPlace p1 p2 h = some (r, h2)) : cI 0 yX1_nextPlace cX1_nextPlace 5 .int 1 21 q [.ref (q 22), .int p1, .int p2] h r h2 := metI (own := RX1) (by decide) rfl (Nat.le_of_ble_eq_true rfl) rfl (fun Γ X N hret => w_X1_nextPlace X N hret E)
set_option maxRecDepth 4000 in
theorem w_X1_lastPlace_L1 {Γ : g_T} {q : Nat → Nat}  {u1 : Int32} {u2 : Int32}  {r : Int32} {h2 : hp_T} (X : aC 0 Γ q RX1 cX1_lastPlace 1 21) (N : ∀ k, k < 5 → aN Γ k) (hret : ∀ pc lv, decode cX1_lastPlace pc = .ok (.ireturn, 1) → aA Γ pc lv [.int r] h2) {K : Int32 → hp_T → Option (Int32 × hp_T)} (hk : ∀ v3 h, K v3 h = some (r, h2) → aA Γ 45 [some (.ref (q 22)), some (.int u1), some (.int u2), some (.int v3), none] [] h) : ∀ (n : Nat) (v3 : Int32) (h : hp_T), f_X1_lastPlace_L1 u1 u2 K n v3 h = some (r, h2) → aA Γ 7 [some (.ref (q 22)), some (.int u1), some (.int u2), some (.int v3), none] [] h := by
  intro n
  induction n with
  | zero =>
    intro v3 h E
    cases E
  | succ n ih =>
    intro v3 h E
    rw [f_X1_lastPlace_L1] at E
    refine aI_iload_n X.1 dX1_lastPlace_7 rfl ?_
    refine aI_if_lt (tgt := 45) X.1 dX1_lastPlace_8 (by decide) (fun c2 => ?_) (fun c2 => ?_)
    · have E := o_pos c2 E
      exact hk v3 h E
    · have E := o_neg c2 E
      refine aI_aload_n X.1 dX1_lastPlace_11 rfl ?_
      refine gf_1_15 X dX1_lastPlace_12 ?_
      refine aI_iload_n X.1 dX1_lastPlace_15 rfl ?_
      obtain ⟨g3, E⟩ := o_if E
      refine al0_24 X g3 dX1_lastPlace_16 ?_
      refine aI_iload_n X.1 dX1_lastPlace_17 rfl ?_
      refine aI_min X.1 ml_1_46 ms_min mi_Math mc_min (by decide) (Nat.le_of_ble_eq_true rfl) dX1_lastPlace_18 ?_
      refine aI_iload_n X.1 dX1_lastPlace_21 rfl ?_
      refine aI_isub X.1 dX1_lastPlace_22 ?_
      obtain ⟨x4, ex4, E⟩ := o_letE E
      refine aI_eqi ex4 ?_
      refine aI_istore (lv2 := [some (.ref (q 22)), some (.int u1), some (.int u2), some (.int v3), some (.int x4)]) X.1 dX1_lastPlace_23 (N 4 (by decide)) rfl ?_
      refine aI_iload X.1 dX1_lastPlace_25 rfl ?_
      refine aI_aload_n X.1 dX1_lastPlace_27 rfl ?_
      refine gf_1_9 X dX1_lastPlace_28 ?_
      refine aI_iload_n X.1 dX1_lastPlace_31 rfl ?_
      obtain ⟨g5, E⟩ := o_if E
      refine al0_23 X g5 dX1_lastPlace_32 ?_
      refine aI_icmp_lt (tgt := 39) X.1 dX1_lastPlace_33 (by decide) (fun c6 => ?_) (fun c6 => ?_)
      · have E := o_pos c6 E
        obtain ⟨x7, ex7, E⟩ := o_letE E
        refine aI_iinc (v := -1) (lv2 := [some (.ref (q 22)), some (.int u1), some (.int u2), some (.int x7), some (.int x4)]) X.1 dX1_lastPlace_39 (N 3 (by decide)) rfl (by decide) (by rw [← ex7]; rfl) ?_
        refine aI_goto (tgt := 7) X.1 dX1_lastPlace_42 (by decide) ?_
        refine aI_lv [true, true, true, true, false] (lv2 := [some (.ref (q 22)), some (.int u1), some (.int u2), some (.int x7), none]) rfl ?_
        exact ih x7 h E
      · have E := o_neg c6 E
        refine aI_iload X.1 dX1_lastPlace_36 rfl ?_
        exact aI_iret E (hret _ _ dX1_lastPlace_38)
set_option maxRecDepth 4000 in
theorem w_X1_lastPlace {Γ : g_T} {q : Nat → Nat} {p1 : Int32} {p2 : Int32}  {r : Int32} {h2 : hp_T} {h : hp_T} (X : aC 0 Γ q RX1 cX1_lastPlace 1 21) (N : ∀ k, k < 5 → aN Γ k) (hret : ∀ pc lv, decode cX1_lastPlace pc = .ok (.ireturn, 1) → aA Γ pc lv [.int r] h2) (E : f_X1_lastPlace p1 p2 h = some (r, h2)) : aA Γ 0 [some (.ref (q 22)), some (.int p1), some (.int p2), none, none] [] h := by
  unfold f_X1_lastPlace at E
  refine aI_aload_n X.1 dX1_lastPlace_0 rfl ?_
  refine gf_1_18 X dX1_lastPlace_1 ?_
  refine aI_iconst (v := 1) X.1 dX1_lastPlace_4 (by decide) ?_
  refine aI_isub X.1 dX1_lastPlace_5 ?_
  obtain ⟨x1, ex1, E⟩ := o_letE E
  refine aI_eqi ex1 ?_
  refine aI_istore_n (lv2 := [some (.ref (q 22)), some (.int p1), some (.int p2), some (.int x1), none]) X.1 dX1_lastPlace_6 (N 3 (by decide)) rfl ?_
  refine w_X1_lastPlace_L1  X N hret ?_ 100 x1 h E
  intro x8 h9 E
  refine aI_ldc X.1 dX1_lastPlace_45 kc_1_53 ?_
  exact aI_iret E (hret _ _ dX1_lastPlace_47)
theorem c_X1_lastPlace {q : Nat → Nat} {p1 : Int32} {p2 : Int32}  {r : Int32} {h2 : hp_T} {h : hp_T} (E : f_X1_lastPlace p1 p2 h = some (r, h2)) : cI 0 yX1_lastPlace cX1_lastPlace 5 .int 1 21 q [.ref (q 22), .int p1, .int p2] h r h2 := metI (own := RX1) (by decide) rfl (Nat.le_of_ble_eq_true rfl) rfl (fun Γ X N hret => w_X1_lastPlace X N hret E)
set_option maxRecDepth 4000 in
theorem w_X1_nearestPlace {Γ : g_T} {q : Nat → Nat} {p1 : Int32} {p2 : Int32}  {r : Int32} {h2 : hp_T} {h : hp_T} (X : aC 0 Γ q RX1 cX1_nearestPlace 2 45) (N : ∀ k, k < 5 → aN Γ k) (hret : ∀ pc lv, decode cX1_nearestPlace pc = .ok (.ireturn, 1) → aA Γ pc lv [.int r] h2) (E : f_X1_nearestPlace p1 p2 h = some (r, h2)) : aA Γ 0 [some (.ref (q 22)), some (.int p1), some (.int p2), none, none] [] h := by
  unfold f_X1_nearestPlace at E
  refine aI_aload_n X.1 dX1_nearestPlace_0 rfl ?_
  refine aI_iload_n X.1 dX1_nearestPlace_1 rfl ?_
  refine aI_iload_n X.1 dX1_nearestPlace_2 rfl ?_
  obtain ⟨r2, h1, e3, E⟩ := o_callE E
  refine cv_X1_nextPlace X (c_X1_nextPlace e3) ml_1_54 (by decide) (by decide) (Nat.le_of_ble_eq_true rfl) dX1_nearestPlace_3 ?_
  refine aI_istore_n (lv2 := [some (.ref (q 22)), some (.int p1), some (.int p2), some (.int r2), none]) X.1 dX1_nearestPlace_6 (N 3 (by decide)) rfl ?_
  refine aI_aload_n X.1 dX1_nearestPlace_7 rfl ?_
  refine aI_iload_n X.1 dX1_nearestPlace_8 rfl ?_
  refine aI_iload_n X.1 dX1_nearestPlace_9 rfl ?_
  refine aI_iadd X.1 dX1_nearestPlace_10 ?_
  refine aI_iload_n X.1 dX1_nearestPlace_11 rfl ?_
  obtain ⟨r5, h4, e6, E⟩ := o_callE E
  refine cv_X1_lastPlace X (c_X1_lastPlace e6) ml_1_57 (by decide) (by decide) (Nat.le_of_ble_eq_true rfl) dX1_nearestPlace_12 ?_
  refine aI_istore (lv2 := [some (.ref (q 22)), some (.int p1), some (.int p2), some (.int r2), some (.int r5)]) X.1 dX1_nearestPlace_15 (N 4 (by decide)) rfl ?_
  refine aI_iload X.1 dX1_nearestPlace_17 rfl ?_
  refine aI_ldc X.1 dX1_nearestPlace_19 kc_1_53 ?_
  refine aI_icmp_ne (tgt := 26) X.1 dX1_nearestPlace_21 (by decide) (fun c7 => ?_) (fun c7 => ?_)
  · have E := o_neg c7 E
    refine aI_iload_n X.1 dX1_nearestPlace_26 rfl ?_
    refine aI_ldc X.1 dX1_nearestPlace_27 kc_1_53 ?_
    refine aI_icmp_ne (tgt := 35) X.1 dX1_nearestPlace_29 (by decide) (fun c8 => ?_) (fun c8 => ?_)
    · have E := o_neg c8 E
      refine aI_iload_n X.1 dX1_nearestPlace_35 rfl ?_
      refine aI_iload X.1 dX1_nearestPlace_36 rfl ?_
      refine aI_isub X.1 dX1_nearestPlace_38 ?_
      refine aI_iload_n X.1 dX1_nearestPlace_39 rfl ?_
      refine aI_iload_n X.1 dX1_nearestPlace_40 rfl ?_
      refine aI_isub X.1 dX1_nearestPlace_41 ?_
      refine aI_icmp_gt (tgt := 50) X.1 dX1_nearestPlace_42 (by decide) (fun c9 => ?_) (fun c9 => ?_)
      · have E := o_pos c9 E
        refine aI_iload_n X.1 dX1_nearestPlace_50 rfl ?_
        exact aI_iret E (hret _ _ dX1_nearestPlace_51)
      · have E := o_neg c9 E
        refine aI_iload X.1 dX1_nearestPlace_45 rfl ?_
        refine aI_goto (tgt := 51) X.1 dX1_nearestPlace_47 (by decide) ?_
        exact aI_iret E (hret _ _ dX1_nearestPlace_51)
    · have E := o_pos c8 E
      refine aI_iload X.1 dX1_nearestPlace_32 rfl ?_
      exact aI_iret E (hret _ _ dX1_nearestPlace_34)
  · have E := o_pos c7 E
    refine aI_iload_n X.1 dX1_nearestPlace_24 rfl ?_
    exact aI_iret E (hret _ _ dX1_nearestPlace_25)
theorem c_X1_nearestPlace {q : Nat → Nat} {p1 : Int32} {p2 : Int32}  {r : Int32} {h2 : hp_T} {h : hp_T} (E : f_X1_nearestPlace p1 p2 h = some (r, h2)) : cI 0 yX1_nearestPlace cX1_nearestPlace 5 .int 2 45 q [.ref (q 22), .int p1, .int p2] h r h2 := metI (own := RX1) (by decide) rfl (Nat.le_of_ble_eq_true rfl) rfl (fun Γ X N hret => w_X1_nearestPlace X N hret E)
set_option maxRecDepth 4000 in
theorem w_X9_place {Γ : g_T} {q : Nat → Nat} {p1 : Int32} {p2 : Int32} {p3 : Int32}  {r : Int32} {h2 : hp_T} {h : hp_T} (X : aC 0 Γ q RX9 cX9_place 4 88) (N : ∀ k, k < 4 → aN Γ k) (hret : ∀ pc lv, decode cX9_place pc = .ok (.ireturn, 1) → aA Γ pc lv [.int r] h2) (E : f_X9_place p1 p2 p3 h = some (r, h2)) : aA Γ 0 [some (.ref (q 0)), some (.int p1), some (.int p2), some (.int p3)] [] h := by
  unfold f_X9_place at E
  refine aI_iload_n X.1 dX9_place_0 rfl ?_
  obtain ⟨r2, h1, e3, E⟩ := o_callE E
  refine cv_X9_isPoint X (c_X9_isPoint e3) ml_9_193 (by decide) (by decide) (Nat.le_of_ble_eq_true rfl) dX9_place_1 ?_
  refine aI_if_eq (tgt := 27) X.1 dX9_place_4 (by decide) (fun c4 => ?_) (fun c4 => ?_)
  · have E := o_pos c4 E
    refine aI_ldc X.1 dX9_place_27 kc_9_144 ?_
    exact aI_iret E (hret _ _ dX9_place_29)
  · have E := o_neg c4 E
    refine aI_iload_n X.1 dX9_place_7 rfl ?_
    refine aI_iconst (v := 1) X.1 dX9_place_8 (by decide) ?_
    refine aI_icmp_lt (tgt := 27) X.1 dX9_place_9 (by decide) (fun c5 => ?_) (fun c5 => ?_)
    · have E := o_pos c5 E
      refine aI_ldc X.1 dX9_place_27 kc_9_144 ?_
      exact aI_iret E (hret _ _ dX9_place_29)
    · have E := o_neg c5 E
      refine aI_iload_n X.1 dX9_place_12 rfl ?_
      refine aI_ldc X.1 dX9_place_13 kc_9_219 ?_
      refine aI_icmp_gt (tgt := 27) X.1 dX9_place_15 (by decide) (fun c6 => ?_) (fun c6 => ?_)
      · have E := o_pos c6 E
        refine aI_ldc X.1 dX9_place_27 kc_9_144 ?_
        exact aI_iret E (hret _ _ dX9_place_29)
      · have E := o_neg c6 E
        refine aI_iload_n X.1 dX9_place_18 rfl ?_
        refine aI_if_lt (tgt := 27) X.1 dX9_place_19 (by decide) (fun c7 => ?_) (fun c7 => ?_)
        · have E := o_pos c7 E
          refine aI_ldc X.1 dX9_place_27 kc_9_144 ?_
          exact aI_iret E (hret _ _ dX9_place_29)
        · have E := o_neg c7 E
          refine aI_iload_n X.1 dX9_place_22 rfl ?_
          refine aI_iconst (v := 2) X.1 dX9_place_23 (by decide) ?_
          refine aI_icmp_le (tgt := 30) X.1 dX9_place_24 (by decide) (fun c8 => ?_) (fun c8 => ?_)
          · have E := o_pos c8 E
            refine aI_aload_n X.1 dX9_place_30 rfl ?_
            obtain ⟨h9, e10, E⟩ := o_cvE E
            refine cv_X9_settle X (c_X9_settle e10) ml_9_151 (by decide) (by decide) (Nat.le_of_ble_eq_true rfl) dX9_place_31 ?_
            refine aI_iload_n X.1 dX9_place_34 rfl ?_
            by_cases c20 : p3 = (0 : Int32)
            · have E := o_pos c20 E
              refine aI_lookup (off := 25) (tgt := 60) X.1 dX9_place_35 (by decide) (by rw [c20]; decide) (by decide) ?_
              refine aI_aload_n X.1 dX9_place_60 rfl ?_
              refine gf_9_33 X dX9_place_61 ?_
              refine aI_iload_n X.1 dX9_place_64 rfl ?_
              refine aI_iload_n X.1 dX9_place_65 rfl ?_
              obtain ⟨r12, h11, e13, E⟩ := o_callE E
              refine cv_X1_nextPlace X (c_X1_nextPlace e13) ml_9_220 (by decide) (by decide) (Nat.le_of_ble_eq_true rfl) dX9_place_66 ?_
              exact aI_iret E (hret _ _ dX9_place_69)
            have E := o_neg c20 E
            by_cases c21 : p3 = (1 : Int32)
            · have E := o_pos c21 E
              refine aI_lookup (off := 35) (tgt := 70) X.1 dX9_place_35 (by decide) (by rw [c21]; decide) (by decide) ?_
              refine aI_aload_n X.1 dX9_place_70 rfl ?_
              refine gf_9_33 X dX9_place_71 ?_
              refine aI_iload_n X.1 dX9_place_74 rfl ?_
              refine aI_iload_n X.1 dX9_place_75 rfl ?_
              obtain ⟨r15, h14, e16, E⟩ := o_callE E
              refine cv_X1_lastPlace X (c_X1_lastPlace e16) ml_9_223 (by decide) (by decide) (Nat.le_of_ble_eq_true rfl) dX9_place_76 ?_
              exact aI_iret E (hret _ _ dX9_place_79)
            have E := o_neg c21 E
            refine aI_lookup (off := 45) (tgt := 80) X.1 dX9_place_35 (by decide) (by have ac20 := i32_ne 0 (by decide) c20; have ac21 := i32_ne 1 (by decide) c21; simp [Op.lookupswitch.offset, ac20.symm, ac21.symm]) (by decide) ?_
            refine aI_aload_n X.1 dX9_place_80 rfl ?_
            refine gf_9_33 X dX9_place_81 ?_
            refine aI_iload_n X.1 dX9_place_84 rfl ?_
            refine aI_iload_n X.1 dX9_place_85 rfl ?_
            obtain ⟨r18, h17, e19, E⟩ := o_callE E
            refine cv_X1_nearestPlace X (c_X1_nearestPlace e19) ml_9_226 (by decide) (by decide) (Nat.le_of_ble_eq_true rfl) dX9_place_86 ?_
            exact aI_iret E (hret _ _ dX9_place_89)
          · have E := o_neg c8 E
            refine aI_ldc X.1 dX9_place_27 kc_9_144 ?_
            exact aI_iret E (hret _ _ dX9_place_29)
theorem c_X9_place {q : Nat → Nat} {p1 : Int32} {p2 : Int32} {p3 : Int32}  {r : Int32} {h2 : hp_T} {h : hp_T} (E : f_X9_place p1 p2 p3 h = some (r, h2)) : cI 0 yX9_place cX9_place 4 .int 4 88 q [.ref (q 0), .int p1, .int p2, .int p3] h r h2 := metI (own := RX9) (by decide) rfl (Nat.le_of_ble_eq_true rfl) rfl (fun Γ X N hret => w_X9_place X N hret E)
set_option maxRecDepth 4000 in
theorem w_X9_deep {Γ : g_T} {q : Nat → Nat}   {r : Int32} {h2 : hp_T} {h : hp_T} (X : aC 0 Γ q RX9 cX9_deep 4 88) (N : ∀ k, k < 1 → aN Γ k) (hret : ∀ pc lv, decode cX9_deep pc = .ok (.ireturn, 1) → aA Γ pc lv [.int r] h2) (E : f_X9_deep  h = some (r, h2)) : aA Γ 0 [some (.ref (q 0))] [] h := by
  unfold f_X9_deep at E
  refine aI_aload_n X.1 dX9_deep_0 rfl ?_
  obtain ⟨h1, e2, E⟩ := o_cvE E
  refine cv_X9_settle X (c_X9_settle e2) ml_9_151 (by decide) (by decide) (Nat.le_of_ble_eq_true rfl) dX9_deep_1 ?_
  refine aI_aload_n X.1 dX9_deep_4 rfl ?_
  refine gf_9_40 X dX9_deep_5 ?_
  refine gf_9_229 X dX9_deep_8 ?_
  exact aI_iret E (hret _ _ dX9_deep_11)
theorem c_X9_deep {q : Nat → Nat}   {r : Int32} {h2 : hp_T} {h : hp_T} (E : f_X9_deep  h = some (r, h2)) : cI 0 yX9_deep cX9_deep 1 .int 4 88 q [.ref (q 0)] h r h2 := metI (own := RX9) (by decide) rfl (Nat.le_of_ble_eq_true rfl) rfl (fun Γ X N hret => w_X9_deep X N hret E)
set_option maxRecDepth 4000 in
theorem w_X9_point {Γ : g_T} {q : Nat → Nat}   {r : Int32} {h2 : hp_T} {h : hp_T} (X : aC 0 Γ q RX9 cX9_point 4 88) (N : ∀ k, k < 1 → aN Γ k) (hret : ∀ pc lv, decode cX9_point pc = .ok (.ireturn, 1) → aA Γ pc lv [.int r] h2) (E : f_X9_point  h = some (r, h2)) : aA Γ 0 [some (.ref (q 0))] [] h := by
  unfold f_X9_point at E
  refine aI_aload_n X.1 dX9_point_0 rfl ?_
  obtain ⟨h1, e2, E⟩ := o_cvE E
  refine cv_X9_settle X (c_X9_settle e2) ml_9_151 (by decide) (by decide) (Nat.le_of_ble_eq_true rfl) dX9_point_1 ?_
  refine aI_aload_n X.1 dX9_point_4 rfl ?_
  refine gf_9_40 X dX9_point_5 ?_
  refine gf_9_232 X dX9_point_8 ?_
  exact aI_iret E (hret _ _ dX9_point_11)
theorem c_X9_point {q : Nat → Nat}   {r : Int32} {h2 : hp_T} {h : hp_T} (E : f_X9_point  h = some (r, h2)) : cI 0 yX9_point cX9_point 1 .int 4 88 q [.ref (q 0)] h r h2 := metI (own := RX9) (by decide) rfl (Nat.le_of_ble_eq_true rfl) rfl (fun Γ X N hret => w_X9_point X N hret E)
set_option maxRecDepth 4000 in
theorem w_X9_room {Γ : g_T} {q : Nat → Nat} {p1 : Int32}  {r : Int32} {h2 : hp_T} {h : hp_T} (X : aC 0 Γ q RX9 cX9_room 4 88) (N : ∀ k, k < 2 → aN Γ k) (hret : ∀ pc lv, decode cX9_room pc = .ok (.ireturn, 1) → aA Γ pc lv [.int r] h2) (E : f_X9_room p1 h = some (r, h2)) : aA Γ 0 [some (.ref (q 0)), some (.int p1)] [] h := by
  unfold f_X9_room at E
  refine aI_iload_n X.1 dX9_room_0 rfl ?_
  obtain ⟨r2, h1, e3, E⟩ := o_callE E
  refine cv_X9_isKeyOrNone X (c_X9_isKeyOrNone e3) ml_9_182 (by decide) (by decide) (Nat.le_of_ble_eq_true rfl) dX9_room_1 ?_
  refine aI_if_ne (tgt := 10) X.1 dX9_room_4 (by decide) (fun c4 => ?_) (fun c4 => ?_)
  · have E := o_neg c4 E
    refine aI_iload_n X.1 dX9_room_10 rfl ?_
    refine aI_iconst (v := -1) X.1 dX9_room_11 (by decide) ?_
    refine aI_icmp_eq (tgt := 30) X.1 dX9_room_12 (by decide) (fun c5 => ?_) (fun c5 => ?_)
    · have E := o_pos c5 E
      refine aI_aload_n X.1 dX9_room_30 rfl ?_
      obtain ⟨h6, e7, E⟩ := o_cvE E
      refine cv_X9_settle X (c_X9_settle e7) ml_9_151 (by decide) (by decide) (Nat.le_of_ble_eq_true rfl) dX9_room_31 ?_
      refine aI_iload_n X.1 dX9_room_34 rfl ?_
      refine aI_iconst (v := -1) X.1 dX9_room_35 (by decide) ?_
      refine aI_icmp_ne (tgt := 49) X.1 dX9_room_36 (by decide) (fun c8 => ?_) (fun c8 => ?_)
      · have E := o_neg c8 E
        refine aI_aload_n X.1 dX9_room_49 rfl ?_
        refine gf_9_40 X dX9_room_50 ?_
        refine gf_9_236 X dX9_room_53 ?_
        refine aI_iload_n X.1 dX9_room_56 rfl ?_
        obtain ⟨g9, E⟩ := o_if E
        refine al0_26 X g9 dX9_room_57 ?_
        exact aI_iret E (hret _ _ dX9_room_58)
      · have E := o_pos c8 E
        refine aI_aload_n X.1 dX9_room_39 rfl ?_
        refine gf_9_40 X dX9_room_40 ?_
        refine gf_9_235 X dX9_room_43 ?_
        refine aI_goto (tgt := 58) X.1 dX9_room_46 (by decide) ?_
        exact aI_iret E (hret _ _ dX9_room_58)
    · have E := o_neg c5 E
      refine aI_aload_n X.1 dX9_room_15 rfl ?_
      refine gf_9_12 X dX9_room_16 ?_
      refine gf_9_88 X dX9_room_19 ?_
      refine aI_iload_n X.1 dX9_room_22 rfl ?_
      obtain ⟨g10, E⟩ := o_if E
      refine al0_4 X g10 dX9_room_23 ?_
      refine aI_if_ne (tgt := 30) X.1 dX9_room_24 (by decide) (fun c11 => ?_) (fun c11 => ?_)
      · have E := o_neg c11 E
        refine aI_aload_n X.1 dX9_room_30 rfl ?_
        obtain ⟨h12, e13, E⟩ := o_cvE E
        refine cv_X9_settle X (c_X9_settle e13) ml_9_151 (by decide) (by decide) (Nat.le_of_ble_eq_true rfl) dX9_room_31 ?_
        refine aI_iload_n X.1 dX9_room_34 rfl ?_
        refine aI_iconst (v := -1) X.1 dX9_room_35 (by decide) ?_
        refine aI_icmp_ne (tgt := 49) X.1 dX9_room_36 (by decide) (fun c14 => ?_) (fun c14 => ?_)
        · have E := o_neg c14 E
          refine aI_aload_n X.1 dX9_room_49 rfl ?_
          refine gf_9_40 X dX9_room_50 ?_
          refine gf_9_236 X dX9_room_53 ?_
          refine aI_iload_n X.1 dX9_room_56 rfl ?_
          obtain ⟨g15, E⟩ := o_if E
          refine al0_26 X g15 dX9_room_57 ?_
          exact aI_iret E (hret _ _ dX9_room_58)
        · have E := o_pos c14 E
          refine aI_aload_n X.1 dX9_room_39 rfl ?_
          refine gf_9_40 X dX9_room_40 ?_
          refine gf_9_235 X dX9_room_43 ?_
          refine aI_goto (tgt := 58) X.1 dX9_room_46 (by decide) ?_
          exact aI_iret E (hret _ _ dX9_room_58)
      · have E := o_pos c11 E
        refine aI_bipush (v := -3) X.1 dX9_room_27 (by decide) ?_
        exact aI_iret E (hret _ _ dX9_room_29)
  · have E := o_pos c4 E
    refine aI_bipush (v := -2) X.1 dX9_room_7 (by decide) ?_
    exact aI_iret E (hret _ _ dX9_room_9)
theorem c_X9_room {q : Nat → Nat} {p1 : Int32}  {r : Int32} {h2 : hp_T} {h : hp_T} (E : f_X9_room p1 h = some (r, h2)) : cI 0 yX9_room cX9_room 2 .int 4 88 q [.ref (q 0), .int p1] h r h2 := metI (own := RX9) (by decide) rfl (Nat.le_of_ble_eq_true rfl) rfl (fun Γ X N hret => w_X9_room X N hret E)
set_option maxRecDepth 4000 in
theorem w_X9_keep {Γ : g_T} {q : Nat → Nat} {p1 : Int32}  {r : Int32} {h2 : hp_T} {h : hp_T} (X : aC 0 Γ q RX9 cX9_keep 4 88) (N : ∀ k, k < 2 → aN Γ k) (hret : ∀ pc lv, decode cX9_keep pc = .ok (.ireturn, 1) → aA Γ pc lv [.int r] h2) (E : f_X9_keep p1 h = some (r, h2)) : aA Γ 0 [some (.ref (q 0)), some (.int p1)] [] h := by
  unfold f_X9_keep at E
  refine aI_iload_n X.1 dX9_keep_0 rfl ?_
  obtain ⟨r2, h1, e3, E⟩ := o_callE E
  refine cv_X9_isKeyOrNone X (c_X9_isKeyOrNone e3) ml_9_182 (by decide) (by decide) (Nat.le_of_ble_eq_true rfl) dX9_keep_1 ?_
  refine aI_if_ne (tgt := 10) X.1 dX9_keep_4 (by decide) (fun c4 => ?_) (fun c4 => ?_)
  · have E := o_neg c4 E
    refine aI_aload_n X.1 dX9_keep_10 rfl ?_
    obtain ⟨h5, e6, E⟩ := o_cvE E
    refine cv_X9_settle X (c_X9_settle e6) ml_9_151 (by decide) (by decide) (Nat.le_of_ble_eq_true rfl) dX9_keep_11 ?_
    refine aI_iload_n X.1 dX9_keep_14 rfl ?_
    refine aI_iconst (v := -1) X.1 dX9_keep_15 (by decide) ?_
    refine aI_icmp_ne (tgt := 27) X.1 dX9_keep_16 (by decide) (fun c7 => ?_) (fun c7 => ?_)
    · have E := o_neg c7 E
      refine aI_iload_n X.1 dX9_keep_27 rfl ?_
      refine aI_aload_n X.1 dX9_keep_28 rfl ?_
      refine gf_9_47 X dX9_keep_29 ?_
      refine gf_9_239 X dX9_keep_32 ?_
      refine aI_icmp_ge (tgt := 50) X.1 dX9_keep_35 (by decide) (fun c8 => ?_) (fun c8 => ?_)
      · have E := o_pos c8 E
        refine aI_iconst (v := -1) X.1 dX9_keep_50 (by decide) ?_
        exact aI_iret E (hret _ _ dX9_keep_51)
      · have E := o_neg c8 E
        refine aI_aload_n X.1 dX9_keep_38 rfl ?_
        refine gf_9_47 X dX9_keep_39 ?_
        refine gf_9_240 X dX9_keep_42 ?_
        refine aI_iload_n X.1 dX9_keep_45 rfl ?_
        obtain ⟨g9, E⟩ := o_if E
        refine al0_30 X g9 dX9_keep_46 ?_
        refine aI_goto (tgt := 51) X.1 dX9_keep_47 (by decide) ?_
        exact aI_iret E (hret _ _ dX9_keep_51)
    · have E := o_pos c7 E
      refine aI_aload_n X.1 dX9_keep_19 rfl ?_
      refine gf_9_47 X dX9_keep_20 ?_
      refine gf_9_239 X dX9_keep_23 ?_
      exact aI_iret E (hret _ _ dX9_keep_26)
  · have E := o_pos c4 E
    refine aI_bipush (v := -2) X.1 dX9_keep_7 (by decide) ?_
    exact aI_iret E (hret _ _ dX9_keep_9)
theorem c_X9_keep {q : Nat → Nat} {p1 : Int32}  {r : Int32} {h2 : hp_T} {h : hp_T} (E : f_X9_keep p1 h = some (r, h2)) : cI 0 yX9_keep cX9_keep 2 .int 4 88 q [.ref (q 0), .int p1] h r h2 := metI (own := RX9) (by decide) rfl (Nat.le_of_ble_eq_true rfl) rfl (fun Γ X N hret => w_X9_keep X N hret E)
set_option maxRecDepth 4000 in
theorem w_X9_clashes {Γ : g_T} {q : Nat → Nat}   {r : Int32} {h2 : hp_T} {h : hp_T} (X : aC 0 Γ q RX9 cX9_clashes 4 88) (N : ∀ k, k < 1 → aN Γ k) (hret : ∀ pc lv, decode cX9_clashes pc = .ok (.ireturn, 1) → aA Γ pc lv [.int r] h2) (E : f_X9_clashes  h = some (r, h2)) : aA Γ 0 [some (.ref (q 0))] [] h := by
  unfold f_X9_clashes at E
  refine aI_aload_n X.1 dX9_clashes_0 rfl ?_
  obtain ⟨h1, e2, E⟩ := o_cvE E
  refine cv_X9_settle X (c_X9_settle e2) ml_9_151 (by decide) (by decide) (Nat.le_of_ble_eq_true rfl) dX9_clashes_1 ?_
  refine aI_aload_n X.1 dX9_clashes_4 rfl ?_
  refine gf_9_54 X dX9_clashes_5 ?_
  refine gf_9_243 X dX9_clashes_8 ?_
  exact aI_iret E (hret _ _ dX9_clashes_11)
theorem c_X9_clashes {q : Nat → Nat}   {r : Int32} {h2 : hp_T} {h : hp_T} (E : f_X9_clashes  h = some (r, h2)) : cI 0 yX9_clashes cX9_clashes 1 .int 4 88 q [.ref (q 0)] h r h2 := metI (own := RX9) (by decide) rfl (Nat.le_of_ble_eq_true rfl) rfl (fun Γ X N hret => w_X9_clashes X N hret E)
set_option maxRecDepth 4000 in
theorem w_X4_rankAhead_L1 {Γ : g_T} {q : Nat → Nat}  {u1 : Int32}  {r : Int32} {h2 : hp_T} (X : aC 0 Γ q RX4 cX4_rankAhead 0 0) (N : ∀ k, k < 4 → aN Γ k) (hret : ∀ pc lv, decode cX4_rankAhead pc = .ok (.ireturn, 1) → aA Γ pc lv [.int r] h2) {K : Int32 → hp_T → Option (Int32 × hp_T)} (hk : ∀ v3 h, K v3 h = some (r, h2) → aA Γ 36 [some (.ref (q 31)), some (.int u1), none, some (.int v3)] [] h) : ∀ (n : Nat) (v3 : Int32) (h : hp_T), f_X4_rankAhead_L1 u1 K n v3 h = some (r, h2) → aA Γ 14 [some (.ref (q 31)), some (.int u1), none, some (.int v3)] [] h := by
  intro n
  induction n with
  | zero =>
    intro v3 h E
    cases E
  | succ n ih =>
    intro v3 h E
    rw [f_X4_rankAhead_L1] at E
    refine aI_iload_n X.1 dX4_rankAhead_14 rfl ?_
    refine aI_if_lt (tgt := 36) X.1 dX4_rankAhead_15 (by decide) (fun c3 => ?_) (fun c3 => ?_)
    · have E := o_pos c3 E
      exact hk v3 h E
    · have E := o_neg c3 E
      refine aI_aload_n X.1 dX4_rankAhead_18 rfl ?_
      refine gf_4_9 X dX4_rankAhead_19 ?_
      refine aI_iload_n X.1 dX4_rankAhead_22 rfl ?_
      obtain ⟨g4, E⟩ := o_if E
      refine al0_32 X g4 dX4_rankAhead_23 ?_
      refine aI_iload_n X.1 dX4_rankAhead_24 rfl ?_
      refine aI_icmp_gt (tgt := 30) X.1 dX4_rankAhead_25 (by decide) (fun c5 => ?_) (fun c5 => ?_)
      · have E := o_pos c5 E
        obtain ⟨x6, ex6, E⟩ := o_letE E
        refine aI_iinc (v := -1) (lv2 := [some (.ref (q 31)), some (.int u1), none, some (.int x6)]) X.1 dX4_rankAhead_30 (N 3 (by decide)) rfl (by decide) (by rw [← ex6]; rfl) ?_
        refine aI_goto (tgt := 14) X.1 dX4_rankAhead_33 (by decide) ?_
        exact ih x6 h E
      · have E := o_neg c5 E
        refine aI_iload_n X.1 dX4_rankAhead_28 rfl ?_
        exact aI_iret E (hret _ _ dX4_rankAhead_29)
set_option maxRecDepth 4000 in
theorem w_X4_rankAhead {Γ : g_T} {q : Nat → Nat} {p1 : Int32} {p2 : Int32}  {r : Int32} {h2 : hp_T} {h : hp_T} (X : aC 0 Γ q RX4 cX4_rankAhead 0 0) (N : ∀ k, k < 4 → aN Γ k) (hret : ∀ pc lv, decode cX4_rankAhead pc = .ok (.ireturn, 1) → aA Γ pc lv [.int r] h2) (E : f_X4_rankAhead p1 p2 h = some (r, h2)) : aA Γ 0 [some (.ref (q 31)), some (.int p1), some (.int p2), none] [] h := by
  unfold f_X4_rankAhead at E
  refine aI_iload_n X.1 dX4_rankAhead_0 rfl ?_
  refine aI_aload_n X.1 dX4_rankAhead_1 rfl ?_
  refine gf_4_15 X dX4_rankAhead_2 ?_
  refine aI_icmp_lt (tgt := 10) X.1 dX4_rankAhead_5 (by decide) (fun c1 => ?_) (fun c1 => ?_)
  · have E := o_pos c1 E
    refine aI_iload_n X.1 dX4_rankAhead_10 rfl ?_
    refine aI_iconst (v := 1) X.1 dX4_rankAhead_11 (by decide) ?_
    refine aI_isub X.1 dX4_rankAhead_12 ?_
    obtain ⟨x2, ex2, E⟩ := o_letE E
    refine aI_eqi ex2 ?_
    refine aI_istore_n (lv2 := [some (.ref (q 31)), some (.int p1), some (.int p2), some (.int x2)]) X.1 dX4_rankAhead_13 (N 3 (by decide)) rfl ?_
    refine aI_lv [true, true, false, true] (lv2 := [some (.ref (q 31)), some (.int p1), none, some (.int x2)]) rfl ?_
    refine w_X4_rankAhead_L1  X N hret ?_ 100 x2 h E
    intro x7 h8 E
    refine aI_iconst (v := -1) X.1 dX4_rankAhead_36 (by decide) ?_
    exact aI_iret E (hret _ _ dX4_rankAhead_37)
  · have E := o_neg c1 E
    refine aI_iconst (v := -1) X.1 dX4_rankAhead_8 (by decide) ?_
    exact aI_iret E (hret _ _ dX4_rankAhead_9)
theorem c_X4_rankAhead {q : Nat → Nat} {p1 : Int32} {p2 : Int32}  {r : Int32} {h2 : hp_T} {h : hp_T} (E : f_X4_rankAhead p1 p2 h = some (r, h2)) : cI 0 yX4_rankAhead cX4_rankAhead 4 .int 0 0 q [.ref (q 31), .int p1, .int p2] h r h2 := metI (own := RX4) (by decide) rfl (Nat.le_of_ble_eq_true rfl) rfl (fun Γ X N hret => w_X4_rankAhead X N hret E)
set_option maxRecDepth 4000 in
theorem w_X7_shared {Γ : g_T} {q : Nat → Nat} {p1 : Int32} {p2 : Int32}  {r : Int32} {h2 : hp_T} {h : hp_T} (X : aC 0 Γ q RX7 cX7_shared 1 21) (N : ∀ k, k < 5 → aN Γ k) (hret : ∀ pc lv, decode cX7_shared pc = .ok (.ireturn, 1) → aA Γ pc lv [.int r] h2) (E : f_X7_shared p1 p2 h = some (r, h2)) : aA Γ 0 [some (.ref (q 1)), some (.int p1), some (.int p2), none, none] [] h := by
  unfold f_X7_shared at E
  refine aI_aload_n X.1 dX7_shared_0 rfl ?_
  refine gf_7_22 X dX7_shared_1 ?_
  refine aI_iload_n X.1 dX7_shared_4 rfl ?_
  obtain ⟨g1, E⟩ := o_if E
  refine al0_5 X g1 dX7_shared_5 ?_
  obtain ⟨x2, ex2, E⟩ := o_letE E
  refine aI_eqi ex2 ?_
  refine aI_istore_n (lv2 := [some (.ref (q 1)), some (.int p1), some (.int p2), some (.int x2), none]) X.1 dX7_shared_6 (N 3 (by decide)) rfl ?_
  refine aI_aload_n X.1 dX7_shared_7 rfl ?_
  refine gf_7_22 X dX7_shared_8 ?_
  refine aI_iload_n X.1 dX7_shared_11 rfl ?_
  obtain ⟨g3, E⟩ := o_if E
  refine al0_5 X g3 dX7_shared_12 ?_
  obtain ⟨x4, ex4, E⟩ := o_letE E
  refine aI_eqi ex4 ?_
  refine aI_istore (lv2 := [some (.ref (q 1)), some (.int p1), some (.int p2), some (.int x2), some (.int x4)]) X.1 dX7_shared_13 (N 4 (by decide)) rfl ?_
  refine aI_aload_n X.1 dX7_shared_15 rfl ?_
  refine gf_7_15 X dX7_shared_16 ?_
  refine aI_iload_n X.1 dX7_shared_19 rfl ?_
  obtain ⟨g5, E⟩ := o_if E
  refine al0_3 X g5 dX7_shared_20 ?_
  refine aI_aload_n X.1 dX7_shared_21 rfl ?_
  refine gf_7_15 X dX7_shared_22 ?_
  refine aI_iload X.1 dX7_shared_25 rfl ?_
  obtain ⟨g6, E⟩ := o_if E
  refine al0_3 X g6 dX7_shared_27 ?_
  refine aI_min X.1 ml_7_44 ms_min mi_Math mc_min (by decide) (Nat.le_of_ble_eq_true rfl) dX7_shared_28 ?_
  refine aI_aload_n X.1 dX7_shared_31 rfl ?_
  refine gf_7_9 X dX7_shared_32 ?_
  refine aI_iload X.1 dX7_shared_35 rfl ?_
  obtain ⟨g7, E⟩ := o_if E
  refine al0_2 X g7 dX7_shared_37 ?_
  refine aI_isub X.1 dX7_shared_38 ?_
  exact aI_iret E (hret _ _ dX7_shared_39)
theorem c_X7_shared {q : Nat → Nat} {p1 : Int32} {p2 : Int32}  {r : Int32} {h2 : hp_T} {h : hp_T} (E : f_X7_shared p1 p2 h = some (r, h2)) : cI 0 yX7_shared cX7_shared 5 .int 1 21 q [.ref (q 1), .int p1, .int p2] h r h2 := metI (own := RX7) (by decide) rfl (Nat.le_of_ble_eq_true rfl) rfl (fun Γ X N hret => w_X7_shared X N hret E)
set_option maxRecDepth 4000 in
theorem w_X9_clash {Γ : g_T} {q : Nat → Nat} {p1 : Int32} {p2 : Int32}  {r : Int32} {h2 : hp_T} {h : hp_T} (X : aC 0 Γ q RX9 cX9_clash 4 88) (N : ∀ k, k < 5 → aN Γ k) (hret : ∀ pc lv, decode cX9_clash pc = .ok (.ireturn, 1) → aA Γ pc lv [.int r] h2) (E : f_X9_clash p1 p2 h = some (r, h2)) : aA Γ 0 [some (.ref (q 0)), some (.int p1), some (.int p2), none, none] [] h := by
  unfold f_X9_clash at E
  refine aI_iload_n X.1 dX9_clash_0 rfl ?_
  refine aI_if_lt (tgt := 20) X.1 dX9_clash_1 (by decide) (fun c1 => ?_) (fun c1 => ?_)
  · have E := o_pos c1 E
    refine aI_bipush (v := -2) X.1 dX9_clash_20 (by decide) ?_
    exact aI_iret E (hret _ _ dX9_clash_22)
  · have E := o_neg c1 E
    refine aI_iload_n X.1 dX9_clash_4 rfl ?_
    refine aI_sipush (v := 1128) X.1 dX9_clash_5 (by decide) ?_
    refine aI_icmp_ge (tgt := 20) X.1 dX9_clash_8 (by decide) (fun c2 => ?_) (fun c2 => ?_)
    · have E := o_pos c2 E
      refine aI_bipush (v := -2) X.1 dX9_clash_20 (by decide) ?_
      exact aI_iret E (hret _ _ dX9_clash_22)
    · have E := o_neg c2 E
      refine aI_iload_n X.1 dX9_clash_11 rfl ?_
      refine aI_if_lt (tgt := 20) X.1 dX9_clash_12 (by decide) (fun c3 => ?_) (fun c3 => ?_)
      · have E := o_pos c3 E
        refine aI_bipush (v := -2) X.1 dX9_clash_20 (by decide) ?_
        exact aI_iret E (hret _ _ dX9_clash_22)
      · have E := o_neg c3 E
        refine aI_iload_n X.1 dX9_clash_15 rfl ?_
        refine aI_iconst (v := 2) X.1 dX9_clash_16 (by decide) ?_
        refine aI_icmp_le (tgt := 23) X.1 dX9_clash_17 (by decide) (fun c4 => ?_) (fun c4 => ?_)
        · have E := o_pos c4 E
          refine aI_aload_n X.1 dX9_clash_23 rfl ?_
          obtain ⟨h5, e6, E⟩ := o_cvE E
          refine cv_X9_settle X (c_X9_settle e6) ml_9_151 (by decide) (by decide) (Nat.le_of_ble_eq_true rfl) dX9_clash_24 ?_
          refine aI_aload_n X.1 dX9_clash_27 rfl ?_
          refine gf_9_54 X dX9_clash_28 ?_
          refine aI_iload_n X.1 dX9_clash_31 rfl ?_
          refine aI_aload_n X.1 dX9_clash_32 rfl ?_
          refine gf_9_12 X dX9_clash_33 ?_
          refine gf_9_96 X dX9_clash_36 ?_
          obtain ⟨r8, h7, e9, E⟩ := o_callE E
          refine cv_X4_rankAhead X (c_X4_rankAhead e9) ml_9_244 (by decide) (by decide) (Nat.le_of_ble_eq_true rfl) dX9_clash_39 ?_
          refine aI_istore_n (lv2 := [some (.ref (q 0)), some (.int p1), some (.int p2), some (.int r8), none]) X.1 dX9_clash_42 (N 3 (by decide)) rfl ?_
          refine aI_iload_n X.1 dX9_clash_43 rfl ?_
          refine aI_iconst (v := -1) X.1 dX9_clash_44 (by decide) ?_
          refine aI_icmp_ne (tgt := 50) X.1 dX9_clash_45 (by decide) (fun c10 => ?_) (fun c10 => ?_)
          · have E := o_neg c10 E
            refine aI_iload_n X.1 dX9_clash_50 rfl ?_
            refine aI_iconst (v := 1) X.1 dX9_clash_51 (by decide) ?_
            refine aI_iadd X.1 dX9_clash_52 ?_
            refine aI_iload_n X.1 dX9_clash_53 rfl ?_
            refine aI_iadd X.1 dX9_clash_54 ?_
            refine aI_aload_n X.1 dX9_clash_55 rfl ?_
            refine gf_9_54 X dX9_clash_56 ?_
            refine gf_9_247 X dX9_clash_59 ?_
            refine aI_iload_n X.1 dX9_clash_62 rfl ?_
            obtain ⟨g11, E⟩ := o_if E
            refine al0_32 X g11 dX9_clash_63 ?_
            refine aI_isub X.1 dX9_clash_64 ?_
            obtain ⟨x12, ex12, E⟩ := o_letE E
            refine aI_eqi ex12 ?_
            refine aI_istore (lv2 := [some (.ref (q 0)), some (.int p1), some (.int p2), some (.int r8), some (.int x12)]) X.1 dX9_clash_65 (N 4 (by decide)) rfl ?_
            refine aI_iload_n X.1 dX9_clash_67 rfl ?_
            by_cases c18 : p2 = (0 : Int32)
            · have E := o_pos c18 E
              refine aI_lookup (off := 28) (tgt := 96) X.1 dX9_clash_68 (by decide) (by rw [c18]; decide) (by decide) ?_
              refine aI_aload_n X.1 dX9_clash_96 rfl ?_
              refine gf_9_12 X dX9_clash_97 ?_
              refine gf_9_148 X dX9_clash_100 ?_
              refine aI_iload_n X.1 dX9_clash_103 rfl ?_
              obtain ⟨g13, E⟩ := o_if E
              refine al0_5 X g13 dX9_clash_104 ?_
              exact aI_iret E (hret _ _ dX9_clash_105)
            have E := o_neg c18 E
            by_cases c19 : p2 = (1 : Int32)
            · have E := o_pos c19 E
              refine aI_lookup (off := 38) (tgt := 106) X.1 dX9_clash_68 (by decide) (by rw [c19]; decide) (by decide) ?_
              refine aI_aload_n X.1 dX9_clash_106 rfl ?_
              refine gf_9_12 X dX9_clash_107 ?_
              refine gf_9_148 X dX9_clash_110 ?_
              refine aI_iload X.1 dX9_clash_113 rfl ?_
              obtain ⟨g14, E⟩ := o_if E
              refine al0_5 X g14 dX9_clash_115 ?_
              exact aI_iret E (hret _ _ dX9_clash_116)
            have E := o_neg c19 E
            refine aI_lookup (off := 49) (tgt := 117) X.1 dX9_clash_68 (by decide) (by have ac18 := i32_ne 0 (by decide) c18; have ac19 := i32_ne 1 (by decide) c19; simp [Op.lookupswitch.offset, ac18.symm, ac19.symm]) (by decide) ?_
            refine aI_aload_n X.1 dX9_clash_117 rfl ?_
            refine gf_9_12 X dX9_clash_118 ?_
            refine aI_iload_n X.1 dX9_clash_121 rfl ?_
            refine aI_iload X.1 dX9_clash_122 rfl ?_
            obtain ⟨r16, h15, e17, E⟩ := o_callE E
            refine cv_X7_shared X (c_X7_shared e17) ml_9_250 (by decide) (by decide) (Nat.le_of_ble_eq_true rfl) dX9_clash_124 ?_
            exact aI_iret E (hret _ _ dX9_clash_127)
          · have E := o_pos c10 E
            refine aI_iconst (v := -1) X.1 dX9_clash_48 (by decide) ?_
            exact aI_iret E (hret _ _ dX9_clash_49)
        · have E := o_neg c4 E
          refine aI_bipush (v := -2) X.1 dX9_clash_20 (by decide) ?_
          exact aI_iret E (hret _ _ dX9_clash_22)
theorem c_X9_clash {q : Nat → Nat} {p1 : Int32} {p2 : Int32}  {r : Int32} {h2 : hp_T} {h : hp_T} (E : f_X9_clash p1 p2 h = some (r, h2)) : cI 0 yX9_clash cX9_clash 5 .int 4 88 q [.ref (q 0), .int p1, .int p2] h r h2 := metI (own := RX9) (by decide) rfl (Nat.le_of_ble_eq_true rfl) rfl (fun Γ X N hret => w_X9_clash X N hret E)
set_option maxRecDepth 4000 in
theorem w_X9_alone {Γ : g_T} {q : Nat → Nat}   {r : Int64} {h2 : hp_T} {h : hp_T} (X : aC 0 Γ q RX9 cX9_alone 4 88) (N : ∀ k, k < 1 → aN Γ k) (hret : ∀ pc lv, decode cX9_alone pc = .ok (.lreturn, 1) → aA Γ pc lv [.long r] h2) (E : f_X9_alone  h = some (r, h2)) : aA Γ 0 [some (.ref (q 0))] [] h := by
  unfold f_X9_alone at E
  refine aI_aload_n X.1 dX9_alone_0 rfl ?_
  obtain ⟨h1, e2, E⟩ := o_cvE E
  refine cv_X9_settle X (c_X9_settle e2) ml_9_151 (by decide) (by decide) (Nat.le_of_ble_eq_true rfl) dX9_alone_1 ?_
  refine aI_aload_n X.1 dX9_alone_4 rfl ?_
  refine gf_9_61 X dX9_alone_5 ?_
  refine gf_9_253 X dX9_alone_8 ?_
  exact aI_lret E (hret _ _ dX9_alone_11)
theorem c_X9_alone {q : Nat → Nat}   {r : Int64} {h2 : hp_T} {h : hp_T} (E : f_X9_alone  h = some (r, h2)) : cL 0 yX9_alone cX9_alone 1 4 88 q [.ref (q 0)] h r h2 := metL (own := RX9) (by decide) rfl (Nat.le_of_ble_eq_true rfl) rfl (fun Γ X N hret => w_X9_alone X N hret E)
set_option maxRecDepth 4000 in
theorem w_X9_group {Γ : g_T} {q : Nat → Nat} {p1 : Int32} {p2 : Int32}  {r : Int32} {h2 : hp_T} {h : hp_T} (X : aC 0 Γ q RX9 cX9_group 4 88) (N : ∀ k, k < 4 → aN Γ k) (hret : ∀ pc lv, decode cX9_group pc = .ok (.ireturn, 1) → aA Γ pc lv [.int r] h2) (E : f_X9_group p1 p2 h = some (r, h2)) : aA Γ 0 [some (.ref (q 0)), some (.int p1), some (.int p2), none] [] h := by
  unfold f_X9_group at E
  refine aI_iload_n X.1 dX9_group_0 rfl ?_
  obtain ⟨r2, h1, e3, E⟩ := o_callE E
  refine cv_X9_isKeyOrNone X (c_X9_isKeyOrNone e3) ml_9_182 (by decide) (by decide) (Nat.le_of_ble_eq_true rfl) dX9_group_1 ?_
  refine aI_if_eq (tgt := 16) X.1 dX9_group_4 (by decide) (fun c4 => ?_) (fun c4 => ?_)
  · have E := o_pos c4 E
    refine aI_bipush (v := -2) X.1 dX9_group_16 (by decide) ?_
    exact aI_iret E (hret _ _ dX9_group_18)
  · have E := o_neg c4 E
    refine aI_iload_n X.1 dX9_group_7 rfl ?_
    refine aI_if_lt (tgt := 16) X.1 dX9_group_8 (by decide) (fun c5 => ?_) (fun c5 => ?_)
    · have E := o_pos c5 E
      refine aI_bipush (v := -2) X.1 dX9_group_16 (by decide) ?_
      exact aI_iret E (hret _ _ dX9_group_18)
    · have E := o_neg c5 E
      refine aI_iload_n X.1 dX9_group_11 rfl ?_
      refine aI_iconst (v := 1) X.1 dX9_group_12 (by decide) ?_
      refine aI_icmp_le (tgt := 19) X.1 dX9_group_13 (by decide) (fun c6 => ?_) (fun c6 => ?_)
      · have E := o_pos c6 E
        refine aI_iload_n X.1 dX9_group_19 rfl ?_
        refine aI_iconst (v := -1) X.1 dX9_group_20 (by decide) ?_
        refine aI_icmp_eq (tgt := 39) X.1 dX9_group_21 (by decide) (fun c7 => ?_) (fun c7 => ?_)
        · have E := o_pos c7 E
          refine aI_aload_n X.1 dX9_group_39 rfl ?_
          obtain ⟨h8, e9, E⟩ := o_cvE E
          refine cv_X9_settle X (c_X9_settle e9) ml_9_151 (by decide) (by decide) (Nat.le_of_ble_eq_true rfl) dX9_group_40 ?_
          refine aI_iload_n X.1 dX9_group_43 rfl ?_
          refine aI_iconst (v := -1) X.1 dX9_group_44 (by decide) ?_
          refine aI_icmp_ne (tgt := 56) X.1 dX9_group_45 (by decide) (fun c10 => ?_) (fun c10 => ?_)
          · have E := o_neg c10 E
            refine aI_aload_n X.1 dX9_group_56 rfl ?_
            refine gf_9_61 X dX9_group_57 ?_
            refine gf_9_258 X dX9_group_60 ?_
            refine aI_iload_n X.1 dX9_group_63 rfl ?_
            obtain ⟨g11, E⟩ := o_if E
            refine al0_34 X g11 dX9_group_64 ?_
            obtain ⟨x12, ex12, E⟩ := o_letE E
            refine aI_eqi ex12 ?_
            refine aI_istore_n (lv2 := [some (.ref (q 0)), some (.int p1), some (.int p2), some (.int x12)]) X.1 dX9_group_65 (N 3 (by decide)) rfl ?_
            refine aI_iload_n X.1 dX9_group_66 rfl ?_
            refine aI_if_ne (tgt := 82) X.1 dX9_group_67 (by decide) (fun c13 => ?_) (fun c13 => ?_)
            · have E := o_neg c13 E
              refine aI_aload_n X.1 dX9_group_82 rfl ?_
              refine gf_9_61 X dX9_group_83 ?_
              refine gf_9_264 X dX9_group_86 ?_
              refine aI_iload_n X.1 dX9_group_89 rfl ?_
              obtain ⟨g14, E⟩ := o_if E
              refine al0_36 X g14 dX9_group_90 ?_
              exact aI_iret E (hret _ _ dX9_group_91)
            · have E := o_pos c13 E
              refine aI_aload_n X.1 dX9_group_70 rfl ?_
              refine gf_9_61 X dX9_group_71 ?_
              refine gf_9_261 X dX9_group_74 ?_
              refine aI_iload_n X.1 dX9_group_77 rfl ?_
              obtain ⟨g15, E⟩ := o_if E
              refine al0_35 X g15 dX9_group_78 ?_
              refine aI_goto (tgt := 91) X.1 dX9_group_79 (by decide) ?_
              exact aI_iret E (hret _ _ dX9_group_91)
          · have E := o_pos c10 E
            refine aI_aload_n X.1 dX9_group_48 rfl ?_
            refine gf_9_61 X dX9_group_49 ?_
            refine gf_9_257 X dX9_group_52 ?_
            exact aI_iret E (hret _ _ dX9_group_55)
        · have E := o_neg c7 E
          refine aI_aload_n X.1 dX9_group_24 rfl ?_
          refine gf_9_12 X dX9_group_25 ?_
          refine gf_9_88 X dX9_group_28 ?_
          refine aI_iload_n X.1 dX9_group_31 rfl ?_
          obtain ⟨g16, E⟩ := o_if E
          refine al0_4 X g16 dX9_group_32 ?_
          refine aI_if_ne (tgt := 39) X.1 dX9_group_33 (by decide) (fun c17 => ?_) (fun c17 => ?_)
          · have E := o_neg c17 E
            refine aI_aload_n X.1 dX9_group_39 rfl ?_
            obtain ⟨h18, e19, E⟩ := o_cvE E
            refine cv_X9_settle X (c_X9_settle e19) ml_9_151 (by decide) (by decide) (Nat.le_of_ble_eq_true rfl) dX9_group_40 ?_
            refine aI_iload_n X.1 dX9_group_43 rfl ?_
            refine aI_iconst (v := -1) X.1 dX9_group_44 (by decide) ?_
            refine aI_icmp_ne (tgt := 56) X.1 dX9_group_45 (by decide) (fun c20 => ?_) (fun c20 => ?_)
            · have E := o_neg c20 E
              refine aI_aload_n X.1 dX9_group_56 rfl ?_
              refine gf_9_61 X dX9_group_57 ?_
              refine gf_9_258 X dX9_group_60 ?_
              refine aI_iload_n X.1 dX9_group_63 rfl ?_
              obtain ⟨g21, E⟩ := o_if E
              refine al0_34 X g21 dX9_group_64 ?_
              obtain ⟨x22, ex22, E⟩ := o_letE E
              refine aI_eqi ex22 ?_
              refine aI_istore_n (lv2 := [some (.ref (q 0)), some (.int p1), some (.int p2), some (.int x22)]) X.1 dX9_group_65 (N 3 (by decide)) rfl ?_
              refine aI_iload_n X.1 dX9_group_66 rfl ?_
              refine aI_if_ne (tgt := 82) X.1 dX9_group_67 (by decide) (fun c23 => ?_) (fun c23 => ?_)
              · have E := o_neg c23 E
                refine aI_aload_n X.1 dX9_group_82 rfl ?_
                refine gf_9_61 X dX9_group_83 ?_
                refine gf_9_264 X dX9_group_86 ?_
                refine aI_iload_n X.1 dX9_group_89 rfl ?_
                obtain ⟨g24, E⟩ := o_if E
                refine al0_36 X g24 dX9_group_90 ?_
                exact aI_iret E (hret _ _ dX9_group_91)
              · have E := o_pos c23 E
                refine aI_aload_n X.1 dX9_group_70 rfl ?_
                refine gf_9_61 X dX9_group_71 ?_
                refine gf_9_261 X dX9_group_74 ?_
                refine aI_iload_n X.1 dX9_group_77 rfl ?_
                obtain ⟨g25, E⟩ := o_if E
                refine al0_35 X g25 dX9_group_78 ?_
                refine aI_goto (tgt := 91) X.1 dX9_group_79 (by decide) ?_
                exact aI_iret E (hret _ _ dX9_group_91)
            · have E := o_pos c20 E
              refine aI_aload_n X.1 dX9_group_48 rfl ?_
              refine gf_9_61 X dX9_group_49 ?_
              refine gf_9_257 X dX9_group_52 ?_
              exact aI_iret E (hret _ _ dX9_group_55)
          · have E := o_pos c17 E
            refine aI_bipush (v := -3) X.1 dX9_group_36 (by decide) ?_
            exact aI_iret E (hret _ _ dX9_group_38)
      · have E := o_neg c6 E
        refine aI_bipush (v := -2) X.1 dX9_group_16 (by decide) ?_
        exact aI_iret E (hret _ _ dX9_group_18)
theorem c_X9_group {q : Nat → Nat} {p1 : Int32} {p2 : Int32}  {r : Int32} {h2 : hp_T} {h : hp_T} (E : f_X9_group p1 p2 h = some (r, h2)) : cI 0 yX9_group cX9_group 4 .int 4 88 q [.ref (q 0), .int p1, .int p2] h r h2 := metI (own := RX9) (by decide) rfl (Nat.le_of_ble_eq_true rfl) rfl (fun Γ X N hret => w_X9_group X N hret E)
set_option maxRecDepth 4000 in
theorem w_X9_isForm {Γ : g_T} {q : Nat → Nat} {p1 : Int32}  {r : Int32} {h2 : hp_T} {h : hp_T} (X : aC 0 Γ q RX9 cX9_isForm 0 0) (N : ∀ k, k < 1 → aN Γ k) (hret : ∀ pc lv, decode cX9_isForm pc = .ok (.ireturn, 1) → bz r = true → aA Γ pc lv [.int r] h2) (E : f_X9_isForm p1 h = some (r, h2)) : aA Γ 0 [some (.int p1)] [] h := by
  unfold f_X9_isForm at E
  refine aI_iload_n X.1 dX9_isForm_0 rfl ?_
  refine aI_if_lt (tgt := 13) X.1 dX9_isForm_1 (by decide) (fun c1 => ?_) (fun c1 => ?_)
  · have E := o_pos c1 E
    refine aI_iconst (v := 0) X.1 dX9_isForm_13 (by decide) ?_
    exact aI_zret (by decide) E (hret _ _ dX9_isForm_14)
  · have E := o_neg c1 E
    refine aI_iload_n X.1 dX9_isForm_4 rfl ?_
    refine aI_iconst (v := 2) X.1 dX9_isForm_5 (by decide) ?_
    refine aI_icmp_gt (tgt := 13) X.1 dX9_isForm_6 (by decide) (fun c2 => ?_) (fun c2 => ?_)
    · have E := o_pos c2 E
      refine aI_iconst (v := 0) X.1 dX9_isForm_13 (by decide) ?_
      exact aI_zret (by decide) E (hret _ _ dX9_isForm_14)
    · have E := o_neg c2 E
      refine aI_iconst (v := 1) X.1 dX9_isForm_9 (by decide) ?_
      refine aI_goto (tgt := 14) X.1 dX9_isForm_10 (by decide) ?_
      exact aI_zret (by decide) E (hret _ _ dX9_isForm_14)
theorem c_X9_isForm {q : Nat → Nat} {p1 : Int32}  {r : Int32} {h2 : hp_T} {h : hp_T} (E : f_X9_isForm p1 h = some (r, h2)) : cI 0 yX9_isForm cX9_isForm 1 .boolean 0 0 q [.int p1] h r h2 := metZ (own := RX9) (by decide) rfl (Nat.le_of_ble_eq_true rfl) rfl (fun Γ X N hret => w_X9_isForm X N hret E)
set_option maxRecDepth 4000 in
theorem w_X6_makeNew_L1 {Γ : g_T} {q : Nat → Nat} {j : Nat}   (hj : j < 4)  {h2 : hp_T} (X : aC 0 Γ q RX6 cX6_makeNew 0 0) (N : ∀ k, k < 4 → aN Γ k) (hret : ∀ pc lv, decode cX6_makeNew pc = .ok (.return_, 1) → aA Γ pc lv [] h2) {K : Int32 → hp_T → Option (hp_T)} (hk : ∀ v3 h, K v3 h = some h2 → aA Γ 38 [some (.ref (q (38 + j))), none, none, some (.int v3)] [] h) : ∀ (n : Nat) (v3 : Int32) (h : hp_T), f_X6_makeNew_L1 j K n v3 h = some h2 → aA Γ 17 [some (.ref (q (38 + j))), none, none, some (.int v3)] [] h := by
  intro n
  induction n with
  | zero =>
    intro v3 h E
    cases E
  | succ n ih =>
    intro v3 h E
    rw [f_X6_makeNew_L1] at E
    refine aI_iload_n X.1 dX6_makeNew_17 rfl ?_
    refine aI_aload_n X.1 dX6_makeNew_18 rfl ?_
    refine gf_6_23 j hj X dX6_makeNew_19 ?_
    refine aI_icmp_ge (tgt := 38) X.1 dX6_makeNew_22 (by decide) (fun c4 => ?_) (fun c4 => ?_)
    · have E := o_pos c4 E
      exact hk v3 h E
    · have E := o_neg c4 E
      refine aI_aload_n X.1 dX6_makeNew_25 rfl ?_
      refine gf_6_9 j hj X dX6_makeNew_26 ?_
      refine aI_iload_n X.1 dX6_makeNew_29 rfl ?_
      refine aI_iconst (v := 0) X.1 dX6_makeNew_30 (by decide) ?_
      obtain ⟨g5, E⟩ := o_if E
      obtain ⟨h6, eh6, E⟩ := o_letE E
      refine as0_s j hj X g5 dX6_makeNew_31 (aI_eqh eh6 ?_)
      obtain ⟨x7, ex7, E⟩ := o_letE E
      refine aI_iinc (v := 1) (lv2 := [some (.ref (q (38 + j))), none, none, some (.int x7)]) X.1 dX6_makeNew_32 (N 3 (by decide)) rfl (by decide) (by rw [← ex7]; rfl) ?_
      refine aI_goto (tgt := 17) X.1 dX6_makeNew_35 (by decide) ?_
      exact ih x7 h6 E
set_option maxRecDepth 4000 in
theorem w_X6_makeNew {Γ : g_T} {q : Nat → Nat} {j : Nat} {p1 : Int32} {p2 : Int32} (hj : j < 4)  {h2 : hp_T} {h : hp_T} (X : aC 0 Γ q RX6 cX6_makeNew 0 0) (N : ∀ k, k < 4 → aN Γ k) (hret : ∀ pc lv, decode cX6_makeNew pc = .ok (.return_, 1) → aA Γ pc lv [] h2) (E : f_X6_makeNew j p1 p2 h = some h2) : aA Γ 0 [some (.ref (q (38 + j))), some (.int p1), some (.int p2), none] [] h := by
  unfold f_X6_makeNew at E
  refine aI_aload_n X.1 dX6_makeNew_0 rfl ?_
  refine aI_iconst (v := 0) X.1 dX6_makeNew_1 (by decide) ?_
  obtain ⟨h1, eh1, E⟩ := o_letE E
  refine pf_6_15 j hj X (by decide) dX6_makeNew_2 (aI_eqh eh1 ?_)
  refine aI_aload_n X.1 dX6_makeNew_5 rfl ?_
  refine aI_iload_n X.1 dX6_makeNew_6 rfl ?_
  obtain ⟨h2, eh2, E⟩ := o_letE E
  refine pf_6_19 j hj X dX6_makeNew_7 (aI_eqh eh2 ?_)
  refine aI_aload_n X.1 dX6_makeNew_10 rfl ?_
  refine aI_iload_n X.1 dX6_makeNew_11 rfl ?_
  obtain ⟨h3, eh3, E⟩ := o_letE E
  refine pf_6_23 j hj X dX6_makeNew_12 (aI_eqh eh3 ?_)
  refine aI_iconst (v := 0) X.1 dX6_makeNew_15 (by decide) ?_
  refine aI_istore_n (lv2 := [some (.ref (q (38 + j))), some (.int p1), some (.int p2), some (.int (0 : Int32))]) X.1 dX6_makeNew_16 (N 3 (by decide)) rfl ?_
  refine aI_lv [true, false, false, true] (lv2 := [some (.ref (q (38 + j))), none, none, some (.int (0 : Int32))]) rfl ?_
  refine w_X6_makeNew_L1 hj X N hret ?_ 100 (0 : Int32) h3 E
  intro x8 h9 E
  exact aI_vret E (hret _ _ dX6_makeNew_38)
theorem c_X6_makeNew {q : Nat → Nat} {j : Nat} {p1 : Int32} {p2 : Int32} (hj : j < 4)  {h2 : hp_T} {h : hp_T} (E : f_X6_makeNew j p1 p2 h = some h2) : cV 0 yX6_makeNew cX6_makeNew 4 0 0 q [.ref (q (38 + j)), .int p1, .int p2] h h2 := metV (own := RX6) (by decide) rfl (Nat.le_of_ble_eq_true rfl) rfl (fun Γ X N hret => w_X6_makeNew hj X N hret E)
set_option maxRecDepth 4000 in
theorem w_X9_sheet {Γ : g_T} {q : Nat → Nat} {p1 : Int32} {p2 : Int32} {p3 : Int32}  {r : Int32} {h2 : hp_T} {h : hp_T} (X : aC 0 Γ q RX9 cX9_sheet 1 23) (N : ∀ k, k < 4 → aN Γ k) (hret : ∀ pc lv, decode cX9_sheet pc = .ok (.ireturn, 1) → aA Γ pc lv [.int r] h2) (E : f_X9_sheet p1 p2 p3 h = some (r, h2)) : aA Γ 0 [some (.ref (q 0)), some (.int p1), some (.int p2), some (.int p3)] [] h := by
  unfold f_X9_sheet at E
  refine aI_iload_n X.1 dX9_sheet_0 rfl ?_
  obtain ⟨r2, h1, e3, E⟩ := o_callE E
  refine cv_X9_isSheet X (c_X9_isSheet e3) ml_9_124 (by decide) (by decide) (Nat.le_of_ble_eq_true rfl) dX9_sheet_1 ?_
  refine aI_if_eq (tgt := 20) X.1 dX9_sheet_4 (by decide) (fun c4 => ?_) (fun c4 => ?_)
  · have E := o_pos c4 E
    refine aI_bipush (v := -2) X.1 dX9_sheet_20 (by decide) ?_
    exact aI_iret E (hret _ _ dX9_sheet_22)
  · have E := o_neg c4 E
    refine aI_iload_n X.1 dX9_sheet_7 rfl ?_
    obtain ⟨r6, h5, e7, E⟩ := o_callE E
    refine cv_X9_isForm X (c_X9_isForm e7) ml_9_265 (by decide) (by decide) (Nat.le_of_ble_eq_true rfl) dX9_sheet_8 ?_
    refine aI_if_eq (tgt := 20) X.1 dX9_sheet_11 (by decide) (fun c8 => ?_) (fun c8 => ?_)
    · have E := o_pos c8 E
      refine aI_bipush (v := -2) X.1 dX9_sheet_20 (by decide) ?_
      exact aI_iret E (hret _ _ dX9_sheet_22)
    · have E := o_neg c8 E
      refine aI_iload_n X.1 dX9_sheet_14 rfl ?_
      refine aI_bipush (v := 60) X.1 dX9_sheet_15 (by decide) ?_
      refine aI_icmp_le (tgt := 23) X.1 dX9_sheet_17 (by decide) (fun c9 => ?_) (fun c9 => ?_)
      · have E := o_pos c9 E
        refine aI_iload_n X.1 dX9_sheet_23 rfl ?_
        refine aI_if_ge (tgt := 33) X.1 dX9_sheet_24 (by decide) (fun c10 => ?_) (fun c10 => ?_)
        · have E := o_pos c10 E
          refine aI_aload_n X.1 dX9_sheet_33 rfl ?_
          refine gf_9_67 X dX9_sheet_34 ?_
          refine aI_iload_n X.1 dX9_sheet_37 rfl ?_
          obtain ⟨g11, E⟩ := o_if E
          refine aK_aald X g11 dX9_sheet_38 ?_
          refine aI_iload_n X.1 dX9_sheet_39 rfl ?_
          refine aI_iload_n X.1 dX9_sheet_40 rfl ?_
          obtain ⟨h12, e13, E⟩ := o_cvE E
          refine cv_X6_makeNew (p1.toNatClampNeg) (ix_lt g11) X (c_X6_makeNew (ix_lt g11) e13) ml_9_268 (by decide) (by decide) (Nat.le_of_ble_eq_true rfl) dX9_sheet_41 ?_
          refine aI_iload_n X.1 dX9_sheet_44 rfl ?_
          exact aI_iret E (hret _ _ dX9_sheet_45)
        · have E := o_neg c10 E
          refine aI_aload_n X.1 dX9_sheet_27 rfl ?_
          refine aI_iconst (v := 5) X.1 dX9_sheet_28 (by decide) ?_
          obtain ⟨r15, h14, e16, E⟩ := o_callE E
          refine cv_X9_found X (c_X9_found e16) ml_9_130 (by decide) (by decide) (Nat.le_of_ble_eq_true rfl) dX9_sheet_29 ?_
          exact aI_iret E (hret _ _ dX9_sheet_32)
      · have E := o_neg c9 E
        refine aI_bipush (v := -2) X.1 dX9_sheet_20 (by decide) ?_
        exact aI_iret E (hret _ _ dX9_sheet_22)
theorem c_X9_sheet {q : Nat → Nat} {p1 : Int32} {p2 : Int32} {p3 : Int32}  {r : Int32} {h2 : hp_T} {h : hp_T} (E : f_X9_sheet p1 p2 p3 h = some (r, h2)) : cI 0 yX9_sheet cX9_sheet 4 .int 1 23 q [.ref (q 0), .int p1, .int p2, .int p3] h r h2 := metI (own := RX9) (by decide) rfl (Nat.le_of_ble_eq_true rfl) rfl (fun Γ X N hret => w_X9_sheet X N hret E)
set_option maxRecDepth 4000 in
theorem w_X9_lose {Γ : g_T} {q : Nat → Nat} {p1 : Int32}  {r : Int32} {h2 : hp_T} {h : hp_T} (X : aC 0 Γ q RX9 cX9_lose 1 21) (N : ∀ k, k < 2 → aN Γ k) (hret : ∀ pc lv, decode cX9_lose pc = .ok (.ireturn, 1) → aA Γ pc lv [.int r] h2) (E : f_X9_lose p1 h = some (r, h2)) : aA Γ 0 [some (.ref (q 0)), some (.int p1)] [] h := by
  unfold f_X9_lose at E
  refine aI_iload_n X.1 dX9_lose_0 rfl ?_
  obtain ⟨r2, h1, e3, E⟩ := o_callE E
  refine cv_X9_isSheet X (c_X9_isSheet e3) ml_9_124 (by decide) (by decide) (Nat.le_of_ble_eq_true rfl) dX9_lose_1 ?_
  refine aI_if_ne (tgt := 10) X.1 dX9_lose_4 (by decide) (fun c4 => ?_) (fun c4 => ?_)
  · have E := o_neg c4 E
    refine aI_aload_n X.1 dX9_lose_10 rfl ?_
    refine gf_9_67 X dX9_lose_11 ?_
    refine aI_iload_n X.1 dX9_lose_14 rfl ?_
    obtain ⟨g5, E⟩ := o_if E
    refine aK_aald X g5 dX9_lose_15 ?_
    refine gf_9_127 (p1.toNatClampNeg) (ix_lt g5) X dX9_lose_16 ?_
    refine aI_if_eq (tgt := 28) X.1 dX9_lose_19 (by decide) (fun c6 => ?_) (fun c6 => ?_)
    · have E := o_pos c6 E
      refine aI_aload_n X.1 dX9_lose_28 rfl ?_
      refine gf_9_67 X dX9_lose_29 ?_
      refine aI_iload_n X.1 dX9_lose_32 rfl ?_
      obtain ⟨g7, E⟩ := o_if E
      refine aK_aald X g7 dX9_lose_33 ?_
      refine aI_iconst (v := 1) X.1 dX9_lose_34 (by decide) ?_
      obtain ⟨h8, eh8, E⟩ := o_letE E
      refine pf_9_127 (p1.toNatClampNeg) (ix_lt g7) X (by decide) dX9_lose_35 (aI_eqh eh8 ?_)
      refine aI_aload_n X.1 dX9_lose_38 rfl ?_
      refine gf_9_67 X dX9_lose_39 ?_
      refine aI_iload_n X.1 dX9_lose_42 rfl ?_
      obtain ⟨g9, E⟩ := o_if E
      refine aK_aald X g9 dX9_lose_43 ?_
      refine gf_9_134 (p1.toNatClampNeg) (ix_lt g9) X dX9_lose_44 ?_
      exact aI_iret E (hret _ _ dX9_lose_47)
    · have E := o_neg c6 E
      refine aI_aload_n X.1 dX9_lose_22 rfl ?_
      refine aI_iconst (v := 1) X.1 dX9_lose_23 (by decide) ?_
      obtain ⟨r11, h10, e12, E⟩ := o_callE E
      refine cv_X9_found X (c_X9_found e12) ml_9_130 (by decide) (by decide) (Nat.le_of_ble_eq_true rfl) dX9_lose_24 ?_
      exact aI_iret E (hret _ _ dX9_lose_27)
  · have E := o_pos c4 E
    refine aI_bipush (v := -2) X.1 dX9_lose_7 (by decide) ?_
    exact aI_iret E (hret _ _ dX9_lose_9)
theorem c_X9_lose {q : Nat → Nat} {p1 : Int32}  {r : Int32} {h2 : hp_T} {h : hp_T} (E : f_X9_lose p1 h = some (r, h2)) : cI 0 yX9_lose cX9_lose 2 .int 1 21 q [.ref (q 0), .int p1] h r h2 := metI (own := RX9) (by decide) rfl (Nat.le_of_ble_eq_true rfl) rfl (fun Γ X N hret => w_X9_lose X N hret E)
set_option maxRecDepth 4000 in
theorem w_X6_hasItems {Γ : g_T} {q : Nat → Nat} {j : Nat} {p1 : Int32} {p2 : Int32} (hj : j < 4)  {r : Int32} {h2 : hp_T} {h : hp_T} (X : aC 0 Γ q RX6 cX6_hasItems 0 0) (N : ∀ k, k < 3 → aN Γ k) (hret : ∀ pc lv, decode cX6_hasItems pc = .ok (.ireturn, 1) → bz r = true → aA Γ pc lv [.int r] h2) (E : f_X6_hasItems j p1 p2 h = some (r, h2)) : aA Γ 0 [some (.ref (q (38 + j))), some (.int p1), some (.int p2)] [] h := by
  unfold f_X6_hasItems at E
  refine aI_iload_n X.1 dX6_hasItems_0 rfl ?_
  refine aI_if_lt (tgt := 30) X.1 dX6_hasItems_1 (by decide) (fun c1 => ?_) (fun c1 => ?_)
  · have E := o_pos c1 E
    refine aI_iconst (v := 0) X.1 dX6_hasItems_30 (by decide) ?_
    exact aI_zret (by decide) E (hret _ _ dX6_hasItems_31)
  · have E := o_neg c1 E
    refine aI_iload_n X.1 dX6_hasItems_4 rfl ?_
    refine aI_if_lt (tgt := 30) X.1 dX6_hasItems_5 (by decide) (fun c2 => ?_) (fun c2 => ?_)
    · have E := o_pos c2 E
      refine aI_iconst (v := 0) X.1 dX6_hasItems_30 (by decide) ?_
      exact aI_zret (by decide) E (hret _ _ dX6_hasItems_31)
    · have E := o_neg c2 E
      refine aI_iload_n X.1 dX6_hasItems_8 rfl ?_
      refine aI_aload_n X.1 dX6_hasItems_9 rfl ?_
      refine gf_6_23 j hj X dX6_hasItems_10 ?_
      refine aI_icmp_gt (tgt := 30) X.1 dX6_hasItems_13 (by decide) (fun c3 => ?_) (fun c3 => ?_)
      · have E := o_pos c3 E
        refine aI_iconst (v := 0) X.1 dX6_hasItems_30 (by decide) ?_
        exact aI_zret (by decide) E (hret _ _ dX6_hasItems_31)
      · have E := o_neg c3 E
        refine aI_iload_n X.1 dX6_hasItems_16 rfl ?_
        refine aI_aload_n X.1 dX6_hasItems_17 rfl ?_
        refine gf_6_23 j hj X dX6_hasItems_18 ?_
        refine aI_iload_n X.1 dX6_hasItems_21 rfl ?_
        refine aI_isub X.1 dX6_hasItems_22 ?_
        refine aI_icmp_gt (tgt := 30) X.1 dX6_hasItems_23 (by decide) (fun c4 => ?_) (fun c4 => ?_)
        · have E := o_pos c4 E
          refine aI_iconst (v := 0) X.1 dX6_hasItems_30 (by decide) ?_
          exact aI_zret (by decide) E (hret _ _ dX6_hasItems_31)
        · have E := o_neg c4 E
          refine aI_iconst (v := 1) X.1 dX6_hasItems_26 (by decide) ?_
          refine aI_goto (tgt := 31) X.1 dX6_hasItems_27 (by decide) ?_
          exact aI_zret (by decide) E (hret _ _ dX6_hasItems_31)
theorem c_X6_hasItems {q : Nat → Nat} {j : Nat} {p1 : Int32} {p2 : Int32} (hj : j < 4)  {r : Int32} {h2 : hp_T} {h : hp_T} (E : f_X6_hasItems j p1 p2 h = some (r, h2)) : cI 0 yX6_hasItems cX6_hasItems 3 .boolean 0 0 q [.ref (q (38 + j)), .int p1, .int p2] h r h2 := metZ (own := RX6) (by decide) rfl (Nat.le_of_ble_eq_true rfl) rfl (fun Γ X N hret => w_X6_hasItems hj X N hret E)
set_option maxRecDepth 4000 in
theorem w_X9_itemRefusal {Γ : g_T} {q : Nat → Nat} {p1 : Int32} {p2 : Int32} {p3 : Int32}  {r : Int32} {h2 : hp_T} {h : hp_T} (X : aC 0 Γ q RX9 cX9_itemRefusal 1 22) (N : ∀ k, k < 5 → aN Γ k) (hret : ∀ pc lv, decode cX9_itemRefusal pc = .ok (.ireturn, 1) → aA Γ pc lv [.int r] h2) (E : f_X9_itemRefusal p1 p2 p3 h = some (r, h2)) : aA Γ 0 [some (.ref (q 0)), some (.int p1), some (.int p2), some (.int p3), none] [] h := by
  unfold f_X9_itemRefusal at E
  refine aI_iload_n X.1 dX9_itemRefusal_0 rfl ?_
  obtain ⟨r2, h1, e3, E⟩ := o_callE E
  refine cv_X9_isSheet X (c_X9_isSheet e3) ml_9_124 (by decide) (by decide) (Nat.le_of_ble_eq_true rfl) dX9_itemRefusal_1 ?_
  refine aI_if_eq (tgt := 14) X.1 dX9_itemRefusal_4 (by decide) (fun c4 => ?_) (fun c4 => ?_)
  · have E := o_pos c4 E
    refine aI_bipush (v := -2) X.1 dX9_itemRefusal_14 (by decide) ?_
    exact aI_iret E (hret _ _ dX9_itemRefusal_16)
  · have E := o_neg c4 E
    refine aI_iload_n X.1 dX9_itemRefusal_7 rfl ?_
    obtain ⟨r6, h5, e7, E⟩ := o_callE E
    refine cv_X9_isForm X (c_X9_isForm e7) ml_9_265 (by decide) (by decide) (Nat.le_of_ble_eq_true rfl) dX9_itemRefusal_8 ?_
    refine aI_if_ne (tgt := 17) X.1 dX9_itemRefusal_11 (by decide) (fun c8 => ?_) (fun c8 => ?_)
    · have E := o_neg c8 E
      refine aI_aload_n X.1 dX9_itemRefusal_17 rfl ?_
      refine gf_9_67 X dX9_itemRefusal_18 ?_
      refine aI_iload_n X.1 dX9_itemRefusal_21 rfl ?_
      obtain ⟨g9, E⟩ := o_if E
      refine aK_aald X g9 dX9_itemRefusal_22 ?_
      refine aI_astore (lv2 := [some (.ref (q 0)), some (.int p1), some (.int p2), some (.int p3), some (.ref (q (38 + p1.toNatClampNeg)))]) X.1 dX9_itemRefusal_23 (N 4 (by decide)) rfl ?_
      refine aI_aload X.1 dX9_itemRefusal_25 rfl ?_
      refine gf_9_127 (p1.toNatClampNeg) (ix_lt g9) X dX9_itemRefusal_27 ?_
      refine aI_if_eq (tgt := 39) X.1 dX9_itemRefusal_30 (by decide) (fun c10 => ?_) (fun c10 => ?_)
      · have E := o_pos c10 E
        refine aI_aload X.1 dX9_itemRefusal_39 rfl ?_
        refine gf_9_278 (p1.toNatClampNeg) (ix_lt g9) X dX9_itemRefusal_41 ?_
        refine aI_iload_n X.1 dX9_itemRefusal_44 rfl ?_
        refine aI_icmp_eq (tgt := 54) X.1 dX9_itemRefusal_45 (by decide) (fun c11 => ?_) (fun c11 => ?_)
        · have E := o_pos c11 E
          refine aI_aload X.1 dX9_itemRefusal_54 rfl ?_
          refine aI_iload_n X.1 dX9_itemRefusal_56 rfl ?_
          refine aI_iconst (v := 1) X.1 dX9_itemRefusal_57 (by decide) ?_
          obtain ⟨r13, h12, e14, E⟩ := o_callE E
          refine cv_X6_hasItems (p1.toNatClampNeg) (ix_lt g9) X (c_X6_hasItems (ix_lt g9) e14) ml_9_281 (by decide) (by decide) (Nat.le_of_ble_eq_true rfl) dX9_itemRefusal_58 ?_
          refine aI_if_eq (tgt := 68) X.1 dX9_itemRefusal_61 (by decide) (fun c15 => ?_) (fun c15 => ?_)
          · have E := o_pos c15 E
            refine aI_aload_n X.1 dX9_itemRefusal_68 rfl ?_
            refine aI_iconst (v := 2) X.1 dX9_itemRefusal_69 (by decide) ?_
            obtain ⟨r17, h16, e18, E⟩ := o_callE E
            refine cv_X9_found X (c_X9_found e18) ml_9_130 (by decide) (by decide) (Nat.le_of_ble_eq_true rfl) dX9_itemRefusal_70 ?_
            exact aI_iret E (hret _ _ dX9_itemRefusal_73)
          · have E := o_neg c15 E
            refine aI_iconst (v := 0) X.1 dX9_itemRefusal_64 (by decide) ?_
            refine aI_goto (tgt := 73) X.1 dX9_itemRefusal_65 (by decide) ?_
            exact aI_iret E (hret _ _ dX9_itemRefusal_73)
        · have E := o_neg c11 E
          refine aI_aload_n X.1 dX9_itemRefusal_48 rfl ?_
          refine aI_iconst (v := 3) X.1 dX9_itemRefusal_49 (by decide) ?_
          obtain ⟨r20, h19, e21, E⟩ := o_callE E
          refine cv_X9_found X (c_X9_found e21) ml_9_130 (by decide) (by decide) (Nat.le_of_ble_eq_true rfl) dX9_itemRefusal_50 ?_
          exact aI_iret E (hret _ _ dX9_itemRefusal_53)
      · have E := o_neg c10 E
        refine aI_aload_n X.1 dX9_itemRefusal_33 rfl ?_
        refine aI_iconst (v := 1) X.1 dX9_itemRefusal_34 (by decide) ?_
        obtain ⟨r23, h22, e24, E⟩ := o_callE E
        refine cv_X9_found X (c_X9_found e24) ml_9_130 (by decide) (by decide) (Nat.le_of_ble_eq_true rfl) dX9_itemRefusal_35 ?_
        exact aI_iret E (hret _ _ dX9_itemRefusal_38)
    · have E := o_pos c8 E
      refine aI_bipush (v := -2) X.1 dX9_itemRefusal_14 (by decide) ?_
      exact aI_iret E (hret _ _ dX9_itemRefusal_16)
theorem c_X9_itemRefusal {q : Nat → Nat} {p1 : Int32} {p2 : Int32} {p3 : Int32}  {r : Int32} {h2 : hp_T} {h : hp_T} (E : f_X9_itemRefusal p1 p2 p3 h = some (r, h2)) : cI 0 yX9_itemRefusal cX9_itemRefusal 5 .int 1 22 q [.ref (q 0), .int p1, .int p2, .int p3] h r h2 := metI (own := RX9) (by decide) rfl (Nat.le_of_ble_eq_true rfl) rfl (fun Γ X N hret => w_X9_itemRefusal X N hret E)
set_option maxRecDepth 4000 in
theorem w_X6_setItem {Γ : g_T} {q : Nat → Nat} {j : Nat} {p1 : Int32} {p2 : Int32} (hj : j < 4)  {h2 : hp_T} {h : hp_T} (X : aC 0 Γ q RX6 cX6_setItem 0 0) (N : ∀ k, k < 3 → aN Γ k) (hret : ∀ pc lv, decode cX6_setItem pc = .ok (.return_, 1) → aA Γ pc lv [] h2) (E : f_X6_setItem j p1 p2 h = some h2) : aA Γ 0 [some (.ref (q (38 + j))), some (.int p1), some (.int p2)] [] h := by
  unfold f_X6_setItem at E
  refine aI_aload_n X.1 dX6_setItem_0 rfl ?_
  refine gf_6_19 j hj X dX6_setItem_1 ?_
  refine aI_if_ne (tgt := 18) X.1 dX6_setItem_4 (by decide) (fun c1 => ?_) (fun c1 => ?_)
  · have E := o_neg c1 E
    refine aI_aload_n X.1 dX6_setItem_18 rfl ?_
    refine gf_6_19 j hj X dX6_setItem_19 ?_
    refine aI_iconst (v := 1) X.1 dX6_setItem_22 (by decide) ?_
    refine aI_icmp_ne (tgt := 37) X.1 dX6_setItem_23 (by decide) (fun c2 => ?_) (fun c2 => ?_)
    · have E := o_neg c2 E
      refine aI_aload_n X.1 dX6_setItem_37 rfl ?_
      refine gf_6_9 j hj X dX6_setItem_38 ?_
      refine aI_iload_n X.1 dX6_setItem_41 rfl ?_
      refine aI_iload_n X.1 dX6_setItem_42 rfl ?_
      obtain ⟨g3, E⟩ := o_if E
      obtain ⟨h4, eh4, E⟩ := o_letE E
      refine as0_s j hj X g3 dX6_setItem_43 (aI_eqh eh4 ?_)
      exact aI_vret E (hret _ _ dX6_setItem_44)
    · have E := o_pos c2 E
      refine aI_aload_n X.1 dX6_setItem_26 rfl ?_
      refine gf_6_9 j hj X dX6_setItem_27 ?_
      refine aI_iload_n X.1 dX6_setItem_30 rfl ?_
      refine aI_iload_n X.1 dX6_setItem_31 rfl ?_
      refine aI_i2s X.1 dX6_setItem_32 ?_
      obtain ⟨g5, E⟩ := o_if E
      obtain ⟨h6, eh6, E⟩ := o_letE E
      refine as0_s j hj X g5 dX6_setItem_33 (aI_eqh eh6 ?_)
      refine aI_goto (tgt := 44) X.1 dX6_setItem_34 (by decide) ?_
      exact aI_vret E (hret _ _ dX6_setItem_44)
  · have E := o_pos c1 E
    refine aI_aload_n X.1 dX6_setItem_7 rfl ?_
    refine gf_6_9 j hj X dX6_setItem_8 ?_
    refine aI_iload_n X.1 dX6_setItem_11 rfl ?_
    refine aI_iload_n X.1 dX6_setItem_12 rfl ?_
    refine aI_i2b X.1 dX6_setItem_13 ?_
    obtain ⟨g7, E⟩ := o_if E
    obtain ⟨h8, eh8, E⟩ := o_letE E
    refine as0_s j hj X g7 dX6_setItem_14 (aI_eqh eh8 ?_)
    refine aI_goto (tgt := 44) X.1 dX6_setItem_15 (by decide) ?_
    exact aI_vret E (hret _ _ dX6_setItem_44)
theorem c_X6_setItem {q : Nat → Nat} {j : Nat} {p1 : Int32} {p2 : Int32} (hj : j < 4)  {h2 : hp_T} {h : hp_T} (E : f_X6_setItem j p1 p2 h = some h2) : cV 0 yX6_setItem cX6_setItem 3 0 0 q [.ref (q (38 + j)), .int p1, .int p2] h h2 := metV (own := RX6) (by decide) rfl (Nat.le_of_ble_eq_true rfl) rfl (fun Γ X N hret => w_X6_setItem hj X N hret E)
