set_option maxRecDepth 4000 in
theorem w_X10_clashOf {Γ : g_T} {q : Nat → Nat} {p1 : Int32} {p2 : Int32} {p3 : Int32}  {r : Int32} {h2 : hp_T} {h : hp_T} (X : aC 1 Γ q RX10 cX10_clashOf 1 21) (N : ∀ k, k < 6 → aN Γ k) (hret : ∀ pc lv, decode cX10_clashOf pc = .ok (.ireturn, 1) → aA Γ pc lv [.int r] h2) (E : f_X10_clashOf p1 p2 p3 h = some (r, h2)) : aA Γ 0 [some (.ref (q 0)), some (.int p1), some (.int p2), some (.int p3), none, none] [] h := by
  unfold f_X10_clashOf at E
  refine aI_aload_n X.1 dX10_clashOf_0 rfl ?_
  refine gf_10_44 X dX10_clashOf_1 ?_
  refine aI_iload_n X.1 dX10_clashOf_4 rfl ?_
  obtain ⟨g1, E⟩ := o_if E
  refine al1_12 X g1 dX10_clashOf_5 ?_
  obtain ⟨x2, ex2, E⟩ := o_letE E
  refine aI_eqi ex2 ?_
  refine aI_istore (lv2 := [some (.ref (q 0)), some (.int p1), some (.int p2), some (.int p3), some (.int x2), none]) X.1 dX10_clashOf_6 (N 4 (by decide)) rfl ?_
  refine aI_aload_n X.1 dX10_clashOf_8 rfl ?_
  refine gf_10_44 X dX10_clashOf_9 ?_
  refine aI_iload_n X.1 dX10_clashOf_12 rfl ?_
  obtain ⟨g3, E⟩ := o_if E
  refine al1_12 X g3 dX10_clashOf_13 ?_
  obtain ⟨x4, ex4, E⟩ := o_letE E
  refine aI_eqi ex4 ?_
  refine aI_istore (lv2 := [some (.ref (q 0)), some (.int p1), some (.int p2), some (.int p3), some (.int x2), some (.int x4)]) X.1 dX10_clashOf_14 (N 5 (by decide)) rfl ?_
  refine aI_iload_n X.1 dX10_clashOf_16 rfl ?_
  refine aI_if_ne (tgt := 25) X.1 dX10_clashOf_17 (by decide) (fun c5 => ?_) (fun c5 => ?_)
  · have E := o_neg c5 E
    refine aI_iload_n X.1 dX10_clashOf_25 rfl ?_
    refine aI_iconst (v := 1) X.1 dX10_clashOf_26 (by decide) ?_
    refine aI_icmp_ne (tgt := 35) X.1 dX10_clashOf_27 (by decide) (fun c6 => ?_) (fun c6 => ?_)
    · have E := o_neg c6 E
      refine aI_aload_n X.1 dX10_clashOf_35 rfl ?_
      refine gf_10_29 X dX10_clashOf_36 ?_
      refine aI_iload X.1 dX10_clashOf_39 rfl ?_
      obtain ⟨g7, E⟩ := o_if E
      refine al1_7 X g7 dX10_clashOf_41 ?_
      refine aI_aload_n X.1 dX10_clashOf_42 rfl ?_
      refine gf_10_29 X dX10_clashOf_43 ?_
      refine aI_iload X.1 dX10_clashOf_46 rfl ?_
      obtain ⟨g8, E⟩ := o_if E
      refine al1_7 X g8 dX10_clashOf_48 ?_
      obtain ⟨r10, h9, e11, E⟩ := o_callE E
      refine cv_X10_lesser X (c_X10_lesser e11) ml_10_277 (by decide) (by decide) (Nat.le_of_ble_eq_true rfl) dX10_clashOf_49 ?_
      refine aI_aload_n X.1 dX10_clashOf_52 rfl ?_
      refine gf_10_26 X dX10_clashOf_53 ?_
      refine aI_iload X.1 dX10_clashOf_56 rfl ?_
      obtain ⟨g12, E⟩ := o_if E
      refine al1_6 X g12 dX10_clashOf_58 ?_
      refine aI_aload_n X.1 dX10_clashOf_59 rfl ?_
      refine gf_10_26 X dX10_clashOf_60 ?_
      refine aI_iload X.1 dX10_clashOf_63 rfl ?_
      obtain ⟨g13, E⟩ := o_if E
      refine al1_6 X g13 dX10_clashOf_65 ?_
      obtain ⟨r15, h14, e16, E⟩ := o_callE E
      refine cv_X10_greater X (c_X10_greater e16) ml_10_198 (by decide) (by decide) (Nat.le_of_ble_eq_true rfl) dX10_clashOf_66 ?_
      refine aI_isub X.1 dX10_clashOf_69 ?_
      exact aI_iret E (hret _ _ dX10_clashOf_70)
    · have E := o_pos c6 E
      refine aI_iload X.1 dX10_clashOf_30 rfl ?_
      refine aI_goto (tgt := 70) X.1 dX10_clashOf_32 (by decide) ?_
      exact aI_iret E (hret _ _ dX10_clashOf_70)
  · have E := o_pos c5 E
    refine aI_iload X.1 dX10_clashOf_20 rfl ?_
    refine aI_goto (tgt := 70) X.1 dX10_clashOf_22 (by decide) ?_
    exact aI_iret E (hret _ _ dX10_clashOf_70)
theorem c_X10_clashOf {q : Nat → Nat} {p1 : Int32} {p2 : Int32} {p3 : Int32}  {r : Int32} {h2 : hp_T} {h : hp_T} (E : f_X10_clashOf p1 p2 p3 h = some (r, h2)) : cI 1 yX10_clashOf cX10_clashOf 6 .int 1 21 q [.ref (q 0), .int p1, .int p2, .int p3] h r h2 := metI (own := RX10) (by decide) rfl (Nat.le_of_ble_eq_true rfl) rfl (fun Γ X N hret => w_X10_clashOf X N hret E)
set_option maxRecDepth 4000 in
theorem w_X10_clashBy_L2 {Γ : g_T} {q : Nat → Nat}  {u1 : Int32} {u2 : Int32} {u5 : Int32}  {r : Int32} {h2 : hp_T} (X : aC 1 Γ q RX10 cX10_clashBy 2 46) (N : ∀ k, k < 7 → aN Γ k) (hret : ∀ pc lv, decode cX10_clashBy pc = .ok (.ireturn, 1) → aA Γ pc lv [.int r] h2) {K : Int32 → Int32 → Int32 → hp_T → Option (Int32 × hp_T)} (hk : ∀ v3 v4 v6 h, K v3 v4 v6 h = some (r, h2) → aA Γ 73 [some (.ref (q 0)), some (.int u1), some (.int u2), some (.int v3), some (.int v4), some (.int u5), some (.int v6)] [] h) : ∀ (n : Nat) (v3 : Int32) (v4 : Int32) (v6 : Int32) (h : hp_T), f_X10_clashBy_L2 u1 u2 u5 K n v3 v4 v6 h = some (r, h2) → aA Γ 23 [some (.ref (q 0)), some (.int u1), some (.int u2), some (.int v3), some (.int v4), some (.int u5), some (.int v6)] [] h := by
  intro n
  induction n with
  | zero =>
    intro v3 v4 v6 h E
    cases E
  | succ n ih =>
    intro v3 v4 v6 h E
    rw [f_X10_clashBy_L2] at E
    refine aI_iload X.1 dX10_clashBy_23 rfl ?_
    refine aI_aload_n X.1 dX10_clashBy_25 rfl ?_
    refine gf_10_142 X dX10_clashBy_26 ?_
    refine aI_icmp_ge (tgt := 73) X.1 dX10_clashBy_29 (by decide) (fun c3 => ?_) (fun c3 => ?_)
    · have E := o_pos c3 E
      exact hk v3 v4 v6 h E
    · have E := o_neg c3 E
      refine aI_aload_n X.1 dX10_clashBy_32 rfl ?_
      refine aI_iload X.1 dX10_clashBy_33 rfl ?_
      refine aI_iload X.1 dX10_clashBy_35 rfl ?_
      obtain ⟨r5, h4, e6, E⟩ := o_callE E
      refine cv_X10_meetsRank X (c_X10_meetsRank e6) ml_10_256 (by decide) (by decide) (Nat.le_of_ble_eq_true rfl) dX10_clashBy_37 ?_
      refine aI_if_eq (tgt := 67) X.1 dX10_clashBy_40 (by decide) (fun c7 => ?_) (fun c7 => ?_)
      · have E := o_pos c7 E
        obtain ⟨x8, ex8, E⟩ := o_letE E
        refine aI_iinc (v := 1) (lv2 := [some (.ref (q 0)), some (.int u1), some (.int u2), some (.int v3), some (.int v4), some (.int u5), some (.int x8)]) X.1 dX10_clashBy_67 (N 6 (by decide)) rfl (by decide) (by rw [← ex8]; rfl) ?_
        refine aI_goto (tgt := 23) X.1 dX10_clashBy_70 (by decide) ?_
        exact ih v3 v4 x8 h4 E
      · have E := o_neg c7 E
        refine aI_iload_n X.1 dX10_clashBy_43 rfl ?_
        refine aI_iload_n X.1 dX10_clashBy_44 rfl ?_
        refine aI_icmp_ne (tgt := 60) X.1 dX10_clashBy_45 (by decide) (fun c9 => ?_) (fun c9 => ?_)
        · have E := o_neg c9 E
          refine aI_iload X.1 dX10_clashBy_60 rfl ?_
          refine aI_istore (lv2 := [some (.ref (q 0)), some (.int u1), some (.int u2), some (.int v3), some (.int v4), some (.int u5), some (.int v6)]) X.1 dX10_clashBy_62 (N 4 (by decide)) rfl ?_
          obtain ⟨x10, ex10, E⟩ := o_letE E
          refine aI_iinc (v := 1) (lv2 := [some (.ref (q 0)), some (.int u1), some (.int u2), some (.int x10), some (.int v4), some (.int u5), some (.int v6)]) X.1 dX10_clashBy_64 (N 3 (by decide)) rfl (by decide) (by rw [← ex10]; rfl) ?_
          obtain ⟨x11, ex11, E⟩ := o_letE E
          refine aI_iinc (v := 1) (lv2 := [some (.ref (q 0)), some (.int u1), some (.int u2), some (.int x10), some (.int v4), some (.int u5), some (.int x11)]) X.1 dX10_clashBy_67 (N 6 (by decide)) rfl (by decide) (by rw [← ex11]; rfl) ?_
          refine aI_goto (tgt := 23) X.1 dX10_clashBy_70 (by decide) ?_
          exact ih x10 v4 x11 h4 E
        · have E := o_pos c9 E
          refine aI_aload_n X.1 dX10_clashBy_48 rfl ?_
          refine aI_iload X.1 dX10_clashBy_49 rfl ?_
          refine aI_iload X.1 dX10_clashBy_51 rfl ?_
          refine aI_iload_n X.1 dX10_clashBy_53 rfl ?_
          obtain ⟨r13, h12, e14, E⟩ := o_callE E
          refine cv_X10_clashOf X (c_X10_clashOf e14) ml_10_280 (by decide) (by decide) (Nat.le_of_ble_eq_true rfl) dX10_clashBy_54 ?_
          refine aI_goto (tgt := 62) X.1 dX10_clashBy_57 (by decide) ?_
          refine aI_istore (lv2 := [some (.ref (q 0)), some (.int u1), some (.int u2), some (.int v3), some (.int r13), some (.int u5), some (.int v6)]) X.1 dX10_clashBy_62 (N 4 (by decide)) rfl ?_
          obtain ⟨x15, ex15, E⟩ := o_letE E
          refine aI_iinc (v := 1) (lv2 := [some (.ref (q 0)), some (.int u1), some (.int u2), some (.int x15), some (.int r13), some (.int u5), some (.int v6)]) X.1 dX10_clashBy_64 (N 3 (by decide)) rfl (by decide) (by rw [← ex15]; rfl) ?_
          obtain ⟨x16, ex16, E⟩ := o_letE E
          refine aI_iinc (v := 1) (lv2 := [some (.ref (q 0)), some (.int u1), some (.int u2), some (.int x15), some (.int r13), some (.int u5), some (.int x16)]) X.1 dX10_clashBy_67 (N 6 (by decide)) rfl (by decide) (by rw [← ex16]; rfl) ?_
          refine aI_goto (tgt := 23) X.1 dX10_clashBy_70 (by decide) ?_
          exact ih x15 r13 x16 h12 E
set_option maxRecDepth 4000 in
theorem w_X10_clashBy_L1 {Γ : g_T} {q : Nat → Nat}  {u1 : Int32} {u2 : Int32}  {r : Int32} {h2 : hp_T} (X : aC 1 Γ q RX10 cX10_clashBy 2 46) (N : ∀ k, k < 7 → aN Γ k) (hret : ∀ pc lv, decode cX10_clashBy pc = .ok (.ireturn, 1) → aA Γ pc lv [.int r] h2) {K : Int32 → Int32 → Int32 → hp_T → Option (Int32 × hp_T)} (hk : ∀ v3 v4 v5 h, K v3 v4 v5 h = some (r, h2) → aA Γ 79 [some (.ref (q 0)), some (.int u1), some (.int u2), some (.int v3), some (.int v4), some (.int v5), none] [] h) : ∀ (n : Nat) (v3 : Int32) (v4 : Int32) (v5 : Int32) (h : hp_T), f_X10_clashBy_L1 u1 u2 K n v3 v4 v5 h = some (r, h2) → aA Γ 8 [some (.ref (q 0)), some (.int u1), some (.int u2), some (.int v3), some (.int v4), some (.int v5), none] [] h := by
  intro n
  induction n with
  | zero =>
    intro v3 v4 v5 h E
    cases E
  | succ n ih =>
    intro v3 v4 v5 h E
    rw [f_X10_clashBy_L1] at E
    refine aI_iload X.1 dX10_clashBy_8 rfl ?_
    refine aI_aload_n X.1 dX10_clashBy_10 rfl ?_
    refine gf_10_142 X dX10_clashBy_11 ?_
    refine aI_icmp_ge (tgt := 79) X.1 dX10_clashBy_14 (by decide) (fun c1 => ?_) (fun c1 => ?_)
    · have E := o_pos c1 E
      exact hk v3 v4 v5 h E
    · have E := o_neg c1 E
      refine aI_iload X.1 dX10_clashBy_17 rfl ?_
      refine aI_iconst (v := 1) X.1 dX10_clashBy_19 (by decide) ?_
      refine aI_iadd X.1 dX10_clashBy_20 ?_
      obtain ⟨x2, ex2, E⟩ := o_letE E
      refine aI_eqi ex2 ?_
      refine aI_istore (lv2 := [some (.ref (q 0)), some (.int u1), some (.int u2), some (.int v3), some (.int v4), some (.int v5), some (.int x2)]) X.1 dX10_clashBy_21 (N 6 (by decide)) rfl ?_
      refine w_X10_clashBy_L2  X N hret ?_ 100 v3 v4 x2 h E
      intro x17 x18 x19 h20 E
      obtain ⟨x21, ex21, E⟩ := o_letE E
      refine aI_iinc (v := 1) (lv2 := [some (.ref (q 0)), some (.int u1), some (.int u2), some (.int x17), some (.int x18), some (.int x21), some (.int x19)]) X.1 dX10_clashBy_73 (N 5 (by decide)) rfl (by decide) (by rw [← ex21]; rfl) ?_
      refine aI_goto (tgt := 8) X.1 dX10_clashBy_76 (by decide) ?_
      refine aI_lv [true, true, true, true, true, true, false] (lv2 := [some (.ref (q 0)), some (.int u1), some (.int u2), some (.int x17), some (.int x18), some (.int x21), none]) rfl ?_
      exact ih x17 x18 x21 h20 E
set_option maxRecDepth 4000 in
theorem w_X10_clashBy {Γ : g_T} {q : Nat → Nat} {p1 : Int32} {p2 : Int32}  {r : Int32} {h2 : hp_T} {h : hp_T} (X : aC 1 Γ q RX10 cX10_clashBy 2 46) (N : ∀ k, k < 7 → aN Γ k) (hret : ∀ pc lv, decode cX10_clashBy pc = .ok (.ireturn, 1) → aA Γ pc lv [.int r] h2) (E : f_X10_clashBy p1 p2 h = some (r, h2)) : aA Γ 0 [some (.ref (q 0)), some (.int p1), some (.int p2), none, none, none, none] [] h := by
  unfold f_X10_clashBy at E
  refine aI_iconst (v := 0) X.1 dX10_clashBy_0 (by decide) ?_
  refine aI_istore_n (lv2 := [some (.ref (q 0)), some (.int p1), some (.int p2), some (.int (0 : Int32)), none, none, none]) X.1 dX10_clashBy_1 (N 3 (by decide)) rfl ?_
  refine aI_iconst (v := -1) X.1 dX10_clashBy_2 (by decide) ?_
  refine aI_istore (lv2 := [some (.ref (q 0)), some (.int p1), some (.int p2), some (.int (0 : Int32)), some (.int (-1 : Int32)), none, none]) X.1 dX10_clashBy_3 (N 4 (by decide)) rfl ?_
  refine aI_iconst (v := 0) X.1 dX10_clashBy_5 (by decide) ?_
  refine aI_istore (lv2 := [some (.ref (q 0)), some (.int p1), some (.int p2), some (.int (0 : Int32)), some (.int (-1 : Int32)), some (.int (0 : Int32)), none]) X.1 dX10_clashBy_6 (N 5 (by decide)) rfl ?_
  refine w_X10_clashBy_L1  X N hret ?_ 100 (0 : Int32) (-1 : Int32) (0 : Int32) h E
  intro x22 x23 x24 h25 E
  refine aI_iload X.1 dX10_clashBy_79 rfl ?_
  exact aI_iret E (hret _ _ dX10_clashBy_81)
theorem c_X10_clashBy {q : Nat → Nat} {p1 : Int32} {p2 : Int32}  {r : Int32} {h2 : hp_T} {h : hp_T} (E : f_X10_clashBy p1 p2 h = some (r, h2)) : cI 1 yX10_clashBy cX10_clashBy 7 .int 2 46 q [.ref (q 0), .int p1, .int p2] h r h2 := metI (own := RX10) (by decide) rfl (Nat.le_of_ble_eq_true rfl) rfl (fun Γ X N hret => w_X10_clashBy X N hret E)
set_option maxRecDepth 4000 in
theorem w_X10_clash {Γ : g_T} {q : Nat → Nat} {p1 : Int32} {p2 : Int32}  {r : Int32} {h2 : hp_T} {h : hp_T} (X : aC 1 Γ q RX10 cX10_clash 3 72) (N : ∀ k, k < 3 → aN Γ k) (hret : ∀ pc lv, decode cX10_clash pc = .ok (.ireturn, 1) → aA Γ pc lv [.int r] h2) (E : f_X10_clash p1 p2 h = some (r, h2)) : aA Γ 0 [some (.ref (q 0)), some (.int p1), some (.int p2)] [] h := by
  unfold f_X10_clash at E
  refine aI_aload_n X.1 dX10_clash_0 rfl ?_
  obtain ⟨h1, e2, E⟩ := o_cvE E
  refine cv_X10_orders X (c_X10_orders e2) ml_10_188 (by decide) (by decide) (Nat.le_of_ble_eq_true rfl) dX10_clash_1 ?_
  refine aI_iload_n X.1 dX10_clash_4 rfl ?_
  refine aI_i2l X.1 dX10_clash_5 ?_
  refine aI_lconst (v := 0) X.1 dX10_clash_6 (by decide) ?_
  refine aI_ldc2 X.1 dX10_clash_7 kl_10_283 ?_
  obtain ⟨r4, h3, e5, E⟩ := o_callE E
  refine cv_X10_in X (c_X10_in e5) ml_10_101 (by decide) (by decide) (Nat.le_of_ble_eq_true rfl) dX10_clash_10 ?_
  refine aI_if_eq (tgt := 37) X.1 dX10_clash_13 (by decide) (fun c6 => ?_) (fun c6 => ?_)
  · have E := o_pos c6 E
    refine aI_bipush (v := -2) X.1 dX10_clash_37 (by decide) ?_
    exact aI_iret E (hret _ _ dX10_clash_39)
  · have E := o_neg c6 E
    refine aI_iload_n X.1 dX10_clash_16 rfl ?_
    refine aI_i2l X.1 dX10_clash_17 ?_
    refine aI_lconst (v := 0) X.1 dX10_clash_18 (by decide) ?_
    refine aI_ldc2 X.1 dX10_clash_19 kl_10_115 ?_
    obtain ⟨r8, h7, e9, E⟩ := o_callE E
    refine cv_X10_in X (c_X10_in e9) ml_10_101 (by decide) (by decide) (Nat.le_of_ble_eq_true rfl) dX10_clash_22 ?_
    refine aI_if_eq (tgt := 37) X.1 dX10_clash_25 (by decide) (fun c10 => ?_) (fun c10 => ?_)
    · have E := o_pos c10 E
      refine aI_bipush (v := -2) X.1 dX10_clash_37 (by decide) ?_
      exact aI_iret E (hret _ _ dX10_clash_39)
    · have E := o_neg c10 E
      refine aI_aload_n X.1 dX10_clash_28 rfl ?_
      refine aI_iload_n X.1 dX10_clash_29 rfl ?_
      refine aI_iload_n X.1 dX10_clash_30 rfl ?_
      obtain ⟨r12, h11, e13, E⟩ := o_callE E
      refine cv_X10_clashBy X (c_X10_clashBy e13) ml_10_285 (by decide) (by decide) (Nat.le_of_ble_eq_true rfl) dX10_clash_31 ?_
      refine aI_goto (tgt := 39) X.1 dX10_clash_34 (by decide) ?_
      exact aI_iret E (hret _ _ dX10_clash_39)
theorem c_X10_clash {q : Nat → Nat} {p1 : Int32} {p2 : Int32}  {r : Int32} {h2 : hp_T} {h : hp_T} (E : f_X10_clash p1 p2 h = some (r, h2)) : cI 1 yX10_clash cX10_clash 3 .int 3 72 q [.ref (q 0), .int p1, .int p2] h r h2 := metI (own := RX10) (by decide) rfl (Nat.le_of_ble_eq_true rfl) rfl (fun Γ X N hret => w_X10_clash X N hret E)
set_option maxRecDepth 4000 in
theorem w_X10_aloneNow_L1 {Γ : g_T} {q : Nat → Nat}    {r : Int64} {h2 : hp_T} (X : aC 1 Γ q RX10 cX10_aloneNow 2 49) (N : ∀ k, k < 5 → aN Γ k) (hret : ∀ pc lv, decode cX10_aloneNow pc = .ok (.lreturn, 1) → aA Γ pc lv [.long r] h2) {K : Int64 → Int32 → hp_T → Option (Int64 × hp_T)} (hk : ∀ v1 v3 h, K v1 v3 h = some (r, h2) → aA Γ 60 [some (.ref (q 0)), some (.long v1), none, some (.int v3), none] [] h) : ∀ (n : Nat) (v1 : Int64) (v3 : Int32) (h : hp_T), f_X10_aloneNow_L1 K n v1 v3 h = some (r, h2) → aA Γ 4 [some (.ref (q 0)), some (.long v1), none, some (.int v3), none] [] h := by
  intro n
  induction n with
  | zero =>
    intro v1 v3 h E
    cases E
  | succ n ih =>
    intro v1 v3 h E
    rw [f_X10_aloneNow_L1] at E
    refine aI_iload_n X.1 dX10_aloneNow_4 rfl ?_
    refine aI_aload_n X.1 dX10_aloneNow_5 rfl ?_
    refine gf_10_142 X dX10_aloneNow_6 ?_
    refine aI_icmp_ge (tgt := 60) X.1 dX10_aloneNow_9 (by decide) (fun c1 => ?_) (fun c1 => ?_)
    · have E := o_pos c1 E
      exact hk v1 v3 h E
    · have E := o_neg c1 E
      refine aI_aload_n X.1 dX10_aloneNow_12 rfl ?_
      refine gf_10_44 X dX10_aloneNow_13 ?_
      refine aI_iload_n X.1 dX10_aloneNow_16 rfl ?_
      obtain ⟨g2, E⟩ := o_if E
      refine al1_12 X g2 dX10_aloneNow_17 ?_
      obtain ⟨x3, ex3, E⟩ := o_letE E
      refine aI_eqi ex3 ?_
      refine aI_istore (lv2 := [some (.ref (q 0)), some (.long v1), none, some (.int v3), some (.int x3)]) X.1 dX10_aloneNow_18 (N 4 (by decide)) rfl ?_
      refine aI_lload_n X.1 dX10_aloneNow_20 rfl ?_
      refine aI_aload_n X.1 dX10_aloneNow_21 rfl ?_
      refine aI_aload_n X.1 dX10_aloneNow_22 rfl ?_
      refine gf_10_26 X dX10_aloneNow_23 ?_
      refine aI_iload X.1 dX10_aloneNow_26 rfl ?_
      obtain ⟨g4, E⟩ := o_if E
      refine al1_6 X g4 dX10_aloneNow_28 ?_
      refine aI_aload_n X.1 dX10_aloneNow_29 rfl ?_
      refine gf_10_29 X dX10_aloneNow_30 ?_
      refine aI_iload X.1 dX10_aloneNow_33 rfl ?_
      obtain ⟨g5, E⟩ := o_if E
      refine al1_7 X g5 dX10_aloneNow_35 ?_
      refine aI_iconst (v := -1) X.1 dX10_aloneNow_36 (by decide) ?_
      obtain ⟨r7, h6, e8, E⟩ := o_callE E
      refine cv_X10_meetsBy X (c_X10_meetsBy e8) ml_10_221 (by decide) (by decide) (Nat.le_of_ble_eq_true rfl) dX10_aloneNow_37 ?_
      refine aI_iconst (v := 1) X.1 dX10_aloneNow_40 (by decide) ?_
      refine aI_icmp_ne (tgt := 51) X.1 dX10_aloneNow_41 (by decide) (fun c9 => ?_) (fun c9 => ?_)
      · have E := o_neg c9 E
        refine aI_lconst (v := 0) X.1 dX10_aloneNow_51 (by decide) ?_
        refine aI_lor X.1 dX10_aloneNow_52 ?_
        obtain ⟨x10, ex10, E⟩ := o_letE E
        refine aI_eql ex10 ?_
        refine aI_lstore_n (lv2 := [some (.ref (q 0)), some (.long x10), none, some (.int v3), some (.int x3)]) X.1 dX10_aloneNow_53 (N 2 (by decide)) rfl ?_
        obtain ⟨x11, ex11, E⟩ := o_letE E
        refine aI_iinc (v := 1) (lv2 := [some (.ref (q 0)), some (.long x10), none, some (.int x11), some (.int x3)]) X.1 dX10_aloneNow_54 (N 3 (by decide)) rfl (by decide) (by rw [← ex11]; rfl) ?_
        refine aI_goto (tgt := 4) X.1 dX10_aloneNow_57 (by decide) ?_
        refine aI_lv [true, true, false, true, false] (lv2 := [some (.ref (q 0)), some (.long x10), none, some (.int x11), none]) rfl ?_
        exact ih x10 x11 h6 E
      · have E := o_pos c9 E
        refine aI_lconst (v := 1) X.1 dX10_aloneNow_44 (by decide) ?_
        refine aI_iload X.1 dX10_aloneNow_45 rfl ?_
        refine aI_lshl X.1 dX10_aloneNow_47 ?_
        refine aI_goto (tgt := 52) X.1 dX10_aloneNow_48 (by decide) ?_
        refine aI_lor X.1 dX10_aloneNow_52 ?_
        obtain ⟨x12, ex12, E⟩ := o_letE E
        refine aI_eql ex12 ?_
        refine aI_lstore_n (lv2 := [some (.ref (q 0)), some (.long x12), none, some (.int v3), some (.int x3)]) X.1 dX10_aloneNow_53 (N 2 (by decide)) rfl ?_
        obtain ⟨x13, ex13, E⟩ := o_letE E
        refine aI_iinc (v := 1) (lv2 := [some (.ref (q 0)), some (.long x12), none, some (.int x13), some (.int x3)]) X.1 dX10_aloneNow_54 (N 3 (by decide)) rfl (by decide) (by rw [← ex13]; rfl) ?_
        refine aI_goto (tgt := 4) X.1 dX10_aloneNow_57 (by decide) ?_
        refine aI_lv [true, true, false, true, false] (lv2 := [some (.ref (q 0)), some (.long x12), none, some (.int x13), none]) rfl ?_
        exact ih x12 x13 h6 E
set_option maxRecDepth 4000 in
theorem w_X10_aloneNow {Γ : g_T} {q : Nat → Nat}   {r : Int64} {h2 : hp_T} {h : hp_T} (X : aC 1 Γ q RX10 cX10_aloneNow 2 49) (N : ∀ k, k < 5 → aN Γ k) (hret : ∀ pc lv, decode cX10_aloneNow pc = .ok (.lreturn, 1) → aA Γ pc lv [.long r] h2) (E : f_X10_aloneNow  h = some (r, h2)) : aA Γ 0 [some (.ref (q 0)), none, none, none, none] [] h := by
  unfold f_X10_aloneNow at E
  refine aI_lconst (v := 0) X.1 dX10_aloneNow_0 (by decide) ?_
  refine aI_lstore_n (lv2 := [some (.ref (q 0)), some (.long (0 : Int64)), none, none, none]) X.1 dX10_aloneNow_1 (N 2 (by decide)) rfl ?_
  refine aI_iconst (v := 0) X.1 dX10_aloneNow_2 (by decide) ?_
  refine aI_istore_n (lv2 := [some (.ref (q 0)), some (.long (0 : Int64)), none, some (.int (0 : Int32)), none]) X.1 dX10_aloneNow_3 (N 3 (by decide)) rfl ?_
  refine w_X10_aloneNow_L1  X N hret ?_ 100 (0 : Int64) (0 : Int32) h E
  intro x14 x15 h16 E
  refine aI_lload_n X.1 dX10_aloneNow_60 rfl ?_
  exact aI_lret E (hret _ _ dX10_aloneNow_61)
theorem c_X10_aloneNow {q : Nat → Nat}   {r : Int64} {h2 : hp_T} {h : hp_T} (E : f_X10_aloneNow  h = some (r, h2)) : cL 1 yX10_aloneNow cX10_aloneNow 5 2 49 q [.ref (q 0)] h r h2 := metL (own := RX10) (by decide) rfl (Nat.le_of_ble_eq_true rfl) rfl (fun Γ X N hret => w_X10_aloneNow X N hret E)
set_option maxRecDepth 4000 in
theorem w_X10_alone {Γ : g_T} {q : Nat → Nat}   {r : Int64} {h2 : hp_T} {h : hp_T} (X : aC 1 Γ q RX10 cX10_alone 3 73) (N : ∀ k, k < 1 → aN Γ k) (hret : ∀ pc lv, decode cX10_alone pc = .ok (.lreturn, 1) → aA Γ pc lv [.long r] h2) (E : f_X10_alone  h = some (r, h2)) : aA Γ 0 [some (.ref (q 0))] [] h := by
  unfold f_X10_alone at E
  refine aI_aload_n X.1 dX10_alone_0 rfl ?_
  obtain ⟨h1, e2, E⟩ := o_cvE E
  refine cv_X10_orders X (c_X10_orders e2) ml_10_188 (by decide) (by decide) (Nat.le_of_ble_eq_true rfl) dX10_alone_1 ?_
  refine aI_aload_n X.1 dX10_alone_4 rfl ?_
  obtain ⟨r4, h3, e5, E⟩ := o_callE E
  refine cv_X10_aloneNow X (c_X10_aloneNow e5) ml_10_288 (by decide) (by decide) (Nat.le_of_ble_eq_true rfl) dX10_alone_5 ?_
  exact aI_lret E (hret _ _ dX10_alone_8)
theorem c_X10_alone {q : Nat → Nat}   {r : Int64} {h2 : hp_T} {h : hp_T} (E : f_X10_alone  h = some (r, h2)) : cL 1 yX10_alone cX10_alone 1 3 73 q [.ref (q 0)] h r h2 := metL (own := RX10) (by decide) rfl (Nat.le_of_ble_eq_true rfl) rfl (fun Γ X N hret => w_X10_alone X N hret E)
set_option maxRecDepth 4000 in
theorem w_X10_gathers_L2 {Γ : g_T} {q : Nat → Nat}  {u1 : Int32} {u2 : Int32} {u3 : Int32} {u4 : Int32} {u5 : Int32} {u6 : Int32}  {r : Int32} {h2 : hp_T} (X : aC 1 Γ q RX10 cX10_gathers 1 21) (N : ∀ k, k < 8 → aN Γ k) (hret : ∀ pc lv, decode cX10_gathers pc = .ok (.ireturn, 1) → aA Γ pc lv [.int r] h2) {K : Int32 → hp_T → Option (Int32 × hp_T)} (hk : ∀ v7 h, K v7 h = some (r, h2) → aA Γ 117 [some (.ref (q 0)), some (.int u1), some (.int u2), some (.int u3), some (.int u4), some (.int u5), some (.int u6), some (.int v7)] [] h) : ∀ (n : Nat) (v7 : Int32) (h : hp_T), f_X10_gathers_L2 u4 u6 K n v7 h = some (r, h2) → aA Γ 95 [some (.ref (q 0)), some (.int u1), some (.int u2), some (.int u3), some (.int u4), some (.int u5), some (.int u6), some (.int v7)] [] h := by
  intro n
  induction n with
  | zero =>
    intro v7 h E
    cases E
  | succ n ih =>
    intro v7 h E
    rw [f_X10_gathers_L2] at E
    refine aI_iload X.1 dX10_gathers_95 rfl ?_
    refine aI_iload X.1 dX10_gathers_97 rfl ?_
    refine aI_icmp_gt (tgt := 117) X.1 dX10_gathers_99 (by decide) (fun c18 => ?_) (fun c18 => ?_)
    · have E := o_pos c18 E
      exact hk v7 h E
    · have E := o_neg c18 E
      refine aI_aload_n X.1 dX10_gathers_102 rfl ?_
      refine gf_10_98 X dX10_gathers_103 ?_
      refine aI_iload X.1 dX10_gathers_106 rfl ?_
      refine aI_iload X.1 dX10_gathers_108 rfl ?_
      obtain ⟨g19, E⟩ := o_if E
      obtain ⟨h20, eh20, E⟩ := o_letE E
      refine as1_30 X g19 dX10_gathers_110 (aI_eqh eh20 ?_)
      obtain ⟨x21, ex21, E⟩ := o_letE E
      refine aI_iinc (v := 1) (lv2 := [some (.ref (q 0)), some (.int u1), some (.int u2), some (.int u3), some (.int u4), some (.int u5), some (.int u6), some (.int x21)]) X.1 dX10_gathers_111 (N 7 (by decide)) rfl (by decide) (by rw [← ex21]; rfl) ?_
      refine aI_goto (tgt := 95) X.1 dX10_gathers_114 (by decide) ?_
      exact ih x21 h20 E
set_option maxRecDepth 4000 in
theorem w_X10_gathers_L1 {Γ : g_T} {q : Nat → Nat}    {r : Int32} {h2 : hp_T} (X : aC 1 Γ q RX10 cX10_gathers 1 21) (N : ∀ k, k < 8 → aN Γ k) (hret : ∀ pc lv, decode cX10_gathers pc = .ok (.ireturn, 1) → aA Γ pc lv [.int r] h2) {K : Int32 → Int32 → Int32 → Int32 → hp_T → Option (Int32 × hp_T)} (hk : ∀ v1 v2 v3 v4 h, K v1 v2 v3 v4 h = some (r, h2) → aA Γ 123 [some (.ref (q 0)), some (.int v1), some (.int v2), some (.int v3), some (.int v4), none, none, none] [] h) : ∀ (n : Nat) (v1 : Int32) (v2 : Int32) (v3 : Int32) (v4 : Int32) (h : hp_T), f_X10_gathers_L1 K n v1 v2 v3 v4 h = some (r, h2) → aA Γ 10 [some (.ref (q 0)), some (.int v1), some (.int v2), some (.int v3), some (.int v4), none, none, none] [] h := by
  intro n
  induction n with
  | zero =>
    intro v1 v2 v3 v4 h E
    cases E
  | succ n ih =>
    intro v1 v2 v3 v4 h E
    rw [f_X10_gathers_L1] at E
    refine aI_iload X.1 dX10_gathers_10 rfl ?_
    refine aI_aload_n X.1 dX10_gathers_12 rfl ?_
    refine gf_10_142 X dX10_gathers_13 ?_
    refine aI_icmp_ge (tgt := 123) X.1 dX10_gathers_16 (by decide) (fun c1 => ?_) (fun c1 => ?_)
    · have E := o_pos c1 E
      exact hk v1 v2 v3 v4 h E
    · have E := o_neg c1 E
      refine aI_aload_n X.1 dX10_gathers_19 rfl ?_
      refine gf_10_44 X dX10_gathers_20 ?_
      refine aI_iload X.1 dX10_gathers_23 rfl ?_
      obtain ⟨g2, E⟩ := o_if E
      refine al1_12 X g2 dX10_gathers_25 ?_
      obtain ⟨x3, ex3, E⟩ := o_letE E
      refine aI_eqi ex3 ?_
      refine aI_istore (lv2 := [some (.ref (q 0)), some (.int v1), some (.int v2), some (.int v3), some (.int v4), some (.int x3), none, none]) X.1 dX10_gathers_26 (N 5 (by decide)) rfl ?_
      refine aI_iload X.1 dX10_gathers_28 rfl ?_
      refine aI_if_eq (tgt := 44) X.1 dX10_gathers_30 (by decide) (fun c4 => ?_) (fun c4 => ?_)
      · have E := o_pos c4 E
        obtain ⟨x5, ex5, E⟩ := o_letE E
        refine aI_iinc (v := 1) (lv2 := [some (.ref (q 0)), some (.int x5), some (.int v2), some (.int v3), some (.int v4), some (.int x3), none, none]) X.1 dX10_gathers_44 (N 1 (by decide)) rfl (by decide) (by rw [← ex5]; rfl) ?_
        refine aI_iload X.1 dX10_gathers_47 rfl ?_
        refine aI_istore_n (lv2 := [some (.ref (q 0)), some (.int x5), some (.int v2), some (.int v4), some (.int v4), some (.int x3), none, none]) X.1 dX10_gathers_49 (N 3 (by decide)) rfl ?_
        refine aI_aload_n X.1 dX10_gathers_50 rfl ?_
        refine gf_10_29 X dX10_gathers_51 ?_
        refine aI_iload X.1 dX10_gathers_54 rfl ?_
        obtain ⟨g6, E⟩ := o_if E
        refine al1_7 X g6 dX10_gathers_56 ?_
        obtain ⟨x7, ex7, E⟩ := o_letE E
        refine aI_eqi ex7 ?_
        refine aI_istore_n (lv2 := [some (.ref (q 0)), some (.int x5), some (.int x7), some (.int v4), some (.int v4), some (.int x3), none, none]) X.1 dX10_gathers_57 (N 2 (by decide)) rfl ?_
        refine aI_aload_n X.1 dX10_gathers_58 rfl ?_
        refine gf_10_98 X dX10_gathers_59 ?_
        refine aI_iload X.1 dX10_gathers_62 rfl ?_
        refine aI_iload X.1 dX10_gathers_64 rfl ?_
        obtain ⟨g8, E⟩ := o_if E
        obtain ⟨h9, eh9, E⟩ := o_letE E
        refine as1_30 X g8 dX10_gathers_66 (aI_eqh eh9 ?_)
        refine aI_aload_n X.1 dX10_gathers_67 rfl ?_
        refine gf_10_29 X dX10_gathers_68 ?_
        refine aI_iload X.1 dX10_gathers_71 rfl ?_
        obtain ⟨g10, E⟩ := o_if E
        refine al1_7 X g10 dX10_gathers_73 ?_
        refine aI_iload_n X.1 dX10_gathers_74 rfl ?_
        obtain ⟨r12, h11, e13, E⟩ := o_callE E
        refine cv_X10_greater X (c_X10_greater e13) ml_10_198 (by decide) (by decide) (Nat.le_of_ble_eq_true rfl) dX10_gathers_75 ?_
        refine aI_istore_n (lv2 := [some (.ref (q 0)), some (.int x5), some (.int r12), some (.int v4), some (.int v4), some (.int x3), none, none]) X.1 dX10_gathers_78 (N 2 (by decide)) rfl ?_
        refine aI_aload_n X.1 dX10_gathers_79 rfl ?_
        refine gf_10_98 X dX10_gathers_80 ?_
        refine aI_iload_n X.1 dX10_gathers_83 rfl ?_
        obtain ⟨g14, E⟩ := o_if E
        refine al1_30 X g14 dX10_gathers_84 ?_
        refine aI_iload X.1 dX10_gathers_85 rfl ?_
        obtain ⟨r16, h15, e17, E⟩ := o_callE E
        refine cv_X10_lesser X (c_X10_lesser e17) ml_10_277 (by decide) (by decide) (Nat.le_of_ble_eq_true rfl) dX10_gathers_87 ?_
        refine aI_istore (lv2 := [some (.ref (q 0)), some (.int x5), some (.int r12), some (.int v4), some (.int v4), some (.int x3), some (.int r16), none]) X.1 dX10_gathers_90 (N 6 (by decide)) rfl ?_
        refine aI_iload_n X.1 dX10_gathers_92 rfl ?_
        refine aI_istore (lv2 := [some (.ref (q 0)), some (.int x5), some (.int r12), some (.int v4), some (.int v4), some (.int x3), some (.int r16), some (.int v4)]) X.1 dX10_gathers_93 (N 7 (by decide)) rfl ?_
        refine w_X10_gathers_L2  X N hret ?_ 100 v4 h15 E
        intro x22 h23 E
        obtain ⟨x24, ex24, E⟩ := o_letE E
        refine aI_iinc (v := 1) (lv2 := [some (.ref (q 0)), some (.int x5), some (.int r12), some (.int v4), some (.int x24), some (.int x3), some (.int r16), some (.int x22)]) X.1 dX10_gathers_117 (N 4 (by decide)) rfl (by decide) (by rw [← ex24]; rfl) ?_
        refine aI_goto (tgt := 10) X.1 dX10_gathers_120 (by decide) ?_
        refine aI_lv [true, true, true, true, true, false, false, false] (lv2 := [some (.ref (q 0)), some (.int x5), some (.int r12), some (.int v4), some (.int x24), none, none, none]) rfl ?_
        exact ih x5 r12 v4 x24 h23 E
      · have E := o_neg c4 E
        refine aI_aload_n X.1 dX10_gathers_33 rfl ?_
        refine gf_10_26 X dX10_gathers_34 ?_
        refine aI_iload X.1 dX10_gathers_37 rfl ?_
        obtain ⟨g25, E⟩ := o_if E
        refine al1_6 X g25 dX10_gathers_39 ?_
        refine aI_iload_n X.1 dX10_gathers_40 rfl ?_
        refine aI_icmp_lt (tgt := 67) X.1 dX10_gathers_41 (by decide) (fun c26 => ?_) (fun c26 => ?_)
        · have E := o_pos c26 E
          refine aI_aload_n X.1 dX10_gathers_67 rfl ?_
          refine gf_10_29 X dX10_gathers_68 ?_
          refine aI_iload X.1 dX10_gathers_71 rfl ?_
          obtain ⟨g27, E⟩ := o_if E
          refine al1_7 X g27 dX10_gathers_73 ?_
          refine aI_iload_n X.1 dX10_gathers_74 rfl ?_
          obtain ⟨r29, h28, e30, E⟩ := o_callE E
          refine cv_X10_greater X (c_X10_greater e30) ml_10_198 (by decide) (by decide) (Nat.le_of_ble_eq_true rfl) dX10_gathers_75 ?_
          refine aI_istore_n (lv2 := [some (.ref (q 0)), some (.int v1), some (.int r29), some (.int v3), some (.int v4), some (.int x3), none, none]) X.1 dX10_gathers_78 (N 2 (by decide)) rfl ?_
          refine aI_aload_n X.1 dX10_gathers_79 rfl ?_
          refine gf_10_98 X dX10_gathers_80 ?_
          refine aI_iload_n X.1 dX10_gathers_83 rfl ?_
          obtain ⟨g31, E⟩ := o_if E
          refine al1_30 X g31 dX10_gathers_84 ?_
          refine aI_iload X.1 dX10_gathers_85 rfl ?_
          obtain ⟨r33, h32, e34, E⟩ := o_callE E
          refine cv_X10_lesser X (c_X10_lesser e34) ml_10_277 (by decide) (by decide) (Nat.le_of_ble_eq_true rfl) dX10_gathers_87 ?_
          refine aI_istore (lv2 := [some (.ref (q 0)), some (.int v1), some (.int r29), some (.int v3), some (.int v4), some (.int x3), some (.int r33), none]) X.1 dX10_gathers_90 (N 6 (by decide)) rfl ?_
          refine aI_iload_n X.1 dX10_gathers_92 rfl ?_
          refine aI_istore (lv2 := [some (.ref (q 0)), some (.int v1), some (.int r29), some (.int v3), some (.int v4), some (.int x3), some (.int r33), some (.int v3)]) X.1 dX10_gathers_93 (N 7 (by decide)) rfl ?_
          refine w_X10_gathers_L2  X N hret ?_ 100 v3 h32 E
          intro x35 h36 E
          obtain ⟨x37, ex37, E⟩ := o_letE E
          refine aI_iinc (v := 1) (lv2 := [some (.ref (q 0)), some (.int v1), some (.int r29), some (.int v3), some (.int x37), some (.int x3), some (.int r33), some (.int x35)]) X.1 dX10_gathers_117 (N 4 (by decide)) rfl (by decide) (by rw [← ex37]; rfl) ?_
          refine aI_goto (tgt := 10) X.1 dX10_gathers_120 (by decide) ?_
          refine aI_lv [true, true, true, true, true, false, false, false] (lv2 := [some (.ref (q 0)), some (.int v1), some (.int r29), some (.int v3), some (.int x37), none, none, none]) rfl ?_
          exact ih v1 r29 v3 x37 h36 E
        · have E := o_neg c26 E
          obtain ⟨x38, ex38, E⟩ := o_letE E
          refine aI_iinc (v := 1) (lv2 := [some (.ref (q 0)), some (.int x38), some (.int v2), some (.int v3), some (.int v4), some (.int x3), none, none]) X.1 dX10_gathers_44 (N 1 (by decide)) rfl (by decide) (by rw [← ex38]; rfl) ?_
          refine aI_iload X.1 dX10_gathers_47 rfl ?_
          refine aI_istore_n (lv2 := [some (.ref (q 0)), some (.int x38), some (.int v2), some (.int v4), some (.int v4), some (.int x3), none, none]) X.1 dX10_gathers_49 (N 3 (by decide)) rfl ?_
          refine aI_aload_n X.1 dX10_gathers_50 rfl ?_
          refine gf_10_29 X dX10_gathers_51 ?_
          refine aI_iload X.1 dX10_gathers_54 rfl ?_
          obtain ⟨g39, E⟩ := o_if E
          refine al1_7 X g39 dX10_gathers_56 ?_
          obtain ⟨x40, ex40, E⟩ := o_letE E
          refine aI_eqi ex40 ?_
          refine aI_istore_n (lv2 := [some (.ref (q 0)), some (.int x38), some (.int x40), some (.int v4), some (.int v4), some (.int x3), none, none]) X.1 dX10_gathers_57 (N 2 (by decide)) rfl ?_
          refine aI_aload_n X.1 dX10_gathers_58 rfl ?_
          refine gf_10_98 X dX10_gathers_59 ?_
          refine aI_iload X.1 dX10_gathers_62 rfl ?_
          refine aI_iload X.1 dX10_gathers_64 rfl ?_
          obtain ⟨g41, E⟩ := o_if E
          obtain ⟨h42, eh42, E⟩ := o_letE E
          refine as1_30 X g41 dX10_gathers_66 (aI_eqh eh42 ?_)
          refine aI_aload_n X.1 dX10_gathers_67 rfl ?_
          refine gf_10_29 X dX10_gathers_68 ?_
          refine aI_iload X.1 dX10_gathers_71 rfl ?_
          obtain ⟨g43, E⟩ := o_if E
          refine al1_7 X g43 dX10_gathers_73 ?_
          refine aI_iload_n X.1 dX10_gathers_74 rfl ?_
          obtain ⟨r45, h44, e46, E⟩ := o_callE E
          refine cv_X10_greater X (c_X10_greater e46) ml_10_198 (by decide) (by decide) (Nat.le_of_ble_eq_true rfl) dX10_gathers_75 ?_
          refine aI_istore_n (lv2 := [some (.ref (q 0)), some (.int x38), some (.int r45), some (.int v4), some (.int v4), some (.int x3), none, none]) X.1 dX10_gathers_78 (N 2 (by decide)) rfl ?_
          refine aI_aload_n X.1 dX10_gathers_79 rfl ?_
          refine gf_10_98 X dX10_gathers_80 ?_
          refine aI_iload_n X.1 dX10_gathers_83 rfl ?_
          obtain ⟨g47, E⟩ := o_if E
          refine al1_30 X g47 dX10_gathers_84 ?_
          refine aI_iload X.1 dX10_gathers_85 rfl ?_
          obtain ⟨r49, h48, e50, E⟩ := o_callE E
          refine cv_X10_lesser X (c_X10_lesser e50) ml_10_277 (by decide) (by decide) (Nat.le_of_ble_eq_true rfl) dX10_gathers_87 ?_
          refine aI_istore (lv2 := [some (.ref (q 0)), some (.int x38), some (.int r45), some (.int v4), some (.int v4), some (.int x3), some (.int r49), none]) X.1 dX10_gathers_90 (N 6 (by decide)) rfl ?_
          refine aI_iload_n X.1 dX10_gathers_92 rfl ?_
          refine aI_istore (lv2 := [some (.ref (q 0)), some (.int x38), some (.int r45), some (.int v4), some (.int v4), some (.int x3), some (.int r49), some (.int v4)]) X.1 dX10_gathers_93 (N 7 (by decide)) rfl ?_
          refine w_X10_gathers_L2  X N hret ?_ 100 v4 h48 E
          intro x51 h52 E
          obtain ⟨x53, ex53, E⟩ := o_letE E
          refine aI_iinc (v := 1) (lv2 := [some (.ref (q 0)), some (.int x38), some (.int r45), some (.int v4), some (.int x53), some (.int x3), some (.int r49), some (.int x51)]) X.1 dX10_gathers_117 (N 4 (by decide)) rfl (by decide) (by rw [← ex53]; rfl) ?_
          refine aI_goto (tgt := 10) X.1 dX10_gathers_120 (by decide) ?_
          refine aI_lv [true, true, true, true, true, false, false, false] (lv2 := [some (.ref (q 0)), some (.int x38), some (.int r45), some (.int v4), some (.int x53), none, none, none]) rfl ?_
          exact ih x38 r45 v4 x53 h52 E
set_option maxRecDepth 4000 in
theorem w_X10_gathers {Γ : g_T} {q : Nat → Nat}   {r : Int32} {h2 : hp_T} {h : hp_T} (X : aC 1 Γ q RX10 cX10_gathers 1 21) (N : ∀ k, k < 8 → aN Γ k) (hret : ∀ pc lv, decode cX10_gathers pc = .ok (.ireturn, 1) → aA Γ pc lv [.int r] h2) (E : f_X10_gathers  h = some (r, h2)) : aA Γ 0 [some (.ref (q 0)), none, none, none, none, none, none, none] [] h := by
  unfold f_X10_gathers at E
  refine aI_iconst (v := 0) X.1 dX10_gathers_0 (by decide) ?_
  refine aI_istore_n (lv2 := [some (.ref (q 0)), some (.int (0 : Int32)), none, none, none, none, none, none]) X.1 dX10_gathers_1 (N 1 (by decide)) rfl ?_
  refine aI_ldc X.1 dX10_gathers_2 kc_10_235 ?_
  refine aI_istore_n (lv2 := [some (.ref (q 0)), some (.int (0 : Int32)), some (.int (-1000000000 : Int32)), none, none, none, none, none]) X.1 dX10_gathers_4 (N 2 (by decide)) rfl ?_
  refine aI_iconst (v := 0) X.1 dX10_gathers_5 (by decide) ?_
  refine aI_istore_n (lv2 := [some (.ref (q 0)), some (.int (0 : Int32)), some (.int (-1000000000 : Int32)), some (.int (0 : Int32)), none, none, none, none]) X.1 dX10_gathers_6 (N 3 (by decide)) rfl ?_
  refine aI_iconst (v := 0) X.1 dX10_gathers_7 (by decide) ?_
  refine aI_istore (lv2 := [some (.ref (q 0)), some (.int (0 : Int32)), some (.int (-1000000000 : Int32)), some (.int (0 : Int32)), some (.int (0 : Int32)), none, none, none]) X.1 dX10_gathers_8 (N 4 (by decide)) rfl ?_
  refine w_X10_gathers_L1  X N hret ?_ 100 (0 : Int32) (-1000000000 : Int32) (0 : Int32) (0 : Int32) h E
  intro x54 x55 x56 x57 h58 E
  refine aI_iload_n X.1 dX10_gathers_123 rfl ?_
  exact aI_iret E (hret _ _ dX10_gathers_124)
theorem c_X10_gathers {q : Nat → Nat}   {r : Int32} {h2 : hp_T} {h : hp_T} (E : f_X10_gathers  h = some (r, h2)) : cI 1 yX10_gathers cX10_gathers 8 .int 1 21 q [.ref (q 0)] h r h2 := metI (own := RX10) (by decide) rfl (Nat.le_of_ble_eq_true rfl) rfl (fun Γ X N hret => w_X10_gathers X N hret E)
set_option maxRecDepth 4000 in
theorem w_X10_groupOf_L1 {Γ : g_T} {q : Nat → Nat}  {u2 : Int32} {u3 : Int32}  {r : Int32} {h2 : hp_T} (X : aC 1 Γ q RX10 cX10_groupOf 0 0) (N : ∀ k, k < 6 → aN Γ k) (hret : ∀ pc lv, decode cX10_groupOf pc = .ok (.ireturn, 1) → aA Γ pc lv [.int r] h2) {K : Int32 → Int32 → hp_T → Option (Int32 × hp_T)} (hk : ∀ v4 v5 h, K v4 v5 h = some (r, h2) → aA Γ 54 [some (.ref (q 0)), none, some (.int u2), some (.int u3), some (.int v4), some (.int v5)] [] h) : ∀ (n : Nat) (v4 : Int32) (v5 : Int32) (h : hp_T), f_X10_groupOf_L1 u3 K n v4 v5 h = some (r, h2) → aA Γ 18 [some (.ref (q 0)), none, some (.int u2), some (.int u3), some (.int v4), some (.int v5)] [] h := by
  intro n
  induction n with
  | zero =>
    intro v4 v5 h E
    cases E
  | succ n ih =>
    intro v4 v5 h E
    rw [f_X10_groupOf_L1] at E
    refine aI_iload X.1 dX10_groupOf_18 rfl ?_
    refine aI_aload_n X.1 dX10_groupOf_20 rfl ?_
    refine gf_10_142 X dX10_groupOf_21 ?_
    refine aI_icmp_ge (tgt := 54) X.1 dX10_groupOf_24 (by decide) (fun c4 => ?_) (fun c4 => ?_)
    · have E := o_pos c4 E
      exact hk v4 v5 h E
    · have E := o_neg c4 E
      refine aI_iload X.1 dX10_groupOf_27 rfl ?_
      refine aI_aload_n X.1 dX10_groupOf_29 rfl ?_
      refine gf_10_98 X dX10_groupOf_30 ?_
      refine aI_iload X.1 dX10_groupOf_33 rfl ?_
      obtain ⟨g5, E⟩ := o_if E
      refine al1_30 X g5 dX10_groupOf_35 ?_
      refine aI_iload_n X.1 dX10_groupOf_36 rfl ?_
      refine aI_icmp_ne (tgt := 44) X.1 dX10_groupOf_37 (by decide) (fun c6 => ?_) (fun c6 => ?_)
      · have E := o_neg c6 E
        refine aI_iconst (v := 0) X.1 dX10_groupOf_44 (by decide) ?_
        refine aI_iadd X.1 dX10_groupOf_45 ?_
        obtain ⟨x7, ex7, E⟩ := o_letE E
        refine aI_eqi ex7 ?_
        refine aI_istore (lv2 := [some (.ref (q 0)), none, some (.int u2), some (.int u3), some (.int x7), some (.int v5)]) X.1 dX10_groupOf_46 (N 4 (by decide)) rfl ?_
        obtain ⟨x8, ex8, E⟩ := o_letE E
        refine aI_iinc (v := 1) (lv2 := [some (.ref (q 0)), none, some (.int u2), some (.int u3), some (.int x7), some (.int x8)]) X.1 dX10_groupOf_48 (N 5 (by decide)) rfl (by decide) (by rw [← ex8]; rfl) ?_
        refine aI_goto (tgt := 18) X.1 dX10_groupOf_51 (by decide) ?_
        exact ih x7 x8 h E
      · have E := o_pos c6 E
        refine aI_iconst (v := 1) X.1 dX10_groupOf_40 (by decide) ?_
        refine aI_goto (tgt := 45) X.1 dX10_groupOf_41 (by decide) ?_
        refine aI_iadd X.1 dX10_groupOf_45 ?_
        obtain ⟨x9, ex9, E⟩ := o_letE E
        refine aI_eqi ex9 ?_
        refine aI_istore (lv2 := [some (.ref (q 0)), none, some (.int u2), some (.int u3), some (.int x9), some (.int v5)]) X.1 dX10_groupOf_46 (N 4 (by decide)) rfl ?_
        obtain ⟨x10, ex10, E⟩ := o_letE E
        refine aI_iinc (v := 1) (lv2 := [some (.ref (q 0)), none, some (.int u2), some (.int u3), some (.int x9), some (.int x10)]) X.1 dX10_groupOf_48 (N 5 (by decide)) rfl (by decide) (by rw [← ex10]; rfl) ?_
        refine aI_goto (tgt := 18) X.1 dX10_groupOf_51 (by decide) ?_
        exact ih x9 x10 h E
set_option maxRecDepth 4000 in
theorem w_X10_groupOf {Γ : g_T} {q : Nat → Nat} {p1 : Int32} {p2 : Int32}  {r : Int32} {h2 : hp_T} {h : hp_T} (X : aC 1 Γ q RX10 cX10_groupOf 0 0) (N : ∀ k, k < 6 → aN Γ k) (hret : ∀ pc lv, decode cX10_groupOf pc = .ok (.ireturn, 1) → aA Γ pc lv [.int r] h2) (E : f_X10_groupOf p1 p2 h = some (r, h2)) : aA Γ 0 [some (.ref (q 0)), some (.int p1), some (.int p2), none, none, none] [] h := by
  unfold f_X10_groupOf at E
  refine aI_aload_n X.1 dX10_groupOf_0 rfl ?_
  refine gf_10_98 X dX10_groupOf_1 ?_
  refine aI_aload_n X.1 dX10_groupOf_4 rfl ?_
  refine gf_10_47 X dX10_groupOf_5 ?_
  refine aI_iload_n X.1 dX10_groupOf_8 rfl ?_
  obtain ⟨g1, E⟩ := o_if E
  refine al1_13 X g1 dX10_groupOf_9 ?_
  obtain ⟨g2, E⟩ := o_if E
  refine al1_30 X g2 dX10_groupOf_10 ?_
  obtain ⟨x3, ex3, E⟩ := o_letE E
  refine aI_eqi ex3 ?_
  refine aI_istore_n (lv2 := [some (.ref (q 0)), some (.int p1), some (.int p2), some (.int x3), none, none]) X.1 dX10_groupOf_11 (N 3 (by decide)) rfl ?_
  refine aI_iconst (v := 0) X.1 dX10_groupOf_12 (by decide) ?_
  refine aI_istore (lv2 := [some (.ref (q 0)), some (.int p1), some (.int p2), some (.int x3), some (.int (0 : Int32)), none]) X.1 dX10_groupOf_13 (N 4 (by decide)) rfl ?_
  refine aI_iconst (v := 0) X.1 dX10_groupOf_15 (by decide) ?_
  refine aI_istore (lv2 := [some (.ref (q 0)), some (.int p1), some (.int p2), some (.int x3), some (.int (0 : Int32)), some (.int (0 : Int32))]) X.1 dX10_groupOf_16 (N 5 (by decide)) rfl ?_
  refine aI_lv [true, false, true, true, true, true] (lv2 := [some (.ref (q 0)), none, some (.int p2), some (.int x3), some (.int (0 : Int32)), some (.int (0 : Int32))]) rfl ?_
  refine w_X10_groupOf_L1  X N hret ?_ 100 (0 : Int32) (0 : Int32) h E
  intro x11 x12 h13 E
  refine aI_iload_n X.1 dX10_groupOf_54 rfl ?_
  refine aI_if_ne (tgt := 62) X.1 dX10_groupOf_55 (by decide) (fun c14 => ?_) (fun c14 => ?_)
  · have E := o_neg c14 E
    refine aI_iload X.1 dX10_groupOf_62 rfl ?_
    exact aI_iret E (hret _ _ dX10_groupOf_64)
  · have E := o_pos c14 E
    refine aI_iload_n X.1 dX10_groupOf_58 rfl ?_
    refine aI_goto (tgt := 64) X.1 dX10_groupOf_59 (by decide) ?_
    exact aI_iret E (hret _ _ dX10_groupOf_64)
theorem c_X10_groupOf {q : Nat → Nat} {p1 : Int32} {p2 : Int32}  {r : Int32} {h2 : hp_T} {h : hp_T} (E : f_X10_groupOf p1 p2 h = some (r, h2)) : cI 1 yX10_groupOf cX10_groupOf 6 .int 0 0 q [.ref (q 0), .int p1, .int p2] h r h2 := metI (own := RX10) (by decide) rfl (Nat.le_of_ble_eq_true rfl) rfl (fun Γ X N hret => w_X10_groupOf X N hret E)
set_option maxRecDepth 4000 in
theorem w_X10_groupBy {Γ : g_T} {q : Nat → Nat} {p1 : Int32} {p2 : Int32}  {r : Int32} {h2 : hp_T} {h : hp_T} (X : aC 1 Γ q RX10 cX10_groupBy 2 48) (N : ∀ k, k < 4 → aN Γ k) (hret : ∀ pc lv, decode cX10_groupBy pc = .ok (.ireturn, 1) → aA Γ pc lv [.int r] h2) (E : f_X10_groupBy p1 p2 h = some (r, h2)) : aA Γ 0 [some (.ref (q 0)), some (.int p1), some (.int p2), none] [] h := by
  unfold f_X10_groupBy at E
  refine aI_aload_n X.1 dX10_groupBy_0 rfl ?_
  obtain ⟨r2, h1, e3, E⟩ := o_callE E
  refine cv_X10_gathers X (c_X10_gathers e3) ml_10_292 (by decide) (by decide) (Nat.le_of_ble_eq_true rfl) dX10_groupBy_1 ?_
  refine aI_istore_n (lv2 := [some (.ref (q 0)), some (.int p1), some (.int p2), some (.int r2)]) X.1 dX10_groupBy_4 (N 3 (by decide)) rfl ?_
  refine aI_iload_n X.1 dX10_groupBy_5 rfl ?_
  refine aI_iconst (v := -1) X.1 dX10_groupBy_6 (by decide) ?_
  refine aI_icmp_ne (tgt := 14) X.1 dX10_groupBy_7 (by decide) (fun c4 => ?_) (fun c4 => ?_)
  · have E := o_neg c4 E
    refine aI_aload_n X.1 dX10_groupBy_14 rfl ?_
    refine gf_10_22 X dX10_groupBy_15 ?_
    refine aI_iload_n X.1 dX10_groupBy_18 rfl ?_
    obtain ⟨g5, E⟩ := o_if E
    refine al1_5 X g5 dX10_groupBy_19 ?_
    refine aI_if_eq (tgt := 32) X.1 dX10_groupBy_20 (by decide) (fun c6 => ?_) (fun c6 => ?_)
    · have E := o_pos c6 E
      refine aI_bipush (v := -3) X.1 dX10_groupBy_32 (by decide) ?_
      exact aI_iret E (hret _ _ dX10_groupBy_34)
    · have E := o_neg c6 E
      refine aI_aload_n X.1 dX10_groupBy_23 rfl ?_
      refine aI_iload_n X.1 dX10_groupBy_24 rfl ?_
      refine aI_iload_n X.1 dX10_groupBy_25 rfl ?_
      obtain ⟨r8, h7, e9, E⟩ := o_callE E
      refine cv_X10_groupOf X (c_X10_groupOf e9) ml_10_295 (by decide) (by decide) (Nat.le_of_ble_eq_true rfl) dX10_groupBy_26 ?_
      refine aI_goto (tgt := 34) X.1 dX10_groupBy_29 (by decide) ?_
      exact aI_iret E (hret _ _ dX10_groupBy_34)
  · have E := o_pos c4 E
    refine aI_iload_n X.1 dX10_groupBy_10 rfl ?_
    refine aI_goto (tgt := 34) X.1 dX10_groupBy_11 (by decide) ?_
    exact aI_iret E (hret _ _ dX10_groupBy_34)
theorem c_X10_groupBy {q : Nat → Nat} {p1 : Int32} {p2 : Int32}  {r : Int32} {h2 : hp_T} {h : hp_T} (E : f_X10_groupBy p1 p2 h = some (r, h2)) : cI 1 yX10_groupBy cX10_groupBy 4 .int 2 48 q [.ref (q 0), .int p1, .int p2] h r h2 := metI (own := RX10) (by decide) rfl (Nat.le_of_ble_eq_true rfl) rfl (fun Γ X N hret => w_X10_groupBy X N hret E)
set_option maxRecDepth 4000 in
theorem w_X10_group {Γ : g_T} {q : Nat → Nat} {p1 : Int32} {p2 : Int32}  {r : Int32} {h2 : hp_T} {h : hp_T} (X : aC 1 Γ q RX10 cX10_group 3 71) (N : ∀ k, k < 3 → aN Γ k) (hret : ∀ pc lv, decode cX10_group pc = .ok (.ireturn, 1) → aA Γ pc lv [.int r] h2) (E : f_X10_group p1 p2 h = some (r, h2)) : aA Γ 0 [some (.ref (q 0)), some (.int p1), some (.int p2)] [] h := by
  unfold f_X10_group at E
  refine aI_aload_n X.1 dX10_group_0 rfl ?_
  obtain ⟨h1, e2, E⟩ := o_cvE E
  refine cv_X10_orders X (c_X10_orders e2) ml_10_188 (by decide) (by decide) (Nat.le_of_ble_eq_true rfl) dX10_group_1 ?_
  refine aI_iload_n X.1 dX10_group_4 rfl ?_
  refine aI_i2l X.1 dX10_group_5 ?_
  refine aI_ldc2 X.1 dX10_group_6 kl_10_219 ?_
  refine aI_ldc2 X.1 dX10_group_9 kl_10_130 ?_
  obtain ⟨r4, h3, e5, E⟩ := o_callE E
  refine cv_X10_in X (c_X10_in e5) ml_10_101 (by decide) (by decide) (Nat.le_of_ble_eq_true rfl) dX10_group_12 ?_
  refine aI_if_eq (tgt := 34) X.1 dX10_group_15 (by decide) (fun c6 => ?_) (fun c6 => ?_)
  · have E := o_pos c6 E
    refine aI_bipush (v := -2) X.1 dX10_group_34 (by decide) ?_
    exact aI_iret E (hret _ _ dX10_group_36)
  · have E := o_neg c6 E
    refine aI_iload_n X.1 dX10_group_18 rfl ?_
    obtain ⟨r8, h7, e9, E⟩ := o_callE E
    refine cv_X10_isTwo X (c_X10_isTwo e9) ml_10_174 (by decide) (by decide) (Nat.le_of_ble_eq_true rfl) dX10_group_19 ?_
    refine aI_if_eq (tgt := 34) X.1 dX10_group_22 (by decide) (fun c10 => ?_) (fun c10 => ?_)
    · have E := o_pos c10 E
      refine aI_bipush (v := -2) X.1 dX10_group_34 (by decide) ?_
      exact aI_iret E (hret _ _ dX10_group_36)
    · have E := o_neg c10 E
      refine aI_aload_n X.1 dX10_group_25 rfl ?_
      refine aI_iload_n X.1 dX10_group_26 rfl ?_
      refine aI_iload_n X.1 dX10_group_27 rfl ?_
      obtain ⟨r12, h11, e13, E⟩ := o_callE E
      refine cv_X10_groupBy X (c_X10_groupBy e13) ml_10_298 (by decide) (by decide) (Nat.le_of_ble_eq_true rfl) dX10_group_28 ?_
      refine aI_goto (tgt := 36) X.1 dX10_group_31 (by decide) ?_
      exact aI_iret E (hret _ _ dX10_group_36)
theorem c_X10_group {q : Nat → Nat} {p1 : Int32} {p2 : Int32}  {r : Int32} {h2 : hp_T} {h : hp_T} (E : f_X10_group p1 p2 h = some (r, h2)) : cI 1 yX10_group cX10_group 3 .int 3 71 q [.ref (q 0), .int p1, .int p2] h r h2 := metI (own := RX10) (by decide) rfl (Nat.le_of_ble_eq_true rfl) rfl (fun Γ X N hret => w_X10_group X N hret E)
set_option maxRecDepth 4000 in
theorem w_X10_write_L1 {Γ : g_T} {q : Nat → Nat}  {u1 : Int32} {u2 : Int32} {u3 : Int32} {u4 : Int32}  {r : Int32} {h2 : hp_T} (X : aC 1 Γ q RX10 cX10_write 3 66) (N : ∀ k, k < 6 → aN Γ k) (hret : ∀ pc lv, decode cX10_write pc = .ok (.ireturn, 1) → aA Γ pc lv [.int r] h2) {K : Int32 → hp_T → Option (Int32 × hp_T)} (hk : ∀ v5 h, K v5 h = some (r, h2) → aA Γ 100 [some (.ref (q 0)), some (.int u1), some (.int u2), some (.int u3), some (.int u4), some (.int v5)] [] h) : ∀ (n : Nat) (v5 : Int32) (h : hp_T), f_X10_write_L1 u1 u2 u3 u4 K n v5 h = some (r, h2) → aA Γ 58 [some (.ref (q 0)), some (.int u1), some (.int u2), some (.int u3), some (.int u4), some (.int v5)] [] h := by
  intro n
  induction n with
  | zero =>
    intro v5 h E
    cases E
  | succ n ih =>
    intro v5 h E
    rw [f_X10_write_L1] at E
    refine aI_iload X.1 dX10_write_58 rfl ?_
    refine aI_iload X.1 dX10_write_60 rfl ?_
    refine aI_icmp_ge (tgt := 100) X.1 dX10_write_62 (by decide) (fun c20 => ?_) (fun c20 => ?_)
    · have E := o_pos c20 E
      exact hk v5 h E
    · have E := o_neg c20 E
      refine aI_aload_n X.1 dX10_write_65 rfl ?_
      refine gf_10_16 X dX10_write_66 ?_
      refine aI_bipush (v := 60) X.1 dX10_write_69 (by decide) ?_
      refine aI_iload_n X.1 dX10_write_71 rfl ?_
      refine aI_imul X.1 dX10_write_72 ?_
      refine aI_iload X.1 dX10_write_73 rfl ?_
      refine aI_iadd X.1 dX10_write_75 ?_
      refine aI_aload_n X.1 dX10_write_76 rfl ?_
      refine gf_10_7 X dX10_write_77 ?_
      refine aI_iload_n X.1 dX10_write_80 rfl ?_
      obtain ⟨g21, E⟩ := o_if E
      refine al1_1 X g21 dX10_write_81 ?_
      refine aI_aload_n X.1 dX10_write_82 rfl ?_
      refine aI_iload_n X.1 dX10_write_83 rfl ?_
      refine aI_iload_n X.1 dX10_write_84 rfl ?_
      refine aI_iload X.1 dX10_write_85 rfl ?_
      obtain ⟨r23, h22, e24, E⟩ := o_callE E
      refine cv_X10_meetsBy X (c_X10_meetsBy e24) ml_10_221 (by decide) (by decide) (Nat.le_of_ble_eq_true rfl) dX10_write_87 ?_
      obtain ⟨r26, h25, e27, E⟩ := o_callE E
      refine cv_X10_cut X (c_X10_cut e27) ml_10_125 (by decide) (by decide) (Nat.le_of_ble_eq_true rfl) dX10_write_90 ?_
      obtain ⟨g28, E⟩ := o_if E
      obtain ⟨h29, eh29, E⟩ := o_letE E
      refine as1_3 X g28 dX10_write_93 (aI_eqh eh29 ?_)
      obtain ⟨x30, ex30, E⟩ := o_letE E
      refine aI_iinc (v := 1) (lv2 := [some (.ref (q 0)), some (.int u1), some (.int u2), some (.int u3), some (.int u4), some (.int x30)]) X.1 dX10_write_94 (N 5 (by decide)) rfl (by decide) (by rw [← ex30]; rfl) ?_
      refine aI_goto (tgt := 58) X.1 dX10_write_97 (by decide) ?_
      exact ih x30 h29 E
set_option maxRecDepth 4000 in
theorem w_X10_write {Γ : g_T} {q : Nat → Nat} {p1 : Int32} {p2 : Int32} {p3 : Int32}  {r : Int32} {h2 : hp_T} {h : hp_T} (X : aC 1 Γ q RX10 cX10_write 3 66) (N : ∀ k, k < 6 → aN Γ k) (hret : ∀ pc lv, decode cX10_write pc = .ok (.ireturn, 1) → aA Γ pc lv [.int r] h2) (E : f_X10_write p1 p2 p3 h = some (r, h2)) : aA Γ 0 [some (.ref (q 0)), some (.int p1), some (.int p2), some (.int p3), none, none] [] h := by
  unfold f_X10_write at E
  refine aI_iload_n X.1 dX10_write_0 rfl ?_
  refine aI_iload_n X.1 dX10_write_1 rfl ?_
  obtain ⟨r2, h1, e3, E⟩ := o_callE E
  refine cv_X10_isStretch X (c_X10_isStretch e3) ml_10_148 (by decide) (by decide) (Nat.le_of_ble_eq_true rfl) dX10_write_2 ?_
  refine aI_if_eq (tgt := 15) X.1 dX10_write_5 (by decide) (fun c4 => ?_) (fun c4 => ?_)
  · have E := o_pos c4 E
    refine aI_bipush (v := -2) X.1 dX10_write_15 (by decide) ?_
    exact aI_iret E (hret _ _ dX10_write_17)
  · have E := o_neg c4 E
    refine aI_iload_n X.1 dX10_write_8 rfl ?_
    obtain ⟨r6, h5, e7, E⟩ := o_callE E
    refine cv_X10_isSheet X (c_X10_isSheet e7) ml_10_111 (by decide) (by decide) (Nat.le_of_ble_eq_true rfl) dX10_write_9 ?_
    refine aI_if_ne (tgt := 18) X.1 dX10_write_12 (by decide) (fun c8 => ?_) (fun c8 => ?_)
    · have E := o_neg c8 E
      refine aI_aload_n X.1 dX10_write_18 rfl ?_
      refine gf_10_7 X dX10_write_19 ?_
      refine aI_iload_n X.1 dX10_write_22 rfl ?_
      obtain ⟨g9, E⟩ := o_if E
      refine al1_1 X g9 dX10_write_23 ?_
      refine aI_if_ge (tgt := 33) X.1 dX10_write_24 (by decide) (fun c10 => ?_) (fun c10 => ?_)
      · have E := o_pos c10 E
        refine aI_aload_n X.1 dX10_write_33 rfl ?_
        obtain ⟨h11, e12, E⟩ := o_cvE E
        refine cv_X10_orders X (c_X10_orders e12) ml_10_188 (by decide) (by decide) (Nat.le_of_ble_eq_true rfl) dX10_write_34 ?_
        refine aI_aload_n X.1 dX10_write_37 rfl ?_
        refine gf_10_13 X dX10_write_38 ?_
        refine aI_iload_n X.1 dX10_write_41 rfl ?_
        obtain ⟨g13, E⟩ := o_if E
        refine al1_2 X g13 dX10_write_42 ?_
        refine aI_aload_n X.1 dX10_write_43 rfl ?_
        refine aI_iload_n X.1 dX10_write_44 rfl ?_
        refine aI_iload_n X.1 dX10_write_45 rfl ?_
        refine aI_iconst (v := -1) X.1 dX10_write_46 (by decide) ?_
        obtain ⟨r15, h14, e16, E⟩ := o_callE E
        refine cv_X10_meetsBy X (c_X10_meetsBy e16) ml_10_221 (by decide) (by decide) (Nat.le_of_ble_eq_true rfl) dX10_write_47 ?_
        obtain ⟨r18, h17, e19, E⟩ := o_callE E
        refine cv_X10_lesser X (c_X10_lesser e19) ml_10_277 (by decide) (by decide) (Nat.le_of_ble_eq_true rfl) dX10_write_50 ?_
        refine aI_istore (lv2 := [some (.ref (q 0)), some (.int p1), some (.int p2), some (.int p3), some (.int r18), none]) X.1 dX10_write_53 (N 4 (by decide)) rfl ?_
        refine aI_iconst (v := 0) X.1 dX10_write_55 (by decide) ?_
        refine aI_istore (lv2 := [some (.ref (q 0)), some (.int p1), some (.int p2), some (.int p3), some (.int r18), some (.int (0 : Int32))]) X.1 dX10_write_56 (N 5 (by decide)) rfl ?_
        refine w_X10_write_L1  X N hret ?_ 100 (0 : Int32) h17 E
        intro x31 h32 E
        refine aI_iload X.1 dX10_write_100 rfl ?_
        exact aI_iret E (hret _ _ dX10_write_102)
      · have E := o_neg c10 E
        refine aI_aload_n X.1 dX10_write_27 rfl ?_
        refine aI_iconst (v := 1) X.1 dX10_write_28 (by decide) ?_
        obtain ⟨r34, h33, e35, E⟩ := o_callE E
        refine cv_X10_finds X (c_X10_finds e35) ml_10_117 (by decide) (by decide) (Nat.le_of_ble_eq_true rfl) dX10_write_29 ?_
        exact aI_iret E (hret _ _ dX10_write_32)
    · have E := o_pos c8 E
      refine aI_bipush (v := -2) X.1 dX10_write_15 (by decide) ?_
      exact aI_iret E (hret _ _ dX10_write_17)
theorem c_X10_write {q : Nat → Nat} {p1 : Int32} {p2 : Int32} {p3 : Int32}  {r : Int32} {h2 : hp_T} {h : hp_T} (E : f_X10_write p1 p2 p3 h = some (r, h2)) : cI 1 yX10_write cX10_write 6 .int 3 66 q [.ref (q 0), .int p1, .int p2, .int p3] h r h2 := metI (own := RX10) (by decide) rfl (Nat.le_of_ble_eq_true rfl) rfl (fun Γ X N hret => w_X10_write X N hret E)
set_option maxRecDepth 4000 in
theorem w_X10_count {Γ : g_T} {q : Nat → Nat} {p1 : Int32}  {r : Int32} {h2 : hp_T} {h : hp_T} (X : aC 1 Γ q RX10 cX10_count 5 113) (N : ∀ k, k < 2 → aN Γ k) (hret : ∀ pc lv, decode cX10_count pc = .ok (.ireturn, 1) → aA Γ pc lv [.int r] h2) (E : f_X10_count p1 h = some (r, h2)) : aA Γ 0 [some (.ref (q 0)), some (.int p1)] [] h := by
  unfold f_X10_count at E
  refine aI_aload_n X.1 dX10_count_0 rfl ?_
  obtain ⟨h1, e2, E⟩ := o_cvE E
  refine cv_X10_grows X (c_X10_grows e2) ml_10_204 (by decide) (by decide) (Nat.le_of_ble_eq_true rfl) dX10_count_1 ?_
  refine aI_iload_n X.1 dX10_count_4 rfl ?_
  by_cases c21 : p1 = (0 : Int32)
  · have E := o_pos c21 E
    refine aI_tableIn (tgt := 56) (0 : Int32) X.1 dX10_count_5 c21 (by decide) (by decide) rfl (by decide) ?_
    refine aI_aload_n X.1 dX10_count_56 rfl ?_
    refine gf_10_142 X dX10_count_57 ?_
    exact aI_iret E (hret _ _ dX10_count_60)
  have E := o_neg c21 E
  by_cases c22 : p1 = (1 : Int32)
  · have E := o_pos c22 E
    refine aI_tableIn (tgt := 61) (1 : Int32) X.1 dX10_count_5 c22 (by decide) (by decide) rfl (by decide) ?_
    refine aI_aload_n X.1 dX10_count_61 rfl ?_
    refine gf_10_139 X dX10_count_62 ?_
    exact aI_iret E (hret _ _ dX10_count_65)
  have E := o_neg c22 E
  by_cases c23 : p1 = (2 : Int32)
  · have E := o_pos c23 E
    refine aI_tableIn (tgt := 66) (2 : Int32) X.1 dX10_count_5 c23 (by decide) (by decide) rfl (by decide) ?_
    refine aI_aload_n X.1 dX10_count_66 rfl ?_
    refine gf_10_142 X dX10_count_67 ?_
    refine aI_if_ne (tgt := 77) X.1 dX10_count_70 (by decide) (fun c3 => ?_) (fun c3 => ?_)
    · have E := o_neg c3 E
      refine aI_aload_n X.1 dX10_count_77 rfl ?_
      refine gf_10_68 X dX10_count_78 ?_
      refine aI_aload_n X.1 dX10_count_81 rfl ?_
      refine gf_10_50 X dX10_count_82 ?_
      refine aI_iconst (v := 0) X.1 dX10_count_85 (by decide) ?_
      obtain ⟨g4, E⟩ := o_if E
      refine al1_14 X g4 dX10_count_86 ?_
      obtain ⟨g5, E⟩ := o_if E
      refine al1_20 X g5 dX10_count_87 ?_
      exact aI_iret E (hret _ _ dX10_count_88)
    · have E := o_pos c3 E
      refine aI_iconst (v := 0) X.1 dX10_count_73 (by decide) ?_
      refine aI_goto (tgt := 88) X.1 dX10_count_74 (by decide) ?_
      exact aI_iret E (hret _ _ dX10_count_88)
  have E := o_neg c23 E
  by_cases c24 : p1 = (3 : Int32)
  · have E := o_pos c24 E
    refine aI_tableIn (tgt := 89) (3 : Int32) X.1 dX10_count_5 c24 (by decide) (by decide) rfl (by decide) ?_
    refine aI_aload_n X.1 dX10_count_89 rfl ?_
    refine aI_iconst (v := 0) X.1 dX10_count_90 (by decide) ?_
    obtain ⟨r7, h6, e8, E⟩ := o_callE E
    refine cv_X10_deepest X (c_X10_deepest e8) ml_10_253 (by decide) (by decide) (Nat.le_of_ble_eq_true rfl) dX10_count_91 ?_
    exact aI_iret E (hret _ _ dX10_count_94)
  have E := o_neg c24 E
  by_cases c25 : p1 = (4 : Int32)
  · have E := o_pos c25 E
    refine aI_tableIn (tgt := 95) (4 : Int32) X.1 dX10_count_5 c25 (by decide) (by decide) rfl (by decide) ?_
    refine aI_aload_n X.1 dX10_count_95 rfl ?_
    refine aI_iconst (v := -1) X.1 dX10_count_96 (by decide) ?_
    obtain ⟨r10, h9, e11, E⟩ := o_callE E
    refine cv_X10_roomBy X (c_X10_roomBy e11) ml_10_265 (by decide) (by decide) (Nat.le_of_ble_eq_true rfl) dX10_count_97 ?_
    exact aI_iret E (hret _ _ dX10_count_100)
  have E := o_neg c25 E
  by_cases c26 : p1 = (5 : Int32)
  · have E := o_pos c26 E
    refine aI_tableIn (tgt := 101) (5 : Int32) X.1 dX10_count_5 c26 (by decide) (by decide) rfl (by decide) ?_
    refine aI_aload_n X.1 dX10_count_101 rfl ?_
    refine aI_iconst (v := -1) X.1 dX10_count_102 (by decide) ?_
    obtain ⟨r13, h12, e14, E⟩ := o_callE E
    refine cv_X10_keepBy X (c_X10_keepBy e14) ml_10_271 (by decide) (by decide) (Nat.le_of_ble_eq_true rfl) dX10_count_103 ?_
    exact aI_iret E (hret _ _ dX10_count_106)
  have E := o_neg c26 E
  by_cases c27 : p1 = (6 : Int32)
  · have E := o_pos c27 E
    refine aI_tableIn (tgt := 107) (6 : Int32) X.1 dX10_count_5 c27 (by decide) (by decide) rfl (by decide) ?_
    refine aI_aload_n X.1 dX10_count_107 rfl ?_
    refine aI_iconst (v := -1) X.1 dX10_count_108 (by decide) ?_
    refine aI_iconst (v := 0) X.1 dX10_count_109 (by decide) ?_
    obtain ⟨r16, h15, e17, E⟩ := o_callE E
    refine cv_X10_groupBy X (c_X10_groupBy e17) ml_10_298 (by decide) (by decide) (Nat.le_of_ble_eq_true rfl) dX10_count_110 ?_
    exact aI_iret E (hret _ _ dX10_count_113)
  have E := o_neg c27 E
  by_cases c28 : p1 = (7 : Int32)
  · have E := o_pos c28 E
    refine aI_tableIn (tgt := 114) (7 : Int32) X.1 dX10_count_5 c28 (by decide) (by decide) rfl (by decide) ?_
    refine aI_aload_n X.1 dX10_count_114 rfl ?_
    obtain ⟨r19, h18, e20, E⟩ := o_callE E
    refine cv_X10_manyClashes X (c_X10_manyClashes e20) ml_10_274 (by decide) (by decide) (Nat.le_of_ble_eq_true rfl) dX10_count_115 ?_
    exact aI_iret E (hret _ _ dX10_count_118)
  have E := o_neg c28 E
  by_cases c29 : p1 = (8 : Int32)
  · have E := o_pos c29 E
    refine aI_tableIn (tgt := 119) (8 : Int32) X.1 dX10_count_5 c29 (by decide) (by decide) rfl (by decide) ?_
    refine aI_aload_n X.1 dX10_count_119 rfl ?_
    refine gf_10_105 X dX10_count_120 ?_
    exact aI_iret E (hret _ _ dX10_count_123)
  have E := o_neg c29 E
  refine aI_tableOut (tgt := 124) X.1 dX10_count_5 (by have ac21 := i32_ne 0 (by decide) c21; have ac22 := i32_ne 1 (by decide) c22; have ac23 := i32_ne 2 (by decide) c23; have ac24 := i32_ne 3 (by decide) c24; have ac25 := i32_ne 4 (by decide) c25; have ac26 := i32_ne 5 (by decide) c26; have ac27 := i32_ne 6 (by decide) c27; have ac28 := i32_ne 7 (by decide) c28; have ac29 := i32_ne 8 (by decide) c29; omega) (by decide) ?_
  refine aI_bipush (v := -2) X.1 dX10_count_124 (by decide) ?_
  exact aI_iret E (hret _ _ dX10_count_126)
theorem c_X10_count {q : Nat → Nat} {p1 : Int32}  {r : Int32} {h2 : hp_T} {h : hp_T} (E : f_X10_count p1 h = some (r, h2)) : cI 1 yX10_count cX10_count 2 .int 5 113 q [.ref (q 0), .int p1] h r h2 := metI (own := RX10) (by decide) rfl (Nat.le_of_ble_eq_true rfl) rfl (fun Γ X N hret => w_X10_count X N hret E)
set_option maxRecDepth 4000 in
theorem w_X10_tellsKey_L1 {Γ : g_T} {q : Nat → Nat}  {u3 : Int32}  {r : Int64} {h2 : hp_T} (X : aC 1 Γ q RX10 cX10_tellsKey 5 115) (N : ∀ k, k < 7 → aN Γ k) (hret : ∀ pc lv, decode cX10_tellsKey pc = .ok (.lreturn, 1) → aA Γ pc lv [.long r] h2) {K : Int64 → Int32 → hp_T → Option (Int64 × hp_T)} (hk : ∀ v4 v6 h, K v4 v6 h = some (r, h2) → aA Γ 79 [some (.ref (q 0)), none, none, some (.int u3), some (.long v4), none, some (.int v6)] [] h) : ∀ (n : Nat) (v4 : Int64) (v6 : Int32) (h : hp_T), f_X10_tellsKey_L1 u3 K n v4 v6 h = some (r, h2) → aA Γ 49 [some (.ref (q 0)), none, none, some (.int u3), some (.long v4), none, some (.int v6)] [] h := by
  intro n
  induction n with
  | zero =>
    intro v4 v6 h E
    cases E
  | succ n ih =>
    intro v4 v6 h E
    rw [f_X10_tellsKey_L1] at E
    refine aI_iload X.1 dX10_tellsKey_49 rfl ?_
    refine aI_bipush (v := 6) X.1 dX10_tellsKey_51 (by decide) ?_
    refine aI_icmp_ge (tgt := 79) X.1 dX10_tellsKey_53 (by decide) (fun c13 => ?_) (fun c13 => ?_)
    · have E := o_pos c13 E
      exact hk v4 v6 h E
    · have E := o_neg c13 E
      refine aI_ldc2 X.1 dX10_tellsKey_56 kl_10_301 ?_
      refine aI_lload X.1 dX10_tellsKey_59 rfl ?_
      refine aI_lmul X.1 dX10_tellsKey_61 ?_
      refine aI_aload_n X.1 dX10_tellsKey_62 rfl ?_
      refine aI_iload_n X.1 dX10_tellsKey_63 rfl ?_
      refine aI_iload X.1 dX10_tellsKey_64 rfl ?_
      obtain ⟨r15, h14, e16, E⟩ := o_callE E
      refine cv_X10_tree X (c_X10_tree e16) ml_10_309 (by decide) (by decide) (Nat.le_of_ble_eq_true rfl) dX10_tellsKey_66 ?_
      refine aI_i2l X.1 dX10_tellsKey_69 ?_
      refine aI_ladd X.1 dX10_tellsKey_70 ?_
      obtain ⟨x17, ex17, E⟩ := o_letE E
      refine aI_eql ex17 ?_
      refine aI_lstore (lv2 := [some (.ref (q 0)), none, none, some (.int u3), some (.long x17), none, some (.int v6)]) X.1 dX10_tellsKey_71 (N 5 (by decide)) rfl ?_
      obtain ⟨x18, ex18, E⟩ := o_letE E
      refine aI_iinc (v := 1) (lv2 := [some (.ref (q 0)), none, none, some (.int u3), some (.long x17), none, some (.int x18)]) X.1 dX10_tellsKey_73 (N 6 (by decide)) rfl (by decide) (by rw [← ex18]; rfl) ?_
      refine aI_goto (tgt := 49) X.1 dX10_tellsKey_76 (by decide) ?_
      exact ih x17 x18 h14 E
set_option maxRecDepth 4000 in
theorem w_X10_tellsKey {Γ : g_T} {q : Nat → Nat} {p1 : Int64} {p2 : Int32}  {r : Int64} {h2 : hp_T} {h : hp_T} (X : aC 1 Γ q RX10 cX10_tellsKey 5 115) (N : ∀ k, k < 7 → aN Γ k) (hret : ∀ pc lv, decode cX10_tellsKey pc = .ok (.lreturn, 1) → aA Γ pc lv [.long r] h2) (E : f_X10_tellsKey p1 p2 h = some (r, h2)) : aA Γ 0 [some (.ref (q 0)), some (.long p1), none, some (.int p2), none, none, none] [] h := by
  unfold f_X10_tellsKey at E
  refine aI_ldc2 X.1 dX10_tellsKey_0 kl_10_301 ?_
  refine aI_lload_n X.1 dX10_tellsKey_3 rfl ?_
  refine aI_lmul X.1 dX10_tellsKey_4 ?_
  refine aI_aload_n X.1 dX10_tellsKey_5 rfl ?_
  refine aI_iload_n X.1 dX10_tellsKey_6 rfl ?_
  refine aI_iconst (v := 0) X.1 dX10_tellsKey_7 (by decide) ?_
  obtain ⟨r2, h1, e3, E⟩ := o_callE E
  refine cv_X10_span X (c_X10_span e3) ml_10_303 (by decide) (by decide) (Nat.le_of_ble_eq_true rfl) dX10_tellsKey_8 ?_
  refine aI_i2l X.1 dX10_tellsKey_11 ?_
  refine aI_ladd X.1 dX10_tellsKey_12 ?_
  obtain ⟨x4, ex4, E⟩ := o_letE E
  refine aI_eql ex4 ?_
  refine aI_lstore (lv2 := [some (.ref (q 0)), some (.long p1), none, some (.int p2), some (.long x4), none, none]) X.1 dX10_tellsKey_13 (N 5 (by decide)) rfl ?_
  refine aI_ldc2 X.1 dX10_tellsKey_15 kl_10_301 ?_
  refine aI_lload X.1 dX10_tellsKey_18 rfl ?_
  refine aI_lmul X.1 dX10_tellsKey_20 ?_
  refine aI_aload_n X.1 dX10_tellsKey_21 rfl ?_
  refine aI_iload_n X.1 dX10_tellsKey_22 rfl ?_
  refine aI_iconst (v := 1) X.1 dX10_tellsKey_23 (by decide) ?_
  obtain ⟨r6, h5, e7, E⟩ := o_callE E
  refine cv_X10_span X (c_X10_span e7) ml_10_303 (by decide) (by decide) (Nat.le_of_ble_eq_true rfl) dX10_tellsKey_24 ?_
  refine aI_i2l X.1 dX10_tellsKey_27 ?_
  refine aI_ladd X.1 dX10_tellsKey_28 ?_
  obtain ⟨x8, ex8, E⟩ := o_letE E
  refine aI_eql ex8 ?_
  refine aI_lstore (lv2 := [some (.ref (q 0)), some (.long p1), none, some (.int p2), some (.long x8), none, none]) X.1 dX10_tellsKey_29 (N 5 (by decide)) rfl ?_
  refine aI_ldc2 X.1 dX10_tellsKey_31 kl_10_301 ?_
  refine aI_lload X.1 dX10_tellsKey_34 rfl ?_
  refine aI_lmul X.1 dX10_tellsKey_36 ?_
  refine aI_aload_n X.1 dX10_tellsKey_37 rfl ?_
  refine aI_iload_n X.1 dX10_tellsKey_38 rfl ?_
  obtain ⟨r10, h9, e11, E⟩ := o_callE E
  refine cv_X10_rank X (c_X10_rank e11) ml_10_306 (by decide) (by decide) (Nat.le_of_ble_eq_true rfl) dX10_tellsKey_39 ?_
  refine aI_i2l X.1 dX10_tellsKey_42 ?_
  refine aI_ladd X.1 dX10_tellsKey_43 ?_
  obtain ⟨x12, ex12, E⟩ := o_letE E
  refine aI_eql ex12 ?_
  refine aI_lstore (lv2 := [some (.ref (q 0)), some (.long p1), none, some (.int p2), some (.long x12), none, none]) X.1 dX10_tellsKey_44 (N 5 (by decide)) rfl ?_
  refine aI_iconst (v := 0) X.1 dX10_tellsKey_46 (by decide) ?_
  refine aI_istore (lv2 := [some (.ref (q 0)), some (.long p1), none, some (.int p2), some (.long x12), none, some (.int (0 : Int32))]) X.1 dX10_tellsKey_47 (N 6 (by decide)) rfl ?_
  refine aI_lv [true, false, false, true, true, false, true] (lv2 := [some (.ref (q 0)), none, none, some (.int p2), some (.long x12), none, some (.int (0 : Int32))]) rfl ?_
  refine w_X10_tellsKey_L1  X N hret ?_ 100 x12 (0 : Int32) h9 E
  intro x19 x20 h21 E
  refine aI_ldc2 X.1 dX10_tellsKey_79 kl_10_301 ?_
  refine aI_lload X.1 dX10_tellsKey_82 rfl ?_
  refine aI_lmul X.1 dX10_tellsKey_84 ?_
  refine aI_aload_n X.1 dX10_tellsKey_85 rfl ?_
  refine aI_iload_n X.1 dX10_tellsKey_86 rfl ?_
  obtain ⟨r23, h22, e24, E⟩ := o_callE E
  refine cv_X10_end X (c_X10_end e24) ml_10_312 (by decide) (by decide) (Nat.le_of_ble_eq_true rfl) dX10_tellsKey_87 ?_
  refine aI_i2l X.1 dX10_tellsKey_90 ?_
  refine aI_ladd X.1 dX10_tellsKey_91 ?_
  obtain ⟨x25, ex25, E⟩ := o_letE E
  refine aI_eql ex25 ?_
  refine aI_lstore (lv2 := [some (.ref (q 0)), none, none, some (.int p2), some (.long x25), none, some (.int x20)]) X.1 dX10_tellsKey_92 (N 5 (by decide)) rfl ?_
  refine aI_ldc2 X.1 dX10_tellsKey_94 kl_10_301 ?_
  refine aI_lload X.1 dX10_tellsKey_97 rfl ?_
  refine aI_lmul X.1 dX10_tellsKey_99 ?_
  refine aI_aload_n X.1 dX10_tellsKey_100 rfl ?_
  refine aI_iload_n X.1 dX10_tellsKey_101 rfl ?_
  obtain ⟨r27, h26, e28, E⟩ := o_callE E
  refine cv_X10_roomBy X (c_X10_roomBy e28) ml_10_265 (by decide) (by decide) (Nat.le_of_ble_eq_true rfl) dX10_tellsKey_102 ?_
  refine aI_i2l X.1 dX10_tellsKey_105 ?_
  refine aI_ladd X.1 dX10_tellsKey_106 ?_
  obtain ⟨x29, ex29, E⟩ := o_letE E
  refine aI_eql ex29 ?_
  refine aI_lstore (lv2 := [some (.ref (q 0)), none, none, some (.int p2), some (.long x29), none, some (.int x20)]) X.1 dX10_tellsKey_107 (N 5 (by decide)) rfl ?_
  refine aI_ldc2 X.1 dX10_tellsKey_109 kl_10_301 ?_
  refine aI_lload X.1 dX10_tellsKey_112 rfl ?_
  refine aI_lmul X.1 dX10_tellsKey_114 ?_
  refine aI_aload_n X.1 dX10_tellsKey_115 rfl ?_
  refine aI_iload_n X.1 dX10_tellsKey_116 rfl ?_
  refine aI_iconst (v := 0) X.1 dX10_tellsKey_117 (by decide) ?_
  obtain ⟨r31, h30, e32, E⟩ := o_callE E
  refine cv_X10_groupBy X (c_X10_groupBy e32) ml_10_298 (by decide) (by decide) (Nat.le_of_ble_eq_true rfl) dX10_tellsKey_118 ?_
  refine aI_i2l X.1 dX10_tellsKey_121 ?_
  refine aI_ladd X.1 dX10_tellsKey_122 ?_
  obtain ⟨x33, ex33, E⟩ := o_letE E
  refine aI_eql ex33 ?_
  refine aI_lstore (lv2 := [some (.ref (q 0)), none, none, some (.int p2), some (.long x33), none, some (.int x20)]) X.1 dX10_tellsKey_123 (N 5 (by decide)) rfl ?_
  refine aI_ldc2 X.1 dX10_tellsKey_125 kl_10_301 ?_
  refine aI_lload X.1 dX10_tellsKey_128 rfl ?_
  refine aI_lmul X.1 dX10_tellsKey_130 ?_
  refine aI_aload_n X.1 dX10_tellsKey_131 rfl ?_
  refine aI_iload_n X.1 dX10_tellsKey_132 rfl ?_
  refine aI_iconst (v := 1) X.1 dX10_tellsKey_133 (by decide) ?_
  obtain ⟨r35, h34, e36, E⟩ := o_callE E
  refine cv_X10_groupBy X (c_X10_groupBy e36) ml_10_298 (by decide) (by decide) (Nat.le_of_ble_eq_true rfl) dX10_tellsKey_134 ?_
  refine aI_i2l X.1 dX10_tellsKey_137 ?_
  refine aI_ladd X.1 dX10_tellsKey_138 ?_
  exact aI_lret E (hret _ _ dX10_tellsKey_139)
theorem c_X10_tellsKey {q : Nat → Nat} {p1 : Int64} {p2 : Int32}  {r : Int64} {h2 : hp_T} {h : hp_T} (E : f_X10_tellsKey p1 p2 h = some (r, h2)) : cL 1 yX10_tellsKey cX10_tellsKey 7 5 115 q [.ref (q 0), .long p1, .int p2] h r h2 := metL (own := RX10) (by decide) rfl (Nat.le_of_ble_eq_true rfl) rfl (fun Γ X N hret => w_X10_tellsKey X N hret E)
set_option maxRecDepth 4000 in
theorem w_X10_tellsPoint_L1 {Γ : g_T} {q : Nat → Nat}  {u3 : Int32}  {r : Int64} {h2 : hp_T} (X : aC 1 Γ q RX10 cX10_tellsPoint 4 98) (N : ∀ k, k < 7 → aN Γ k) (hret : ∀ pc lv, decode cX10_tellsPoint pc = .ok (.lreturn, 1) → aA Γ pc lv [.long r] h2) {K : Int64 → Int32 → hp_T → Option (Int64 × hp_T)} (hk : ∀ v4 v6 h, K v4 v6 h = some (r, h2) → aA Γ 65 [some (.ref (q 0)), none, none, some (.int u3), some (.long v4), none, some (.int v6)] [] h) : ∀ (n : Nat) (v4 : Int64) (v6 : Int32) (h : hp_T), f_X10_tellsPoint_L1 u3 K n v4 v6 h = some (r, h2) → aA Γ 34 [some (.ref (q 0)), none, none, some (.int u3), some (.long v4), none, some (.int v6)] [] h := by
  intro n
  induction n with
  | zero =>
    intro v4 v6 h E
    cases E
  | succ n ih =>
    intro v4 v6 h E
    rw [f_X10_tellsPoint_L1] at E
    refine aI_iload X.1 dX10_tellsPoint_34 rfl ?_
    refine aI_iconst (v := 3) X.1 dX10_tellsPoint_36 (by decide) ?_
    refine aI_icmp_ge (tgt := 65) X.1 dX10_tellsPoint_37 (by decide) (fun c9 => ?_) (fun c9 => ?_)
    · have E := o_pos c9 E
      exact hk v4 v6 h E
    · have E := o_neg c9 E
      refine aI_ldc2 X.1 dX10_tellsPoint_40 kl_10_301 ?_
      refine aI_lload X.1 dX10_tellsPoint_43 rfl ?_
      refine aI_lmul X.1 dX10_tellsPoint_45 ?_
      refine aI_aload_n X.1 dX10_tellsPoint_46 rfl ?_
      refine aI_iload_n X.1 dX10_tellsPoint_47 rfl ?_
      refine aI_bipush (v := 7) X.1 dX10_tellsPoint_48 (by decide) ?_
      refine aI_iload X.1 dX10_tellsPoint_50 rfl ?_
      obtain ⟨r11, h10, e12, E⟩ := o_callE E
      refine cv_X10_placeBy X (c_X10_placeBy e12) ml_10_250 (by decide) (by decide) (Nat.le_of_ble_eq_true rfl) dX10_tellsPoint_52 ?_
      refine aI_i2l X.1 dX10_tellsPoint_55 ?_
      refine aI_ladd X.1 dX10_tellsPoint_56 ?_
      obtain ⟨x13, ex13, E⟩ := o_letE E
      refine aI_eql ex13 ?_
      refine aI_lstore (lv2 := [some (.ref (q 0)), none, none, some (.int u3), some (.long x13), none, some (.int v6)]) X.1 dX10_tellsPoint_57 (N 5 (by decide)) rfl ?_
      obtain ⟨x14, ex14, E⟩ := o_letE E
      refine aI_iinc (v := 1) (lv2 := [some (.ref (q 0)), none, none, some (.int u3), some (.long x13), none, some (.int x14)]) X.1 dX10_tellsPoint_59 (N 6 (by decide)) rfl (by decide) (by rw [← ex14]; rfl) ?_
      refine aI_goto (tgt := 34) X.1 dX10_tellsPoint_62 (by decide) ?_
      exact ih x13 x14 h10 E
set_option maxRecDepth 4000 in
theorem w_X10_tellsPoint {Γ : g_T} {q : Nat → Nat} {p1 : Int64} {p2 : Int32}  {r : Int64} {h2 : hp_T} {h : hp_T} (X : aC 1 Γ q RX10 cX10_tellsPoint 4 98) (N : ∀ k, k < 7 → aN Γ k) (hret : ∀ pc lv, decode cX10_tellsPoint pc = .ok (.lreturn, 1) → aA Γ pc lv [.long r] h2) (E : f_X10_tellsPoint p1 p2 h = some (r, h2)) : aA Γ 0 [some (.ref (q 0)), some (.long p1), none, some (.int p2), none, none, none] [] h := by
  unfold f_X10_tellsPoint at E
  refine aI_ldc2 X.1 dX10_tellsPoint_0 kl_10_301 ?_
  refine aI_lload_n X.1 dX10_tellsPoint_3 rfl ?_
  refine aI_lmul X.1 dX10_tellsPoint_4 ?_
  refine aI_aload_n X.1 dX10_tellsPoint_5 rfl ?_
  refine aI_iload_n X.1 dX10_tellsPoint_6 rfl ?_
  refine aI_iconst (v := -1) X.1 dX10_tellsPoint_7 (by decide) ?_
  obtain ⟨r2, h1, e3, E⟩ := o_callE E
  refine cv_X10_holds X (c_X10_holds e3) ml_10_315 (by decide) (by decide) (Nat.le_of_ble_eq_true rfl) dX10_tellsPoint_8 ?_
  refine aI_i2l X.1 dX10_tellsPoint_11 ?_
  refine aI_ladd X.1 dX10_tellsPoint_12 ?_
  obtain ⟨x4, ex4, E⟩ := o_letE E
  refine aI_eql ex4 ?_
  refine aI_lstore (lv2 := [some (.ref (q 0)), some (.long p1), none, some (.int p2), some (.long x4), none, none]) X.1 dX10_tellsPoint_13 (N 5 (by decide)) rfl ?_
  refine aI_ldc2 X.1 dX10_tellsPoint_15 kl_10_301 ?_
  refine aI_lload X.1 dX10_tellsPoint_18 rfl ?_
  refine aI_lmul X.1 dX10_tellsPoint_20 ?_
  refine aI_aload_n X.1 dX10_tellsPoint_21 rfl ?_
  refine aI_iload_n X.1 dX10_tellsPoint_22 rfl ?_
  refine aI_iconst (v := 1) X.1 dX10_tellsPoint_23 (by decide) ?_
  obtain ⟨r6, h5, e7, E⟩ := o_callE E
  refine cv_X10_holds X (c_X10_holds e7) ml_10_315 (by decide) (by decide) (Nat.le_of_ble_eq_true rfl) dX10_tellsPoint_24 ?_
  refine aI_i2l X.1 dX10_tellsPoint_27 ?_
  refine aI_ladd X.1 dX10_tellsPoint_28 ?_
  obtain ⟨x8, ex8, E⟩ := o_letE E
  refine aI_eql ex8 ?_
  refine aI_lstore (lv2 := [some (.ref (q 0)), some (.long p1), none, some (.int p2), some (.long x8), none, none]) X.1 dX10_tellsPoint_29 (N 5 (by decide)) rfl ?_
  refine aI_iconst (v := 0) X.1 dX10_tellsPoint_31 (by decide) ?_
  refine aI_istore (lv2 := [some (.ref (q 0)), some (.long p1), none, some (.int p2), some (.long x8), none, some (.int (0 : Int32))]) X.1 dX10_tellsPoint_32 (N 6 (by decide)) rfl ?_
  refine aI_lv [true, false, false, true, true, false, true] (lv2 := [some (.ref (q 0)), none, none, some (.int p2), some (.long x8), none, some (.int (0 : Int32))]) rfl ?_
  refine w_X10_tellsPoint_L1  X N hret ?_ 100 x8 (0 : Int32) h5 E
  intro x15 x16 h17 E
  refine aI_lload X.1 dX10_tellsPoint_65 rfl ?_
  exact aI_lret E (hret _ _ dX10_tellsPoint_67)
theorem c_X10_tellsPoint {q : Nat → Nat} {p1 : Int64} {p2 : Int32}  {r : Int64} {h2 : hp_T} {h : hp_T} (E : f_X10_tellsPoint p1 p2 h = some (r, h2)) : cL 1 yX10_tellsPoint cX10_tellsPoint 7 4 98 q [.ref (q 0), .long p1, .int p2] h r h2 := metL (own := RX10) (by decide) rfl (Nat.le_of_ble_eq_true rfl) rfl (fun Γ X N hret => w_X10_tellsPoint X N hret E)
set_option maxRecDepth 4000 in
theorem w_X10_tellsStretch_L1 {Γ : g_T} {q : Nat → Nat}  {u3 : Int32} {u4 : Int32}  {r : Int64} {h2 : hp_T} (X : aC 1 Γ q RX10 cX10_tellsStretch 3 74) (N : ∀ k, k < 8 → aN Γ k) (hret : ∀ pc lv, decode cX10_tellsStretch pc = .ok (.lreturn, 1) → aA Γ pc lv [.long r] h2) {K : Int64 → Int32 → hp_T → Option (Int64 × hp_T)} (hk : ∀ v5 v7 h, K v5 v7 h = some (r, h2) → aA Γ 141 [some (.ref (q 0)), none, none, some (.int u3), some (.int u4), some (.long v5), none, some (.int v7)] [] h) : ∀ (n : Nat) (v5 : Int64) (v7 : Int32) (h : hp_T), f_X10_tellsStretch_L1 u3 u4 K n v5 v7 h = some (r, h2) → aA Γ 89 [some (.ref (q 0)), none, none, some (.int u3), some (.int u4), some (.long v5), none, some (.int v7)] [] h := by
  intro n
  induction n with
  | zero =>
    intro v5 v7 h E
    cases E
  | succ n ih =>
    intro v5 v7 h E
    rw [f_X10_tellsStretch_L1] at E
    refine aI_iload X.1 dX10_tellsStretch_89 rfl ?_
    refine aI_iconst (v := 2) X.1 dX10_tellsStretch_91 (by decide) ?_
    refine aI_icmp_ge (tgt := 141) X.1 dX10_tellsStretch_92 (by decide) (fun c21 => ?_) (fun c21 => ?_)
    · have E := o_pos c21 E
      exact hk v5 v7 h E
    · have E := o_neg c21 E
      refine aI_ldc2 X.1 dX10_tellsStretch_95 kl_10_301 ?_
      refine aI_lload X.1 dX10_tellsStretch_98 rfl ?_
      refine aI_lmul X.1 dX10_tellsStretch_100 ?_
      refine aI_aload_n X.1 dX10_tellsStretch_101 rfl ?_
      refine aI_iload_n X.1 dX10_tellsStretch_102 rfl ?_
      refine aI_iload X.1 dX10_tellsStretch_103 rfl ?_
      refine aI_iload X.1 dX10_tellsStretch_105 rfl ?_
      refine aI_iconst (v := 0) X.1 dX10_tellsStretch_107 (by decide) ?_
      obtain ⟨r23, h22, e24, E⟩ := o_callE E
      refine cv_X10_freeBy X (c_X10_freeBy e24) ml_10_232 (by decide) (by decide) (Nat.le_of_ble_eq_true rfl) dX10_tellsStretch_108 ?_
      refine aI_i2l X.1 dX10_tellsStretch_111 ?_
      refine aI_ladd X.1 dX10_tellsStretch_112 ?_
      obtain ⟨x25, ex25, E⟩ := o_letE E
      refine aI_eql ex25 ?_
      refine aI_lstore (lv2 := [some (.ref (q 0)), none, none, some (.int u3), some (.int u4), some (.long x25), none, some (.int v7)]) X.1 dX10_tellsStretch_113 (N 6 (by decide)) rfl ?_
      refine aI_ldc2 X.1 dX10_tellsStretch_115 kl_10_301 ?_
      refine aI_lload X.1 dX10_tellsStretch_118 rfl ?_
      refine aI_lmul X.1 dX10_tellsStretch_120 ?_
      refine aI_aload_n X.1 dX10_tellsStretch_121 rfl ?_
      refine aI_iload_n X.1 dX10_tellsStretch_122 rfl ?_
      refine aI_iload X.1 dX10_tellsStretch_123 rfl ?_
      refine aI_iload X.1 dX10_tellsStretch_125 rfl ?_
      refine aI_iconst (v := 1) X.1 dX10_tellsStretch_127 (by decide) ?_
      obtain ⟨r27, h26, e28, E⟩ := o_callE E
      refine cv_X10_freeBy X (c_X10_freeBy e28) ml_10_232 (by decide) (by decide) (Nat.le_of_ble_eq_true rfl) dX10_tellsStretch_128 ?_
      refine aI_i2l X.1 dX10_tellsStretch_131 ?_
      refine aI_ladd X.1 dX10_tellsStretch_132 ?_
      obtain ⟨x29, ex29, E⟩ := o_letE E
      refine aI_eql ex29 ?_
      refine aI_lstore (lv2 := [some (.ref (q 0)), none, none, some (.int u3), some (.int u4), some (.long x29), none, some (.int v7)]) X.1 dX10_tellsStretch_133 (N 6 (by decide)) rfl ?_
      obtain ⟨x30, ex30, E⟩ := o_letE E
      refine aI_iinc (v := 1) (lv2 := [some (.ref (q 0)), none, none, some (.int u3), some (.int u4), some (.long x29), none, some (.int x30)]) X.1 dX10_tellsStretch_135 (N 7 (by decide)) rfl (by decide) (by rw [← ex30]; rfl) ?_
      refine aI_goto (tgt := 89) X.1 dX10_tellsStretch_138 (by decide) ?_
      exact ih x29 x30 h26 E
set_option maxRecDepth 4000 in
theorem w_X10_tellsStretch {Γ : g_T} {q : Nat → Nat} {p1 : Int64} {p2 : Int32} {p3 : Int32}  {r : Int64} {h2 : hp_T} {h : hp_T} (X : aC 1 Γ q RX10 cX10_tellsStretch 3 74) (N : ∀ k, k < 8 → aN Γ k) (hret : ∀ pc lv, decode cX10_tellsStretch pc = .ok (.lreturn, 1) → aA Γ pc lv [.long r] h2) (E : f_X10_tellsStretch p1 p2 p3 h = some (r, h2)) : aA Γ 0 [some (.ref (q 0)), some (.long p1), none, some (.int p2), some (.int p3), none, none, none] [] h := by
  unfold f_X10_tellsStretch at E
  refine aI_ldc2 X.1 dX10_tellsStretch_0 kl_10_301 ?_
  refine aI_lload_n X.1 dX10_tellsStretch_3 rfl ?_
  refine aI_lmul X.1 dX10_tellsStretch_4 ?_
  refine aI_aload_n X.1 dX10_tellsStretch_5 rfl ?_
  refine aI_iload_n X.1 dX10_tellsStretch_6 rfl ?_
  refine aI_iload X.1 dX10_tellsStretch_7 rfl ?_
  obtain ⟨r2, h1, e3, E⟩ := o_callE E
  refine cv_X10_looksAt X (c_X10_looksAt e3) ml_10_212 (by decide) (by decide) (Nat.le_of_ble_eq_true rfl) dX10_tellsStretch_9 ?_
  refine aI_i2l X.1 dX10_tellsStretch_12 ?_
  refine aI_ladd X.1 dX10_tellsStretch_13 ?_
  obtain ⟨x4, ex4, E⟩ := o_letE E
  refine aI_eql ex4 ?_
  refine aI_lstore (lv2 := [some (.ref (q 0)), some (.long p1), none, some (.int p2), some (.int p3), some (.long x4), none, none]) X.1 dX10_tellsStretch_14 (N 6 (by decide)) rfl ?_
  refine aI_ldc2 X.1 dX10_tellsStretch_16 kl_10_301 ?_
  refine aI_lload X.1 dX10_tellsStretch_19 rfl ?_
  refine aI_lmul X.1 dX10_tellsStretch_21 ?_
  refine aI_aload_n X.1 dX10_tellsStretch_22 rfl ?_
  refine aI_iload_n X.1 dX10_tellsStretch_23 rfl ?_
  refine aI_iload X.1 dX10_tellsStretch_24 rfl ?_
  refine aI_iconst (v := -1) X.1 dX10_tellsStretch_26 (by decide) ?_
  obtain ⟨r6, h5, e7, E⟩ := o_callE E
  refine cv_X10_meetsBy X (c_X10_meetsBy e7) ml_10_221 (by decide) (by decide) (Nat.le_of_ble_eq_true rfl) dX10_tellsStretch_27 ?_
  refine aI_i2l X.1 dX10_tellsStretch_30 ?_
  refine aI_ladd X.1 dX10_tellsStretch_31 ?_
  obtain ⟨x8, ex8, E⟩ := o_letE E
  refine aI_eql ex8 ?_
  refine aI_lstore (lv2 := [some (.ref (q 0)), some (.long p1), none, some (.int p2), some (.int p3), some (.long x8), none, none]) X.1 dX10_tellsStretch_32 (N 6 (by decide)) rfl ?_
  refine aI_ldc2 X.1 dX10_tellsStretch_34 kl_10_301 ?_
  refine aI_lload X.1 dX10_tellsStretch_37 rfl ?_
  refine aI_lmul X.1 dX10_tellsStretch_39 ?_
  refine aI_aload_n X.1 dX10_tellsStretch_40 rfl ?_
  refine aI_iload_n X.1 dX10_tellsStretch_41 rfl ?_
  refine aI_iload X.1 dX10_tellsStretch_42 rfl ?_
  refine aI_iconst (v := 0) X.1 dX10_tellsStretch_44 (by decide) ?_
  obtain ⟨r10, h9, e11, E⟩ := o_callE E
  refine cv_X10_meetsBy X (c_X10_meetsBy e11) ml_10_221 (by decide) (by decide) (Nat.le_of_ble_eq_true rfl) dX10_tellsStretch_45 ?_
  refine aI_i2l X.1 dX10_tellsStretch_48 ?_
  refine aI_ladd X.1 dX10_tellsStretch_49 ?_
  obtain ⟨x12, ex12, E⟩ := o_letE E
  refine aI_eql ex12 ?_
  refine aI_lstore (lv2 := [some (.ref (q 0)), some (.long p1), none, some (.int p2), some (.int p3), some (.long x12), none, none]) X.1 dX10_tellsStretch_50 (N 6 (by decide)) rfl ?_
  refine aI_ldc2 X.1 dX10_tellsStretch_52 kl_10_301 ?_
  refine aI_lload X.1 dX10_tellsStretch_55 rfl ?_
  refine aI_lmul X.1 dX10_tellsStretch_57 ?_
  refine aI_aload_n X.1 dX10_tellsStretch_58 rfl ?_
  refine aI_iload_n X.1 dX10_tellsStretch_59 rfl ?_
  refine aI_iload X.1 dX10_tellsStretch_60 rfl ?_
  obtain ⟨r14, h13, e15, E⟩ := o_callE E
  refine cv_X10_takenIn X (c_X10_takenIn e15) ml_10_227 (by decide) (by decide) (Nat.le_of_ble_eq_true rfl) dX10_tellsStretch_62 ?_
  refine aI_i2l X.1 dX10_tellsStretch_65 ?_
  refine aI_ladd X.1 dX10_tellsStretch_66 ?_
  obtain ⟨x16, ex16, E⟩ := o_letE E
  refine aI_eql ex16 ?_
  refine aI_lstore (lv2 := [some (.ref (q 0)), some (.long p1), none, some (.int p2), some (.int p3), some (.long x16), none, none]) X.1 dX10_tellsStretch_67 (N 6 (by decide)) rfl ?_
  refine aI_ldc2 X.1 dX10_tellsStretch_69 kl_10_301 ?_
  refine aI_lload X.1 dX10_tellsStretch_72 rfl ?_
  refine aI_lmul X.1 dX10_tellsStretch_74 ?_
  refine aI_aload_n X.1 dX10_tellsStretch_75 rfl ?_
  refine aI_iload_n X.1 dX10_tellsStretch_76 rfl ?_
  refine aI_iload X.1 dX10_tellsStretch_77 rfl ?_
  obtain ⟨r18, h17, e19, E⟩ := o_callE E
  refine cv_X10_parts X (c_X10_parts e19) ml_10_224 (by decide) (by decide) (Nat.le_of_ble_eq_true rfl) dX10_tellsStretch_79 ?_
  refine aI_i2l X.1 dX10_tellsStretch_82 ?_
  refine aI_ladd X.1 dX10_tellsStretch_83 ?_
  obtain ⟨x20, ex20, E⟩ := o_letE E
  refine aI_eql ex20 ?_
  refine aI_lstore (lv2 := [some (.ref (q 0)), some (.long p1), none, some (.int p2), some (.int p3), some (.long x20), none, none]) X.1 dX10_tellsStretch_84 (N 6 (by decide)) rfl ?_
  refine aI_iconst (v := 0) X.1 dX10_tellsStretch_86 (by decide) ?_
  refine aI_istore (lv2 := [some (.ref (q 0)), some (.long p1), none, some (.int p2), some (.int p3), some (.long x20), none, some (.int (0 : Int32))]) X.1 dX10_tellsStretch_87 (N 7 (by decide)) rfl ?_
  refine aI_lv [true, false, false, true, true, true, false, true] (lv2 := [some (.ref (q 0)), none, none, some (.int p2), some (.int p3), some (.long x20), none, some (.int (0 : Int32))]) rfl ?_
  refine w_X10_tellsStretch_L1  X N hret ?_ 100 x20 (0 : Int32) h17 E
  intro x31 x32 h33 E
  refine aI_lload X.1 dX10_tellsStretch_141 rfl ?_
  exact aI_lret E (hret _ _ dX10_tellsStretch_143)
theorem c_X10_tellsStretch {q : Nat → Nat} {p1 : Int64} {p2 : Int32} {p3 : Int32}  {r : Int64} {h2 : hp_T} {h : hp_T} (E : f_X10_tellsStretch p1 p2 p3 h = some (r, h2)) : cL 1 yX10_tellsStretch cX10_tellsStretch 8 3 74 q [.ref (q 0), .long p1, .int p2, .int p3] h r h2 := metL (own := RX10) (by decide) rfl (Nat.le_of_ble_eq_true rfl) rfl (fun Γ X N hret => w_X10_tellsStretch X N hret E)
set_option maxRecDepth 4000 in
theorem w_X10_digest_L1 {Γ : g_T} {q : Nat → Nat}    {r : Int64} {h2 : hp_T} (X : aC 1 Γ q RX10 cX10_digest 6 141) (N : ∀ k, k < 5 → aN Γ k) (hret : ∀ pc lv, decode cX10_digest pc = .ok (.lreturn, 1) → aA Γ pc lv [.long r] h2) {K : Int64 → Int32 → hp_T → Option (Int64 × hp_T)} (hk : ∀ v1 v3 h, K v1 v3 h = some (r, h2) → aA Γ 31 [some (.ref (q 0)), some (.long v1), none, some (.int v3), none] [] h) : ∀ (n : Nat) (v1 : Int64) (v3 : Int32) (h : hp_T), f_X10_digest_L1 K n v1 v3 h = some (r, h2) → aA Γ 6 [some (.ref (q 0)), some (.long v1), none, some (.int v3), none] [] h := by
  intro n
  induction n with
  | zero =>
    intro v1 v3 h E
    cases E
  | succ n ih =>
    intro v1 v3 h E
    rw [f_X10_digest_L1] at E
    refine aI_iload_n X.1 dX10_digest_6 rfl ?_
    refine aI_bipush (v := 8) X.1 dX10_digest_7 (by decide) ?_
    refine aI_icmp_ge (tgt := 31) X.1 dX10_digest_9 (by decide) (fun c1 => ?_) (fun c1 => ?_)
    · have E := o_pos c1 E
      exact hk v1 v3 h E
    · have E := o_neg c1 E
      refine aI_ldc2 X.1 dX10_digest_12 kl_10_301 ?_
      refine aI_lload_n X.1 dX10_digest_15 rfl ?_
      refine aI_lmul X.1 dX10_digest_16 ?_
      refine aI_aload_n X.1 dX10_digest_17 rfl ?_
      refine aI_iload_n X.1 dX10_digest_18 rfl ?_
      obtain ⟨r3, h2, e4, E⟩ := o_callE E
      refine cv_X10_count X (c_X10_count e4) ml_10_320 (by decide) (by decide) (Nat.le_of_ble_eq_true rfl) dX10_digest_19 ?_
      refine aI_i2l X.1 dX10_digest_22 ?_
      refine aI_ladd X.1 dX10_digest_23 ?_
      obtain ⟨x5, ex5, E⟩ := o_letE E
      refine aI_eql ex5 ?_
      refine aI_lstore_n (lv2 := [some (.ref (q 0)), some (.long x5), none, some (.int v3), none]) X.1 dX10_digest_24 (N 2 (by decide)) rfl ?_
      obtain ⟨x6, ex6, E⟩ := o_letE E
      refine aI_iinc (v := 1) (lv2 := [some (.ref (q 0)), some (.long x5), none, some (.int x6), none]) X.1 dX10_digest_25 (N 3 (by decide)) rfl (by decide) (by rw [← ex6]; rfl) ?_
      refine aI_goto (tgt := 6) X.1 dX10_digest_28 (by decide) ?_
      exact ih x5 x6 h2 E
set_option maxRecDepth 4000 in
theorem w_X10_digest_L2 {Γ : g_T} {q : Nat → Nat}    {r : Int64} {h2 : hp_T} (X : aC 1 Γ q RX10 cX10_digest 6 141) (N : ∀ k, k < 5 → aN Γ k) (hret : ∀ pc lv, decode cX10_digest pc = .ok (.lreturn, 1) → aA Γ pc lv [.long r] h2) {K : Int64 → Int32 → hp_T → Option (Int64 × hp_T)} (hk : ∀ v1 v3 h, K v1 v3 h = some (r, h2) → aA Γ 88 [some (.ref (q 0)), some (.long v1), none, some (.int v3), none] [] h) : ∀ (n : Nat) (v1 : Int64) (v3 : Int32) (h : hp_T), f_X10_digest_L2 K n v1 v3 h = some (r, h2) → aA Γ 69 [some (.ref (q 0)), some (.long v1), none, some (.int v3), none] [] h := by
  intro n
  induction n with
  | zero =>
    intro v1 v3 h E
    cases E
  | succ n ih =>
    intro v1 v3 h E
    rw [f_X10_digest_L2] at E
    refine aI_iload_n X.1 dX10_digest_69 rfl ?_
    refine aI_bipush (v := 48) X.1 dX10_digest_70 (by decide) ?_
    refine aI_icmp_ge (tgt := 88) X.1 dX10_digest_72 (by decide) (fun c22 => ?_) (fun c22 => ?_)
    · have E := o_pos c22 E
      exact hk v1 v3 h E
    · have E := o_neg c22 E
      refine aI_aload_n X.1 dX10_digest_75 rfl ?_
      refine aI_lload_n X.1 dX10_digest_76 rfl ?_
      refine aI_iload_n X.1 dX10_digest_77 rfl ?_
      obtain ⟨r24, h23, e25, E⟩ := o_callE E
      refine cv_X10_tellsKey X (c_X10_tellsKey e25) ml_10_326 (by decide) (by decide) (Nat.le_of_ble_eq_true rfl) dX10_digest_78 ?_
      refine aI_lstore_n (lv2 := [some (.ref (q 0)), some (.long r24), none, some (.int v3), none]) X.1 dX10_digest_81 (N 2 (by decide)) rfl ?_
      obtain ⟨x26, ex26, E⟩ := o_letE E
      refine aI_iinc (v := 1) (lv2 := [some (.ref (q 0)), some (.long r24), none, some (.int x26), none]) X.1 dX10_digest_82 (N 3 (by decide)) rfl (by decide) (by rw [← ex26]; rfl) ?_
      refine aI_goto (tgt := 69) X.1 dX10_digest_85 (by decide) ?_
      exact ih r24 x26 h23 E
set_option maxRecDepth 4000 in
theorem w_X10_digest_L3 {Γ : g_T} {q : Nat → Nat}    {r : Int64} {h2 : hp_T} (X : aC 1 Γ q RX10 cX10_digest 6 141) (N : ∀ k, k < 5 → aN Γ k) (hret : ∀ pc lv, decode cX10_digest pc = .ok (.lreturn, 1) → aA Γ pc lv [.long r] h2) {K : Int64 → Int32 → hp_T → Option (Int64 × hp_T)} (hk : ∀ v1 v3 h, K v1 v3 h = some (r, h2) → aA Γ 128 [some (.ref (q 0)), some (.long v1), none, some (.int v3), none] [] h) : ∀ (n : Nat) (v1 : Int64) (v3 : Int32) (h : hp_T), f_X10_digest_L3 K n v1 v3 h = some (r, h2) → aA Γ 90 [some (.ref (q 0)), some (.long v1), none, some (.int v3), none] [] h := by
  intro n
  induction n with
  | zero =>
    intro v1 v3 h E
    cases E
  | succ n ih =>
    intro v1 v3 h E
    rw [f_X10_digest_L3] at E
    refine aI_iload_n X.1 dX10_digest_90 rfl ?_
    refine aI_bipush (v := 48) X.1 dX10_digest_91 (by decide) ?_
    refine aI_icmp_ge (tgt := 128) X.1 dX10_digest_93 (by decide) (fun c30 => ?_) (fun c30 => ?_)
    · have E := o_pos c30 E
      exact hk v1 v3 h E
    · have E := o_neg c30 E
      refine aI_ldc2 X.1 dX10_digest_96 kl_10_301 ?_
      refine aI_lload_n X.1 dX10_digest_99 rfl ?_
      refine aI_lmul X.1 dX10_digest_100 ?_
      refine aI_aload_n X.1 dX10_digest_101 rfl ?_
      refine aI_iload_n X.1 dX10_digest_102 rfl ?_
      obtain ⟨r32, h31, e33, E⟩ := o_callE E
      refine cv_X10_keyAt X (c_X10_keyAt e33) ml_10_201 (by decide) (by decide) (Nat.le_of_ble_eq_true rfl) dX10_digest_103 ?_
      refine aI_i2l X.1 dX10_digest_106 ?_
      refine aI_ladd X.1 dX10_digest_107 ?_
      obtain ⟨x34, ex34, E⟩ := o_letE E
      refine aI_eql ex34 ?_
      refine aI_lstore_n (lv2 := [some (.ref (q 0)), some (.long x34), none, some (.int v3), none]) X.1 dX10_digest_108 (N 2 (by decide)) rfl ?_
      refine aI_ldc2 X.1 dX10_digest_109 kl_10_301 ?_
      refine aI_lload_n X.1 dX10_digest_112 rfl ?_
      refine aI_lmul X.1 dX10_digest_113 ?_
      refine aI_aload_n X.1 dX10_digest_114 rfl ?_
      refine aI_iload_n X.1 dX10_digest_115 rfl ?_
      obtain ⟨r36, h35, e37, E⟩ := o_callE E
      refine cv_X10_keepBy X (c_X10_keepBy e37) ml_10_271 (by decide) (by decide) (Nat.le_of_ble_eq_true rfl) dX10_digest_116 ?_
      refine aI_i2l X.1 dX10_digest_119 ?_
      refine aI_ladd X.1 dX10_digest_120 ?_
      obtain ⟨x38, ex38, E⟩ := o_letE E
      refine aI_eql ex38 ?_
      refine aI_lstore_n (lv2 := [some (.ref (q 0)), some (.long x38), none, some (.int v3), none]) X.1 dX10_digest_121 (N 2 (by decide)) rfl ?_
      obtain ⟨x39, ex39, E⟩ := o_letE E
      refine aI_iinc (v := 1) (lv2 := [some (.ref (q 0)), some (.long x38), none, some (.int x39), none]) X.1 dX10_digest_122 (N 3 (by decide)) rfl (by decide) (by rw [← ex39]; rfl) ?_
      refine aI_goto (tgt := 90) X.1 dX10_digest_125 (by decide) ?_
      exact ih x38 x39 h35 E
set_option maxRecDepth 4000 in
theorem w_X10_digest_L5 {Γ : g_T} {q : Nat → Nat}  {u3 : Int32}  {r : Int64} {h2 : hp_T} (X : aC 1 Γ q RX10 cX10_digest 6 141) (N : ∀ k, k < 5 → aN Γ k) (hret : ∀ pc lv, decode cX10_digest pc = .ok (.lreturn, 1) → aA Γ pc lv [.long r] h2) {K : Int64 → Int32 → hp_T → Option (Int64 × hp_T)} (hk : ∀ v1 v4 h, K v1 v4 h = some (r, h2) → aA Γ 166 [some (.ref (q 0)), some (.long v1), none, some (.int u3), some (.int v4)] [] h) : ∀ (n : Nat) (v1 : Int64) (v4 : Int32) (h : hp_T), f_X10_digest_L5 u3 K n v1 v4 h = some (r, h2) → aA Γ 139 [some (.ref (q 0)), some (.long v1), none, some (.int u3), some (.int v4)] [] h := by
  intro n
  induction n with
  | zero =>
    intro v1 v4 h E
    cases E
  | succ n ih =>
    intro v1 v4 h E
    rw [f_X10_digest_L5] at E
    refine aI_iload X.1 dX10_digest_139 rfl ?_
    refine aI_iconst (v := 3) X.1 dX10_digest_141 (by decide) ?_
    refine aI_icmp_ge (tgt := 166) X.1 dX10_digest_142 (by decide) (fun c44 => ?_) (fun c44 => ?_)
    · have E := o_pos c44 E
      exact hk v1 v4 h E
    · have E := o_neg c44 E
      refine aI_ldc2 X.1 dX10_digest_145 kl_10_301 ?_
      refine aI_lload_n X.1 dX10_digest_148 rfl ?_
      refine aI_lmul X.1 dX10_digest_149 ?_
      refine aI_aload_n X.1 dX10_digest_150 rfl ?_
      refine aI_iload_n X.1 dX10_digest_151 rfl ?_
      refine aI_iload X.1 dX10_digest_152 rfl ?_
      obtain ⟨r46, h45, e47, E⟩ := o_callE E
      refine cv_X10_clashBy X (c_X10_clashBy e47) ml_10_285 (by decide) (by decide) (Nat.le_of_ble_eq_true rfl) dX10_digest_154 ?_
      refine aI_i2l X.1 dX10_digest_157 ?_
      refine aI_ladd X.1 dX10_digest_158 ?_
      obtain ⟨x48, ex48, E⟩ := o_letE E
      refine aI_eql ex48 ?_
      refine aI_lstore_n (lv2 := [some (.ref (q 0)), some (.long x48), none, some (.int u3), some (.int v4)]) X.1 dX10_digest_159 (N 2 (by decide)) rfl ?_
      obtain ⟨x49, ex49, E⟩ := o_letE E
      refine aI_iinc (v := 1) (lv2 := [some (.ref (q 0)), some (.long x48), none, some (.int u3), some (.int x49)]) X.1 dX10_digest_160 (N 4 (by decide)) rfl (by decide) (by rw [← ex49]; rfl) ?_
      refine aI_goto (tgt := 139) X.1 dX10_digest_163 (by decide) ?_
      exact ih x48 x49 h45 E
set_option maxRecDepth 4000 in
theorem w_X10_digest_L4 {Γ : g_T} {q : Nat → Nat}    {r : Int64} {h2 : hp_T} (X : aC 1 Γ q RX10 cX10_digest 6 141) (N : ∀ k, k < 5 → aN Γ k) (hret : ∀ pc lv, decode cX10_digest pc = .ok (.lreturn, 1) → aA Γ pc lv [.long r] h2) {K : Int64 → Int32 → hp_T → Option (Int64 × hp_T)} (hk : ∀ v1 v3 h, K v1 v3 h = some (r, h2) → aA Γ 172 [some (.ref (q 0)), some (.long v1), none, some (.int v3), none] [] h) : ∀ (n : Nat) (v1 : Int64) (v3 : Int32) (h : hp_T), f_X10_digest_L4 K n v1 v3 h = some (r, h2) → aA Γ 130 [some (.ref (q 0)), some (.long v1), none, some (.int v3), none] [] h := by
  intro n
  induction n with
  | zero =>
    intro v1 v3 h E
    cases E
  | succ n ih =>
    intro v1 v3 h E
    rw [f_X10_digest_L4] at E
    refine aI_iload_n X.1 dX10_digest_130 rfl ?_
    refine aI_bipush (v := 31) X.1 dX10_digest_131 (by decide) ?_
    refine aI_icmp_ge (tgt := 172) X.1 dX10_digest_133 (by decide) (fun c43 => ?_) (fun c43 => ?_)
    · have E := o_pos c43 E
      exact hk v1 v3 h E
    · have E := o_neg c43 E
      refine aI_iconst (v := 0) X.1 dX10_digest_136 (by decide) ?_
      refine aI_istore (lv2 := [some (.ref (q 0)), some (.long v1), none, some (.int v3), some (.int (0 : Int32))]) X.1 dX10_digest_137 (N 4 (by decide)) rfl ?_
      refine w_X10_digest_L5  X N hret ?_ 100 v1 (0 : Int32) h E
      intro x50 x51 h52 E
      obtain ⟨x53, ex53, E⟩ := o_letE E
      refine aI_iinc (v := 1) (lv2 := [some (.ref (q 0)), some (.long x50), none, some (.int x53), some (.int x51)]) X.1 dX10_digest_166 (N 3 (by decide)) rfl (by decide) (by rw [← ex53]; rfl) ?_
      refine aI_goto (tgt := 130) X.1 dX10_digest_169 (by decide) ?_
      refine aI_lv [true, true, false, true, false] (lv2 := [some (.ref (q 0)), some (.long x50), none, some (.int x53), none]) rfl ?_
      exact ih x50 x53 h52 E
set_option maxRecDepth 4000 in
theorem w_X10_digest_L6 {Γ : g_T} {q : Nat → Nat}    {r : Int64} {h2 : hp_T} (X : aC 1 Γ q RX10 cX10_digest 6 141) (N : ∀ k, k < 5 → aN Γ k) (hret : ∀ pc lv, decode cX10_digest pc = .ok (.lreturn, 1) → aA Γ pc lv [.long r] h2) {K : Int64 → Int32 → hp_T → Option (Int64 × hp_T)} (hk : ∀ v1 v3 h, K v1 v3 h = some (r, h2) → aA Γ 195 [some (.ref (q 0)), some (.long v1), none, some (.int v3), none] [] h) : ∀ (n : Nat) (v1 : Int64) (v3 : Int32) (h : hp_T), f_X10_digest_L6 K n v1 v3 h = some (r, h2) → aA Γ 175 [some (.ref (q 0)), some (.long v1), none, some (.int v3), none] [] h := by
  intro n
  induction n with
  | zero =>
    intro v1 v3 h E
    cases E
  | succ n ih =>
    intro v1 v3 h E
    rw [f_X10_digest_L6] at E
    refine aI_iload_n X.1 dX10_digest_175 rfl ?_
    refine aI_sipush (v := 150) X.1 dX10_digest_176 (by decide) ?_
    refine aI_icmp_gt (tgt := 195) X.1 dX10_digest_179 (by decide) (fun c57 => ?_) (fun c57 => ?_)
    · have E := o_pos c57 E
      exact hk v1 v3 h E
    · have E := o_neg c57 E
      refine aI_aload_n X.1 dX10_digest_182 rfl ?_
      refine aI_lload_n X.1 dX10_digest_183 rfl ?_
      refine aI_iload_n X.1 dX10_digest_184 rfl ?_
      obtain ⟨r59, h58, e60, E⟩ := o_callE E
      refine cv_X10_tellsPoint X (c_X10_tellsPoint e60) ml_10_330 (by decide) (by decide) (Nat.le_of_ble_eq_true rfl) dX10_digest_185 ?_
      refine aI_lstore_n (lv2 := [some (.ref (q 0)), some (.long r59), none, some (.int v3), none]) X.1 dX10_digest_188 (N 2 (by decide)) rfl ?_
      obtain ⟨x61, ex61, E⟩ := o_letE E
      refine aI_iinc (v := 20) (lv2 := [some (.ref (q 0)), some (.long r59), none, some (.int x61), none]) X.1 dX10_digest_189 (N 3 (by decide)) rfl (by decide) (by rw [← ex61]; rfl) ?_
      refine aI_goto (tgt := 175) X.1 dX10_digest_192 (by decide) ?_
      exact ih r59 x61 h58 E
set_option maxRecDepth 4000 in
theorem w_X10_digest_L7 {Γ : g_T} {q : Nat → Nat}    {r : Int64} {h2 : hp_T} (X : aC 1 Γ q RX10 cX10_digest 6 141) (N : ∀ k, k < 5 → aN Γ k) (hret : ∀ pc lv, decode cX10_digest pc = .ok (.lreturn, 1) → aA Γ pc lv [.long r] h2) {K : Int64 → Int32 → hp_T → Option (Int64 × hp_T)} (hk : ∀ v1 v3 h, K v1 v3 h = some (r, h2) → aA Γ 221 [some (.ref (q 0)), some (.long v1), none, some (.int v3), none] [] h) : ∀ (n : Nat) (v1 : Int64) (v3 : Int32) (h : hp_T), f_X10_digest_L7 K n v1 v3 h = some (r, h2) → aA Γ 198 [some (.ref (q 0)), some (.long v1), none, some (.int v3), none] [] h := by
  intro n
  induction n with
  | zero =>
    intro v1 v3 h E
    cases E
  | succ n ih =>
    intro v1 v3 h E
    rw [f_X10_digest_L7] at E
    refine aI_iload_n X.1 dX10_digest_198 rfl ?_
    refine aI_bipush (v := 60) X.1 dX10_digest_199 (by decide) ?_
    refine aI_icmp_gt (tgt := 221) X.1 dX10_digest_201 (by decide) (fun c65 => ?_) (fun c65 => ?_)
    · have E := o_pos c65 E
      exact hk v1 v3 h E
    · have E := o_neg c65 E
      refine aI_aload_n X.1 dX10_digest_204 rfl ?_
      refine aI_lload_n X.1 dX10_digest_205 rfl ?_
      refine aI_iload_n X.1 dX10_digest_206 rfl ?_
      refine aI_iload_n X.1 dX10_digest_207 rfl ?_
      refine aI_bipush (v := 90) X.1 dX10_digest_208 (by decide) ?_
      refine aI_iadd X.1 dX10_digest_210 ?_
      obtain ⟨r67, h66, e68, E⟩ := o_callE E
      refine cv_X10_tellsStretch X (c_X10_tellsStretch e68) ml_10_333 (by decide) (by decide) (Nat.le_of_ble_eq_true rfl) dX10_digest_211 ?_
      refine aI_lstore_n (lv2 := [some (.ref (q 0)), some (.long r67), none, some (.int v3), none]) X.1 dX10_digest_214 (N 2 (by decide)) rfl ?_
      obtain ⟨x69, ex69, E⟩ := o_letE E
      refine aI_iinc (v := 40) (lv2 := [some (.ref (q 0)), some (.long r67), none, some (.int x69), none]) X.1 dX10_digest_215 (N 3 (by decide)) rfl (by decide) (by rw [← ex69]; rfl) ?_
      refine aI_goto (tgt := 198) X.1 dX10_digest_218 (by decide) ?_
      exact ih r67 x69 h66 E
set_option maxRecDepth 4000 in
theorem w_X10_digest {Γ : g_T} {q : Nat → Nat}   {r : Int64} {h2 : hp_T} {h : hp_T} (X : aC 1 Γ q RX10 cX10_digest 6 141) (N : ∀ k, k < 5 → aN Γ k) (hret : ∀ pc lv, decode cX10_digest pc = .ok (.lreturn, 1) → aA Γ pc lv [.long r] h2) (E : f_X10_digest  h = some (r, h2)) : aA Γ 0 [some (.ref (q 0)), none, none, none, none] [] h := by
  unfold f_X10_digest at E
  refine aI_ldc2 X.1 dX10_digest_0 kl_10_318 ?_
  refine aI_lstore_n (lv2 := [some (.ref (q 0)), some (.long (17 : Int64)), none, none, none]) X.1 dX10_digest_3 (N 2 (by decide)) rfl ?_
  refine aI_iconst (v := 0) X.1 dX10_digest_4 (by decide) ?_
  refine aI_istore_n (lv2 := [some (.ref (q 0)), some (.long (17 : Int64)), none, some (.int (0 : Int32)), none]) X.1 dX10_digest_5 (N 3 (by decide)) rfl ?_
  refine w_X10_digest_L1  X N hret ?_ 100 (17 : Int64) (0 : Int32) h E
  intro x7 x8 h9 E
  refine aI_ldc2 X.1 dX10_digest_31 kl_10_301 ?_
  refine aI_lload_n X.1 dX10_digest_34 rfl ?_
  refine aI_lmul X.1 dX10_digest_35 ?_
  refine aI_aload_n X.1 dX10_digest_36 rfl ?_
  obtain ⟨r11, h10, e12, E⟩ := o_callE E
  refine cv_X10_root X (c_X10_root e12) ml_10_323 (by decide) (by decide) (Nat.le_of_ble_eq_true rfl) dX10_digest_37 ?_
  refine aI_i2l X.1 dX10_digest_40 ?_
  refine aI_ladd X.1 dX10_digest_41 ?_
  obtain ⟨x13, ex13, E⟩ := o_letE E
  refine aI_eql ex13 ?_
  refine aI_lstore_n (lv2 := [some (.ref (q 0)), some (.long x13), none, some (.int x8), none]) X.1 dX10_digest_42 (N 2 (by decide)) rfl ?_
  refine aI_ldc2 X.1 dX10_digest_43 kl_10_301 ?_
  refine aI_lload_n X.1 dX10_digest_46 rfl ?_
  refine aI_lmul X.1 dX10_digest_47 ?_
  refine aI_aload_n X.1 dX10_digest_48 rfl ?_
  refine aI_iconst (v := 1) X.1 dX10_digest_49 (by decide) ?_
  obtain ⟨r15, h14, e16, E⟩ := o_callE E
  refine cv_X10_deepest X (c_X10_deepest e16) ml_10_253 (by decide) (by decide) (Nat.le_of_ble_eq_true rfl) dX10_digest_50 ?_
  refine aI_i2l X.1 dX10_digest_53 ?_
  refine aI_ladd X.1 dX10_digest_54 ?_
  obtain ⟨x17, ex17, E⟩ := o_letE E
  refine aI_eql ex17 ?_
  refine aI_lstore_n (lv2 := [some (.ref (q 0)), some (.long x17), none, some (.int x8), none]) X.1 dX10_digest_55 (N 2 (by decide)) rfl ?_
  refine aI_ldc2 X.1 dX10_digest_56 kl_10_301 ?_
  refine aI_lload_n X.1 dX10_digest_59 rfl ?_
  refine aI_lmul X.1 dX10_digest_60 ?_
  refine aI_aload_n X.1 dX10_digest_61 rfl ?_
  obtain ⟨r19, h18, e20, E⟩ := o_callE E
  refine cv_X10_aloneNow X (c_X10_aloneNow e20) ml_10_288 (by decide) (by decide) (Nat.le_of_ble_eq_true rfl) dX10_digest_62 ?_
  refine aI_ladd X.1 dX10_digest_65 ?_
  obtain ⟨x21, ex21, E⟩ := o_letE E
  refine aI_eql ex21 ?_
  refine aI_lstore_n (lv2 := [some (.ref (q 0)), some (.long x21), none, some (.int x8), none]) X.1 dX10_digest_66 (N 2 (by decide)) rfl ?_
  refine aI_iconst (v := 0) X.1 dX10_digest_67 (by decide) ?_
  refine aI_istore_n (lv2 := [some (.ref (q 0)), some (.long x21), none, some (.int (0 : Int32)), none]) X.1 dX10_digest_68 (N 3 (by decide)) rfl ?_
  refine w_X10_digest_L2  X N hret ?_ 100 x21 (0 : Int32) h18 E
  intro x27 x28 h29 E
  refine aI_iconst (v := 0) X.1 dX10_digest_88 (by decide) ?_
  refine aI_istore_n (lv2 := [some (.ref (q 0)), some (.long x27), none, some (.int (0 : Int32)), none]) X.1 dX10_digest_89 (N 3 (by decide)) rfl ?_
  refine w_X10_digest_L3  X N hret ?_ 100 x27 (0 : Int32) h29 E
  intro x40 x41 h42 E
  refine aI_iconst (v := 0) X.1 dX10_digest_128 (by decide) ?_
  refine aI_istore_n (lv2 := [some (.ref (q 0)), some (.long x40), none, some (.int (0 : Int32)), none]) X.1 dX10_digest_129 (N 3 (by decide)) rfl ?_
  refine w_X10_digest_L4  X N hret ?_ 100 x40 (0 : Int32) h42 E
  intro x54 x55 h56 E
  refine aI_bipush (v := -50) X.1 dX10_digest_172 (by decide) ?_
  refine aI_istore_n (lv2 := [some (.ref (q 0)), some (.long x54), none, some (.int (-50 : Int32)), none]) X.1 dX10_digest_174 (N 3 (by decide)) rfl ?_
  refine w_X10_digest_L6  X N hret ?_ 100 x54 (-50 : Int32) h56 E
  intro x62 x63 h64 E
  refine aI_bipush (v := -60) X.1 dX10_digest_195 (by decide) ?_
  refine aI_istore_n (lv2 := [some (.ref (q 0)), some (.long x62), none, some (.int (-60 : Int32)), none]) X.1 dX10_digest_197 (N 3 (by decide)) rfl ?_
  refine w_X10_digest_L7  X N hret ?_ 100 x62 (-60 : Int32) h64 E
  intro x70 x71 h72 E
  refine aI_lload_n X.1 dX10_digest_221 rfl ?_
  exact aI_lret E (hret _ _ dX10_digest_222)
theorem c_X10_digest {q : Nat → Nat}   {r : Int64} {h2 : hp_T} {h : hp_T} (E : f_X10_digest  h = some (r, h2)) : cL 1 yX10_digest cX10_digest 5 6 141 q [.ref (q 0)] h r h2 := metL (own := RX10) (by decide) rfl (Nat.le_of_ble_eq_true rfl) rfl (fun Γ X N hret => w_X10_digest X N hret E)
