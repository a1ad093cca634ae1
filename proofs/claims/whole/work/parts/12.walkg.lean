set_option maxRecDepth 4000 in
theorem w_X10_free {Γ : g_T} {q : Nat → Nat} {p1 : Int32} {p2 : Int32} {p3 : Int32} {p4 : Int32}  {r : Int32} {h2 : hp_T} {h : hp_T} (X : aC 1 Γ q RX10 cX10_free 3 73) (N : ∀ k, k < 5 → aN Γ k) (hret : ∀ pc lv, decode cX10_free pc = .ok (.ireturn, 1) → aA Γ pc lv [.int r] h2) (E : f_X10_free p1 p2 p3 p4 h = some (r, h2)) : aA Γ 0 [some (.ref (q 0)), some (.int p1), some (.int p2), some (.int p3), some (.int p4)] [] h := by
  unfold f_X10_free at E
  refine aI_aload_n X.1 dX10_free_0 rfl ?_
  obtain ⟨h1, e2, E⟩ := o_cvE E
  refine cv_X10_orders X (c_X10_orders e2) ml_10_188 (by decide) (by decide) (Nat.le_of_ble_eq_true rfl) dX10_free_1 ?_
  refine aI_iload_n X.1 dX10_free_4 rfl ?_
  refine aI_iload_n X.1 dX10_free_5 rfl ?_
  obtain ⟨r4, h3, e5, E⟩ := o_callE E
  refine cv_X10_isStretch X (c_X10_isStretch e5) ml_10_148 (by decide) (by decide) (Nat.le_of_ble_eq_true rfl) dX10_free_6 ?_
  refine aI_if_eq (tgt := 44) X.1 dX10_free_9 (by decide) (fun c6 => ?_) (fun c6 => ?_)
  · have E := o_pos c6 E
    refine aI_ldc X.1 dX10_free_44 kc_10_129 ?_
    exact aI_iret E (hret _ _ dX10_free_46)
  · have E := o_neg c6 E
    refine aI_iload_n X.1 dX10_free_12 rfl ?_
    refine aI_i2l X.1 dX10_free_13 ?_
    refine aI_lconst (v := 0) X.1 dX10_free_14 (by decide) ?_
    refine aI_ldc2 X.1 dX10_free_15 kl_10_230 ?_
    obtain ⟨r8, h7, e9, E⟩ := o_callE E
    refine cv_X10_in X (c_X10_in e9) ml_10_101 (by decide) (by decide) (Nat.le_of_ble_eq_true rfl) dX10_free_18 ?_
    refine aI_if_eq (tgt := 44) X.1 dX10_free_21 (by decide) (fun c10 => ?_) (fun c10 => ?_)
    · have E := o_pos c10 E
      refine aI_ldc X.1 dX10_free_44 kc_10_129 ?_
      exact aI_iret E (hret _ _ dX10_free_46)
    · have E := o_neg c10 E
      refine aI_iload X.1 dX10_free_24 rfl ?_
      obtain ⟨r12, h11, e13, E⟩ := o_callE E
      refine cv_X10_isTwo X (c_X10_isTwo e13) ml_10_174 (by decide) (by decide) (Nat.le_of_ble_eq_true rfl) dX10_free_26 ?_
      refine aI_if_eq (tgt := 44) X.1 dX10_free_29 (by decide) (fun c14 => ?_) (fun c14 => ?_)
      · have E := o_pos c14 E
        refine aI_ldc X.1 dX10_free_44 kc_10_129 ?_
        exact aI_iret E (hret _ _ dX10_free_46)
      · have E := o_neg c14 E
        refine aI_aload_n X.1 dX10_free_32 rfl ?_
        refine aI_iload_n X.1 dX10_free_33 rfl ?_
        refine aI_iload_n X.1 dX10_free_34 rfl ?_
        refine aI_iload_n X.1 dX10_free_35 rfl ?_
        refine aI_iload X.1 dX10_free_36 rfl ?_
        obtain ⟨r16, h15, e17, E⟩ := o_callE E
        refine cv_X10_freeBy X (c_X10_freeBy e17) ml_10_232 (by decide) (by decide) (Nat.le_of_ble_eq_true rfl) dX10_free_38 ?_
        refine aI_goto (tgt := 46) X.1 dX10_free_41 (by decide) ?_
        exact aI_iret E (hret _ _ dX10_free_46)
theorem c_X10_free {q : Nat → Nat} {p1 : Int32} {p2 : Int32} {p3 : Int32} {p4 : Int32}  {r : Int32} {h2 : hp_T} {h : hp_T} (E : f_X10_free p1 p2 p3 p4 h = some (r, h2)) : cI 1 yX10_free cX10_free 5 .int 3 73 q [.ref (q 0), .int p1, .int p2, .int p3, .int p4] h r h2 := metI (own := RX10) (by decide) rfl (Nat.le_of_ble_eq_true rfl) rfl (fun Γ X N hret => w_X10_free X N hret E)
set_option maxRecDepth 4000 in
theorem w_X10_isPlace_L1 {Γ : g_T} {q : Nat → Nat}  {u1 : Int32} {u2 : Int32}  {r : Int32} {h2 : hp_T} (X : aC 1 Γ q RX10 cX10_isPlace 1 23) (N : ∀ k, k < 5 → aN Γ k) (hret : ∀ pc lv, decode cX10_isPlace pc = .ok (.ireturn, 1) → bz r = true → aA Γ pc lv [.int r] h2) {K : Int32 → Int32 → hp_T → Option (Int32 × hp_T)} (hk : ∀ v3 v4 h, K v3 v4 h = some (r, h2) → aA Γ 66 [some (.ref (q 0)), some (.int u1), some (.int u2), some (.int v3), some (.int v4)] [] h) : ∀ (n : Nat) (v3 : Int32) (v4 : Int32) (h : hp_T), f_X10_isPlace_L1 u1 u2 K n v3 v4 h = some (r, h2) → aA Γ 23 [some (.ref (q 0)), some (.int u1), some (.int u2), some (.int v3), some (.int v4)] [] h := by
  intro n
  induction n with
  | zero =>
    intro v3 v4 h E
    cases E
  | succ n ih =>
    intro v3 v4 h E
    rw [f_X10_isPlace_L1] at E
    refine aI_iload X.1 dX10_isPlace_23 rfl ?_
    refine aI_aload_n X.1 dX10_isPlace_25 rfl ?_
    refine gf_10_142 X dX10_isPlace_26 ?_
    refine aI_icmp_ge (tgt := 66) X.1 dX10_isPlace_29 (by decide) (fun c2 => ?_) (fun c2 => ?_)
    · have E := o_pos c2 E
      exact hk v3 v4 h E
    · have E := o_neg c2 E
      refine aI_iload_n X.1 dX10_isPlace_32 rfl ?_
      refine aI_if_eq (tgt := 66) X.1 dX10_isPlace_33 (by decide) (fun c3 => ?_) (fun c3 => ?_)
      · have E := o_pos c3 E
        exact hk v3 v4 h E
      · have E := o_neg c3 E
        refine aI_aload_n X.1 dX10_isPlace_36 rfl ?_
        refine aI_aload_n X.1 dX10_isPlace_37 rfl ?_
        refine gf_10_44 X dX10_isPlace_38 ?_
        refine aI_iload X.1 dX10_isPlace_41 rfl ?_
        obtain ⟨g4, E⟩ := o_if E
        refine al1_12 X g4 dX10_isPlace_43 ?_
        refine aI_iload_n X.1 dX10_isPlace_44 rfl ?_
        refine aI_iload_n X.1 dX10_isPlace_45 rfl ?_
        refine aI_iload_n X.1 dX10_isPlace_46 rfl ?_
        refine aI_iadd X.1 dX10_isPlace_47 ?_
        obtain ⟨r6, h5, e7, E⟩ := o_callE E
        refine cv_X10_isMet X (c_X10_isMet e7) ml_10_215 (by decide) (by decide) (Nat.le_of_ble_eq_true rfl) dX10_isPlace_48 ?_
        refine aI_if_ne (tgt := 58) X.1 dX10_isPlace_51 (by decide) (fun c8 => ?_) (fun c8 => ?_)
        · have E := o_neg c8 E
          refine aI_iconst (v := 0) X.1 dX10_isPlace_58 (by decide) ?_
          refine aI_istore_n (lv2 := [some (.ref (q 0)), some (.int u1), some (.int u2), some (.int (0 : Int32)), some (.int v4)]) X.1 dX10_isPlace_59 (N 3 (by decide)) rfl ?_
          obtain ⟨x9, ex9, E⟩ := o_letE E
          refine aI_iinc (v := 1) (lv2 := [some (.ref (q 0)), some (.int u1), some (.int u2), some (.int (0 : Int32)), some (.int x9)]) X.1 dX10_isPlace_60 (N 4 (by decide)) rfl (by decide) (by rw [← ex9]; rfl) ?_
          refine aI_goto (tgt := 23) X.1 dX10_isPlace_63 (by decide) ?_
          exact ih (0 : Int32) x9 h5 E
        · have E := o_pos c8 E
          refine aI_iconst (v := 1) X.1 dX10_isPlace_54 (by decide) ?_
          refine aI_goto (tgt := 59) X.1 dX10_isPlace_55 (by decide) ?_
          refine aI_istore_n (lv2 := [some (.ref (q 0)), some (.int u1), some (.int u2), some (.int (1 : Int32)), some (.int v4)]) X.1 dX10_isPlace_59 (N 3 (by decide)) rfl ?_
          obtain ⟨x10, ex10, E⟩ := o_letE E
          refine aI_iinc (v := 1) (lv2 := [some (.ref (q 0)), some (.int u1), some (.int u2), some (.int (1 : Int32)), some (.int x10)]) X.1 dX10_isPlace_60 (N 4 (by decide)) rfl (by decide) (by rw [← ex10]; rfl) ?_
          refine aI_goto (tgt := 23) X.1 dX10_isPlace_63 (by decide) ?_
          exact ih (1 : Int32) x10 h5 E
set_option maxRecDepth 4000 in
theorem w_X10_isPlace {Γ : g_T} {q : Nat → Nat} {p1 : Int32} {p2 : Int32}  {r : Int32} {h2 : hp_T} {h : hp_T} (X : aC 1 Γ q RX10 cX10_isPlace 1 23) (N : ∀ k, k < 5 → aN Γ k) (hret : ∀ pc lv, decode cX10_isPlace pc = .ok (.ireturn, 1) → bz r = true → aA Γ pc lv [.int r] h2) (E : f_X10_isPlace p1 p2 h = some (r, h2)) : aA Γ 0 [some (.ref (q 0)), some (.int p1), some (.int p2), none, none] [] h := by
  unfold f_X10_isPlace at E
  refine aI_iload_n X.1 dX10_isPlace_0 rfl ?_
  refine aI_ldc X.1 dX10_isPlace_1 kc_10_235 ?_
  refine aI_icmp_lt (tgt := 18) X.1 dX10_isPlace_3 (by decide) (fun c1 => ?_) (fun c1 => ?_)
  · have E := o_pos c1 E
    refine aI_iconst (v := 0) X.1 dX10_isPlace_18 (by decide) ?_
    refine aI_istore_n (lv2 := [some (.ref (q 0)), some (.int p1), some (.int p2), some (.int (0 : Int32)), none]) X.1 dX10_isPlace_19 (N 3 (by decide)) rfl ?_
    refine aI_iconst (v := 0) X.1 dX10_isPlace_20 (by decide) ?_
    refine aI_istore (lv2 := [some (.ref (q 0)), some (.int p1), some (.int p2), some (.int (0 : Int32)), some (.int (0 : Int32))]) X.1 dX10_isPlace_21 (N 4 (by decide)) rfl ?_
    refine w_X10_isPlace_L1  X N hret ?_ 100 (0 : Int32) (0 : Int32) h E
    intro x11 x12 h13 E
    refine aI_iload_n X.1 dX10_isPlace_66 rfl ?_
    obtain ⟨g14, E⟩ := o_if E
    exact aI_zret g14 E (hret _ _ dX10_isPlace_67)
  · have E := o_neg c1 E
    refine aI_iload_n X.1 dX10_isPlace_6 rfl ?_
    refine aI_ldc X.1 dX10_isPlace_7 kc_10_236 ?_
    refine aI_iload_n X.1 dX10_isPlace_9 rfl ?_
    refine aI_isub X.1 dX10_isPlace_10 ?_
    refine aI_icmp_gt (tgt := 18) X.1 dX10_isPlace_11 (by decide) (fun c15 => ?_) (fun c15 => ?_)
    · have E := o_pos c15 E
      refine aI_iconst (v := 0) X.1 dX10_isPlace_18 (by decide) ?_
      refine aI_istore_n (lv2 := [some (.ref (q 0)), some (.int p1), some (.int p2), some (.int (0 : Int32)), none]) X.1 dX10_isPlace_19 (N 3 (by decide)) rfl ?_
      refine aI_iconst (v := 0) X.1 dX10_isPlace_20 (by decide) ?_
      refine aI_istore (lv2 := [some (.ref (q 0)), some (.int p1), some (.int p2), some (.int (0 : Int32)), some (.int (0 : Int32))]) X.1 dX10_isPlace_21 (N 4 (by decide)) rfl ?_
      refine w_X10_isPlace_L1  X N hret ?_ 100 (0 : Int32) (0 : Int32) h E
      intro x16 x17 h18 E
      refine aI_iload_n X.1 dX10_isPlace_66 rfl ?_
      obtain ⟨g19, E⟩ := o_if E
      exact aI_zret g19 E (hret _ _ dX10_isPlace_67)
    · have E := o_neg c15 E
      refine aI_iconst (v := 1) X.1 dX10_isPlace_14 (by decide) ?_
      refine aI_goto (tgt := 19) X.1 dX10_isPlace_15 (by decide) ?_
      refine aI_istore_n (lv2 := [some (.ref (q 0)), some (.int p1), some (.int p2), some (.int (1 : Int32)), none]) X.1 dX10_isPlace_19 (N 3 (by decide)) rfl ?_
      refine aI_iconst (v := 0) X.1 dX10_isPlace_20 (by decide) ?_
      refine aI_istore (lv2 := [some (.ref (q 0)), some (.int p1), some (.int p2), some (.int (1 : Int32)), some (.int (0 : Int32))]) X.1 dX10_isPlace_21 (N 4 (by decide)) rfl ?_
      refine w_X10_isPlace_L1  X N hret ?_ 100 (1 : Int32) (0 : Int32) h E
      intro x20 x21 h22 E
      refine aI_iload_n X.1 dX10_isPlace_66 rfl ?_
      obtain ⟨g23, E⟩ := o_if E
      exact aI_zret g23 E (hret _ _ dX10_isPlace_67)
theorem c_X10_isPlace {q : Nat → Nat} {p1 : Int32} {p2 : Int32}  {r : Int32} {h2 : hp_T} {h : hp_T} (E : f_X10_isPlace p1 p2 h = some (r, h2)) : cI 1 yX10_isPlace cX10_isPlace 5 .boolean 1 23 q [.ref (q 0), .int p1, .int p2] h r h2 := metZ (own := RX10) (by decide) rfl (Nat.le_of_ble_eq_true rfl) rfl (fun Γ X N hret => w_X10_isPlace X N hret E)
set_option maxRecDepth 4000 in
theorem w_X10_far {Γ : g_T} {q : Nat → Nat} {p1 : Int32} {p2 : Int32}  {r : Int32} {h2 : hp_T} {h : hp_T} (X : aC 1 Γ q RX10 cX10_far 0 0) (N : ∀ k, k < 2 → aN Γ k) (hret : ∀ pc lv, decode cX10_far pc = .ok (.ireturn, 1) → aA Γ pc lv [.int r] h2) (E : f_X10_far p1 p2 h = some (r, h2)) : aA Γ 0 [some (.int p1), some (.int p2)] [] h := by
  unfold f_X10_far at E
  refine aI_iload_n X.1 dX10_far_0 rfl ?_
  refine aI_iload_n X.1 dX10_far_1 rfl ?_
  refine aI_icmp_ge (tgt := 11) X.1 dX10_far_2 (by decide) (fun c1 => ?_) (fun c1 => ?_)
  · have E := o_pos c1 E
    refine aI_iload_n X.1 dX10_far_11 rfl ?_
    refine aI_iload_n X.1 dX10_far_12 rfl ?_
    refine aI_isub X.1 dX10_far_13 ?_
    exact aI_iret E (hret _ _ dX10_far_14)
  · have E := o_neg c1 E
    refine aI_iload_n X.1 dX10_far_5 rfl ?_
    refine aI_iload_n X.1 dX10_far_6 rfl ?_
    refine aI_isub X.1 dX10_far_7 ?_
    refine aI_goto (tgt := 14) X.1 dX10_far_8 (by decide) ?_
    exact aI_iret E (hret _ _ dX10_far_14)
theorem c_X10_far {q : Nat → Nat} {p1 : Int32} {p2 : Int32}  {r : Int32} {h2 : hp_T} {h : hp_T} (E : f_X10_far p1 p2 h = some (r, h2)) : cI 1 yX10_far cX10_far 2 .int 0 0 q [.int p1, .int p2] h r h2 := metI (own := RX10) (by decide) rfl (Nat.le_of_ble_eq_true rfl) rfl (fun Γ X N hret => w_X10_far X N hret E)
set_option maxRecDepth 4000 in
theorem w_X10_isNearer {Γ : g_T} {q : Nat → Nat} {p1 : Int32} {p2 : Int32} {p3 : Int32}  {r : Int32} {h2 : hp_T} {h : hp_T} (X : aC 1 Γ q RX10 cX10_isNearer 1 21) (N : ∀ k, k < 3 → aN Γ k) (hret : ∀ pc lv, decode cX10_isNearer pc = .ok (.ireturn, 1) → bz r = true → aA Γ pc lv [.int r] h2) (E : f_X10_isNearer p1 p2 p3 h = some (r, h2)) : aA Γ 0 [some (.int p1), some (.int p2), some (.int p3)] [] h := by
  unfold f_X10_isNearer at E
  refine aI_iload_n X.1 dX10_isNearer_0 rfl ?_
  refine aI_iload_n X.1 dX10_isNearer_1 rfl ?_
  obtain ⟨r2, h1, e3, E⟩ := o_callE E
  refine cv_X10_far X (c_X10_far e3) ml_10_237 (by decide) (by decide) (Nat.le_of_ble_eq_true rfl) dX10_isNearer_2 ?_
  refine aI_iload_n X.1 dX10_isNearer_5 rfl ?_
  refine aI_iload_n X.1 dX10_isNearer_6 rfl ?_
  obtain ⟨r5, h4, e6, E⟩ := o_callE E
  refine cv_X10_far X (c_X10_far e6) ml_10_237 (by decide) (by decide) (Nat.le_of_ble_eq_true rfl) dX10_isNearer_7 ?_
  refine aI_icmp_lt (tgt := 31) X.1 dX10_isNearer_10 (by decide) (fun c7 => ?_) (fun c7 => ?_)
  · have E := o_pos c7 E
    refine aI_iconst (v := 1) X.1 dX10_isNearer_31 (by decide) ?_
    refine aI_goto (tgt := 36) X.1 dX10_isNearer_32 (by decide) ?_
    exact aI_zret (by decide) E (hret _ _ dX10_isNearer_36)
  · have E := o_neg c7 E
    refine aI_iload_n X.1 dX10_isNearer_13 rfl ?_
    refine aI_iload_n X.1 dX10_isNearer_14 rfl ?_
    obtain ⟨r9, h8, e10, E⟩ := o_callE E
    refine cv_X10_far X (c_X10_far e10) ml_10_237 (by decide) (by decide) (Nat.le_of_ble_eq_true rfl) dX10_isNearer_15 ?_
    refine aI_iload_n X.1 dX10_isNearer_18 rfl ?_
    refine aI_iload_n X.1 dX10_isNearer_19 rfl ?_
    obtain ⟨r12, h11, e13, E⟩ := o_callE E
    refine cv_X10_far X (c_X10_far e13) ml_10_237 (by decide) (by decide) (Nat.le_of_ble_eq_true rfl) dX10_isNearer_20 ?_
    refine aI_icmp_ne (tgt := 35) X.1 dX10_isNearer_23 (by decide) (fun c14 => ?_) (fun c14 => ?_)
    · have E := o_neg c14 E
      refine aI_iconst (v := 0) X.1 dX10_isNearer_35 (by decide) ?_
      exact aI_zret (by decide) E (hret _ _ dX10_isNearer_36)
    · have E := o_pos c14 E
      refine aI_iload_n X.1 dX10_isNearer_26 rfl ?_
      refine aI_iload_n X.1 dX10_isNearer_27 rfl ?_
      refine aI_icmp_ge (tgt := 35) X.1 dX10_isNearer_28 (by decide) (fun c15 => ?_) (fun c15 => ?_)
      · have E := o_pos c15 E
        refine aI_iconst (v := 0) X.1 dX10_isNearer_35 (by decide) ?_
        exact aI_zret (by decide) E (hret _ _ dX10_isNearer_36)
      · have E := o_neg c15 E
        refine aI_iconst (v := 1) X.1 dX10_isNearer_31 (by decide) ?_
        refine aI_goto (tgt := 36) X.1 dX10_isNearer_32 (by decide) ?_
        exact aI_zret (by decide) E (hret _ _ dX10_isNearer_36)
theorem c_X10_isNearer {q : Nat → Nat} {p1 : Int32} {p2 : Int32} {p3 : Int32}  {r : Int32} {h2 : hp_T} {h : hp_T} (E : f_X10_isNearer p1 p2 p3 h = some (r, h2)) : cI 1 yX10_isNearer cX10_isNearer 3 .boolean 1 21 q [.int p1, .int p2, .int p3] h r h2 := metZ (own := RX10) (by decide) rfl (Nat.le_of_ble_eq_true rfl) rfl (fun Γ X N hret => w_X10_isNearer X N hret E)
set_option maxRecDepth 4000 in
theorem w_X10_better {Γ : g_T} {q : Nat → Nat} {p1 : Int32} {p2 : Int32} {p3 : Int32} {p4 : Int32} {p5 : Int32}  {r : Int32} {h2 : hp_T} {h : hp_T} (X : aC 1 Γ q RX10 cX10_better 2 47) (N : ∀ k, k < 7 → aN Γ k) (hret : ∀ pc lv, decode cX10_better pc = .ok (.ireturn, 1) → aA Γ pc lv [.int r] h2) (E : f_X10_better p1 p2 p3 p4 p5 h = some (r, h2)) : aA Γ 0 [some (.ref (q 0)), some (.int p1), some (.int p2), some (.int p3), some (.int p4), some (.int p5), none] [] h := by
  unfold f_X10_better at E
  refine aI_aload_n X.1 dX10_better_0 rfl ?_
  refine aI_iload_n X.1 dX10_better_1 rfl ?_
  refine aI_iload X.1 dX10_better_2 rfl ?_
  obtain ⟨r2, h1, e3, E⟩ := o_callE E
  refine cv_X10_isPlace X (c_X10_isPlace e3) ml_10_240 (by decide) (by decide) (Nat.le_of_ble_eq_true rfl) dX10_better_4 ?_
  refine aI_if_eq (tgt := 41) X.1 dX10_better_7 (by decide) (fun c4 => ?_) (fun c4 => ?_)
  · have E := o_pos c4 E
    refine aI_iconst (v := 0) X.1 dX10_better_41 (by decide) ?_
    refine aI_istore (lv2 := [some (.ref (q 0)), some (.int p1), some (.int p2), some (.int p3), some (.int p4), some (.int p5), some (.int (0 : Int32))]) X.1 dX10_better_42 (N 6 (by decide)) rfl ?_
    refine aI_iload X.1 dX10_better_44 rfl ?_
    refine aI_if_eq (tgt := 68) X.1 dX10_better_46 (by decide) (fun _ => ?_) (fun z => absurd z (by decide))
    refine aI_iload_n X.1 dX10_better_68 rfl ?_
    exact aI_iret E (hret _ _ dX10_better_69)
  · have E := o_neg c4 E
    refine aI_iload X.1 dX10_better_10 rfl ?_
    refine aI_iconst (v := 2) X.1 dX10_better_12 (by decide) ?_
    refine aI_icmp_eq (tgt := 37) X.1 dX10_better_13 (by decide) (fun c6 => ?_) (fun c6 => ?_)
    · have E := o_pos c6 E
      refine aI_iconst (v := 1) X.1 dX10_better_37 (by decide) ?_
      refine aI_goto (tgt := 42) X.1 dX10_better_38 (by decide) ?_
      refine aI_istore (lv2 := [some (.ref (q 0)), some (.int p1), some (.int p2), some (.int p3), some (.int p4), some (.int p5), some (.int (1 : Int32))]) X.1 dX10_better_42 (N 6 (by decide)) rfl ?_
      refine aI_iload X.1 dX10_better_44 rfl ?_
      refine aI_if_eq (tgt := 68) X.1 dX10_better_46 (by decide) (fun z => absurd z (by decide)) (fun _ => ?_)
      refine aI_iload_n X.1 dX10_better_49 rfl ?_
      refine aI_ldc X.1 dX10_better_50 kc_10_129 ?_
      refine aI_icmp_eq (tgt := 64) X.1 dX10_better_52 (by decide) (fun c8 => ?_) (fun c8 => ?_)
      · have E := o_pos c8 E
        refine aI_iload_n X.1 dX10_better_64 rfl ?_
        refine aI_goto (tgt := 69) X.1 dX10_better_65 (by decide) ?_
        exact aI_iret E (hret _ _ dX10_better_69)
      · have E := o_neg c8 E
        refine aI_iload_n X.1 dX10_better_55 rfl ?_
        refine aI_iload_n X.1 dX10_better_56 rfl ?_
        refine aI_iload_n X.1 dX10_better_57 rfl ?_
        obtain ⟨r10, h9, e11, E⟩ := o_callE E
        refine cv_X10_isNearer X (c_X10_isNearer e11) ml_10_243 (by decide) (by decide) (Nat.le_of_ble_eq_true rfl) dX10_better_58 ?_
        refine aI_if_eq (tgt := 68) X.1 dX10_better_61 (by decide) (fun c12 => ?_) (fun c12 => ?_)
        · have E := o_pos c12 E
          refine aI_iload_n X.1 dX10_better_68 rfl ?_
          exact aI_iret E (hret _ _ dX10_better_69)
        · have E := o_neg c12 E
          refine aI_iload_n X.1 dX10_better_64 rfl ?_
          refine aI_goto (tgt := 69) X.1 dX10_better_65 (by decide) ?_
          exact aI_iret E (hret _ _ dX10_better_69)
    · have E := o_neg c6 E
      refine aI_iload X.1 dX10_better_16 rfl ?_
      refine aI_if_ne (tgt := 29) X.1 dX10_better_18 (by decide) (fun c13 => ?_) (fun c13 => ?_)
      · have E := o_neg c13 E
        refine aI_iload_n X.1 dX10_better_29 rfl ?_
        refine aI_iload_n X.1 dX10_better_30 rfl ?_
        refine aI_iload X.1 dX10_better_31 rfl ?_
        refine aI_isub X.1 dX10_better_33 ?_
        refine aI_icmp_gt (tgt := 41) X.1 dX10_better_34 (by decide) (fun c14 => ?_) (fun c14 => ?_)
        · have E := o_pos c14 E
          refine aI_iconst (v := 0) X.1 dX10_better_41 (by decide) ?_
          refine aI_istore (lv2 := [some (.ref (q 0)), some (.int p1), some (.int p2), some (.int p3), some (.int p4), some (.int p5), some (.int (0 : Int32))]) X.1 dX10_better_42 (N 6 (by decide)) rfl ?_
          refine aI_iload X.1 dX10_better_44 rfl ?_
          refine aI_if_eq (tgt := 68) X.1 dX10_better_46 (by decide) (fun _ => ?_) (fun z => absurd z (by decide))
          refine aI_iload_n X.1 dX10_better_68 rfl ?_
          exact aI_iret E (hret _ _ dX10_better_69)
        · have E := o_neg c14 E
          refine aI_iconst (v := 1) X.1 dX10_better_37 (by decide) ?_
          refine aI_goto (tgt := 42) X.1 dX10_better_38 (by decide) ?_
          refine aI_istore (lv2 := [some (.ref (q 0)), some (.int p1), some (.int p2), some (.int p3), some (.int p4), some (.int p5), some (.int (1 : Int32))]) X.1 dX10_better_42 (N 6 (by decide)) rfl ?_
          refine aI_iload X.1 dX10_better_44 rfl ?_
          refine aI_if_eq (tgt := 68) X.1 dX10_better_46 (by decide) (fun z => absurd z (by decide)) (fun _ => ?_)
          refine aI_iload_n X.1 dX10_better_49 rfl ?_
          refine aI_ldc X.1 dX10_better_50 kc_10_129 ?_
          refine aI_icmp_eq (tgt := 64) X.1 dX10_better_52 (by decide) (fun c17 => ?_) (fun c17 => ?_)
          · have E := o_pos c17 E
            refine aI_iload_n X.1 dX10_better_64 rfl ?_
            refine aI_goto (tgt := 69) X.1 dX10_better_65 (by decide) ?_
            exact aI_iret E (hret _ _ dX10_better_69)
          · have E := o_neg c17 E
            refine aI_iload_n X.1 dX10_better_55 rfl ?_
            refine aI_iload_n X.1 dX10_better_56 rfl ?_
            refine aI_iload_n X.1 dX10_better_57 rfl ?_
            obtain ⟨r19, h18, e20, E⟩ := o_callE E
            refine cv_X10_isNearer X (c_X10_isNearer e20) ml_10_243 (by decide) (by decide) (Nat.le_of_ble_eq_true rfl) dX10_better_58 ?_
            refine aI_if_eq (tgt := 68) X.1 dX10_better_61 (by decide) (fun c21 => ?_) (fun c21 => ?_)
            · have E := o_pos c21 E
              refine aI_iload_n X.1 dX10_better_68 rfl ?_
              exact aI_iret E (hret _ _ dX10_better_69)
            · have E := o_neg c21 E
              refine aI_iload_n X.1 dX10_better_64 rfl ?_
              refine aI_goto (tgt := 69) X.1 dX10_better_65 (by decide) ?_
              exact aI_iret E (hret _ _ dX10_better_69)
      · have E := o_pos c13 E
        refine aI_iload_n X.1 dX10_better_21 rfl ?_
        refine aI_iload_n X.1 dX10_better_22 rfl ?_
        refine aI_icmp_lt (tgt := 41) X.1 dX10_better_23 (by decide) (fun c22 => ?_) (fun c22 => ?_)
        · have E := o_pos c22 E
          refine aI_iconst (v := 0) X.1 dX10_better_41 (by decide) ?_
          refine aI_istore (lv2 := [some (.ref (q 0)), some (.int p1), some (.int p2), some (.int p3), some (.int p4), some (.int p5), some (.int (0 : Int32))]) X.1 dX10_better_42 (N 6 (by decide)) rfl ?_
          refine aI_iload X.1 dX10_better_44 rfl ?_
          refine aI_if_eq (tgt := 68) X.1 dX10_better_46 (by decide) (fun _ => ?_) (fun z => absurd z (by decide))
          refine aI_iload_n X.1 dX10_better_68 rfl ?_
          exact aI_iret E (hret _ _ dX10_better_69)
        · have E := o_neg c22 E
          refine aI_goto (tgt := 37) X.1 dX10_better_26 (by decide) ?_
          refine aI_iconst (v := 1) X.1 dX10_better_37 (by decide) ?_
          refine aI_goto (tgt := 42) X.1 dX10_better_38 (by decide) ?_
          refine aI_istore (lv2 := [some (.ref (q 0)), some (.int p1), some (.int p2), some (.int p3), some (.int p4), some (.int p5), some (.int (1 : Int32))]) X.1 dX10_better_42 (N 6 (by decide)) rfl ?_
          refine aI_iload X.1 dX10_better_44 rfl ?_
          refine aI_if_eq (tgt := 68) X.1 dX10_better_46 (by decide) (fun z => absurd z (by decide)) (fun _ => ?_)
          refine aI_iload_n X.1 dX10_better_49 rfl ?_
          refine aI_ldc X.1 dX10_better_50 kc_10_129 ?_
          refine aI_icmp_eq (tgt := 64) X.1 dX10_better_52 (by decide) (fun c25 => ?_) (fun c25 => ?_)
          · have E := o_pos c25 E
            refine aI_iload_n X.1 dX10_better_64 rfl ?_
            refine aI_goto (tgt := 69) X.1 dX10_better_65 (by decide) ?_
            exact aI_iret E (hret _ _ dX10_better_69)
          · have E := o_neg c25 E
            refine aI_iload_n X.1 dX10_better_55 rfl ?_
            refine aI_iload_n X.1 dX10_better_56 rfl ?_
            refine aI_iload_n X.1 dX10_better_57 rfl ?_
            obtain ⟨r27, h26, e28, E⟩ := o_callE E
            refine cv_X10_isNearer X (c_X10_isNearer e28) ml_10_243 (by decide) (by decide) (Nat.le_of_ble_eq_true rfl) dX10_better_58 ?_
            refine aI_if_eq (tgt := 68) X.1 dX10_better_61 (by decide) (fun c29 => ?_) (fun c29 => ?_)
            · have E := o_pos c29 E
              refine aI_iload_n X.1 dX10_better_68 rfl ?_
              exact aI_iret E (hret _ _ dX10_better_69)
            · have E := o_neg c29 E
              refine aI_iload_n X.1 dX10_better_64 rfl ?_
              refine aI_goto (tgt := 69) X.1 dX10_better_65 (by decide) ?_
              exact aI_iret E (hret _ _ dX10_better_69)
theorem c_X10_better {q : Nat → Nat} {p1 : Int32} {p2 : Int32} {p3 : Int32} {p4 : Int32} {p5 : Int32}  {r : Int32} {h2 : hp_T} {h : hp_T} (E : f_X10_better p1 p2 p3 p4 p5 h = some (r, h2)) : cI 1 yX10_better cX10_better 7 .int 2 47 q [.ref (q 0), .int p1, .int p2, .int p3, .int p4, .int p5] h r h2 := metI (own := RX10) (by decide) rfl (Nat.le_of_ble_eq_true rfl) rfl (fun Γ X N hret => w_X10_better X N hret E)
set_option maxRecDepth 4000 in
theorem w_X10_placeBy_L1 {Γ : g_T} {q : Nat → Nat}  {u1 : Int32} {u2 : Int32} {u3 : Int32}  {r : Int32} {h2 : hp_T} (X : aC 1 Γ q RX10 cX10_placeBy 3 73) (N : ∀ k, k < 6 → aN Γ k) (hret : ∀ pc lv, decode cX10_placeBy pc = .ok (.ireturn, 1) → aA Γ pc lv [.int r] h2) {K : Int32 → Int32 → hp_T → Option (Int32 × hp_T)} (hk : ∀ v4 v5 h, K v4 v5 h = some (r, h2) → aA Γ 117 [some (.ref (q 0)), some (.int u1), some (.int u2), some (.int u3), some (.int v4), some (.int v5)] [] h) : ∀ (n : Nat) (v4 : Int32) (v5 : Int32) (h : hp_T), f_X10_placeBy_L1 u1 u2 u3 K n v4 v5 h = some (r, h2) → aA Γ 54 [some (.ref (q 0)), some (.int u1), some (.int u2), some (.int u3), some (.int v4), some (.int v5)] [] h := by
  intro n
  induction n with
  | zero =>
    intro v4 v5 h E
    cases E
  | succ n ih =>
    intro v4 v5 h E
    rw [f_X10_placeBy_L1] at E
    refine aI_iload X.1 dX10_placeBy_54 rfl ?_
    refine aI_aload_n X.1 dX10_placeBy_56 rfl ?_
    refine gf_10_142 X dX10_placeBy_57 ?_
    refine aI_icmp_ge (tgt := 117) X.1 dX10_placeBy_60 (by decide) (fun c11 => ?_) (fun c11 => ?_)
    · have E := o_pos c11 E
      exact hk v4 v5 h E
    · have E := o_neg c11 E
      refine aI_aload_n X.1 dX10_placeBy_63 rfl ?_
      refine aI_iload X.1 dX10_placeBy_64 rfl ?_
      refine aI_aload_n X.1 dX10_placeBy_66 rfl ?_
      refine gf_10_29 X dX10_placeBy_67 ?_
      refine aI_aload_n X.1 dX10_placeBy_70 rfl ?_
      refine gf_10_44 X dX10_placeBy_71 ?_
      refine aI_iload X.1 dX10_placeBy_74 rfl ?_
      obtain ⟨g12, E⟩ := o_if E
      refine al1_12 X g12 dX10_placeBy_76 ?_
      obtain ⟨g13, E⟩ := o_if E
      refine al1_7 X g13 dX10_placeBy_77 ?_
      refine aI_iload_n X.1 dX10_placeBy_78 rfl ?_
      refine aI_iload_n X.1 dX10_placeBy_79 rfl ?_
      refine aI_iload_n X.1 dX10_placeBy_80 rfl ?_
      obtain ⟨r15, h14, e16, E⟩ := o_callE E
      refine cv_X10_better X (c_X10_better e16) ml_10_246 (by decide) (by decide) (Nat.le_of_ble_eq_true rfl) dX10_placeBy_81 ?_
      refine aI_istore (lv2 := [some (.ref (q 0)), some (.int u1), some (.int u2), some (.int u3), some (.int r15), some (.int v5)]) X.1 dX10_placeBy_84 (N 4 (by decide)) rfl ?_
      refine aI_aload_n X.1 dX10_placeBy_86 rfl ?_
      refine aI_iload X.1 dX10_placeBy_87 rfl ?_
      refine aI_aload_n X.1 dX10_placeBy_89 rfl ?_
      refine gf_10_26 X dX10_placeBy_90 ?_
      refine aI_aload_n X.1 dX10_placeBy_93 rfl ?_
      refine gf_10_44 X dX10_placeBy_94 ?_
      refine aI_iload X.1 dX10_placeBy_97 rfl ?_
      obtain ⟨g17, E⟩ := o_if E
      refine al1_12 X g17 dX10_placeBy_99 ?_
      obtain ⟨g18, E⟩ := o_if E
      refine al1_6 X g18 dX10_placeBy_100 ?_
      refine aI_iload_n X.1 dX10_placeBy_101 rfl ?_
      refine aI_isub X.1 dX10_placeBy_102 ?_
      refine aI_iload_n X.1 dX10_placeBy_103 rfl ?_
      refine aI_iload_n X.1 dX10_placeBy_104 rfl ?_
      refine aI_iload_n X.1 dX10_placeBy_105 rfl ?_
      obtain ⟨r20, h19, e21, E⟩ := o_callE E
      refine cv_X10_better X (c_X10_better e21) ml_10_246 (by decide) (by decide) (Nat.le_of_ble_eq_true rfl) dX10_placeBy_106 ?_
      refine aI_istore (lv2 := [some (.ref (q 0)), some (.int u1), some (.int u2), some (.int u3), some (.int r20), some (.int v5)]) X.1 dX10_placeBy_109 (N 4 (by decide)) rfl ?_
      obtain ⟨x22, ex22, E⟩ := o_letE E
      refine aI_iinc (v := 1) (lv2 := [some (.ref (q 0)), some (.int u1), some (.int u2), some (.int u3), some (.int r20), some (.int x22)]) X.1 dX10_placeBy_111 (N 5 (by decide)) rfl (by decide) (by rw [← ex22]; rfl) ?_
      refine aI_goto (tgt := 54) X.1 dX10_placeBy_114 (by decide) ?_
      exact ih r20 x22 h19 E
set_option maxRecDepth 4000 in
theorem w_X10_placeBy {Γ : g_T} {q : Nat → Nat} {p1 : Int32} {p2 : Int32} {p3 : Int32}  {r : Int32} {h2 : hp_T} {h : hp_T} (X : aC 1 Γ q RX10 cX10_placeBy 3 73) (N : ∀ k, k < 6 → aN Γ k) (hret : ∀ pc lv, decode cX10_placeBy pc = .ok (.ireturn, 1) → aA Γ pc lv [.int r] h2) (E : f_X10_placeBy p1 p2 p3 h = some (r, h2)) : aA Γ 0 [some (.ref (q 0)), some (.int p1), some (.int p2), some (.int p3), none, none] [] h := by
  unfold f_X10_placeBy at E
  refine aI_aload_n X.1 dX10_placeBy_0 rfl ?_
  refine aI_ldc X.1 dX10_placeBy_1 kc_10_129 ?_
  refine aI_iload_n X.1 dX10_placeBy_3 rfl ?_
  refine aI_iconst (v := 1) X.1 dX10_placeBy_4 (by decide) ?_
  refine aI_icmp_ne (tgt := 14) X.1 dX10_placeBy_5 (by decide) (fun c1 => ?_) (fun c1 => ?_)
  · have E := o_neg c1 E
    refine aI_iload_n X.1 dX10_placeBy_14 rfl ?_
    refine aI_iload_n X.1 dX10_placeBy_15 rfl ?_
    refine aI_iload_n X.1 dX10_placeBy_16 rfl ?_
    refine aI_iload_n X.1 dX10_placeBy_17 rfl ?_
    obtain ⟨r3, h2, e4, E⟩ := o_callE E
    refine cv_X10_better X (c_X10_better e4) ml_10_246 (by decide) (by decide) (Nat.le_of_ble_eq_true rfl) dX10_placeBy_18 ?_
    refine aI_istore (lv2 := [some (.ref (q 0)), some (.int p1), some (.int p2), some (.int p3), some (.int r3), none]) X.1 dX10_placeBy_21 (N 4 (by decide)) rfl ?_
    refine aI_aload_n X.1 dX10_placeBy_23 rfl ?_
    refine aI_iload X.1 dX10_placeBy_24 rfl ?_
    refine aI_ldc X.1 dX10_placeBy_26 kc_10_235 ?_
    refine aI_iload_n X.1 dX10_placeBy_28 rfl ?_
    refine aI_iload_n X.1 dX10_placeBy_29 rfl ?_
    refine aI_iload_n X.1 dX10_placeBy_30 rfl ?_
    obtain ⟨r6, h5, e7, E⟩ := o_callE E
    refine cv_X10_better X (c_X10_better e7) ml_10_246 (by decide) (by decide) (Nat.le_of_ble_eq_true rfl) dX10_placeBy_31 ?_
    refine aI_istore (lv2 := [some (.ref (q 0)), some (.int p1), some (.int p2), some (.int p3), some (.int r6), none]) X.1 dX10_placeBy_34 (N 4 (by decide)) rfl ?_
    refine aI_aload_n X.1 dX10_placeBy_36 rfl ?_
    refine aI_iload X.1 dX10_placeBy_37 rfl ?_
    refine aI_ldc X.1 dX10_placeBy_39 kc_10_236 ?_
    refine aI_iload_n X.1 dX10_placeBy_41 rfl ?_
    refine aI_isub X.1 dX10_placeBy_42 ?_
    refine aI_iload_n X.1 dX10_placeBy_43 rfl ?_
    refine aI_iload_n X.1 dX10_placeBy_44 rfl ?_
    refine aI_iload_n X.1 dX10_placeBy_45 rfl ?_
    obtain ⟨r9, h8, e10, E⟩ := o_callE E
    refine cv_X10_better X (c_X10_better e10) ml_10_246 (by decide) (by decide) (Nat.le_of_ble_eq_true rfl) dX10_placeBy_46 ?_
    refine aI_istore (lv2 := [some (.ref (q 0)), some (.int p1), some (.int p2), some (.int p3), some (.int r9), none]) X.1 dX10_placeBy_49 (N 4 (by decide)) rfl ?_
    refine aI_iconst (v := 0) X.1 dX10_placeBy_51 (by decide) ?_
    refine aI_istore (lv2 := [some (.ref (q 0)), some (.int p1), some (.int p2), some (.int p3), some (.int r9), some (.int (0 : Int32))]) X.1 dX10_placeBy_52 (N 5 (by decide)) rfl ?_
    refine w_X10_placeBy_L1  X N hret ?_ 100 r9 (0 : Int32) h8 E
    intro x23 x24 h25 E
    refine aI_iload X.1 dX10_placeBy_117 rfl ?_
    exact aI_iret E (hret _ _ dX10_placeBy_119)
  · have E := o_pos c1 E
    refine aI_iload_n X.1 dX10_placeBy_8 rfl ?_
    refine aI_iload_n X.1 dX10_placeBy_9 rfl ?_
    refine aI_isub X.1 dX10_placeBy_10 ?_
    refine aI_goto (tgt := 15) X.1 dX10_placeBy_11 (by decide) ?_
    refine aI_iload_n X.1 dX10_placeBy_15 rfl ?_
    refine aI_iload_n X.1 dX10_placeBy_16 rfl ?_
    refine aI_iload_n X.1 dX10_placeBy_17 rfl ?_
    obtain ⟨r27, h26, e28, E⟩ := o_callE E
    refine cv_X10_better X (c_X10_better e28) ml_10_246 (by decide) (by decide) (Nat.le_of_ble_eq_true rfl) dX10_placeBy_18 ?_
    refine aI_istore (lv2 := [some (.ref (q 0)), some (.int p1), some (.int p2), some (.int p3), some (.int r27), none]) X.1 dX10_placeBy_21 (N 4 (by decide)) rfl ?_
    refine aI_aload_n X.1 dX10_placeBy_23 rfl ?_
    refine aI_iload X.1 dX10_placeBy_24 rfl ?_
    refine aI_ldc X.1 dX10_placeBy_26 kc_10_235 ?_
    refine aI_iload_n X.1 dX10_placeBy_28 rfl ?_
    refine aI_iload_n X.1 dX10_placeBy_29 rfl ?_
    refine aI_iload_n X.1 dX10_placeBy_30 rfl ?_
    obtain ⟨r30, h29, e31, E⟩ := o_callE E
    refine cv_X10_better X (c_X10_better e31) ml_10_246 (by decide) (by decide) (Nat.le_of_ble_eq_true rfl) dX10_placeBy_31 ?_
    refine aI_istore (lv2 := [some (.ref (q 0)), some (.int p1), some (.int p2), some (.int p3), some (.int r30), none]) X.1 dX10_placeBy_34 (N 4 (by decide)) rfl ?_
    refine aI_aload_n X.1 dX10_placeBy_36 rfl ?_
    refine aI_iload X.1 dX10_placeBy_37 rfl ?_
    refine aI_ldc X.1 dX10_placeBy_39 kc_10_236 ?_
    refine aI_iload_n X.1 dX10_placeBy_41 rfl ?_
    refine aI_isub X.1 dX10_placeBy_42 ?_
    refine aI_iload_n X.1 dX10_placeBy_43 rfl ?_
    refine aI_iload_n X.1 dX10_placeBy_44 rfl ?_
    refine aI_iload_n X.1 dX10_placeBy_45 rfl ?_
    obtain ⟨r33, h32, e34, E⟩ := o_callE E
    refine cv_X10_better X (c_X10_better e34) ml_10_246 (by decide) (by decide) (Nat.le_of_ble_eq_true rfl) dX10_placeBy_46 ?_
    refine aI_istore (lv2 := [some (.ref (q 0)), some (.int p1), some (.int p2), some (.int p3), some (.int r33), none]) X.1 dX10_placeBy_49 (N 4 (by decide)) rfl ?_
    refine aI_iconst (v := 0) X.1 dX10_placeBy_51 (by decide) ?_
    refine aI_istore (lv2 := [some (.ref (q 0)), some (.int p1), some (.int p2), some (.int p3), some (.int r33), some (.int (0 : Int32))]) X.1 dX10_placeBy_52 (N 5 (by decide)) rfl ?_
    refine w_X10_placeBy_L1  X N hret ?_ 100 r33 (0 : Int32) h32 E
    intro x35 x36 h37 E
    refine aI_iload X.1 dX10_placeBy_117 rfl ?_
    exact aI_iret E (hret _ _ dX10_placeBy_119)
theorem c_X10_placeBy {q : Nat → Nat} {p1 : Int32} {p2 : Int32} {p3 : Int32}  {r : Int32} {h2 : hp_T} {h : hp_T} (E : f_X10_placeBy p1 p2 p3 h = some (r, h2)) : cI 1 yX10_placeBy cX10_placeBy 6 .int 3 73 q [.ref (q 0), .int p1, .int p2, .int p3] h r h2 := metI (own := RX10) (by decide) rfl (Nat.le_of_ble_eq_true rfl) rfl (fun Γ X N hret => w_X10_placeBy X N hret E)
set_option maxRecDepth 4000 in
theorem w_X10_place {Γ : g_T} {q : Nat → Nat} {p1 : Int32} {p2 : Int32} {p3 : Int32}  {r : Int32} {h2 : hp_T} {h : hp_T} (X : aC 1 Γ q RX10 cX10_place 4 98) (N : ∀ k, k < 4 → aN Γ k) (hret : ∀ pc lv, decode cX10_place pc = .ok (.ireturn, 1) → aA Γ pc lv [.int r] h2) (E : f_X10_place p1 p2 p3 h = some (r, h2)) : aA Γ 0 [some (.ref (q 0)), some (.int p1), some (.int p2), some (.int p3)] [] h := by
  unfold f_X10_place at E
  refine aI_aload_n X.1 dX10_place_0 rfl ?_
  obtain ⟨h1, e2, E⟩ := o_cvE E
  refine cv_X10_orders X (c_X10_orders e2) ml_10_188 (by decide) (by decide) (Nat.le_of_ble_eq_true rfl) dX10_place_1 ?_
  refine aI_iload_n X.1 dX10_place_4 rfl ?_
  obtain ⟨r4, h3, e5, E⟩ := o_callE E
  refine cv_X10_isPoint X (c_X10_isPoint e5) ml_10_136 (by decide) (by decide) (Nat.le_of_ble_eq_true rfl) dX10_place_5 ?_
  refine aI_if_eq (tgt := 45) X.1 dX10_place_8 (by decide) (fun c6 => ?_) (fun c6 => ?_)
  · have E := o_pos c6 E
    refine aI_ldc X.1 dX10_place_45 kc_10_129 ?_
    exact aI_iret E (hret _ _ dX10_place_47)
  · have E := o_neg c6 E
    refine aI_iload_n X.1 dX10_place_11 rfl ?_
    refine aI_i2l X.1 dX10_place_12 ?_
    refine aI_lconst (v := 1) X.1 dX10_place_13 (by decide) ?_
    refine aI_ldc2 X.1 dX10_place_14 kl_10_134 ?_
    obtain ⟨r8, h7, e9, E⟩ := o_callE E
    refine cv_X10_in X (c_X10_in e9) ml_10_101 (by decide) (by decide) (Nat.le_of_ble_eq_true rfl) dX10_place_17 ?_
    refine aI_if_eq (tgt := 45) X.1 dX10_place_20 (by decide) (fun c10 => ?_) (fun c10 => ?_)
    · have E := o_pos c10 E
      refine aI_ldc X.1 dX10_place_45 kc_10_129 ?_
      exact aI_iret E (hret _ _ dX10_place_47)
    · have E := o_neg c10 E
      refine aI_iload_n X.1 dX10_place_23 rfl ?_
      refine aI_i2l X.1 dX10_place_24 ?_
      refine aI_lconst (v := 0) X.1 dX10_place_25 (by decide) ?_
      refine aI_ldc2 X.1 dX10_place_26 kl_10_115 ?_
      obtain ⟨r12, h11, e13, E⟩ := o_callE E
      refine cv_X10_in X (c_X10_in e13) ml_10_101 (by decide) (by decide) (Nat.le_of_ble_eq_true rfl) dX10_place_29 ?_
      refine aI_if_eq (tgt := 45) X.1 dX10_place_32 (by decide) (fun c14 => ?_) (fun c14 => ?_)
      · have E := o_pos c14 E
        refine aI_ldc X.1 dX10_place_45 kc_10_129 ?_
        exact aI_iret E (hret _ _ dX10_place_47)
      · have E := o_neg c14 E
        refine aI_aload_n X.1 dX10_place_35 rfl ?_
        refine aI_iload_n X.1 dX10_place_36 rfl ?_
        refine aI_iload_n X.1 dX10_place_37 rfl ?_
        refine aI_iload_n X.1 dX10_place_38 rfl ?_
        obtain ⟨r16, h15, e17, E⟩ := o_callE E
        refine cv_X10_placeBy X (c_X10_placeBy e17) ml_10_250 (by decide) (by decide) (Nat.le_of_ble_eq_true rfl) dX10_place_39 ?_
        refine aI_goto (tgt := 47) X.1 dX10_place_42 (by decide) ?_
        exact aI_iret E (hret _ _ dX10_place_47)
theorem c_X10_place {q : Nat → Nat} {p1 : Int32} {p2 : Int32} {p3 : Int32}  {r : Int32} {h2 : hp_T} {h : hp_T} (E : f_X10_place p1 p2 p3 h = some (r, h2)) : cI 1 yX10_place cX10_place 4 .int 4 98 q [.ref (q 0), .int p1, .int p2, .int p3] h r h2 := metI (own := RX10) (by decide) rfl (Nat.le_of_ble_eq_true rfl) rfl (fun Γ X N hret => w_X10_place X N hret E)
set_option maxRecDepth 4000 in
theorem w_X10_deepest_L1 {Γ : g_T} {q : Nat → Nat}  {u1 : Int32}  {r : Int32} {h2 : hp_T} (X : aC 1 Γ q RX10 cX10_deepest 2 49) (N : ∀ k, k < 7 → aN Γ k) (hret : ∀ pc lv, decode cX10_deepest pc = .ok (.ireturn, 1) → aA Γ pc lv [.int r] h2) {K : Int32 → Int32 → Int32 → hp_T → Option (Int32 × hp_T)} (hk : ∀ v2 v3 v4 h, K v2 v3 v4 h = some (r, h2) → aA Γ 70 [some (.ref (q 0)), some (.int u1), some (.int v2), some (.int v3), some (.int v4), none, none] [] h) : ∀ (n : Nat) (v2 : Int32) (v3 : Int32) (v4 : Int32) (h : hp_T), f_X10_deepest_L1 K n v2 v3 v4 h = some (r, h2) → aA Γ 8 [some (.ref (q 0)), some (.int u1), some (.int v2), some (.int v3), some (.int v4), none, none] [] h := by
  intro n
  induction n with
  | zero =>
    intro v2 v3 v4 h E
    cases E
  | succ n ih =>
    intro v2 v3 v4 h E
    rw [f_X10_deepest_L1] at E
    refine aI_iload X.1 dX10_deepest_8 rfl ?_
    refine aI_aload_n X.1 dX10_deepest_10 rfl ?_
    refine gf_10_142 X dX10_deepest_11 ?_
    refine aI_icmp_ge (tgt := 70) X.1 dX10_deepest_14 (by decide) (fun c1 => ?_) (fun c1 => ?_)
    · have E := o_pos c1 E
      exact hk v2 v3 v4 h E
    · have E := o_neg c1 E
      refine aI_aload_n X.1 dX10_deepest_17 rfl ?_
      refine gf_10_26 X dX10_deepest_18 ?_
      refine aI_aload_n X.1 dX10_deepest_21 rfl ?_
      refine gf_10_44 X dX10_deepest_22 ?_
      refine aI_iload X.1 dX10_deepest_25 rfl ?_
      obtain ⟨g2, E⟩ := o_if E
      refine al1_12 X g2 dX10_deepest_27 ?_
      obtain ⟨g3, E⟩ := o_if E
      refine al1_6 X g3 dX10_deepest_28 ?_
      obtain ⟨x4, ex4, E⟩ := o_letE E
      refine aI_eqi ex4 ?_
      refine aI_istore (lv2 := [some (.ref (q 0)), some (.int u1), some (.int v2), some (.int v3), some (.int v4), some (.int x4), none]) X.1 dX10_deepest_29 (N 5 (by decide)) rfl ?_
      refine aI_aload_n X.1 dX10_deepest_31 rfl ?_
      refine aI_iload X.1 dX10_deepest_32 rfl ?_
      refine aI_iload X.1 dX10_deepest_34 rfl ?_
      refine aI_iconst (v := 1) X.1 dX10_deepest_36 (by decide) ?_
      refine aI_iadd X.1 dX10_deepest_37 ?_
      refine aI_iconst (v := -1) X.1 dX10_deepest_38 (by decide) ?_
      obtain ⟨r6, h5, e7, E⟩ := o_callE E
      refine cv_X10_meetsBy X (c_X10_meetsBy e7) ml_10_221 (by decide) (by decide) (Nat.le_of_ble_eq_true rfl) dX10_deepest_39 ?_
      refine aI_istore (lv2 := [some (.ref (q 0)), some (.int u1), some (.int v2), some (.int v3), some (.int v4), some (.int x4), some (.int r6)]) X.1 dX10_deepest_42 (N 6 (by decide)) rfl ?_
      refine aI_iload X.1 dX10_deepest_44 rfl ?_
      refine aI_iload_n X.1 dX10_deepest_46 rfl ?_
      refine aI_icmp_le (tgt := 55) X.1 dX10_deepest_47 (by decide) (fun c8 => ?_) (fun c8 => ?_)
      · have E := o_pos c8 E
        refine aI_iload_n X.1 dX10_deepest_55 rfl ?_
        refine aI_istore_n (lv2 := [some (.ref (q 0)), some (.int u1), some (.int v2), some (.int v3), some (.int v4), some (.int x4), some (.int r6)]) X.1 dX10_deepest_56 (N 3 (by decide)) rfl ?_
        refine aI_iload X.1 dX10_deepest_57 rfl ?_
        refine aI_iload_n X.1 dX10_deepest_59 rfl ?_
        obtain ⟨r10, h9, e11, E⟩ := o_callE E
        refine cv_X10_greater X (c_X10_greater e11) ml_10_198 (by decide) (by decide) (Nat.le_of_ble_eq_true rfl) dX10_deepest_60 ?_
        refine aI_istore_n (lv2 := [some (.ref (q 0)), some (.int u1), some (.int r10), some (.int v3), some (.int v4), some (.int x4), some (.int r6)]) X.1 dX10_deepest_63 (N 2 (by decide)) rfl ?_
        obtain ⟨x12, ex12, E⟩ := o_letE E
        refine aI_iinc (v := 1) (lv2 := [some (.ref (q 0)), some (.int u1), some (.int r10), some (.int v3), some (.int x12), some (.int x4), some (.int r6)]) X.1 dX10_deepest_64 (N 4 (by decide)) rfl (by decide) (by rw [← ex12]; rfl) ?_
        refine aI_goto (tgt := 8) X.1 dX10_deepest_67 (by decide) ?_
        refine aI_lv [true, true, true, true, true, false, false] (lv2 := [some (.ref (q 0)), some (.int u1), some (.int r10), some (.int v3), some (.int x12), none, none]) rfl ?_
        exact ih r10 v3 x12 h9 E
      · have E := o_neg c8 E
        refine aI_iload X.1 dX10_deepest_50 rfl ?_
        refine aI_goto (tgt := 56) X.1 dX10_deepest_52 (by decide) ?_
        refine aI_istore_n (lv2 := [some (.ref (q 0)), some (.int u1), some (.int v2), some (.int x4), some (.int v4), some (.int x4), some (.int r6)]) X.1 dX10_deepest_56 (N 3 (by decide)) rfl ?_
        refine aI_iload X.1 dX10_deepest_57 rfl ?_
        refine aI_iload_n X.1 dX10_deepest_59 rfl ?_
        obtain ⟨r14, h13, e15, E⟩ := o_callE E
        refine cv_X10_greater X (c_X10_greater e15) ml_10_198 (by decide) (by decide) (Nat.le_of_ble_eq_true rfl) dX10_deepest_60 ?_
        refine aI_istore_n (lv2 := [some (.ref (q 0)), some (.int u1), some (.int r14), some (.int x4), some (.int v4), some (.int x4), some (.int r6)]) X.1 dX10_deepest_63 (N 2 (by decide)) rfl ?_
        obtain ⟨x16, ex16, E⟩ := o_letE E
        refine aI_iinc (v := 1) (lv2 := [some (.ref (q 0)), some (.int u1), some (.int r14), some (.int x4), some (.int x16), some (.int x4), some (.int r6)]) X.1 dX10_deepest_64 (N 4 (by decide)) rfl (by decide) (by rw [← ex16]; rfl) ?_
        refine aI_goto (tgt := 8) X.1 dX10_deepest_67 (by decide) ?_
        refine aI_lv [true, true, true, true, true, false, false] (lv2 := [some (.ref (q 0)), some (.int u1), some (.int r14), some (.int x4), some (.int x16), none, none]) rfl ?_
        exact ih r14 x4 x16 h13 E
set_option maxRecDepth 4000 in
theorem w_X10_deepest {Γ : g_T} {q : Nat → Nat} {p1 : Int32}  {r : Int32} {h2 : hp_T} {h : hp_T} (X : aC 1 Γ q RX10 cX10_deepest 2 49) (N : ∀ k, k < 7 → aN Γ k) (hret : ∀ pc lv, decode cX10_deepest pc = .ok (.ireturn, 1) → aA Γ pc lv [.int r] h2) (E : f_X10_deepest p1 h = some (r, h2)) : aA Γ 0 [some (.ref (q 0)), some (.int p1), none, none, none, none, none] [] h := by
  unfold f_X10_deepest at E
  refine aI_iconst (v := 0) X.1 dX10_deepest_0 (by decide) ?_
  refine aI_istore_n (lv2 := [some (.ref (q 0)), some (.int p1), some (.int (0 : Int32)), none, none, none, none]) X.1 dX10_deepest_1 (N 2 (by decide)) rfl ?_
  refine aI_ldc X.1 dX10_deepest_2 kc_10_129 ?_
  refine aI_istore_n (lv2 := [some (.ref (q 0)), some (.int p1), some (.int (0 : Int32)), some (.int (-2147483648 : Int32)), none, none, none]) X.1 dX10_deepest_4 (N 3 (by decide)) rfl ?_
  refine aI_iconst (v := 0) X.1 dX10_deepest_5 (by decide) ?_
  refine aI_istore (lv2 := [some (.ref (q 0)), some (.int p1), some (.int (0 : Int32)), some (.int (-2147483648 : Int32)), some (.int (0 : Int32)), none, none]) X.1 dX10_deepest_6 (N 4 (by decide)) rfl ?_
  refine w_X10_deepest_L1  X N hret ?_ 100 (0 : Int32) (-2147483648 : Int32) (0 : Int32) h E
  intro x17 x18 x19 h20 E
  refine aI_iload_n X.1 dX10_deepest_70 rfl ?_
  refine aI_if_ne (tgt := 78) X.1 dX10_deepest_71 (by decide) (fun c21 => ?_) (fun c21 => ?_)
  · have E := o_neg c21 E
    refine aI_iload_n X.1 dX10_deepest_78 rfl ?_
    exact aI_iret E (hret _ _ dX10_deepest_79)
  · have E := o_pos c21 E
    refine aI_iload_n X.1 dX10_deepest_74 rfl ?_
    refine aI_goto (tgt := 79) X.1 dX10_deepest_75 (by decide) ?_
    exact aI_iret E (hret _ _ dX10_deepest_79)
theorem c_X10_deepest {q : Nat → Nat} {p1 : Int32}  {r : Int32} {h2 : hp_T} {h : hp_T} (E : f_X10_deepest p1 h = some (r, h2)) : cI 1 yX10_deepest cX10_deepest 7 .int 2 49 q [.ref (q 0), .int p1] h r h2 := metI (own := RX10) (by decide) rfl (Nat.le_of_ble_eq_true rfl) rfl (fun Γ X N hret => w_X10_deepest X N hret E)
set_option maxRecDepth 4000 in
theorem w_X10_deep {Γ : g_T} {q : Nat → Nat}   {r : Int32} {h2 : hp_T} {h : hp_T} (X : aC 1 Γ q RX10 cX10_deep 3 75) (N : ∀ k, k < 1 → aN Γ k) (hret : ∀ pc lv, decode cX10_deep pc = .ok (.ireturn, 1) → aA Γ pc lv [.int r] h2) (E : f_X10_deep  h = some (r, h2)) : aA Γ 0 [some (.ref (q 0))] [] h := by
  unfold f_X10_deep at E
  refine aI_aload_n X.1 dX10_deep_0 rfl ?_
  obtain ⟨h1, e2, E⟩ := o_cvE E
  refine cv_X10_orders X (c_X10_orders e2) ml_10_188 (by decide) (by decide) (Nat.le_of_ble_eq_true rfl) dX10_deep_1 ?_
  refine aI_aload_n X.1 dX10_deep_4 rfl ?_
  refine aI_iconst (v := 0) X.1 dX10_deep_5 (by decide) ?_
  obtain ⟨r4, h3, e5, E⟩ := o_callE E
  refine cv_X10_deepest X (c_X10_deepest e5) ml_10_253 (by decide) (by decide) (Nat.le_of_ble_eq_true rfl) dX10_deep_6 ?_
  exact aI_iret E (hret _ _ dX10_deep_9)
theorem c_X10_deep {q : Nat → Nat}   {r : Int32} {h2 : hp_T} {h : hp_T} (E : f_X10_deep  h = some (r, h2)) : cI 1 yX10_deep cX10_deep 1 .int 3 75 q [.ref (q 0)] h r h2 := metI (own := RX10) (by decide) rfl (Nat.le_of_ble_eq_true rfl) rfl (fun Γ X N hret => w_X10_deep X N hret E)
set_option maxRecDepth 4000 in
theorem w_X10_point {Γ : g_T} {q : Nat → Nat}   {r : Int32} {h2 : hp_T} {h : hp_T} (X : aC 1 Γ q RX10 cX10_point 3 75) (N : ∀ k, k < 1 → aN Γ k) (hret : ∀ pc lv, decode cX10_point pc = .ok (.ireturn, 1) → aA Γ pc lv [.int r] h2) (E : f_X10_point  h = some (r, h2)) : aA Γ 0 [some (.ref (q 0))] [] h := by
  unfold f_X10_point at E
  refine aI_aload_n X.1 dX10_point_0 rfl ?_
  obtain ⟨h1, e2, E⟩ := o_cvE E
  refine cv_X10_orders X (c_X10_orders e2) ml_10_188 (by decide) (by decide) (Nat.le_of_ble_eq_true rfl) dX10_point_1 ?_
  refine aI_aload_n X.1 dX10_point_4 rfl ?_
  refine aI_iconst (v := 1) X.1 dX10_point_5 (by decide) ?_
  obtain ⟨r4, h3, e5, E⟩ := o_callE E
  refine cv_X10_deepest X (c_X10_deepest e5) ml_10_253 (by decide) (by decide) (Nat.le_of_ble_eq_true rfl) dX10_point_6 ?_
  exact aI_iret E (hret _ _ dX10_point_9)
theorem c_X10_point {q : Nat → Nat}   {r : Int32} {h2 : hp_T} {h : hp_T} (E : f_X10_point  h = some (r, h2)) : cI 1 yX10_point cX10_point 1 .int 3 75 q [.ref (q 0)] h r h2 := metI (own := RX10) (by decide) rfl (Nat.le_of_ble_eq_true rfl) rfl (fun Γ X N hret => w_X10_point X N hret E)
set_option maxRecDepth 4000 in
theorem w_X10_meetsRank {Γ : g_T} {q : Nat → Nat} {p1 : Int32} {p2 : Int32}  {r : Int32} {h2 : hp_T} {h : hp_T} (X : aC 1 Γ q RX10 cX10_meetsRank 1 23) (N : ∀ k, k < 3 → aN Γ k) (hret : ∀ pc lv, decode cX10_meetsRank pc = .ok (.ireturn, 1) → bz r = true → aA Γ pc lv [.int r] h2) (E : f_X10_meetsRank p1 p2 h = some (r, h2)) : aA Γ 0 [some (.ref (q 0)), some (.int p1), some (.int p2)] [] h := by
  unfold f_X10_meetsRank at E
  refine aI_aload_n X.1 dX10_meetsRank_0 rfl ?_
  refine aI_aload_n X.1 dX10_meetsRank_1 rfl ?_
  refine gf_10_44 X dX10_meetsRank_2 ?_
  refine aI_iload_n X.1 dX10_meetsRank_5 rfl ?_
  obtain ⟨g1, E⟩ := o_if E
  refine al1_12 X g1 dX10_meetsRank_6 ?_
  refine aI_aload_n X.1 dX10_meetsRank_7 rfl ?_
  refine gf_10_26 X dX10_meetsRank_8 ?_
  refine aI_aload_n X.1 dX10_meetsRank_11 rfl ?_
  refine gf_10_44 X dX10_meetsRank_12 ?_
  refine aI_iload_n X.1 dX10_meetsRank_15 rfl ?_
  obtain ⟨g2, E⟩ := o_if E
  refine al1_12 X g2 dX10_meetsRank_16 ?_
  obtain ⟨g3, E⟩ := o_if E
  refine al1_6 X g3 dX10_meetsRank_17 ?_
  refine aI_aload_n X.1 dX10_meetsRank_18 rfl ?_
  refine gf_10_29 X dX10_meetsRank_19 ?_
  refine aI_aload_n X.1 dX10_meetsRank_22 rfl ?_
  refine gf_10_44 X dX10_meetsRank_23 ?_
  refine aI_iload_n X.1 dX10_meetsRank_26 rfl ?_
  obtain ⟨g4, E⟩ := o_if E
  refine al1_12 X g4 dX10_meetsRank_27 ?_
  obtain ⟨g5, E⟩ := o_if E
  refine al1_7 X g5 dX10_meetsRank_28 ?_
  obtain ⟨r7, h6, e8, E⟩ := o_callE E
  refine cv_X10_isMet X (c_X10_isMet e8) ml_10_215 (by decide) (by decide) (Nat.le_of_ble_eq_true rfl) dX10_meetsRank_29 ?_
  obtain ⟨g9, E⟩ := o_if E
  exact aI_zret g9 E (hret _ _ dX10_meetsRank_32)
theorem c_X10_meetsRank {q : Nat → Nat} {p1 : Int32} {p2 : Int32}  {r : Int32} {h2 : hp_T} {h : hp_T} (E : f_X10_meetsRank p1 p2 h = some (r, h2)) : cI 1 yX10_meetsRank cX10_meetsRank 3 .boolean 1 23 q [.ref (q 0), .int p1, .int p2] h r h2 := metZ (own := RX10) (by decide) rfl (Nat.le_of_ble_eq_true rfl) rfl (fun Γ X N hret => w_X10_meetsRank X N hret E)
set_option maxRecDepth 4000 in
theorem w_X10_isUsed_L1 {Γ : g_T} {q : Nat → Nat}  {u1 : Int32} {u2 : Int32}  {r : Int32} {h2 : hp_T} (X : aC 1 Γ q RX10 cX10_isUsed 2 45) (N : ∀ k, k < 5 → aN Γ k) (hret : ∀ pc lv, decode cX10_isUsed pc = .ok (.ireturn, 1) → bz r = true → aA Γ pc lv [.int r] h2) {K : Int32 → Int32 → hp_T → Option (Int32 × hp_T)} (hk : ∀ v3 v4 h, K v3 v4 h = some (r, h2) → aA Γ 48 [some (.ref (q 0)), some (.int u1), some (.int u2), some (.int v3), some (.int v4)] [] h) : ∀ (n : Nat) (v3 : Int32) (v4 : Int32) (h : hp_T), f_X10_isUsed_L1 u1 u2 K n v3 v4 h = some (r, h2) → aA Γ 5 [some (.ref (q 0)), some (.int u1), some (.int u2), some (.int v3), some (.int v4)] [] h := by
  intro n
  induction n with
  | zero =>
    intro v3 v4 h E
    cases E
  | succ n ih =>
    intro v3 v4 h E
    rw [f_X10_isUsed_L1] at E
    refine aI_iload X.1 dX10_isUsed_5 rfl ?_
    refine aI_iload_n X.1 dX10_isUsed_7 rfl ?_
    refine aI_icmp_ge (tgt := 48) X.1 dX10_isUsed_8 (by decide) (fun c1 => ?_) (fun c1 => ?_)
    · have E := o_pos c1 E
      exact hk v3 v4 h E
    · have E := o_neg c1 E
      refine aI_iload_n X.1 dX10_isUsed_11 rfl ?_
      refine aI_if_ne (tgt := 36) X.1 dX10_isUsed_12 (by decide) (fun c2 => ?_) (fun c2 => ?_)
      · have E := o_neg c2 E
        refine aI_iconst (v := 1) X.1 dX10_isUsed_36 (by decide) ?_
        refine aI_goto (tgt := 41) X.1 dX10_isUsed_37 (by decide) ?_
        refine aI_istore_n (lv2 := [some (.ref (q 0)), some (.int u1), some (.int u2), some (.int (1 : Int32)), some (.int v4)]) X.1 dX10_isUsed_41 (N 3 (by decide)) rfl ?_
        obtain ⟨x3, ex3, E⟩ := o_letE E
        refine aI_iinc (v := 1) (lv2 := [some (.ref (q 0)), some (.int u1), some (.int u2), some (.int (1 : Int32)), some (.int x3)]) X.1 dX10_isUsed_42 (N 4 (by decide)) rfl (by decide) (by rw [← ex3]; rfl) ?_
        refine aI_goto (tgt := 5) X.1 dX10_isUsed_45 (by decide) ?_
        exact ih (1 : Int32) x3 h E
      · have E := o_pos c2 E
        refine aI_aload_n X.1 dX10_isUsed_15 rfl ?_
        refine gf_10_89 X dX10_isUsed_16 ?_
        refine aI_iload X.1 dX10_isUsed_19 rfl ?_
        obtain ⟨g4, E⟩ := o_if E
        refine al1_27 X g4 dX10_isUsed_21 ?_
        refine aI_iload_n X.1 dX10_isUsed_22 rfl ?_
        refine aI_icmp_ne (tgt := 40) X.1 dX10_isUsed_23 (by decide) (fun c5 => ?_) (fun c5 => ?_)
        · have E := o_neg c5 E
          refine aI_iconst (v := 0) X.1 dX10_isUsed_40 (by decide) ?_
          refine aI_istore_n (lv2 := [some (.ref (q 0)), some (.int u1), some (.int u2), some (.int (0 : Int32)), some (.int v4)]) X.1 dX10_isUsed_41 (N 3 (by decide)) rfl ?_
          obtain ⟨x6, ex6, E⟩ := o_letE E
          refine aI_iinc (v := 1) (lv2 := [some (.ref (q 0)), some (.int u1), some (.int u2), some (.int (0 : Int32)), some (.int x6)]) X.1 dX10_isUsed_42 (N 4 (by decide)) rfl (by decide) (by rw [← ex6]; rfl) ?_
          refine aI_goto (tgt := 5) X.1 dX10_isUsed_45 (by decide) ?_
          exact ih (0 : Int32) x6 h E
        · have E := o_pos c5 E
          refine aI_aload_n X.1 dX10_isUsed_26 rfl ?_
          refine aI_iload X.1 dX10_isUsed_27 rfl ?_
          refine aI_iload_n X.1 dX10_isUsed_29 rfl ?_
          obtain ⟨r8, h7, e9, E⟩ := o_callE E
          refine cv_X10_meetsRank X (c_X10_meetsRank e9) ml_10_256 (by decide) (by decide) (Nat.le_of_ble_eq_true rfl) dX10_isUsed_30 ?_
          refine aI_if_eq (tgt := 40) X.1 dX10_isUsed_33 (by decide) (fun c10 => ?_) (fun c10 => ?_)
          · have E := o_pos c10 E
            refine aI_iconst (v := 0) X.1 dX10_isUsed_40 (by decide) ?_
            refine aI_istore_n (lv2 := [some (.ref (q 0)), some (.int u1), some (.int u2), some (.int (0 : Int32)), some (.int v4)]) X.1 dX10_isUsed_41 (N 3 (by decide)) rfl ?_
            obtain ⟨x11, ex11, E⟩ := o_letE E
            refine aI_iinc (v := 1) (lv2 := [some (.ref (q 0)), some (.int u1), some (.int u2), some (.int (0 : Int32)), some (.int x11)]) X.1 dX10_isUsed_42 (N 4 (by decide)) rfl (by decide) (by rw [← ex11]; rfl) ?_
            refine aI_goto (tgt := 5) X.1 dX10_isUsed_45 (by decide) ?_
            exact ih (0 : Int32) x11 h7 E
          · have E := o_neg c10 E
            refine aI_iconst (v := 1) X.1 dX10_isUsed_36 (by decide) ?_
            refine aI_goto (tgt := 41) X.1 dX10_isUsed_37 (by decide) ?_
            refine aI_istore_n (lv2 := [some (.ref (q 0)), some (.int u1), some (.int u2), some (.int (1 : Int32)), some (.int v4)]) X.1 dX10_isUsed_41 (N 3 (by decide)) rfl ?_
            obtain ⟨x12, ex12, E⟩ := o_letE E
            refine aI_iinc (v := 1) (lv2 := [some (.ref (q 0)), some (.int u1), some (.int u2), some (.int (1 : Int32)), some (.int x12)]) X.1 dX10_isUsed_42 (N 4 (by decide)) rfl (by decide) (by rw [← ex12]; rfl) ?_
            refine aI_goto (tgt := 5) X.1 dX10_isUsed_45 (by decide) ?_
            exact ih (1 : Int32) x12 h7 E
set_option maxRecDepth 4000 in
theorem w_X10_isUsed {Γ : g_T} {q : Nat → Nat} {p1 : Int32} {p2 : Int32}  {r : Int32} {h2 : hp_T} {h : hp_T} (X : aC 1 Γ q RX10 cX10_isUsed 2 45) (N : ∀ k, k < 5 → aN Γ k) (hret : ∀ pc lv, decode cX10_isUsed pc = .ok (.ireturn, 1) → bz r = true → aA Γ pc lv [.int r] h2) (E : f_X10_isUsed p1 p2 h = some (r, h2)) : aA Γ 0 [some (.ref (q 0)), some (.int p1), some (.int p2), none, none] [] h := by
  unfold f_X10_isUsed at E
  refine aI_iconst (v := 0) X.1 dX10_isUsed_0 (by decide) ?_
  refine aI_istore_n (lv2 := [some (.ref (q 0)), some (.int p1), some (.int p2), some (.int (0 : Int32)), none]) X.1 dX10_isUsed_1 (N 3 (by decide)) rfl ?_
  refine aI_iconst (v := 0) X.1 dX10_isUsed_2 (by decide) ?_
  refine aI_istore (lv2 := [some (.ref (q 0)), some (.int p1), some (.int p2), some (.int (0 : Int32)), some (.int (0 : Int32))]) X.1 dX10_isUsed_3 (N 4 (by decide)) rfl ?_
  refine w_X10_isUsed_L1  X N hret ?_ 100 (0 : Int32) (0 : Int32) h E
  intro x13 x14 h15 E
  refine aI_iload_n X.1 dX10_isUsed_48 rfl ?_
  obtain ⟨g16, E⟩ := o_if E
  exact aI_zret g16 E (hret _ _ dX10_isUsed_49)
theorem c_X10_isUsed {q : Nat → Nat} {p1 : Int32} {p2 : Int32}  {r : Int32} {h2 : hp_T} {h : hp_T} (E : f_X10_isUsed p1 p2 h = some (r, h2)) : cI 1 yX10_isUsed cX10_isUsed 5 .boolean 2 45 q [.ref (q 0), .int p1, .int p2] h r h2 := metZ (own := RX10) (by decide) rfl (Nat.le_of_ble_eq_true rfl) rfl (fun Γ X N hret => w_X10_isUsed X N hret E)
set_option maxRecDepth 4000 in
theorem w_X10_gives_L2 {Γ : g_T} {q : Nat → Nat}  {u1 : Int32} {u2 : Int32}  {r : Int32} {h2 : hp_T} (X : aC 1 Γ q RX10 cX10_gives 3 69) (N : ∀ k, k < 3 → aN Γ k) (hret : ∀ pc lv, decode cX10_gives pc = .ok (.ireturn, 1) → aA Γ pc lv [.int r] h2) {K : hp_T → Option (Int32 × hp_T)} (hk : ∀ h, K h = some (r, h2) → aA Γ 46 [some (.ref (q 0)), some (.int u1), some (.int u2)] [] h) : ∀ (n : Nat)  (h : hp_T), f_X10_gives_L2 u2 K n  h = some (r, h2) → aA Γ 19 [some (.ref (q 0)), some (.int u1), some (.int u2)] [] h := by
  intro n
  induction n with
  | zero =>
    intro  h E
    cases E
  | succ n ih =>
    intro  h E
    rw [f_X10_gives_L2] at E
    refine aI_aload_n X.1 dX10_gives_19 rfl ?_
    refine aI_iload_n X.1 dX10_gives_20 rfl ?_
    refine aI_aload_n X.1 dX10_gives_21 rfl ?_
    refine gf_10_89 X dX10_gives_22 ?_
    refine aI_iload_n X.1 dX10_gives_25 rfl ?_
    obtain ⟨g4, E⟩ := o_if E
    refine al1_27 X g4 dX10_gives_26 ?_
    obtain ⟨r6, h5, e7, E⟩ := o_callE E
    refine cv_X10_isUsed X (c_X10_isUsed e7) ml_10_259 (by decide) (by decide) (Nat.le_of_ble_eq_true rfl) dX10_gives_27 ?_
    refine aI_if_eq (tgt := 46) X.1 dX10_gives_30 (by decide) (fun c8 => ?_) (fun c8 => ?_)
    · have E := o_pos c8 E
      exact hk  h5 E
    · have E := o_neg c8 E
      refine aI_aload_n X.1 dX10_gives_33 rfl ?_
      refine gf_10_89 X dX10_gives_34 ?_
      refine aI_iload_n X.1 dX10_gives_37 rfl ?_
      refine aI_dup2 X.1 dX10_gives_38 rfl rfl ?_
      obtain ⟨g9, E⟩ := o_if E
      refine al1_27 X g9 dX10_gives_39 ?_
      refine aI_iconst (v := 1) X.1 dX10_gives_40 (by decide) ?_
      refine aI_iadd X.1 dX10_gives_41 ?_
      obtain ⟨g10, E⟩ := o_if E
      obtain ⟨h11, eh11, E⟩ := o_letE E
      refine as1_27 X g10 dX10_gives_42 (aI_eqh eh11 ?_)
      refine aI_goto (tgt := 19) X.1 dX10_gives_43 (by decide) ?_
      exact ih  h11 E
set_option maxRecDepth 4000 in
theorem w_X10_gives_L1 {Γ : g_T} {q : Nat → Nat}    {r : Int32} {h2 : hp_T} (X : aC 1 Γ q RX10 cX10_gives 3 69) (N : ∀ k, k < 3 → aN Γ k) (hret : ∀ pc lv, decode cX10_gives pc = .ok (.ireturn, 1) → aA Γ pc lv [.int r] h2) {K : Int32 → Int32 → hp_T → Option (Int32 × hp_T)} (hk : ∀ v1 v2 h, K v1 v2 h = some (r, h2) → aA Γ 65 [some (.ref (q 0)), some (.int v1), some (.int v2)] [] h) : ∀ (n : Nat) (v1 : Int32) (v2 : Int32) (h : hp_T), f_X10_gives_L1 K n v1 v2 h = some (r, h2) → aA Γ 4 [some (.ref (q 0)), some (.int v1), some (.int v2)] [] h := by
  intro n
  induction n with
  | zero =>
    intro v1 v2 h E
    cases E
  | succ n ih =>
    intro v1 v2 h E
    rw [f_X10_gives_L1] at E
    refine aI_iload_n X.1 dX10_gives_4 rfl ?_
    refine aI_aload_n X.1 dX10_gives_5 rfl ?_
    refine gf_10_142 X dX10_gives_6 ?_
    refine aI_icmp_ge (tgt := 65) X.1 dX10_gives_9 (by decide) (fun c1 => ?_) (fun c1 => ?_)
    · have E := o_pos c1 E
      exact hk v1 v2 h E
    · have E := o_neg c1 E
      refine aI_aload_n X.1 dX10_gives_12 rfl ?_
      refine gf_10_89 X dX10_gives_13 ?_
      refine aI_iload_n X.1 dX10_gives_16 rfl ?_
      refine aI_iconst (v := 0) X.1 dX10_gives_17 (by decide) ?_
      obtain ⟨g2, E⟩ := o_if E
      obtain ⟨h3, eh3, E⟩ := o_letE E
      refine as1_27 X g2 dX10_gives_18 (aI_eqh eh3 ?_)
      refine w_X10_gives_L2  X N hret ?_ 100  h3 E
      intro h12 E
      refine aI_aload_n X.1 dX10_gives_46 rfl ?_
      refine gf_10_89 X dX10_gives_47 ?_
      refine aI_iload_n X.1 dX10_gives_50 rfl ?_
      obtain ⟨g13, E⟩ := o_if E
      refine al1_27 X g13 dX10_gives_51 ?_
      refine aI_iconst (v := 1) X.1 dX10_gives_52 (by decide) ?_
      refine aI_iadd X.1 dX10_gives_53 ?_
      refine aI_iload_n X.1 dX10_gives_54 rfl ?_
      obtain ⟨r15, h14, e16, E⟩ := o_callE E
      refine cv_X10_greater X (c_X10_greater e16) ml_10_198 (by decide) (by decide) (Nat.le_of_ble_eq_true rfl) dX10_gives_55 ?_
      refine aI_istore_n (lv2 := [some (.ref (q 0)), some (.int r15), some (.int v2)]) X.1 dX10_gives_58 (N 1 (by decide)) rfl ?_
      obtain ⟨x17, ex17, E⟩ := o_letE E
      refine aI_iinc (v := 1) (lv2 := [some (.ref (q 0)), some (.int r15), some (.int x17)]) X.1 dX10_gives_59 (N 2 (by decide)) rfl (by decide) (by rw [← ex17]; rfl) ?_
      refine aI_goto (tgt := 4) X.1 dX10_gives_62 (by decide) ?_
      exact ih r15 x17 h14 E
set_option maxRecDepth 4000 in
theorem w_X10_gives {Γ : g_T} {q : Nat → Nat}   {r : Int32} {h2 : hp_T} {h : hp_T} (X : aC 1 Γ q RX10 cX10_gives 3 69) (N : ∀ k, k < 3 → aN Γ k) (hret : ∀ pc lv, decode cX10_gives pc = .ok (.ireturn, 1) → aA Γ pc lv [.int r] h2) (E : f_X10_gives  h = some (r, h2)) : aA Γ 0 [some (.ref (q 0)), none, none] [] h := by
  unfold f_X10_gives at E
  refine aI_iconst (v := 0) X.1 dX10_gives_0 (by decide) ?_
  refine aI_istore_n (lv2 := [some (.ref (q 0)), some (.int (0 : Int32)), none]) X.1 dX10_gives_1 (N 1 (by decide)) rfl ?_
  refine aI_iconst (v := 0) X.1 dX10_gives_2 (by decide) ?_
  refine aI_istore_n (lv2 := [some (.ref (q 0)), some (.int (0 : Int32)), some (.int (0 : Int32))]) X.1 dX10_gives_3 (N 2 (by decide)) rfl ?_
  refine w_X10_gives_L1  X N hret ?_ 100 (0 : Int32) (0 : Int32) h E
  intro x18 x19 h20 E
  refine aI_iload_n X.1 dX10_gives_65 rfl ?_
  exact aI_iret E (hret _ _ dX10_gives_66)
theorem c_X10_gives {q : Nat → Nat}   {r : Int32} {h2 : hp_T} {h : hp_T} (E : f_X10_gives  h = some (r, h2)) : cI 1 yX10_gives cX10_gives 3 .int 3 69 q [.ref (q 0)] h r h2 := metI (own := RX10) (by decide) rfl (Nat.le_of_ble_eq_true rfl) rfl (fun Γ X N hret => w_X10_gives X N hret E)
set_option maxRecDepth 4000 in
theorem w_X10_roomBy {Γ : g_T} {q : Nat → Nat} {p1 : Int32}  {r : Int32} {h2 : hp_T} {h : hp_T} (X : aC 1 Γ q RX10 cX10_roomBy 4 91) (N : ∀ k, k < 3 → aN Γ k) (hret : ∀ pc lv, decode cX10_roomBy pc = .ok (.ireturn, 1) → aA Γ pc lv [.int r] h2) (E : f_X10_roomBy p1 h = some (r, h2)) : aA Γ 0 [some (.ref (q 0)), some (.int p1), none] [] h := by
  unfold f_X10_roomBy at E
  refine aI_aload_n X.1 dX10_roomBy_0 rfl ?_
  obtain ⟨r2, h1, e3, E⟩ := o_callE E
  refine cv_X10_gives X (c_X10_gives e3) ml_10_262 (by decide) (by decide) (Nat.le_of_ble_eq_true rfl) dX10_roomBy_1 ?_
  refine aI_istore_n (lv2 := [some (.ref (q 0)), some (.int p1), some (.int r2)]) X.1 dX10_roomBy_4 (N 2 (by decide)) rfl ?_
  refine aI_iload_n X.1 dX10_roomBy_5 rfl ?_
  refine aI_iconst (v := -1) X.1 dX10_roomBy_6 (by decide) ?_
  refine aI_icmp_ne (tgt := 14) X.1 dX10_roomBy_7 (by decide) (fun c4 => ?_) (fun c4 => ?_)
  · have E := o_neg c4 E
    refine aI_aload_n X.1 dX10_roomBy_14 rfl ?_
    refine gf_10_22 X dX10_roomBy_15 ?_
    refine aI_iload_n X.1 dX10_roomBy_18 rfl ?_
    obtain ⟨g5, E⟩ := o_if E
    refine al1_5 X g5 dX10_roomBy_19 ?_
    refine aI_if_eq (tgt := 37) X.1 dX10_roomBy_20 (by decide) (fun c6 => ?_) (fun c6 => ?_)
    · have E := o_pos c6 E
      refine aI_bipush (v := -3) X.1 dX10_roomBy_37 (by decide) ?_
      exact aI_iret E (hret _ _ dX10_roomBy_39)
    · have E := o_neg c6 E
      refine aI_aload_n X.1 dX10_roomBy_23 rfl ?_
      refine gf_10_89 X dX10_roomBy_24 ?_
      refine aI_aload_n X.1 dX10_roomBy_27 rfl ?_
      refine gf_10_47 X dX10_roomBy_28 ?_
      refine aI_iload_n X.1 dX10_roomBy_31 rfl ?_
      obtain ⟨g7, E⟩ := o_if E
      refine al1_13 X g7 dX10_roomBy_32 ?_
      obtain ⟨g8, E⟩ := o_if E
      refine al1_27 X g8 dX10_roomBy_33 ?_
      refine aI_goto (tgt := 39) X.1 dX10_roomBy_34 (by decide) ?_
      exact aI_iret E (hret _ _ dX10_roomBy_39)
  · have E := o_pos c4 E
    refine aI_iload_n X.1 dX10_roomBy_10 rfl ?_
    refine aI_goto (tgt := 39) X.1 dX10_roomBy_11 (by decide) ?_
    exact aI_iret E (hret _ _ dX10_roomBy_39)
theorem c_X10_roomBy {q : Nat → Nat} {p1 : Int32}  {r : Int32} {h2 : hp_T} {h : hp_T} (E : f_X10_roomBy p1 h = some (r, h2)) : cI 1 yX10_roomBy cX10_roomBy 3 .int 4 91 q [.ref (q 0), .int p1] h r h2 := metI (own := RX10) (by decide) rfl (Nat.le_of_ble_eq_true rfl) rfl (fun Γ X N hret => w_X10_roomBy X N hret E)
set_option maxRecDepth 4000 in
theorem w_X10_room {Γ : g_T} {q : Nat → Nat} {p1 : Int32}  {r : Int32} {h2 : hp_T} {h : hp_T} (X : aC 1 Γ q RX10 cX10_room 5 113) (N : ∀ k, k < 2 → aN Γ k) (hret : ∀ pc lv, decode cX10_room pc = .ok (.ireturn, 1) → aA Γ pc lv [.int r] h2) (E : f_X10_room p1 h = some (r, h2)) : aA Γ 0 [some (.ref (q 0)), some (.int p1)] [] h := by
  unfold f_X10_room at E
  refine aI_aload_n X.1 dX10_room_0 rfl ?_
  obtain ⟨h1, e2, E⟩ := o_cvE E
  refine cv_X10_orders X (c_X10_orders e2) ml_10_188 (by decide) (by decide) (Nat.le_of_ble_eq_true rfl) dX10_room_1 ?_
  refine aI_iload_n X.1 dX10_room_4 rfl ?_
  refine aI_i2l X.1 dX10_room_5 ?_
  refine aI_ldc2 X.1 dX10_room_6 kl_10_219 ?_
  refine aI_ldc2 X.1 dX10_room_9 kl_10_130 ?_
  obtain ⟨r4, h3, e5, E⟩ := o_callE E
  refine cv_X10_in X (c_X10_in e5) ml_10_101 (by decide) (by decide) (Nat.le_of_ble_eq_true rfl) dX10_room_12 ?_
  refine aI_if_eq (tgt := 26) X.1 dX10_room_15 (by decide) (fun c6 => ?_) (fun c6 => ?_)
  · have E := o_pos c6 E
    refine aI_bipush (v := -2) X.1 dX10_room_26 (by decide) ?_
    exact aI_iret E (hret _ _ dX10_room_28)
  · have E := o_neg c6 E
    refine aI_aload_n X.1 dX10_room_18 rfl ?_
    refine aI_iload_n X.1 dX10_room_19 rfl ?_
    obtain ⟨r8, h7, e9, E⟩ := o_callE E
    refine cv_X10_roomBy X (c_X10_roomBy e9) ml_10_265 (by decide) (by decide) (Nat.le_of_ble_eq_true rfl) dX10_room_20 ?_
    refine aI_goto (tgt := 28) X.1 dX10_room_23 (by decide) ?_
    exact aI_iret E (hret _ _ dX10_room_28)
theorem c_X10_room {q : Nat → Nat} {p1 : Int32}  {r : Int32} {h2 : hp_T} {h : hp_T} (E : f_X10_room p1 h = some (r, h2)) : cI 1 yX10_room cX10_room 2 .int 5 113 q [.ref (q 0), .int p1] h r h2 := metI (own := RX10) (by decide) rfl (Nat.le_of_ble_eq_true rfl) rfl (fun Γ X N hret => w_X10_room X N hret E)
set_option maxRecDepth 4000 in
theorem w_X10_keeps_L2 {Γ : g_T} {q : Nat → Nat}  {u1 : Int32}  {r : Int32} {h2 : hp_T} (X : aC 1 Γ q RX10 cX10_keeps 2 45) (N : ∀ k, k < 5 → aN Γ k) (hret : ∀ pc lv, decode cX10_keeps pc = .ok (.ireturn, 1) → aA Γ pc lv [.int r] h2) {K : Int32 → hp_T → Option (Int32 × hp_T)} (hk : ∀ v2 h, K v2 h = some (r, h2) → aA Γ 68 [some (.ref (q 0)), some (.int u1), some (.int v2), none, none] [] h) : ∀ (n : Nat) (v2 : Int32) (h : hp_T), f_X10_keeps_L2 u1 K n v2 h = some (r, h2) → aA Γ 12 [some (.ref (q 0)), some (.int u1), some (.int v2), none, none] [] h := by
  intro n
  induction n with
  | zero =>
    intro v2 h E
    cases E
  | succ n ih =>
    intro v2 h E
    rw [f_X10_keeps_L2] at E
    refine aI_iload_n X.1 dX10_keeps_12 rfl ?_
    refine aI_if_le (tgt := 68) X.1 dX10_keeps_13 (by decide) (fun c2 => ?_) (fun c2 => ?_)
    · have E := o_pos c2 E
      exact hk v2 h E
    · have E := o_neg c2 E
      refine aI_aload_n X.1 dX10_keeps_16 rfl ?_
      refine gf_10_29 X dX10_keeps_17 ?_
      refine aI_aload_n X.1 dX10_keeps_20 rfl ?_
      refine gf_10_44 X dX10_keeps_21 ?_
      refine aI_iload_n X.1 dX10_keeps_24 rfl ?_
      obtain ⟨g3, E⟩ := o_if E
      refine al1_12 X g3 dX10_keeps_25 ?_
      obtain ⟨g4, E⟩ := o_if E
      refine al1_7 X g4 dX10_keeps_26 ?_
      refine aI_aload_n X.1 dX10_keeps_27 rfl ?_
      refine gf_10_29 X dX10_keeps_28 ?_
      refine aI_aload_n X.1 dX10_keeps_31 rfl ?_
      refine gf_10_44 X dX10_keeps_32 ?_
      refine aI_aload_n X.1 dX10_keeps_35 rfl ?_
      refine gf_10_92 X dX10_keeps_36 ?_
      refine aI_iload_n X.1 dX10_keeps_39 rfl ?_
      refine aI_iconst (v := 1) X.1 dX10_keeps_40 (by decide) ?_
      refine aI_isub X.1 dX10_keeps_41 ?_
      obtain ⟨g5, E⟩ := o_if E
      refine al1_28 X g5 dX10_keeps_42 ?_
      obtain ⟨g6, E⟩ := o_if E
      refine al1_12 X g6 dX10_keeps_43 ?_
      obtain ⟨g7, E⟩ := o_if E
      refine al1_7 X g7 dX10_keeps_44 ?_
      refine aI_icmp_ge (tgt := 68) X.1 dX10_keeps_45 (by decide) (fun c8 => ?_) (fun c8 => ?_)
      · have E := o_pos c8 E
        exact hk v2 h E
      · have E := o_neg c8 E
        refine aI_aload_n X.1 dX10_keeps_48 rfl ?_
        refine gf_10_92 X dX10_keeps_49 ?_
        refine aI_iload_n X.1 dX10_keeps_52 rfl ?_
        refine aI_aload_n X.1 dX10_keeps_53 rfl ?_
        refine gf_10_92 X dX10_keeps_54 ?_
        refine aI_iload_n X.1 dX10_keeps_57 rfl ?_
        refine aI_iconst (v := 1) X.1 dX10_keeps_58 (by decide) ?_
        refine aI_isub X.1 dX10_keeps_59 ?_
        obtain ⟨g9, E⟩ := o_if E
        refine al1_28 X g9 dX10_keeps_60 ?_
        obtain ⟨g10, E⟩ := o_if E
        obtain ⟨h11, eh11, E⟩ := o_letE E
        refine as1_28 X g10 dX10_keeps_61 (aI_eqh eh11 ?_)
        obtain ⟨x12, ex12, E⟩ := o_letE E
        refine aI_iinc (v := -1) (lv2 := [some (.ref (q 0)), some (.int u1), some (.int x12), none, none]) X.1 dX10_keeps_62 (N 2 (by decide)) rfl (by decide) (by rw [← ex12]; rfl) ?_
        refine aI_goto (tgt := 12) X.1 dX10_keeps_65 (by decide) ?_
        exact ih x12 h11 E
set_option maxRecDepth 4000 in
theorem w_X10_keeps_L1 {Γ : g_T} {q : Nat → Nat}    {r : Int32} {h2 : hp_T} (X : aC 1 Γ q RX10 cX10_keeps 2 45) (N : ∀ k, k < 5 → aN Γ k) (hret : ∀ pc lv, decode cX10_keeps pc = .ok (.ireturn, 1) → aA Γ pc lv [.int r] h2) {K : Int32 → hp_T → Option (Int32 × hp_T)} (hk : ∀ v1 h, K v1 h = some (r, h2) → aA Γ 81 [some (.ref (q 0)), some (.int v1), none, none, none] [] h) : ∀ (n : Nat) (v1 : Int32) (h : hp_T), f_X10_keeps_L1 K n v1 h = some (r, h2) → aA Γ 2 [some (.ref (q 0)), some (.int v1), none, none, none] [] h := by
  intro n
  induction n with
  | zero =>
    intro v1 h E
    cases E
  | succ n ih =>
    intro v1 h E
    rw [f_X10_keeps_L1] at E
    refine aI_iload_n X.1 dX10_keeps_2 rfl ?_
    refine aI_aload_n X.1 dX10_keeps_3 rfl ?_
    refine gf_10_142 X dX10_keeps_4 ?_
    refine aI_icmp_ge (tgt := 81) X.1 dX10_keeps_7 (by decide) (fun c1 => ?_) (fun c1 => ?_)
    · have E := o_pos c1 E
      exact hk v1 h E
    · have E := o_neg c1 E
      refine aI_iload_n X.1 dX10_keeps_10 rfl ?_
      refine aI_istore_n (lv2 := [some (.ref (q 0)), some (.int v1), some (.int v1), none, none]) X.1 dX10_keeps_11 (N 2 (by decide)) rfl ?_
      refine w_X10_keeps_L2  X N hret ?_ 100 v1 h E
      intro x13 h14 E
      refine aI_aload_n X.1 dX10_keeps_68 rfl ?_
      refine gf_10_92 X dX10_keeps_69 ?_
      refine aI_iload_n X.1 dX10_keeps_72 rfl ?_
      refine aI_iload_n X.1 dX10_keeps_73 rfl ?_
      obtain ⟨g15, E⟩ := o_if E
      obtain ⟨h16, eh16, E⟩ := o_letE E
      refine as1_28 X g15 dX10_keeps_74 (aI_eqh eh16 ?_)
      obtain ⟨x17, ex17, E⟩ := o_letE E
      refine aI_iinc (v := 1) (lv2 := [some (.ref (q 0)), some (.int x17), some (.int x13), none, none]) X.1 dX10_keeps_75 (N 1 (by decide)) rfl (by decide) (by rw [← ex17]; rfl) ?_
      refine aI_goto (tgt := 2) X.1 dX10_keeps_78 (by decide) ?_
      refine aI_lv [true, true, false, false, false] (lv2 := [some (.ref (q 0)), some (.int x17), none, none, none]) rfl ?_
      exact ih x17 h16 E
set_option maxRecDepth 4000 in
theorem w_X10_keeps_L4 {Γ : g_T} {q : Nat → Nat}  {u1 : Int32} {u2 : Int32}  {r : Int32} {h2 : hp_T} (X : aC 1 Γ q RX10 cX10_keeps 2 45) (N : ∀ k, k < 5 → aN Γ k) (hret : ∀ pc lv, decode cX10_keeps pc = .ok (.ireturn, 1) → aA Γ pc lv [.int r] h2) {K : Int32 → Int32 → hp_T → Option (Int32 × hp_T)} (hk : ∀ v3 v4 h, K v3 v4 h = some (r, h2) → aA Γ 140 [some (.ref (q 0)), some (.int u1), some (.int u2), some (.int v3), some (.int v4)] [] h) : ∀ (n : Nat) (v3 : Int32) (v4 : Int32) (h : hp_T), f_X10_keeps_L4 u1 u2 K n v3 v4 h = some (r, h2) → aA Γ 98 [some (.ref (q 0)), some (.int u1), some (.int u2), some (.int v3), some (.int v4)] [] h := by
  intro n
  induction n with
  | zero =>
    intro v3 v4 h E
    cases E
  | succ n ih =>
    intro v3 v4 h E
    rw [f_X10_keeps_L4] at E
    refine aI_iload X.1 dX10_keeps_98 rfl ?_
    refine aI_iload_n X.1 dX10_keeps_100 rfl ?_
    refine aI_icmp_ge (tgt := 140) X.1 dX10_keeps_101 (by decide) (fun c21 => ?_) (fun c21 => ?_)
    · have E := o_pos c21 E
      exact hk v3 v4 h E
    · have E := o_neg c21 E
      refine aI_iload_n X.1 dX10_keeps_104 rfl ?_
      refine aI_if_eq (tgt := 132) X.1 dX10_keeps_105 (by decide) (fun c22 => ?_) (fun c22 => ?_)
      · have E := o_pos c22 E
        refine aI_iconst (v := 0) X.1 dX10_keeps_132 (by decide) ?_
        refine aI_istore_n (lv2 := [some (.ref (q 0)), some (.int u1), some (.int u2), some (.int (0 : Int32)), some (.int v4)]) X.1 dX10_keeps_133 (N 3 (by decide)) rfl ?_
        obtain ⟨x23, ex23, E⟩ := o_letE E
        refine aI_iinc (v := 1) (lv2 := [some (.ref (q 0)), some (.int u1), some (.int u2), some (.int (0 : Int32)), some (.int x23)]) X.1 dX10_keeps_134 (N 4 (by decide)) rfl (by decide) (by rw [← ex23]; rfl) ?_
        refine aI_goto (tgt := 98) X.1 dX10_keeps_137 (by decide) ?_
        exact ih (0 : Int32) x23 h E
      · have E := o_neg c22 E
        refine aI_aload_n X.1 dX10_keeps_108 rfl ?_
        refine aI_aload_n X.1 dX10_keeps_109 rfl ?_
        refine gf_10_95 X dX10_keeps_110 ?_
        refine aI_iload X.1 dX10_keeps_113 rfl ?_
        obtain ⟨g24, E⟩ := o_if E
        refine al1_29 X g24 dX10_keeps_115 ?_
        refine aI_aload_n X.1 dX10_keeps_116 rfl ?_
        refine gf_10_92 X dX10_keeps_117 ?_
        refine aI_iload_n X.1 dX10_keeps_120 rfl ?_
        obtain ⟨g25, E⟩ := o_if E
        refine al1_28 X g25 dX10_keeps_121 ?_
        obtain ⟨r27, h26, e28, E⟩ := o_callE E
        refine cv_X10_meetsRank X (c_X10_meetsRank e28) ml_10_256 (by decide) (by decide) (Nat.le_of_ble_eq_true rfl) dX10_keeps_122 ?_
        refine aI_if_ne (tgt := 132) X.1 dX10_keeps_125 (by decide) (fun c29 => ?_) (fun c29 => ?_)
        · have E := o_neg c29 E
          refine aI_iconst (v := 0) X.1 dX10_keeps_132 (by decide) ?_
          refine aI_istore_n (lv2 := [some (.ref (q 0)), some (.int u1), some (.int u2), some (.int (0 : Int32)), some (.int v4)]) X.1 dX10_keeps_133 (N 3 (by decide)) rfl ?_
          obtain ⟨x30, ex30, E⟩ := o_letE E
          refine aI_iinc (v := 1) (lv2 := [some (.ref (q 0)), some (.int u1), some (.int u2), some (.int (0 : Int32)), some (.int x30)]) X.1 dX10_keeps_134 (N 4 (by decide)) rfl (by decide) (by rw [← ex30]; rfl) ?_
          refine aI_goto (tgt := 98) X.1 dX10_keeps_137 (by decide) ?_
          exact ih (0 : Int32) x30 h26 E
        · have E := o_pos c29 E
          refine aI_iconst (v := 1) X.1 dX10_keeps_128 (by decide) ?_
          refine aI_goto (tgt := 133) X.1 dX10_keeps_129 (by decide) ?_
          refine aI_istore_n (lv2 := [some (.ref (q 0)), some (.int u1), some (.int u2), some (.int (1 : Int32)), some (.int v4)]) X.1 dX10_keeps_133 (N 3 (by decide)) rfl ?_
          obtain ⟨x31, ex31, E⟩ := o_letE E
          refine aI_iinc (v := 1) (lv2 := [some (.ref (q 0)), some (.int u1), some (.int u2), some (.int (1 : Int32)), some (.int x31)]) X.1 dX10_keeps_134 (N 4 (by decide)) rfl (by decide) (by rw [← ex31]; rfl) ?_
          refine aI_goto (tgt := 98) X.1 dX10_keeps_137 (by decide) ?_
          exact ih (1 : Int32) x31 h26 E
set_option maxRecDepth 4000 in
theorem w_X10_keeps_L3 {Γ : g_T} {q : Nat → Nat}    {r : Int32} {h2 : hp_T} (X : aC 1 Γ q RX10 cX10_keeps 2 45) (N : ∀ k, k < 5 → aN Γ k) (hret : ∀ pc lv, decode cX10_keeps pc = .ok (.ireturn, 1) → aA Γ pc lv [.int r] h2) {K : Int32 → Int32 → hp_T → Option (Int32 × hp_T)} (hk : ∀ v1 v2 h, K v1 v2 h = some (r, h2) → aA Γ 165 [some (.ref (q 0)), some (.int v1), some (.int v2), none, none] [] h) : ∀ (n : Nat) (v1 : Int32) (v2 : Int32) (h : hp_T), f_X10_keeps_L3 K n v1 v2 h = some (r, h2) → aA Γ 85 [some (.ref (q 0)), some (.int v1), some (.int v2), none, none] [] h := by
  intro n
  induction n with
  | zero =>
    intro v1 v2 h E
    cases E
  | succ n ih =>
    intro v1 v2 h E
    rw [f_X10_keeps_L3] at E
    refine aI_iload_n X.1 dX10_keeps_85 rfl ?_
    refine aI_aload_n X.1 dX10_keeps_86 rfl ?_
    refine gf_10_142 X dX10_keeps_87 ?_
    refine aI_icmp_ge (tgt := 165) X.1 dX10_keeps_90 (by decide) (fun c20 => ?_) (fun c20 => ?_)
    · have E := o_pos c20 E
      exact hk v1 v2 h E
    · have E := o_neg c20 E
      refine aI_iconst (v := 1) X.1 dX10_keeps_93 (by decide) ?_
      refine aI_istore_n (lv2 := [some (.ref (q 0)), some (.int v1), some (.int v2), some (.int (1 : Int32)), none]) X.1 dX10_keeps_94 (N 3 (by decide)) rfl ?_
      refine aI_iconst (v := 0) X.1 dX10_keeps_95 (by decide) ?_
      refine aI_istore (lv2 := [some (.ref (q 0)), some (.int v1), some (.int v2), some (.int (1 : Int32)), some (.int (0 : Int32))]) X.1 dX10_keeps_96 (N 4 (by decide)) rfl ?_
      refine w_X10_keeps_L4  X N hret ?_ 100 (1 : Int32) (0 : Int32) h E
      intro x32 x33 h34 E
      refine aI_iload_n X.1 dX10_keeps_140 rfl ?_
      refine aI_if_eq (tgt := 159) X.1 dX10_keeps_141 (by decide) (fun c35 => ?_) (fun c35 => ?_)
      · have E := o_pos c35 E
        obtain ⟨x36, ex36, E⟩ := o_letE E
        refine aI_iinc (v := 1) (lv2 := [some (.ref (q 0)), some (.int v1), some (.int x36), some (.int x32), some (.int x33)]) X.1 dX10_keeps_159 (N 2 (by decide)) rfl (by decide) (by rw [← ex36]; rfl) ?_
        refine aI_goto (tgt := 85) X.1 dX10_keeps_162 (by decide) ?_
        refine aI_lv [true, true, true, false, false] (lv2 := [some (.ref (q 0)), some (.int v1), some (.int x36), none, none]) rfl ?_
        exact ih v1 x36 h34 E
      · have E := o_neg c35 E
        refine aI_aload_n X.1 dX10_keeps_144 rfl ?_
        refine gf_10_95 X dX10_keeps_145 ?_
        refine aI_iload_n X.1 dX10_keeps_148 rfl ?_
        refine aI_aload_n X.1 dX10_keeps_149 rfl ?_
        refine gf_10_92 X dX10_keeps_150 ?_
        refine aI_iload_n X.1 dX10_keeps_153 rfl ?_
        obtain ⟨g37, E⟩ := o_if E
        refine al1_28 X g37 dX10_keeps_154 ?_
        obtain ⟨g38, E⟩ := o_if E
        obtain ⟨h39, eh39, E⟩ := o_letE E
        refine as1_29 X g38 dX10_keeps_155 (aI_eqh eh39 ?_)
        obtain ⟨x40, ex40, E⟩ := o_letE E
        refine aI_iinc (v := 1) (lv2 := [some (.ref (q 0)), some (.int x40), some (.int v2), some (.int x32), some (.int x33)]) X.1 dX10_keeps_156 (N 1 (by decide)) rfl (by decide) (by rw [← ex40]; rfl) ?_
        obtain ⟨x41, ex41, E⟩ := o_letE E
        refine aI_iinc (v := 1) (lv2 := [some (.ref (q 0)), some (.int x40), some (.int x41), some (.int x32), some (.int x33)]) X.1 dX10_keeps_159 (N 2 (by decide)) rfl (by decide) (by rw [← ex41]; rfl) ?_
        refine aI_goto (tgt := 85) X.1 dX10_keeps_162 (by decide) ?_
        refine aI_lv [true, true, true, false, false] (lv2 := [some (.ref (q 0)), some (.int x40), some (.int x41), none, none]) rfl ?_
        exact ih x40 x41 h39 E
set_option maxRecDepth 4000 in
theorem w_X10_keeps {Γ : g_T} {q : Nat → Nat}   {r : Int32} {h2 : hp_T} {h : hp_T} (X : aC 1 Γ q RX10 cX10_keeps 2 45) (N : ∀ k, k < 5 → aN Γ k) (hret : ∀ pc lv, decode cX10_keeps pc = .ok (.ireturn, 1) → aA Γ pc lv [.int r] h2) (E : f_X10_keeps  h = some (r, h2)) : aA Γ 0 [some (.ref (q 0)), none, none, none, none] [] h := by
  unfold f_X10_keeps at E
  refine aI_iconst (v := 0) X.1 dX10_keeps_0 (by decide) ?_
  refine aI_istore_n (lv2 := [some (.ref (q 0)), some (.int (0 : Int32)), none, none, none]) X.1 dX10_keeps_1 (N 1 (by decide)) rfl ?_
  refine w_X10_keeps_L1  X N hret ?_ 100 (0 : Int32) h E
  intro x18 h19 E
  refine aI_iconst (v := 0) X.1 dX10_keeps_81 (by decide) ?_
  refine aI_istore_n (lv2 := [some (.ref (q 0)), some (.int (0 : Int32)), none, none, none]) X.1 dX10_keeps_82 (N 1 (by decide)) rfl ?_
  refine aI_iconst (v := 0) X.1 dX10_keeps_83 (by decide) ?_
  refine aI_istore_n (lv2 := [some (.ref (q 0)), some (.int (0 : Int32)), some (.int (0 : Int32)), none, none]) X.1 dX10_keeps_84 (N 2 (by decide)) rfl ?_
  refine w_X10_keeps_L3  X N hret ?_ 100 (0 : Int32) (0 : Int32) h19 E
  intro x42 x43 h44 E
  refine aI_iload_n X.1 dX10_keeps_165 rfl ?_
  exact aI_iret E (hret _ _ dX10_keeps_166)
theorem c_X10_keeps {q : Nat → Nat}   {r : Int32} {h2 : hp_T} {h : hp_T} (E : f_X10_keeps  h = some (r, h2)) : cI 1 yX10_keeps cX10_keeps 5 .int 2 45 q [.ref (q 0)] h r h2 := metI (own := RX10) (by decide) rfl (Nat.le_of_ble_eq_true rfl) rfl (fun Γ X N hret => w_X10_keeps X N hret E)
set_option maxRecDepth 4000 in
theorem w_X10_keepBy {Γ : g_T} {q : Nat → Nat} {p1 : Int32}  {r : Int32} {h2 : hp_T} {h : hp_T} (X : aC 1 Γ q RX10 cX10_keepBy 3 69) (N : ∀ k, k < 3 → aN Γ k) (hret : ∀ pc lv, decode cX10_keepBy pc = .ok (.ireturn, 1) → aA Γ pc lv [.int r] h2) (E : f_X10_keepBy p1 h = some (r, h2)) : aA Γ 0 [some (.ref (q 0)), some (.int p1), none] [] h := by
  unfold f_X10_keepBy at E
  refine aI_aload_n X.1 dX10_keepBy_0 rfl ?_
  obtain ⟨r2, h1, e3, E⟩ := o_callE E
  refine cv_X10_keeps X (c_X10_keeps e3) ml_10_268 (by decide) (by decide) (Nat.le_of_ble_eq_true rfl) dX10_keepBy_1 ?_
  refine aI_istore_n (lv2 := [some (.ref (q 0)), some (.int p1), some (.int r2)]) X.1 dX10_keepBy_4 (N 2 (by decide)) rfl ?_
  refine aI_iload_n X.1 dX10_keepBy_5 rfl ?_
  refine aI_iconst (v := -1) X.1 dX10_keepBy_6 (by decide) ?_
  refine aI_icmp_ne (tgt := 14) X.1 dX10_keepBy_7 (by decide) (fun c4 => ?_) (fun c4 => ?_)
  · have E := o_neg c4 E
    refine aI_iload_n X.1 dX10_keepBy_14 rfl ?_
    refine aI_iload_n X.1 dX10_keepBy_15 rfl ?_
    refine aI_icmp_ge (tgt := 33) X.1 dX10_keepBy_16 (by decide) (fun c5 => ?_) (fun c5 => ?_)
    · have E := o_pos c5 E
      refine aI_iconst (v := -1) X.1 dX10_keepBy_33 (by decide) ?_
      exact aI_iret E (hret _ _ dX10_keepBy_34)
    · have E := o_neg c5 E
      refine aI_aload_n X.1 dX10_keepBy_19 rfl ?_
      refine gf_10_44 X dX10_keepBy_20 ?_
      refine aI_aload_n X.1 dX10_keepBy_23 rfl ?_
      refine gf_10_95 X dX10_keepBy_24 ?_
      refine aI_iload_n X.1 dX10_keepBy_27 rfl ?_
      obtain ⟨g6, E⟩ := o_if E
      refine al1_29 X g6 dX10_keepBy_28 ?_
      obtain ⟨g7, E⟩ := o_if E
      refine al1_12 X g7 dX10_keepBy_29 ?_
      refine aI_goto (tgt := 34) X.1 dX10_keepBy_30 (by decide) ?_
      exact aI_iret E (hret _ _ dX10_keepBy_34)
  · have E := o_pos c4 E
    refine aI_iload_n X.1 dX10_keepBy_10 rfl ?_
    refine aI_goto (tgt := 34) X.1 dX10_keepBy_11 (by decide) ?_
    exact aI_iret E (hret _ _ dX10_keepBy_34)
theorem c_X10_keepBy {q : Nat → Nat} {p1 : Int32}  {r : Int32} {h2 : hp_T} {h : hp_T} (E : f_X10_keepBy p1 h = some (r, h2)) : cI 1 yX10_keepBy cX10_keepBy 3 .int 3 69 q [.ref (q 0), .int p1] h r h2 := metI (own := RX10) (by decide) rfl (Nat.le_of_ble_eq_true rfl) rfl (fun Γ X N hret => w_X10_keepBy X N hret E)
set_option maxRecDepth 4000 in
theorem w_X10_keep {Γ : g_T} {q : Nat → Nat} {p1 : Int32}  {r : Int32} {h2 : hp_T} {h : hp_T} (X : aC 1 Γ q RX10 cX10_keep 4 91) (N : ∀ k, k < 2 → aN Γ k) (hret : ∀ pc lv, decode cX10_keep pc = .ok (.ireturn, 1) → aA Γ pc lv [.int r] h2) (E : f_X10_keep p1 h = some (r, h2)) : aA Γ 0 [some (.ref (q 0)), some (.int p1)] [] h := by
  unfold f_X10_keep at E
  refine aI_aload_n X.1 dX10_keep_0 rfl ?_
  obtain ⟨h1, e2, E⟩ := o_cvE E
  refine cv_X10_orders X (c_X10_orders e2) ml_10_188 (by decide) (by decide) (Nat.le_of_ble_eq_true rfl) dX10_keep_1 ?_
  refine aI_iload_n X.1 dX10_keep_4 rfl ?_
  refine aI_i2l X.1 dX10_keep_5 ?_
  refine aI_ldc2 X.1 dX10_keep_6 kl_10_219 ?_
  refine aI_ldc2 X.1 dX10_keep_9 kl_10_130 ?_
  obtain ⟨r4, h3, e5, E⟩ := o_callE E
  refine cv_X10_in X (c_X10_in e5) ml_10_101 (by decide) (by decide) (Nat.le_of_ble_eq_true rfl) dX10_keep_12 ?_
  refine aI_if_eq (tgt := 26) X.1 dX10_keep_15 (by decide) (fun c6 => ?_) (fun c6 => ?_)
  · have E := o_pos c6 E
    refine aI_bipush (v := -2) X.1 dX10_keep_26 (by decide) ?_
    exact aI_iret E (hret _ _ dX10_keep_28)
  · have E := o_neg c6 E
    refine aI_aload_n X.1 dX10_keep_18 rfl ?_
    refine aI_iload_n X.1 dX10_keep_19 rfl ?_
    obtain ⟨r8, h7, e9, E⟩ := o_callE E
    refine cv_X10_keepBy X (c_X10_keepBy e9) ml_10_271 (by decide) (by decide) (Nat.le_of_ble_eq_true rfl) dX10_keep_20 ?_
    refine aI_goto (tgt := 28) X.1 dX10_keep_23 (by decide) ?_
    exact aI_iret E (hret _ _ dX10_keep_28)
theorem c_X10_keep {q : Nat → Nat} {p1 : Int32}  {r : Int32} {h2 : hp_T} {h : hp_T} (E : f_X10_keep p1 h = some (r, h2)) : cI 1 yX10_keep cX10_keep 2 .int 4 91 q [.ref (q 0), .int p1] h r h2 := metI (own := RX10) (by decide) rfl (Nat.le_of_ble_eq_true rfl) rfl (fun Γ X N hret => w_X10_keep X N hret E)
set_option maxRecDepth 4000 in
theorem w_X10_manyClashes_L2 {Γ : g_T} {q : Nat → Nat}  {u2 : Int32}  {r : Int32} {h2 : hp_T} (X : aC 1 Γ q RX10 cX10_manyClashes 2 45) (N : ∀ k, k < 4 → aN Γ k) (hret : ∀ pc lv, decode cX10_manyClashes pc = .ok (.ireturn, 1) → aA Γ pc lv [.int r] h2) {K : Int32 → Int32 → hp_T → Option (Int32 × hp_T)} (hk : ∀ v1 v3 h, K v1 v3 h = some (r, h2) → aA Γ 47 [some (.ref (q 0)), some (.int v1), some (.int u2), some (.int v3)] [] h) : ∀ (n : Nat) (v1 : Int32) (v3 : Int32) (h : hp_T), f_X10_manyClashes_L2 u2 K n v1 v3 h = some (r, h2) → aA Γ 16 [some (.ref (q 0)), some (.int v1), some (.int u2), some (.int v3)] [] h := by
  intro n
  induction n with
  | zero =>
    intro v1 v3 h E
    cases E
  | succ n ih =>
    intro v1 v3 h E
    rw [f_X10_manyClashes_L2] at E
    refine aI_iload_n X.1 dX10_manyClashes_16 rfl ?_
    refine aI_aload_n X.1 dX10_manyClashes_17 rfl ?_
    refine gf_10_142 X dX10_manyClashes_18 ?_
    refine aI_icmp_ge (tgt := 47) X.1 dX10_manyClashes_21 (by decide) (fun c3 => ?_) (fun c3 => ?_)
    · have E := o_pos c3 E
      exact hk v1 v3 h E
    · have E := o_neg c3 E
      refine aI_iload_n X.1 dX10_manyClashes_24 rfl ?_
      refine aI_aload_n X.1 dX10_manyClashes_25 rfl ?_
      refine aI_iload_n X.1 dX10_manyClashes_26 rfl ?_
      refine aI_iload_n X.1 dX10_manyClashes_27 rfl ?_
      obtain ⟨r5, h4, e6, E⟩ := o_callE E
      refine cv_X10_meetsRank X (c_X10_meetsRank e6) ml_10_256 (by decide) (by decide) (Nat.le_of_ble_eq_true rfl) dX10_manyClashes_28 ?_
      refine aI_if_eq (tgt := 38) X.1 dX10_manyClashes_31 (by decide) (fun c7 => ?_) (fun c7 => ?_)
      · have E := o_pos c7 E
        refine aI_iconst (v := 0) X.1 dX10_manyClashes_38 (by decide) ?_
        refine aI_iadd X.1 dX10_manyClashes_39 ?_
        obtain ⟨x8, ex8, E⟩ := o_letE E
        refine aI_eqi ex8 ?_
        refine aI_istore_n (lv2 := [some (.ref (q 0)), some (.int x8), some (.int u2), some (.int v3)]) X.1 dX10_manyClashes_40 (N 1 (by decide)) rfl ?_
        obtain ⟨x9, ex9, E⟩ := o_letE E
        refine aI_iinc (v := 1) (lv2 := [some (.ref (q 0)), some (.int x8), some (.int u2), some (.int x9)]) X.1 dX10_manyClashes_41 (N 3 (by decide)) rfl (by decide) (by rw [← ex9]; rfl) ?_
        refine aI_goto (tgt := 16) X.1 dX10_manyClashes_44 (by decide) ?_
        exact ih x8 x9 h4 E
      · have E := o_neg c7 E
        refine aI_iconst (v := 1) X.1 dX10_manyClashes_34 (by decide) ?_
        refine aI_goto (tgt := 39) X.1 dX10_manyClashes_35 (by decide) ?_
        refine aI_iadd X.1 dX10_manyClashes_39 ?_
        obtain ⟨x10, ex10, E⟩ := o_letE E
        refine aI_eqi ex10 ?_
        refine aI_istore_n (lv2 := [some (.ref (q 0)), some (.int x10), some (.int u2), some (.int v3)]) X.1 dX10_manyClashes_40 (N 1 (by decide)) rfl ?_
        obtain ⟨x11, ex11, E⟩ := o_letE E
        refine aI_iinc (v := 1) (lv2 := [some (.ref (q 0)), some (.int x10), some (.int u2), some (.int x11)]) X.1 dX10_manyClashes_41 (N 3 (by decide)) rfl (by decide) (by rw [← ex11]; rfl) ?_
        refine aI_goto (tgt := 16) X.1 dX10_manyClashes_44 (by decide) ?_
        exact ih x10 x11 h4 E
set_option maxRecDepth 4000 in
theorem w_X10_manyClashes_L1 {Γ : g_T} {q : Nat → Nat}    {r : Int32} {h2 : hp_T} (X : aC 1 Γ q RX10 cX10_manyClashes 2 45) (N : ∀ k, k < 4 → aN Γ k) (hret : ∀ pc lv, decode cX10_manyClashes pc = .ok (.ireturn, 1) → aA Γ pc lv [.int r] h2) {K : Int32 → Int32 → hp_T → Option (Int32 × hp_T)} (hk : ∀ v1 v2 h, K v1 v2 h = some (r, h2) → aA Γ 53 [some (.ref (q 0)), some (.int v1), some (.int v2), none] [] h) : ∀ (n : Nat) (v1 : Int32) (v2 : Int32) (h : hp_T), f_X10_manyClashes_L1 K n v1 v2 h = some (r, h2) → aA Γ 4 [some (.ref (q 0)), some (.int v1), some (.int v2), none] [] h := by
  intro n
  induction n with
  | zero =>
    intro v1 v2 h E
    cases E
  | succ n ih =>
    intro v1 v2 h E
    rw [f_X10_manyClashes_L1] at E
    refine aI_iload_n X.1 dX10_manyClashes_4 rfl ?_
    refine aI_aload_n X.1 dX10_manyClashes_5 rfl ?_
    refine gf_10_142 X dX10_manyClashes_6 ?_
    refine aI_icmp_ge (tgt := 53) X.1 dX10_manyClashes_9 (by decide) (fun c1 => ?_) (fun c1 => ?_)
    · have E := o_pos c1 E
      exact hk v1 v2 h E
    · have E := o_neg c1 E
      refine aI_iload_n X.1 dX10_manyClashes_12 rfl ?_
      refine aI_iconst (v := 1) X.1 dX10_manyClashes_13 (by decide) ?_
      refine aI_iadd X.1 dX10_manyClashes_14 ?_
      obtain ⟨x2, ex2, E⟩ := o_letE E
      refine aI_eqi ex2 ?_
      refine aI_istore_n (lv2 := [some (.ref (q 0)), some (.int v1), some (.int v2), some (.int x2)]) X.1 dX10_manyClashes_15 (N 3 (by decide)) rfl ?_
      refine w_X10_manyClashes_L2  X N hret ?_ 100 v1 x2 h E
      intro x12 x13 h14 E
      obtain ⟨x15, ex15, E⟩ := o_letE E
      refine aI_iinc (v := 1) (lv2 := [some (.ref (q 0)), some (.int x12), some (.int x15), some (.int x13)]) X.1 dX10_manyClashes_47 (N 2 (by decide)) rfl (by decide) (by rw [← ex15]; rfl) ?_
      refine aI_goto (tgt := 4) X.1 dX10_manyClashes_50 (by decide) ?_
      refine aI_lv [true, true, true, false] (lv2 := [some (.ref (q 0)), some (.int x12), some (.int x15), none]) rfl ?_
      exact ih x12 x15 h14 E
set_option maxRecDepth 4000 in
theorem w_X10_manyClashes {Γ : g_T} {q : Nat → Nat}   {r : Int32} {h2 : hp_T} {h : hp_T} (X : aC 1 Γ q RX10 cX10_manyClashes 2 45) (N : ∀ k, k < 4 → aN Γ k) (hret : ∀ pc lv, decode cX10_manyClashes pc = .ok (.ireturn, 1) → aA Γ pc lv [.int r] h2) (E : f_X10_manyClashes  h = some (r, h2)) : aA Γ 0 [some (.ref (q 0)), none, none, none] [] h := by
  unfold f_X10_manyClashes at E
  refine aI_iconst (v := 0) X.1 dX10_manyClashes_0 (by decide) ?_
  refine aI_istore_n (lv2 := [some (.ref (q 0)), some (.int (0 : Int32)), none, none]) X.1 dX10_manyClashes_1 (N 1 (by decide)) rfl ?_
  refine aI_iconst (v := 0) X.1 dX10_manyClashes_2 (by decide) ?_
  refine aI_istore_n (lv2 := [some (.ref (q 0)), some (.int (0 : Int32)), some (.int (0 : Int32)), none]) X.1 dX10_manyClashes_3 (N 2 (by decide)) rfl ?_
  refine w_X10_manyClashes_L1  X N hret ?_ 100 (0 : Int32) (0 : Int32) h E
  intro x16 x17 h18 E
  refine aI_iload_n X.1 dX10_manyClashes_53 rfl ?_
  exact aI_iret E (hret _ _ dX10_manyClashes_54)
theorem c_X10_manyClashes {q : Nat → Nat}   {r : Int32} {h2 : hp_T} {h : hp_T} (E : f_X10_manyClashes  h = some (r, h2)) : cI 1 yX10_manyClashes cX10_manyClashes 4 .int 2 45 q [.ref (q 0)] h r h2 := metI (own := RX10) (by decide) rfl (Nat.le_of_ble_eq_true rfl) rfl (fun Γ X N hret => w_X10_manyClashes X N hret E)
set_option maxRecDepth 4000 in
theorem w_X10_clashes {Γ : g_T} {q : Nat → Nat}   {r : Int32} {h2 : hp_T} {h : hp_T} (X : aC 1 Γ q RX10 cX10_clashes 3 68) (N : ∀ k, k < 1 → aN Γ k) (hret : ∀ pc lv, decode cX10_clashes pc = .ok (.ireturn, 1) → aA Γ pc lv [.int r] h2) (E : f_X10_clashes  h = some (r, h2)) : aA Γ 0 [some (.ref (q 0))] [] h := by
  unfold f_X10_clashes at E
  refine aI_aload_n X.1 dX10_clashes_0 rfl ?_
  obtain ⟨h1, e2, E⟩ := o_cvE E
  refine cv_X10_orders X (c_X10_orders e2) ml_10_188 (by decide) (by decide) (Nat.le_of_ble_eq_true rfl) dX10_clashes_1 ?_
  refine aI_aload_n X.1 dX10_clashes_4 rfl ?_
  obtain ⟨r4, h3, e5, E⟩ := o_callE E
  refine cv_X10_manyClashes X (c_X10_manyClashes e5) ml_10_274 (by decide) (by decide) (Nat.le_of_ble_eq_true rfl) dX10_clashes_5 ?_
  exact aI_iret E (hret _ _ dX10_clashes_8)
theorem c_X10_clashes {q : Nat → Nat}   {r : Int32} {h2 : hp_T} {h : hp_T} (E : f_X10_clashes  h = some (r, h2)) : cI 1 yX10_clashes cX10_clashes 1 .int 3 68 q [.ref (q 0)] h r h2 := metI (own := RX10) (by decide) rfl (Nat.le_of_ble_eq_true rfl) rfl (fun Γ X N hret => w_X10_clashes X N hret E)
