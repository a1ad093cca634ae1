set_option maxRecDepth 4000 in
theorem w_X10_get {Γ : g_T} {q : Nat → Nat} {p1 : Int32} {p2 : Int32} {p3 : Int32}  {r : Int32} {h2 : hp_T} {h : hp_T} (X : aC 1 Γ q RX10 cX10_get 2 48) (N : ∀ k, k < 4 → aN Γ k) (hret : ∀ pc lv, decode cX10_get pc = .ok (.ireturn, 1) → aA Γ pc lv [.int r] h2) (E : f_X10_get p1 p2 p3 h = some (r, h2)) : aA Γ 0 [some (.ref (q 0)), some (.int p1), some (.int p2), some (.int p3)] [] h := by
  unfold f_X10_get at E
  refine aI_iload_n X.1 dX10_get_0 rfl ?_
  obtain ⟨r2, h1, e3, E⟩ := o_callE E
  refine cv_X10_isSheet X (c_X10_isSheet e3) ml_10_111 (by decide) (by decide) (Nat.le_of_ble_eq_true rfl) dX10_get_1 ?_
  refine aI_if_eq (tgt := 29) X.1 dX10_get_4 (by decide) (fun c4 => ?_) (fun c4 => ?_)
  · have E := o_pos c4 E
    refine aI_ldc X.1 dX10_get_29 kc_10_129 ?_
    exact aI_iret E (hret _ _ dX10_get_31)
  · have E := o_neg c4 E
    refine aI_iload_n X.1 dX10_get_7 rfl ?_
    refine aI_i2l X.1 dX10_get_8 ?_
    refine aI_lconst (v := 0) X.1 dX10_get_9 (by decide) ?_
    refine aI_ldc2 X.1 dX10_get_10 kl_10_115 ?_
    obtain ⟨r6, h5, e7, E⟩ := o_callE E
    refine cv_X10_in X (c_X10_in e7) ml_10_101 (by decide) (by decide) (Nat.le_of_ble_eq_true rfl) dX10_get_13 ?_
    refine aI_if_eq (tgt := 29) X.1 dX10_get_16 (by decide) (fun c8 => ?_) (fun c8 => ?_)
    · have E := o_pos c8 E
      refine aI_ldc X.1 dX10_get_29 kc_10_129 ?_
      exact aI_iret E (hret _ _ dX10_get_31)
    · have E := o_neg c8 E
      refine aI_aload_n X.1 dX10_get_19 rfl ?_
      refine aI_iload_n X.1 dX10_get_20 rfl ?_
      refine aI_iload_n X.1 dX10_get_21 rfl ?_
      refine aI_iload_n X.1 dX10_get_22 rfl ?_
      obtain ⟨r10, h9, e11, E⟩ := o_callE E
      refine cv_X10_lacks X (c_X10_lacks e11) ml_10_121 (by decide) (by decide) (Nat.le_of_ble_eq_true rfl) dX10_get_23 ?_
      refine aI_if_eq (tgt := 32) X.1 dX10_get_26 (by decide) (fun c12 => ?_) (fun c12 => ?_)
      · have E := o_pos c12 E
        refine aI_aload_n X.1 dX10_get_32 rfl ?_
        refine gf_10_16 X dX10_get_33 ?_
        refine aI_bipush (v := 60) X.1 dX10_get_36 (by decide) ?_
        refine aI_iload_n X.1 dX10_get_38 rfl ?_
        refine aI_imul X.1 dX10_get_39 ?_
        refine aI_iload_n X.1 dX10_get_40 rfl ?_
        refine aI_iadd X.1 dX10_get_41 ?_
        obtain ⟨g13, E⟩ := o_if E
        refine al1_3 X g13 dX10_get_42 ?_
        exact aI_iret E (hret _ _ dX10_get_43)
      · have E := o_neg c12 E
        refine aI_ldc X.1 dX10_get_29 kc_10_129 ?_
        exact aI_iret E (hret _ _ dX10_get_31)
theorem c_X10_get {q : Nat → Nat} {p1 : Int32} {p2 : Int32} {p3 : Int32}  {r : Int32} {h2 : hp_T} {h : hp_T} (E : f_X10_get p1 p2 p3 h = some (r, h2)) : cI 1 yX10_get cX10_get 4 .int 2 48 q [.ref (q 0), .int p1, .int p2, .int p3] h r h2 := metI (own := RX10) (by decide) rfl (Nat.le_of_ble_eq_true rfl) rfl (fun Γ X N hret => w_X10_get X N hret E)
set_option maxRecDepth 4000 in
theorem w_X10_copy_L1 {Γ : g_T} {q : Nat → Nat}  {u1 : Int32} {u2 : Int32} {u3 : Int32} {u4 : Int32} {u5 : Int32}  {r : Int32} {h2 : hp_T} (X : aC 1 Γ q RX10 cX10_copy 2 45) (N : ∀ k, k < 7 → aN Γ k) (hret : ∀ pc lv, decode cX10_copy pc = .ok (.ireturn, 1) → aA Γ pc lv [.int r] h2) {K : Int32 → hp_T → Option (Int32 × hp_T)} (hk : ∀ v6 h, K v6 h = some (r, h2) → aA Γ 154 [some (.ref (q 0)), some (.int u1), some (.int u2), some (.int u3), some (.int u4), some (.int u5), some (.int v6)] [] h) : ∀ (n : Nat) (v6 : Int32) (h : hp_T), f_X10_copy_L1 u1 u2 u5 K n v6 h = some (r, h2) → aA Γ 120 [some (.ref (q 0)), some (.int u1), some (.int u2), some (.int u3), some (.int u4), some (.int u5), some (.int v6)] [] h := by
  intro n
  induction n with
  | zero =>
    intro v6 h E
    cases E
  | succ n ih =>
    intro v6 h E
    rw [f_X10_copy_L1] at E
    refine aI_iload X.1 dX10_copy_120 rfl ?_
    refine aI_iload X.1 dX10_copy_122 rfl ?_
    refine aI_icmp_ge (tgt := 154) X.1 dX10_copy_124 (by decide) (fun c38 => ?_) (fun c38 => ?_)
    · have E := o_pos c38 E
      exact hk v6 h E
    · have E := o_neg c38 E
      refine aI_aload_n X.1 dX10_copy_127 rfl ?_
      refine gf_10_19 X dX10_copy_128 ?_
      refine aI_iload X.1 dX10_copy_131 rfl ?_
      refine aI_aload_n X.1 dX10_copy_133 rfl ?_
      refine gf_10_16 X dX10_copy_134 ?_
      refine aI_bipush (v := 60) X.1 dX10_copy_137 (by decide) ?_
      refine aI_iload_n X.1 dX10_copy_139 rfl ?_
      refine aI_imul X.1 dX10_copy_140 ?_
      refine aI_iload_n X.1 dX10_copy_141 rfl ?_
      refine aI_iadd X.1 dX10_copy_142 ?_
      refine aI_iload X.1 dX10_copy_143 rfl ?_
      refine aI_iadd X.1 dX10_copy_145 ?_
      obtain ⟨g39, E⟩ := o_if E
      refine al1_3 X g39 dX10_copy_146 ?_
      obtain ⟨g40, E⟩ := o_if E
      obtain ⟨h41, eh41, E⟩ := o_letE E
      refine as1_4 X g40 dX10_copy_147 (aI_eqh eh41 ?_)
      obtain ⟨x42, ex42, E⟩ := o_letE E
      refine aI_iinc (v := 1) (lv2 := [some (.ref (q 0)), some (.int u1), some (.int u2), some (.int u3), some (.int u4), some (.int u5), some (.int x42)]) X.1 dX10_copy_148 (N 6 (by decide)) rfl (by decide) (by rw [← ex42]; rfl) ?_
      refine aI_goto (tgt := 120) X.1 dX10_copy_151 (by decide) ?_
      exact ih x42 h41 E
set_option maxRecDepth 4000 in
theorem w_X10_copy_L2 {Γ : g_T} {q : Nat → Nat}  {u3 : Int32} {u4 : Int32} {u5 : Int32}  {r : Int32} {h2 : hp_T} (X : aC 1 Γ q RX10 cX10_copy 2 45) (N : ∀ k, k < 7 → aN Γ k) (hret : ∀ pc lv, decode cX10_copy pc = .ok (.ireturn, 1) → aA Γ pc lv [.int r] h2) {K : Int32 → hp_T → Option (Int32 × hp_T)} (hk : ∀ v6 h, K v6 h = some (r, h2) → aA Γ 192 [some (.ref (q 0)), none, none, some (.int u3), some (.int u4), some (.int u5), some (.int v6)] [] h) : ∀ (n : Nat) (v6 : Int32) (h : hp_T), f_X10_copy_L2 u3 u4 u5 K n v6 h = some (r, h2) → aA Γ 157 [some (.ref (q 0)), none, none, some (.int u3), some (.int u4), some (.int u5), some (.int v6)] [] h := by
  intro n
  induction n with
  | zero =>
    intro v6 h E
    cases E
  | succ n ih =>
    intro v6 h E
    rw [f_X10_copy_L2] at E
    refine aI_iload X.1 dX10_copy_157 rfl ?_
    refine aI_iload X.1 dX10_copy_159 rfl ?_
    refine aI_icmp_ge (tgt := 192) X.1 dX10_copy_161 (by decide) (fun c45 => ?_) (fun c45 => ?_)
    · have E := o_pos c45 E
      exact hk v6 h E
    · have E := o_neg c45 E
      refine aI_aload_n X.1 dX10_copy_164 rfl ?_
      refine gf_10_16 X dX10_copy_165 ?_
      refine aI_bipush (v := 60) X.1 dX10_copy_168 (by decide) ?_
      refine aI_iload_n X.1 dX10_copy_170 rfl ?_
      refine aI_imul X.1 dX10_copy_171 ?_
      refine aI_iload X.1 dX10_copy_172 rfl ?_
      refine aI_iadd X.1 dX10_copy_174 ?_
      refine aI_iload X.1 dX10_copy_175 rfl ?_
      refine aI_iadd X.1 dX10_copy_177 ?_
      refine aI_aload_n X.1 dX10_copy_178 rfl ?_
      refine gf_10_19 X dX10_copy_179 ?_
      refine aI_iload X.1 dX10_copy_182 rfl ?_
      obtain ⟨g46, E⟩ := o_if E
      refine al1_4 X g46 dX10_copy_184 ?_
      obtain ⟨g47, E⟩ := o_if E
      obtain ⟨h48, eh48, E⟩ := o_letE E
      refine as1_3 X g47 dX10_copy_185 (aI_eqh eh48 ?_)
      obtain ⟨x49, ex49, E⟩ := o_letE E
      refine aI_iinc (v := 1) (lv2 := [some (.ref (q 0)), none, none, some (.int u3), some (.int u4), some (.int u5), some (.int x49)]) X.1 dX10_copy_186 (N 6 (by decide)) rfl (by decide) (by rw [← ex49]; rfl) ?_
      refine aI_goto (tgt := 157) X.1 dX10_copy_189 (by decide) ?_
      exact ih x49 h48 E
set_option maxRecDepth 4000 in
theorem w_X10_copy {Γ : g_T} {q : Nat → Nat} {p1 : Int32} {p2 : Int32} {p3 : Int32} {p4 : Int32} {p5 : Int32}  {r : Int32} {h2 : hp_T} {h : hp_T} (X : aC 1 Γ q RX10 cX10_copy 2 45) (N : ∀ k, k < 7 → aN Γ k) (hret : ∀ pc lv, decode cX10_copy pc = .ok (.ireturn, 1) → aA Γ pc lv [.int r] h2) (E : f_X10_copy p1 p2 p3 p4 p5 h = some (r, h2)) : aA Γ 0 [some (.ref (q 0)), some (.int p1), some (.int p2), some (.int p3), some (.int p4), some (.int p5), none] [] h := by
  unfold f_X10_copy at E
  refine aI_iload_n X.1 dX10_copy_0 rfl ?_
  obtain ⟨r2, h1, e3, E⟩ := o_callE E
  refine cv_X10_isSheet X (c_X10_isSheet e3) ml_10_111 (by decide) (by decide) (Nat.le_of_ble_eq_true rfl) dX10_copy_1 ?_
  refine aI_if_eq (tgt := 14) X.1 dX10_copy_4 (by decide) (fun c4 => ?_) (fun c4 => ?_)
  · have E := o_pos c4 E
    refine aI_bipush (v := -2) X.1 dX10_copy_14 (by decide) ?_
    exact aI_iret E (hret _ _ dX10_copy_16)
  · have E := o_neg c4 E
    refine aI_iload_n X.1 dX10_copy_7 rfl ?_
    obtain ⟨r6, h5, e7, E⟩ := o_callE E
    refine cv_X10_isSheet X (c_X10_isSheet e7) ml_10_111 (by decide) (by decide) (Nat.le_of_ble_eq_true rfl) dX10_copy_8 ?_
    refine aI_if_ne (tgt := 17) X.1 dX10_copy_11 (by decide) (fun c8 => ?_) (fun c8 => ?_)
    · have E := o_neg c8 E
      refine aI_aload_n X.1 dX10_copy_17 rfl ?_
      refine gf_10_7 X dX10_copy_18 ?_
      refine aI_iload_n X.1 dX10_copy_21 rfl ?_
      obtain ⟨g9, E⟩ := o_if E
      refine al1_1 X g9 dX10_copy_22 ?_
      refine aI_if_lt (tgt := 35) X.1 dX10_copy_23 (by decide) (fun c10 => ?_) (fun c10 => ?_)
      · have E := o_pos c10 E
        refine aI_aload_n X.1 dX10_copy_35 rfl ?_
        refine aI_iconst (v := 1) X.1 dX10_copy_36 (by decide) ?_
        obtain ⟨r12, h11, e13, E⟩ := o_callE E
        refine cv_X10_finds X (c_X10_finds e13) ml_10_117 (by decide) (by decide) (Nat.le_of_ble_eq_true rfl) dX10_copy_37 ?_
        exact aI_iret E (hret _ _ dX10_copy_40)
      · have E := o_neg c10 E
        refine aI_aload_n X.1 dX10_copy_26 rfl ?_
        refine gf_10_7 X dX10_copy_27 ?_
        refine aI_iload_n X.1 dX10_copy_30 rfl ?_
        obtain ⟨g14, E⟩ := o_if E
        refine al1_1 X g14 dX10_copy_31 ?_
        refine aI_if_ge (tgt := 41) X.1 dX10_copy_32 (by decide) (fun c15 => ?_) (fun c15 => ?_)
        · have E := o_pos c15 E
          refine aI_aload_n X.1 dX10_copy_41 rfl ?_
          refine gf_10_7 X dX10_copy_42 ?_
          refine aI_iload_n X.1 dX10_copy_45 rfl ?_
          obtain ⟨g16, E⟩ := o_if E
          refine al1_1 X g16 dX10_copy_46 ?_
          refine aI_aload_n X.1 dX10_copy_47 rfl ?_
          refine gf_10_7 X dX10_copy_48 ?_
          refine aI_iload_n X.1 dX10_copy_51 rfl ?_
          obtain ⟨g17, E⟩ := o_if E
          refine al1_1 X g17 dX10_copy_52 ?_
          refine aI_icmp_eq (tgt := 62) X.1 dX10_copy_53 (by decide) (fun c18 => ?_) (fun c18 => ?_)
          · have E := o_pos c18 E
            refine aI_iload_n X.1 dX10_copy_62 rfl ?_
            refine aI_if_lt (tgt := 111) X.1 dX10_copy_63 (by decide) (fun c19 => ?_) (fun c19 => ?_)
            · have E := o_pos c19 E
              refine aI_aload_n X.1 dX10_copy_111 rfl ?_
              refine aI_iconst (v := 2) X.1 dX10_copy_112 (by decide) ?_
              obtain ⟨r21, h20, e22, E⟩ := o_callE E
              refine cv_X10_finds X (c_X10_finds e22) ml_10_117 (by decide) (by decide) (Nat.le_of_ble_eq_true rfl) dX10_copy_113 ?_
              exact aI_iret E (hret _ _ dX10_copy_116)
            · have E := o_neg c19 E
              refine aI_iload X.1 dX10_copy_66 rfl ?_
              refine aI_if_lt (tgt := 111) X.1 dX10_copy_68 (by decide) (fun c23 => ?_) (fun c23 => ?_)
              · have E := o_pos c23 E
                refine aI_aload_n X.1 dX10_copy_111 rfl ?_
                refine aI_iconst (v := 2) X.1 dX10_copy_112 (by decide) ?_
                obtain ⟨r25, h24, e26, E⟩ := o_callE E
                refine cv_X10_finds X (c_X10_finds e26) ml_10_117 (by decide) (by decide) (Nat.le_of_ble_eq_true rfl) dX10_copy_113 ?_
                exact aI_iret E (hret _ _ dX10_copy_116)
              · have E := o_neg c23 E
                refine aI_iload X.1 dX10_copy_71 rfl ?_
                refine aI_if_lt (tgt := 111) X.1 dX10_copy_73 (by decide) (fun c27 => ?_) (fun c27 => ?_)
                · have E := o_pos c27 E
                  refine aI_aload_n X.1 dX10_copy_111 rfl ?_
                  refine aI_iconst (v := 2) X.1 dX10_copy_112 (by decide) ?_
                  obtain ⟨r29, h28, e30, E⟩ := o_callE E
                  refine cv_X10_finds X (c_X10_finds e30) ml_10_117 (by decide) (by decide) (Nat.le_of_ble_eq_true rfl) dX10_copy_113 ?_
                  exact aI_iret E (hret _ _ dX10_copy_116)
                · have E := o_neg c27 E
                  refine aI_iload_n X.1 dX10_copy_76 rfl ?_
                  refine aI_i2l X.1 dX10_copy_77 ?_
                  refine aI_iload X.1 dX10_copy_78 rfl ?_
                  refine aI_i2l X.1 dX10_copy_80 ?_
                  refine aI_ladd X.1 dX10_copy_81 ?_
                  refine aI_aload_n X.1 dX10_copy_82 rfl ?_
                  refine gf_10_13 X dX10_copy_83 ?_
                  refine aI_iload_n X.1 dX10_copy_86 rfl ?_
                  obtain ⟨g31, E⟩ := o_if E
                  refine al1_2 X g31 dX10_copy_87 ?_
                  refine aI_i2l X.1 dX10_copy_88 ?_
                  refine aI_lcmp X.1 dX10_copy_89 ?_
                  refine aI_if_gt (tgt := 111) X.1 dX10_copy_90 (by decide) (fun c32 => ?_) (fun c32 => ?_)
                  · have E := o_pos c32 E
                    refine aI_aload_n X.1 dX10_copy_111 rfl ?_
                    refine aI_iconst (v := 2) X.1 dX10_copy_112 (by decide) ?_
                    obtain ⟨r34, h33, e35, E⟩ := o_callE E
                    refine cv_X10_finds X (c_X10_finds e35) ml_10_117 (by decide) (by decide) (Nat.le_of_ble_eq_true rfl) dX10_copy_113 ?_
                    exact aI_iret E (hret _ _ dX10_copy_116)
                  · have E := o_neg c32 E
                    refine aI_iload X.1 dX10_copy_93 rfl ?_
                    refine aI_i2l X.1 dX10_copy_95 ?_
                    refine aI_iload X.1 dX10_copy_96 rfl ?_
                    refine aI_i2l X.1 dX10_copy_98 ?_
                    refine aI_ladd X.1 dX10_copy_99 ?_
                    refine aI_aload_n X.1 dX10_copy_100 rfl ?_
                    refine gf_10_13 X dX10_copy_101 ?_
                    refine aI_iload_n X.1 dX10_copy_104 rfl ?_
                    obtain ⟨g36, E⟩ := o_if E
                    refine al1_2 X g36 dX10_copy_105 ?_
                    refine aI_i2l X.1 dX10_copy_106 ?_
                    refine aI_lcmp X.1 dX10_copy_107 ?_
                    refine aI_if_le (tgt := 117) X.1 dX10_copy_108 (by decide) (fun c37 => ?_) (fun c37 => ?_)
                    · have E := o_pos c37 E
                      refine aI_iconst (v := 0) X.1 dX10_copy_117 (by decide) ?_
                      refine aI_istore (lv2 := [some (.ref (q 0)), some (.int p1), some (.int p2), some (.int p3), some (.int p4), some (.int p5), some (.int (0 : Int32))]) X.1 dX10_copy_118 (N 6 (by decide)) rfl ?_
                      refine w_X10_copy_L1  X N hret ?_ 100 (0 : Int32) h5 E
                      intro x43 h44 E
                      refine aI_iconst (v := 0) X.1 dX10_copy_154 (by decide) ?_
                      refine aI_istore (lv2 := [some (.ref (q 0)), some (.int p1), some (.int p2), some (.int p3), some (.int p4), some (.int p5), some (.int (0 : Int32))]) X.1 dX10_copy_155 (N 6 (by decide)) rfl ?_
                      refine aI_lv [true, false, false, true, true, true, true] (lv2 := [some (.ref (q 0)), none, none, some (.int p3), some (.int p4), some (.int p5), some (.int (0 : Int32))]) rfl ?_
                      refine w_X10_copy_L2  X N hret ?_ 100 (0 : Int32) h44 E
                      intro x50 h51 E
                      refine aI_iconst (v := 1) X.1 dX10_copy_192 (by decide) ?_
                      exact aI_iret E (hret _ _ dX10_copy_193)
                    · have E := o_neg c37 E
                      refine aI_aload_n X.1 dX10_copy_111 rfl ?_
                      refine aI_iconst (v := 2) X.1 dX10_copy_112 (by decide) ?_
                      obtain ⟨r53, h52, e54, E⟩ := o_callE E
                      refine cv_X10_finds X (c_X10_finds e54) ml_10_117 (by decide) (by decide) (Nat.le_of_ble_eq_true rfl) dX10_copy_113 ?_
                      exact aI_iret E (hret _ _ dX10_copy_116)
          · have E := o_neg c18 E
            refine aI_aload_n X.1 dX10_copy_56 rfl ?_
            refine aI_iconst (v := 4) X.1 dX10_copy_57 (by decide) ?_
            obtain ⟨r56, h55, e57, E⟩ := o_callE E
            refine cv_X10_finds X (c_X10_finds e57) ml_10_117 (by decide) (by decide) (Nat.le_of_ble_eq_true rfl) dX10_copy_58 ?_
            exact aI_iret E (hret _ _ dX10_copy_61)
        · have E := o_neg c15 E
          refine aI_aload_n X.1 dX10_copy_35 rfl ?_
          refine aI_iconst (v := 1) X.1 dX10_copy_36 (by decide) ?_
          obtain ⟨r59, h58, e60, E⟩ := o_callE E
          refine cv_X10_finds X (c_X10_finds e60) ml_10_117 (by decide) (by decide) (Nat.le_of_ble_eq_true rfl) dX10_copy_37 ?_
          exact aI_iret E (hret _ _ dX10_copy_40)
    · have E := o_pos c8 E
      refine aI_bipush (v := -2) X.1 dX10_copy_14 (by decide) ?_
      exact aI_iret E (hret _ _ dX10_copy_16)
theorem c_X10_copy {q : Nat → Nat} {p1 : Int32} {p2 : Int32} {p3 : Int32} {p4 : Int32} {p5 : Int32}  {r : Int32} {h2 : hp_T} {h : hp_T} (E : f_X10_copy p1 p2 p3 p4 p5 h = some (r, h2)) : cI 1 yX10_copy cX10_copy 7 .int 2 45 q [.ref (q 0), .int p1, .int p2, .int p3, .int p4, .int p5] h r h2 := metI (own := RX10) (by decide) rfl (Nat.le_of_ble_eq_true rfl) rfl (fun Γ X N hret => w_X10_copy X N hret E)
set_option maxRecDepth 4000 in
theorem w_X10_isKey {Γ : g_T} {q : Nat → Nat} {p1 : Int32}  {r : Int32} {h2 : hp_T} {h : hp_T} (X : aC 1 Γ q RX10 cX10_isKey 1 25) (N : ∀ k, k < 1 → aN Γ k) (hret : ∀ pc lv, decode cX10_isKey pc = .ok (.ireturn, 1) → bz r = true → aA Γ pc lv [.int r] h2) (E : f_X10_isKey p1 h = some (r, h2)) : aA Γ 0 [some (.int p1)] [] h := by
  unfold f_X10_isKey at E
  refine aI_iload_n X.1 dX10_isKey_0 rfl ?_
  refine aI_i2l X.1 dX10_isKey_1 ?_
  refine aI_lconst (v := 0) X.1 dX10_isKey_2 (by decide) ?_
  refine aI_ldc2 X.1 dX10_isKey_3 kl_10_130 ?_
  obtain ⟨r2, h1, e3, E⟩ := o_callE E
  refine cv_X10_in X (c_X10_in e3) ml_10_101 (by decide) (by decide) (Nat.le_of_ble_eq_true rfl) dX10_isKey_6 ?_
  obtain ⟨g4, E⟩ := o_if E
  exact aI_zret g4 E (hret _ _ dX10_isKey_9)
theorem c_X10_isKey {q : Nat → Nat} {p1 : Int32}  {r : Int32} {h2 : hp_T} {h : hp_T} (E : f_X10_isKey p1 h = some (r, h2)) : cI 1 yX10_isKey cX10_isKey 1 .boolean 1 25 q [.int p1] h r h2 := metZ (own := RX10) (by decide) rfl (Nat.le_of_ble_eq_true rfl) rfl (fun Γ X N hret => w_X10_isKey X N hret E)
set_option maxRecDepth 4000 in
theorem w_X10_isPoint {Γ : g_T} {q : Nat → Nat} {p1 : Int32}  {r : Int32} {h2 : hp_T} {h : hp_T} (X : aC 1 Γ q RX10 cX10_isPoint 1 25) (N : ∀ k, k < 1 → aN Γ k) (hret : ∀ pc lv, decode cX10_isPoint pc = .ok (.ireturn, 1) → bz r = true → aA Γ pc lv [.int r] h2) (E : f_X10_isPoint p1 h = some (r, h2)) : aA Γ 0 [some (.int p1)] [] h := by
  unfold f_X10_isPoint at E
  refine aI_iload_n X.1 dX10_isPoint_0 rfl ?_
  refine aI_i2l X.1 dX10_isPoint_1 ?_
  refine aI_ldc2 X.1 dX10_isPoint_2 kl_10_132 ?_
  refine aI_ldc2 X.1 dX10_isPoint_5 kl_10_134 ?_
  obtain ⟨r2, h1, e3, E⟩ := o_callE E
  refine cv_X10_in X (c_X10_in e3) ml_10_101 (by decide) (by decide) (Nat.le_of_ble_eq_true rfl) dX10_isPoint_8 ?_
  obtain ⟨g4, E⟩ := o_if E
  exact aI_zret g4 E (hret _ _ dX10_isPoint_11)
theorem c_X10_isPoint {q : Nat → Nat} {p1 : Int32}  {r : Int32} {h2 : hp_T} {h : hp_T} (E : f_X10_isPoint p1 h = some (r, h2)) : cI 1 yX10_isPoint cX10_isPoint 1 .boolean 1 25 q [.int p1] h r h2 := metZ (own := RX10) (by decide) rfl (Nat.le_of_ble_eq_true rfl) rfl (fun Γ X N hret => w_X10_isPoint X N hret E)
set_option maxRecDepth 4000 in
theorem w_X10_isStretch {Γ : g_T} {q : Nat → Nat} {p1 : Int32} {p2 : Int32}  {r : Int32} {h2 : hp_T} {h : hp_T} (X : aC 1 Γ q RX10 cX10_isStretch 2 45) (N : ∀ k, k < 2 → aN Γ k) (hret : ∀ pc lv, decode cX10_isStretch pc = .ok (.ireturn, 1) → bz r = true → aA Γ pc lv [.int r] h2) (E : f_X10_isStretch p1 p2 h = some (r, h2)) : aA Γ 0 [some (.int p1), some (.int p2)] [] h := by
  unfold f_X10_isStretch at E
  refine aI_iload_n X.1 dX10_isStretch_0 rfl ?_
  obtain ⟨r2, h1, e3, E⟩ := o_callE E
  refine cv_X10_isPoint X (c_X10_isPoint e3) ml_10_136 (by decide) (by decide) (Nat.le_of_ble_eq_true rfl) dX10_isStretch_1 ?_
  refine aI_if_eq (tgt := 23) X.1 dX10_isStretch_4 (by decide) (fun c4 => ?_) (fun c4 => ?_)
  · have E := o_pos c4 E
    refine aI_iconst (v := 0) X.1 dX10_isStretch_23 (by decide) ?_
    exact aI_zret (by decide) E (hret _ _ dX10_isStretch_24)
  · have E := o_neg c4 E
    refine aI_iload_n X.1 dX10_isStretch_7 rfl ?_
    obtain ⟨r6, h5, e7, E⟩ := o_callE E
    refine cv_X10_isPoint X (c_X10_isPoint e7) ml_10_136 (by decide) (by decide) (Nat.le_of_ble_eq_true rfl) dX10_isStretch_8 ?_
    refine aI_if_eq (tgt := 23) X.1 dX10_isStretch_11 (by decide) (fun c8 => ?_) (fun c8 => ?_)
    · have E := o_pos c8 E
      refine aI_iconst (v := 0) X.1 dX10_isStretch_23 (by decide) ?_
      exact aI_zret (by decide) E (hret _ _ dX10_isStretch_24)
    · have E := o_neg c8 E
      refine aI_iload_n X.1 dX10_isStretch_14 rfl ?_
      refine aI_iload_n X.1 dX10_isStretch_15 rfl ?_
      refine aI_icmp_ge (tgt := 23) X.1 dX10_isStretch_16 (by decide) (fun c9 => ?_) (fun c9 => ?_)
      · have E := o_pos c9 E
        refine aI_iconst (v := 0) X.1 dX10_isStretch_23 (by decide) ?_
        exact aI_zret (by decide) E (hret _ _ dX10_isStretch_24)
      · have E := o_neg c9 E
        refine aI_iconst (v := 1) X.1 dX10_isStretch_19 (by decide) ?_
        refine aI_goto (tgt := 24) X.1 dX10_isStretch_20 (by decide) ?_
        exact aI_zret (by decide) E (hret _ _ dX10_isStretch_24)
theorem c_X10_isStretch {q : Nat → Nat} {p1 : Int32} {p2 : Int32}  {r : Int32} {h2 : hp_T} {h : hp_T} (E : f_X10_isStretch p1 p2 h = some (r, h2)) : cI 1 yX10_isStretch cX10_isStretch 2 .boolean 2 45 q [.int p1, .int p2] h r h2 := metZ (own := RX10) (by decide) rfl (Nat.le_of_ble_eq_true rfl) rfl (fun Γ X N hret => w_X10_isStretch X N hret E)
set_option maxRecDepth 4000 in
theorem w_X10_remembers_L1 {Γ : g_T} {q : Nat → Nat}  {u1 : Int32} {u2 : Int32}  {h2 : hp_T} (X : aC 1 Γ q RX10 cX10_remembers 0 0) (N : ∀ k, k < 4 → aN Γ k) (hret : ∀ pc lv, decode cX10_remembers pc = .ok (.return_, 1) → aA Γ pc lv [] h2) {K : Int32 → hp_T → Option (hp_T)} (hk : ∀ v3 h, K v3 h = some h2 → aA Γ 79 [some (.ref (q 0)), some (.int u1), some (.int u2), some (.int v3)] [] h) : ∀ (n : Nat) (v3 : Int32) (h : hp_T), f_X10_remembers_L1 K n v3 h = some h2 → aA Γ 11 [some (.ref (q 0)), some (.int u1), some (.int u2), some (.int v3)] [] h := by
  intro n
  induction n with
  | zero =>
    intro v3 h E
    cases E
  | succ n ih =>
    intro v3 h E
    rw [f_X10_remembers_L1] at E
    refine aI_iload_n X.1 dX10_remembers_11 rfl ?_
    refine aI_bipush (v := 64) X.1 dX10_remembers_12 (by decide) ?_
    refine aI_icmp_ge (tgt := 79) X.1 dX10_remembers_14 (by decide) (fun c13 => ?_) (fun c13 => ?_)
    · have E := o_pos c13 E
      exact hk v3 h E
    · have E := o_neg c13 E
      refine aI_aload_n X.1 dX10_remembers_17 rfl ?_
      refine gf_10_32 X dX10_remembers_18 ?_
      refine aI_iload_n X.1 dX10_remembers_21 rfl ?_
      refine aI_iconst (v := 1) X.1 dX10_remembers_22 (by decide) ?_
      refine aI_isub X.1 dX10_remembers_23 ?_
      refine aI_aload_n X.1 dX10_remembers_24 rfl ?_
      refine gf_10_32 X dX10_remembers_25 ?_
      refine aI_iload_n X.1 dX10_remembers_28 rfl ?_
      obtain ⟨g14, E⟩ := o_if E
      refine al1_8 X g14 dX10_remembers_29 ?_
      obtain ⟨g15, E⟩ := o_if E
      obtain ⟨h16, eh16, E⟩ := o_letE E
      refine as1_8 X g15 dX10_remembers_30 (aI_eqh eh16 ?_)
      refine aI_aload_n X.1 dX10_remembers_31 rfl ?_
      refine gf_10_35 X dX10_remembers_32 ?_
      refine aI_iload_n X.1 dX10_remembers_35 rfl ?_
      refine aI_iconst (v := 1) X.1 dX10_remembers_36 (by decide) ?_
      refine aI_isub X.1 dX10_remembers_37 ?_
      refine aI_aload_n X.1 dX10_remembers_38 rfl ?_
      refine gf_10_35 X dX10_remembers_39 ?_
      refine aI_iload_n X.1 dX10_remembers_42 rfl ?_
      obtain ⟨g17, E⟩ := o_if E
      refine al1_9 X g17 dX10_remembers_43 ?_
      obtain ⟨g18, E⟩ := o_if E
      obtain ⟨h19, eh19, E⟩ := o_letE E
      refine as1_9 X g18 dX10_remembers_44 (aI_eqh eh19 ?_)
      refine aI_aload_n X.1 dX10_remembers_45 rfl ?_
      refine gf_10_38 X dX10_remembers_46 ?_
      refine aI_iload_n X.1 dX10_remembers_49 rfl ?_
      refine aI_iconst (v := 1) X.1 dX10_remembers_50 (by decide) ?_
      refine aI_isub X.1 dX10_remembers_51 ?_
      refine aI_aload_n X.1 dX10_remembers_52 rfl ?_
      refine gf_10_38 X dX10_remembers_53 ?_
      refine aI_iload_n X.1 dX10_remembers_56 rfl ?_
      obtain ⟨g20, E⟩ := o_if E
      refine al1_10 X g20 dX10_remembers_57 ?_
      obtain ⟨g21, E⟩ := o_if E
      obtain ⟨h22, eh22, E⟩ := o_letE E
      refine as1_10 X g21 dX10_remembers_58 (aI_eqh eh22 ?_)
      refine aI_aload_n X.1 dX10_remembers_59 rfl ?_
      refine gf_10_41 X dX10_remembers_60 ?_
      refine aI_iload_n X.1 dX10_remembers_63 rfl ?_
      refine aI_iconst (v := 1) X.1 dX10_remembers_64 (by decide) ?_
      refine aI_isub X.1 dX10_remembers_65 ?_
      refine aI_aload_n X.1 dX10_remembers_66 rfl ?_
      refine gf_10_41 X dX10_remembers_67 ?_
      refine aI_iload_n X.1 dX10_remembers_70 rfl ?_
      obtain ⟨g23, E⟩ := o_if E
      refine al1_11 X g23 dX10_remembers_71 ?_
      obtain ⟨g24, E⟩ := o_if E
      obtain ⟨h25, eh25, E⟩ := o_letE E
      refine as1_11 X g24 dX10_remembers_72 (aI_eqh eh25 ?_)
      obtain ⟨x26, ex26, E⟩ := o_letE E
      refine aI_iinc (v := 1) (lv2 := [some (.ref (q 0)), some (.int u1), some (.int u2), some (.int x26)]) X.1 dX10_remembers_73 (N 3 (by decide)) rfl (by decide) (by rw [← ex26]; rfl) ?_
      refine aI_goto (tgt := 11) X.1 dX10_remembers_76 (by decide) ?_
      exact ih x26 h25 E
set_option maxRecDepth 4000 in
theorem w_X10_remembers {Γ : g_T} {q : Nat → Nat} {p1 : Int32} {p2 : Int32}  {h2 : hp_T} {h : hp_T} (X : aC 1 Γ q RX10 cX10_remembers 0 0) (N : ∀ k, k < 4 → aN Γ k) (hret : ∀ pc lv, decode cX10_remembers pc = .ok (.return_, 1) → aA Γ pc lv [] h2) (E : f_X10_remembers p1 p2 h = some h2) : aA Γ 0 [some (.ref (q 0)), some (.int p1), some (.int p2), none] [] h := by
  unfold f_X10_remembers at E
  refine aI_aload_n X.1 dX10_remembers_0 rfl ?_
  refine gf_10_139 X dX10_remembers_1 ?_
  refine aI_bipush (v := 64) X.1 dX10_remembers_4 (by decide) ?_
  refine aI_icmp_ne (tgt := 89) X.1 dX10_remembers_6 (by decide) (fun c1 => ?_) (fun c1 => ?_)
  · have E := o_neg c1 E
    refine aI_aload_n X.1 dX10_remembers_89 rfl ?_
    refine gf_10_32 X dX10_remembers_90 ?_
    refine aI_aload_n X.1 dX10_remembers_93 rfl ?_
    refine gf_10_139 X dX10_remembers_94 ?_
    refine aI_iload_n X.1 dX10_remembers_97 rfl ?_
    obtain ⟨g2, E⟩ := o_if E
    obtain ⟨h3, eh3, E⟩ := o_letE E
    refine as1_8 X g2 dX10_remembers_98 (aI_eqh eh3 ?_)
    refine aI_aload_n X.1 dX10_remembers_99 rfl ?_
    refine gf_10_35 X dX10_remembers_100 ?_
    refine aI_aload_n X.1 dX10_remembers_103 rfl ?_
    refine gf_10_139 X dX10_remembers_104 ?_
    refine aI_iload_n X.1 dX10_remembers_107 rfl ?_
    obtain ⟨g4, E⟩ := o_if E
    obtain ⟨h5, eh5, E⟩ := o_letE E
    refine as1_9 X g4 dX10_remembers_108 (aI_eqh eh5 ?_)
    refine aI_aload_n X.1 dX10_remembers_109 rfl ?_
    refine gf_10_38 X dX10_remembers_110 ?_
    refine aI_aload_n X.1 dX10_remembers_113 rfl ?_
    refine gf_10_139 X dX10_remembers_114 ?_
    refine aI_aload_n X.1 dX10_remembers_117 rfl ?_
    refine gf_10_26 X dX10_remembers_118 ?_
    refine aI_iload_n X.1 dX10_remembers_121 rfl ?_
    obtain ⟨g6, E⟩ := o_if E
    refine al1_6 X g6 dX10_remembers_122 ?_
    obtain ⟨g7, E⟩ := o_if E
    obtain ⟨h8, eh8, E⟩ := o_letE E
    refine as1_10 X g7 dX10_remembers_123 (aI_eqh eh8 ?_)
    refine aI_aload_n X.1 dX10_remembers_124 rfl ?_
    refine gf_10_41 X dX10_remembers_125 ?_
    refine aI_aload_n X.1 dX10_remembers_128 rfl ?_
    refine gf_10_139 X dX10_remembers_129 ?_
    refine aI_aload_n X.1 dX10_remembers_132 rfl ?_
    refine gf_10_29 X dX10_remembers_133 ?_
    refine aI_iload_n X.1 dX10_remembers_136 rfl ?_
    obtain ⟨g9, E⟩ := o_if E
    refine al1_7 X g9 dX10_remembers_137 ?_
    obtain ⟨g10, E⟩ := o_if E
    obtain ⟨h11, eh11, E⟩ := o_letE E
    refine as1_11 X g10 dX10_remembers_138 (aI_eqh eh11 ?_)
    refine aI_aload_n X.1 dX10_remembers_139 rfl ?_
    refine aI_dup X.1 dX10_remembers_140 rfl ?_
    refine gf_10_139 X dX10_remembers_141 ?_
    refine aI_iconst (v := 1) X.1 dX10_remembers_144 (by decide) ?_
    refine aI_iadd X.1 dX10_remembers_145 ?_
    obtain ⟨h12, eh12, E⟩ := o_letE E
    refine pf_10_139 X dX10_remembers_146 (aI_eqh eh12 ?_)
    exact aI_vret E (hret _ _ dX10_remembers_149)
  · have E := o_pos c1 E
    refine aI_iconst (v := 1) X.1 dX10_remembers_9 (by decide) ?_
    refine aI_istore_n (lv2 := [some (.ref (q 0)), some (.int p1), some (.int p2), some (.int (1 : Int32))]) X.1 dX10_remembers_10 (N 3 (by decide)) rfl ?_
    refine w_X10_remembers_L1  X N hret ?_ 100 (1 : Int32) h E
    intro x27 h28 E
    refine aI_aload_n X.1 dX10_remembers_79 rfl ?_
    refine aI_dup X.1 dX10_remembers_80 rfl ?_
    refine gf_10_139 X dX10_remembers_81 ?_
    refine aI_iconst (v := 1) X.1 dX10_remembers_84 (by decide) ?_
    refine aI_isub X.1 dX10_remembers_85 ?_
    obtain ⟨h29, eh29, E⟩ := o_letE E
    refine pf_10_139 X dX10_remembers_86 (aI_eqh eh29 ?_)
    refine aI_aload_n X.1 dX10_remembers_89 rfl ?_
    refine gf_10_32 X dX10_remembers_90 ?_
    refine aI_aload_n X.1 dX10_remembers_93 rfl ?_
    refine gf_10_139 X dX10_remembers_94 ?_
    refine aI_iload_n X.1 dX10_remembers_97 rfl ?_
    obtain ⟨g30, E⟩ := o_if E
    obtain ⟨h31, eh31, E⟩ := o_letE E
    refine as1_8 X g30 dX10_remembers_98 (aI_eqh eh31 ?_)
    refine aI_aload_n X.1 dX10_remembers_99 rfl ?_
    refine gf_10_35 X dX10_remembers_100 ?_
    refine aI_aload_n X.1 dX10_remembers_103 rfl ?_
    refine gf_10_139 X dX10_remembers_104 ?_
    refine aI_iload_n X.1 dX10_remembers_107 rfl ?_
    obtain ⟨g32, E⟩ := o_if E
    obtain ⟨h33, eh33, E⟩ := o_letE E
    refine as1_9 X g32 dX10_remembers_108 (aI_eqh eh33 ?_)
    refine aI_aload_n X.1 dX10_remembers_109 rfl ?_
    refine gf_10_38 X dX10_remembers_110 ?_
    refine aI_aload_n X.1 dX10_remembers_113 rfl ?_
    refine gf_10_139 X dX10_remembers_114 ?_
    refine aI_aload_n X.1 dX10_remembers_117 rfl ?_
    refine gf_10_26 X dX10_remembers_118 ?_
    refine aI_iload_n X.1 dX10_remembers_121 rfl ?_
    obtain ⟨g34, E⟩ := o_if E
    refine al1_6 X g34 dX10_remembers_122 ?_
    obtain ⟨g35, E⟩ := o_if E
    obtain ⟨h36, eh36, E⟩ := o_letE E
    refine as1_10 X g35 dX10_remembers_123 (aI_eqh eh36 ?_)
    refine aI_aload_n X.1 dX10_remembers_124 rfl ?_
    refine gf_10_41 X dX10_remembers_125 ?_
    refine aI_aload_n X.1 dX10_remembers_128 rfl ?_
    refine gf_10_139 X dX10_remembers_129 ?_
    refine aI_aload_n X.1 dX10_remembers_132 rfl ?_
    refine gf_10_29 X dX10_remembers_133 ?_
    refine aI_iload_n X.1 dX10_remembers_136 rfl ?_
    obtain ⟨g37, E⟩ := o_if E
    refine al1_7 X g37 dX10_remembers_137 ?_
    obtain ⟨g38, E⟩ := o_if E
    obtain ⟨h39, eh39, E⟩ := o_letE E
    refine as1_11 X g38 dX10_remembers_138 (aI_eqh eh39 ?_)
    refine aI_aload_n X.1 dX10_remembers_139 rfl ?_
    refine aI_dup X.1 dX10_remembers_140 rfl ?_
    refine gf_10_139 X dX10_remembers_141 ?_
    refine aI_iconst (v := 1) X.1 dX10_remembers_144 (by decide) ?_
    refine aI_iadd X.1 dX10_remembers_145 ?_
    obtain ⟨h40, eh40, E⟩ := o_letE E
    refine pf_10_139 X dX10_remembers_146 (aI_eqh eh40 ?_)
    exact aI_vret E (hret _ _ dX10_remembers_149)
theorem c_X10_remembers {q : Nat → Nat} {p1 : Int32} {p2 : Int32}  {h2 : hp_T} {h : hp_T} (E : f_X10_remembers p1 p2 h = some h2) : cV 1 yX10_remembers cX10_remembers 4 0 0 q [.ref (q 0), .int p1, .int p2] h h2 := metV (own := RX10) (by decide) rfl (Nat.le_of_ble_eq_true rfl) rfl (fun Γ X N hret => w_X10_remembers X N hret E)
set_option maxRecDepth 4000 in
theorem w_X10_comes {Γ : g_T} {q : Nat → Nat} {p1 : Int32} {p2 : Int32} {p3 : Int32}  {h2 : hp_T} {h : hp_T} (X : aC 1 Γ q RX10 cX10_comes 0 0) (N : ∀ k, k < 4 → aN Γ k) (hret : ∀ pc lv, decode cX10_comes pc = .ok (.return_, 1) → aA Γ pc lv [] h2) (E : f_X10_comes p1 p2 p3 h = some h2) : aA Γ 0 [some (.ref (q 0)), some (.int p1), some (.int p2), some (.int p3)] [] h := by
  unfold f_X10_comes at E
  refine aI_aload_n X.1 dX10_comes_0 rfl ?_
  refine gf_10_22 X dX10_comes_1 ?_
  refine aI_iload_n X.1 dX10_comes_4 rfl ?_
  refine aI_iconst (v := 1) X.1 dX10_comes_5 (by decide) ?_
  obtain ⟨g1, E⟩ := o_if E
  obtain ⟨h2, eh2, E⟩ := o_letE E
  refine as1_5 X g1 (by decide) dX10_comes_6 (aI_eqh eh2 ?_)
  refine aI_aload_n X.1 dX10_comes_7 rfl ?_
  refine gf_10_26 X dX10_comes_8 ?_
  refine aI_iload_n X.1 dX10_comes_11 rfl ?_
  refine aI_iload_n X.1 dX10_comes_12 rfl ?_
  obtain ⟨g3, E⟩ := o_if E
  obtain ⟨h4, eh4, E⟩ := o_letE E
  refine as1_6 X g3 dX10_comes_13 (aI_eqh eh4 ?_)
  refine aI_aload_n X.1 dX10_comes_14 rfl ?_
  refine gf_10_29 X dX10_comes_15 ?_
  refine aI_iload_n X.1 dX10_comes_18 rfl ?_
  refine aI_iload_n X.1 dX10_comes_19 rfl ?_
  obtain ⟨g5, E⟩ := o_if E
  obtain ⟨h6, eh6, E⟩ := o_letE E
  refine as1_7 X g5 dX10_comes_20 (aI_eqh eh6 ?_)
  refine aI_aload_n X.1 dX10_comes_21 rfl ?_
  refine aI_dup X.1 dX10_comes_22 rfl ?_
  refine gf_10_142 X dX10_comes_23 ?_
  refine aI_iconst (v := 1) X.1 dX10_comes_26 (by decide) ?_
  refine aI_iadd X.1 dX10_comes_27 ?_
  obtain ⟨h7, eh7, E⟩ := o_letE E
  refine pf_10_142 X dX10_comes_28 (aI_eqh eh7 ?_)
  exact aI_vret E (hret _ _ dX10_comes_31)
theorem c_X10_comes {q : Nat → Nat} {p1 : Int32} {p2 : Int32} {p3 : Int32}  {h2 : hp_T} {h : hp_T} (E : f_X10_comes p1 p2 p3 h = some h2) : cV 1 yX10_comes cX10_comes 4 0 0 q [.ref (q 0), .int p1, .int p2, .int p3] h h2 := metV (own := RX10) (by decide) rfl (Nat.le_of_ble_eq_true rfl) rfl (fun Γ X N hret => w_X10_comes X N hret E)
set_option maxRecDepth 4000 in
theorem w_X10_leaves {Γ : g_T} {q : Nat → Nat} {p1 : Int32}  {h2 : hp_T} {h : hp_T} (X : aC 1 Γ q RX10 cX10_leaves 0 0) (N : ∀ k, k < 2 → aN Γ k) (hret : ∀ pc lv, decode cX10_leaves pc = .ok (.return_, 1) → aA Γ pc lv [] h2) (E : f_X10_leaves p1 h = some h2) : aA Γ 0 [some (.ref (q 0)), some (.int p1)] [] h := by
  unfold f_X10_leaves at E
  refine aI_aload_n X.1 dX10_leaves_0 rfl ?_
  refine gf_10_22 X dX10_leaves_1 ?_
  refine aI_iload_n X.1 dX10_leaves_4 rfl ?_
  refine aI_iconst (v := 0) X.1 dX10_leaves_5 (by decide) ?_
  obtain ⟨g1, E⟩ := o_if E
  obtain ⟨h2, eh2, E⟩ := o_letE E
  refine as1_5 X g1 (by decide) dX10_leaves_6 (aI_eqh eh2 ?_)
  refine aI_aload_n X.1 dX10_leaves_7 rfl ?_
  refine aI_dup X.1 dX10_leaves_8 rfl ?_
  refine gf_10_142 X dX10_leaves_9 ?_
  refine aI_iconst (v := 1) X.1 dX10_leaves_12 (by decide) ?_
  refine aI_isub X.1 dX10_leaves_13 ?_
  obtain ⟨h3, eh3, E⟩ := o_letE E
  refine pf_10_142 X dX10_leaves_14 (aI_eqh eh3 ?_)
  exact aI_vret E (hret _ _ dX10_leaves_17)
theorem c_X10_leaves {q : Nat → Nat} {p1 : Int32}  {h2 : hp_T} {h : hp_T} (E : f_X10_leaves p1 h = some h2) : cV 1 yX10_leaves cX10_leaves 2 0 0 q [.ref (q 0), .int p1] h h2 := metV (own := RX10) (by decide) rfl (Nat.le_of_ble_eq_true rfl) rfl (fun Γ X N hret => w_X10_leaves X N hret E)
set_option maxRecDepth 4000 in
theorem w_X10_put {Γ : g_T} {q : Nat → Nat} {p1 : Int32} {p2 : Int32} {p3 : Int32}  {r : Int32} {h2 : hp_T} {h : hp_T} (X : aC 1 Γ q RX10 cX10_put 3 66) (N : ∀ k, k < 4 → aN Γ k) (hret : ∀ pc lv, decode cX10_put pc = .ok (.ireturn, 1) → aA Γ pc lv [.int r] h2) (E : f_X10_put p1 p2 p3 h = some (r, h2)) : aA Γ 0 [some (.ref (q 0)), some (.int p1), some (.int p2), some (.int p3)] [] h := by
  unfold f_X10_put at E
  refine aI_iload_n X.1 dX10_put_0 rfl ?_
  obtain ⟨r2, h1, e3, E⟩ := o_callE E
  refine cv_X10_isKey X (c_X10_isKey e3) ml_10_145 (by decide) (by decide) (Nat.le_of_ble_eq_true rfl) dX10_put_1 ?_
  refine aI_if_eq (tgt := 15) X.1 dX10_put_4 (by decide) (fun c4 => ?_) (fun c4 => ?_)
  · have E := o_pos c4 E
    refine aI_bipush (v := -2) X.1 dX10_put_15 (by decide) ?_
    exact aI_iret E (hret _ _ dX10_put_17)
  · have E := o_neg c4 E
    refine aI_iload_n X.1 dX10_put_7 rfl ?_
    refine aI_iload_n X.1 dX10_put_8 rfl ?_
    obtain ⟨r6, h5, e7, E⟩ := o_callE E
    refine cv_X10_isStretch X (c_X10_isStretch e7) ml_10_148 (by decide) (by decide) (Nat.le_of_ble_eq_true rfl) dX10_put_9 ?_
    refine aI_if_ne (tgt := 18) X.1 dX10_put_12 (by decide) (fun c8 => ?_) (fun c8 => ?_)
    · have E := o_neg c8 E
      refine aI_aload_n X.1 dX10_put_18 rfl ?_
      refine gf_10_22 X dX10_put_19 ?_
      refine aI_iload_n X.1 dX10_put_22 rfl ?_
      obtain ⟨g9, E⟩ := o_if E
      refine al1_5 X g9 dX10_put_23 ?_
      refine aI_if_eq (tgt := 30) X.1 dX10_put_24 (by decide) (fun c10 => ?_) (fun c10 => ?_)
      · have E := o_pos c10 E
        refine aI_aload_n X.1 dX10_put_30 rfl ?_
        refine aI_iload_n X.1 dX10_put_31 rfl ?_
        refine aI_iload_n X.1 dX10_put_32 rfl ?_
        refine aI_iload_n X.1 dX10_put_33 rfl ?_
        obtain ⟨h11, e12, E⟩ := o_cvE E
        refine cv_X10_comes X (c_X10_comes e12) ml_10_152 (by decide) (by decide) (Nat.le_of_ble_eq_true rfl) dX10_put_34 ?_
        refine aI_aload_n X.1 dX10_put_37 rfl ?_
        refine aI_iconst (v := 0) X.1 dX10_put_38 (by decide) ?_
        refine aI_iload_n X.1 dX10_put_39 rfl ?_
        obtain ⟨h13, e14, E⟩ := o_cvE E
        refine cv_X10_remembers X (c_X10_remembers e14) ml_10_156 (by decide) (by decide) (Nat.le_of_ble_eq_true rfl) dX10_put_40 ?_
        refine aI_aload_n X.1 dX10_put_43 rfl ?_
        refine gf_10_142 X dX10_put_44 ?_
        exact aI_iret E (hret _ _ dX10_put_47)
      · have E := o_neg c10 E
        refine aI_bipush (v := -3) X.1 dX10_put_27 (by decide) ?_
        exact aI_iret E (hret _ _ dX10_put_29)
    · have E := o_pos c8 E
      refine aI_bipush (v := -2) X.1 dX10_put_15 (by decide) ?_
      exact aI_iret E (hret _ _ dX10_put_17)
theorem c_X10_put {q : Nat → Nat} {p1 : Int32} {p2 : Int32} {p3 : Int32}  {r : Int32} {h2 : hp_T} {h : hp_T} (E : f_X10_put p1 p2 p3 h = some (r, h2)) : cI 1 yX10_put cX10_put 4 .int 3 66 q [.ref (q 0), .int p1, .int p2, .int p3] h r h2 := metI (own := RX10) (by decide) rfl (Nat.le_of_ble_eq_true rfl) rfl (fun Γ X N hret => w_X10_put X N hret E)
set_option maxRecDepth 4000 in
theorem w_X10_drop {Γ : g_T} {q : Nat → Nat} {p1 : Int32}  {r : Int32} {h2 : hp_T} {h : hp_T} (X : aC 1 Γ q RX10 cX10_drop 2 45) (N : ∀ k, k < 2 → aN Γ k) (hret : ∀ pc lv, decode cX10_drop pc = .ok (.ireturn, 1) → aA Γ pc lv [.int r] h2) (E : f_X10_drop p1 h = some (r, h2)) : aA Γ 0 [some (.ref (q 0)), some (.int p1)] [] h := by
  unfold f_X10_drop at E
  refine aI_iload_n X.1 dX10_drop_0 rfl ?_
  obtain ⟨r2, h1, e3, E⟩ := o_callE E
  refine cv_X10_isKey X (c_X10_isKey e3) ml_10_145 (by decide) (by decide) (Nat.le_of_ble_eq_true rfl) dX10_drop_1 ?_
  refine aI_if_ne (tgt := 10) X.1 dX10_drop_4 (by decide) (fun c4 => ?_) (fun c4 => ?_)
  · have E := o_neg c4 E
    refine aI_aload_n X.1 dX10_drop_10 rfl ?_
    refine gf_10_22 X dX10_drop_11 ?_
    refine aI_iload_n X.1 dX10_drop_14 rfl ?_
    obtain ⟨g5, E⟩ := o_if E
    refine al1_5 X g5 dX10_drop_15 ?_
    refine aI_if_ne (tgt := 22) X.1 dX10_drop_16 (by decide) (fun c6 => ?_) (fun c6 => ?_)
    · have E := o_neg c6 E
      refine aI_aload_n X.1 dX10_drop_22 rfl ?_
      refine aI_iconst (v := 1) X.1 dX10_drop_23 (by decide) ?_
      refine aI_iload_n X.1 dX10_drop_24 rfl ?_
      obtain ⟨h7, e8, E⟩ := o_cvE E
      refine cv_X10_remembers X (c_X10_remembers e8) ml_10_156 (by decide) (by decide) (Nat.le_of_ble_eq_true rfl) dX10_drop_25 ?_
      refine aI_aload_n X.1 dX10_drop_28 rfl ?_
      refine aI_iload_n X.1 dX10_drop_29 rfl ?_
      obtain ⟨h9, e10, E⟩ := o_cvE E
      refine cv_X10_leaves X (c_X10_leaves e10) ml_10_160 (by decide) (by decide) (Nat.le_of_ble_eq_true rfl) dX10_drop_30 ?_
      refine aI_aload_n X.1 dX10_drop_33 rfl ?_
      refine gf_10_142 X dX10_drop_34 ?_
      exact aI_iret E (hret _ _ dX10_drop_37)
    · have E := o_pos c6 E
      refine aI_bipush (v := -3) X.1 dX10_drop_19 (by decide) ?_
      exact aI_iret E (hret _ _ dX10_drop_21)
  · have E := o_pos c4 E
    refine aI_bipush (v := -2) X.1 dX10_drop_7 (by decide) ?_
    exact aI_iret E (hret _ _ dX10_drop_9)
theorem c_X10_drop {q : Nat → Nat} {p1 : Int32}  {r : Int32} {h2 : hp_T} {h : hp_T} (E : f_X10_drop p1 h = some (r, h2)) : cI 1 yX10_drop cX10_drop 2 .int 2 45 q [.ref (q 0), .int p1] h r h2 := metI (own := RX10) (by decide) rfl (Nat.le_of_ble_eq_true rfl) rfl (fun Γ X N hret => w_X10_drop X N hret E)
set_option maxRecDepth 4000 in
theorem w_X10_move {Γ : g_T} {q : Nat → Nat} {p1 : Int32} {p2 : Int32}  {r : Int32} {h2 : hp_T} {h : hp_T} (X : aC 1 Γ q RX10 cX10_move 2 45) (N : ∀ k, k < 3 → aN Γ k) (hret : ∀ pc lv, decode cX10_move pc = .ok (.ireturn, 1) → aA Γ pc lv [.int r] h2) (E : f_X10_move p1 p2 h = some (r, h2)) : aA Γ 0 [some (.ref (q 0)), some (.int p1), some (.int p2)] [] h := by
  unfold f_X10_move at E
  refine aI_iload_n X.1 dX10_move_0 rfl ?_
  obtain ⟨r2, h1, e3, E⟩ := o_callE E
  refine cv_X10_isKey X (c_X10_isKey e3) ml_10_145 (by decide) (by decide) (Nat.le_of_ble_eq_true rfl) dX10_move_1 ?_
  refine aI_if_ne (tgt := 10) X.1 dX10_move_4 (by decide) (fun c4 => ?_) (fun c4 => ?_)
  · have E := o_neg c4 E
    refine aI_aload_n X.1 dX10_move_10 rfl ?_
    refine gf_10_22 X dX10_move_11 ?_
    refine aI_iload_n X.1 dX10_move_14 rfl ?_
    obtain ⟨g5, E⟩ := o_if E
    refine al1_5 X g5 dX10_move_15 ?_
    refine aI_if_ne (tgt := 22) X.1 dX10_move_16 (by decide) (fun c6 => ?_) (fun c6 => ?_)
    · have E := o_neg c6 E
      refine aI_aload_n X.1 dX10_move_22 rfl ?_
      refine gf_10_26 X dX10_move_23 ?_
      refine aI_iload_n X.1 dX10_move_26 rfl ?_
      obtain ⟨g7, E⟩ := o_if E
      refine al1_6 X g7 dX10_move_27 ?_
      refine aI_i2l X.1 dX10_move_28 ?_
      refine aI_iload_n X.1 dX10_move_29 rfl ?_
      refine aI_i2l X.1 dX10_move_30 ?_
      refine aI_ladd X.1 dX10_move_31 ?_
      refine aI_ldc2 X.1 dX10_move_32 kl_10_132 ?_
      refine aI_lcmp X.1 dX10_move_35 ?_
      refine aI_if_lt (tgt := 56) X.1 dX10_move_36 (by decide) (fun c8 => ?_) (fun c8 => ?_)
      · have E := o_pos c8 E
        refine aI_bipush (v := -4) X.1 dX10_move_56 (by decide) ?_
        exact aI_iret E (hret _ _ dX10_move_58)
      · have E := o_neg c8 E
        refine aI_aload_n X.1 dX10_move_39 rfl ?_
        refine gf_10_29 X dX10_move_40 ?_
        refine aI_iload_n X.1 dX10_move_43 rfl ?_
        obtain ⟨g9, E⟩ := o_if E
        refine al1_7 X g9 dX10_move_44 ?_
        refine aI_i2l X.1 dX10_move_45 ?_
        refine aI_iload_n X.1 dX10_move_46 rfl ?_
        refine aI_i2l X.1 dX10_move_47 ?_
        refine aI_ladd X.1 dX10_move_48 ?_
        refine aI_ldc2 X.1 dX10_move_49 kl_10_134 ?_
        refine aI_lcmp X.1 dX10_move_52 ?_
        refine aI_if_le (tgt := 59) X.1 dX10_move_53 (by decide) (fun c10 => ?_) (fun c10 => ?_)
        · have E := o_pos c10 E
          refine aI_aload_n X.1 dX10_move_59 rfl ?_
          refine aI_iconst (v := 2) X.1 dX10_move_60 (by decide) ?_
          refine aI_iload_n X.1 dX10_move_61 rfl ?_
          obtain ⟨h11, e12, E⟩ := o_cvE E
          refine cv_X10_remembers X (c_X10_remembers e12) ml_10_156 (by decide) (by decide) (Nat.le_of_ble_eq_true rfl) dX10_move_62 ?_
          refine aI_aload_n X.1 dX10_move_65 rfl ?_
          refine gf_10_26 X dX10_move_66 ?_
          refine aI_iload_n X.1 dX10_move_69 rfl ?_
          refine aI_dup2 X.1 dX10_move_70 rfl rfl ?_
          obtain ⟨g13, E⟩ := o_if E
          refine al1_6 X g13 dX10_move_71 ?_
          refine aI_iload_n X.1 dX10_move_72 rfl ?_
          refine aI_iadd X.1 dX10_move_73 ?_
          obtain ⟨g14, E⟩ := o_if E
          obtain ⟨h15, eh15, E⟩ := o_letE E
          refine as1_6 X g14 dX10_move_74 (aI_eqh eh15 ?_)
          refine aI_aload_n X.1 dX10_move_75 rfl ?_
          refine gf_10_29 X dX10_move_76 ?_
          refine aI_iload_n X.1 dX10_move_79 rfl ?_
          refine aI_dup2 X.1 dX10_move_80 rfl rfl ?_
          obtain ⟨g16, E⟩ := o_if E
          refine al1_7 X g16 dX10_move_81 ?_
          refine aI_iload_n X.1 dX10_move_82 rfl ?_
          refine aI_iadd X.1 dX10_move_83 ?_
          obtain ⟨g17, E⟩ := o_if E
          obtain ⟨h18, eh18, E⟩ := o_letE E
          refine as1_7 X g17 dX10_move_84 (aI_eqh eh18 ?_)
          refine aI_iconst (v := 1) X.1 dX10_move_85 (by decide) ?_
          exact aI_iret E (hret _ _ dX10_move_86)
        · have E := o_neg c10 E
          refine aI_bipush (v := -4) X.1 dX10_move_56 (by decide) ?_
          exact aI_iret E (hret _ _ dX10_move_58)
    · have E := o_pos c6 E
      refine aI_bipush (v := -3) X.1 dX10_move_19 (by decide) ?_
      exact aI_iret E (hret _ _ dX10_move_21)
  · have E := o_pos c4 E
    refine aI_bipush (v := -2) X.1 dX10_move_7 (by decide) ?_
    exact aI_iret E (hret _ _ dX10_move_9)
theorem c_X10_move {q : Nat → Nat} {p1 : Int32} {p2 : Int32}  {r : Int32} {h2 : hp_T} {h : hp_T} (E : f_X10_move p1 p2 h = some (r, h2)) : cI 1 yX10_move cX10_move 3 .int 2 45 q [.ref (q 0), .int p1, .int p2] h r h2 := metI (own := RX10) (by decide) rfl (Nat.le_of_ble_eq_true rfl) rfl (fun Γ X N hret => w_X10_move X N hret E)
set_option maxRecDepth 4000 in
theorem w_X10_undo {Γ : g_T} {q : Nat → Nat}   {r : Int32} {h2 : hp_T} {h : hp_T} (X : aC 1 Γ q RX10 cX10_undo 1 23) (N : ∀ k, k < 2 → aN Γ k) (hret : ∀ pc lv, decode cX10_undo pc = .ok (.ireturn, 1) → aA Γ pc lv [.int r] h2) (E : f_X10_undo  h = some (r, h2)) : aA Γ 0 [some (.ref (q 0)), none] [] h := by
  unfold f_X10_undo at E
  refine aI_aload_n X.1 dX10_undo_0 rfl ?_
  refine gf_10_139 X dX10_undo_1 ?_
  refine aI_if_ne (tgt := 10) X.1 dX10_undo_4 (by decide) (fun c1 => ?_) (fun c1 => ?_)
  · have E := o_neg c1 E
    refine aI_aload_n X.1 dX10_undo_10 rfl ?_
    refine aI_dup X.1 dX10_undo_11 rfl ?_
    refine gf_10_139 X dX10_undo_12 ?_
    refine aI_iconst (v := 1) X.1 dX10_undo_15 (by decide) ?_
    refine aI_isub X.1 dX10_undo_16 ?_
    obtain ⟨h2, eh2, E⟩ := o_letE E
    refine pf_10_139 X dX10_undo_17 (aI_eqh eh2 ?_)
    refine aI_aload_n X.1 dX10_undo_20 rfl ?_
    refine gf_10_35 X dX10_undo_21 ?_
    refine aI_aload_n X.1 dX10_undo_24 rfl ?_
    refine gf_10_139 X dX10_undo_25 ?_
    obtain ⟨g3, E⟩ := o_if E
    refine al1_9 X g3 dX10_undo_28 ?_
    obtain ⟨x4, ex4, E⟩ := o_letE E
    refine aI_eqi ex4 ?_
    refine aI_istore_n (lv2 := [some (.ref (q 0)), some (.int x4)]) X.1 dX10_undo_29 (N 1 (by decide)) rfl ?_
    refine aI_aload_n X.1 dX10_undo_30 rfl ?_
    refine gf_10_32 X dX10_undo_31 ?_
    refine aI_aload_n X.1 dX10_undo_34 rfl ?_
    refine gf_10_139 X dX10_undo_35 ?_
    obtain ⟨g5, E⟩ := o_if E
    refine al1_8 X g5 dX10_undo_38 ?_
    by_cases c18 : (h2.1 8 (h2.1 0 9).toNatClampNeg) = (0 : Int32)
    · have E := o_pos c18 E
      refine aI_lookup (off := 25) (tgt := 64) X.1 dX10_undo_39 (by decide) (by rw [c18]; decide) (by decide) ?_
      refine aI_aload_n X.1 dX10_undo_64 rfl ?_
      refine aI_iload_n X.1 dX10_undo_65 rfl ?_
      obtain ⟨h6, e7, E⟩ := o_cvE E
      refine cv_X10_leaves X (c_X10_leaves e7) ml_10_160 (by decide) (by decide) (Nat.le_of_ble_eq_true rfl) dX10_undo_66 ?_
      refine aI_goto (tgt := 128) X.1 dX10_undo_69 (by decide) ?_
      refine aI_aload_n X.1 dX10_undo_128 rfl ?_
      refine gf_10_139 X dX10_undo_129 ?_
      exact aI_iret E (hret _ _ dX10_undo_132)
    have E := o_neg c18 E
    by_cases c19 : (h2.1 8 (h2.1 0 9).toNatClampNeg) = (1 : Int32)
    · have E := o_pos c19 E
      refine aI_lookup (off := 33) (tgt := 72) X.1 dX10_undo_39 (by decide) (by rw [c19]; decide) (by decide) ?_
      refine aI_aload_n X.1 dX10_undo_72 rfl ?_
      refine aI_iload_n X.1 dX10_undo_73 rfl ?_
      refine aI_aload_n X.1 dX10_undo_74 rfl ?_
      refine gf_10_38 X dX10_undo_75 ?_
      refine aI_aload_n X.1 dX10_undo_78 rfl ?_
      refine gf_10_139 X dX10_undo_79 ?_
      obtain ⟨g8, E⟩ := o_if E
      refine al1_10 X g8 dX10_undo_82 ?_
      refine aI_aload_n X.1 dX10_undo_83 rfl ?_
      refine gf_10_41 X dX10_undo_84 ?_
      refine aI_aload_n X.1 dX10_undo_87 rfl ?_
      refine gf_10_139 X dX10_undo_88 ?_
      obtain ⟨g9, E⟩ := o_if E
      refine al1_11 X g9 dX10_undo_91 ?_
      obtain ⟨h10, e11, E⟩ := o_cvE E
      refine cv_X10_comes X (c_X10_comes e11) ml_10_152 (by decide) (by decide) (Nat.le_of_ble_eq_true rfl) dX10_undo_92 ?_
      refine aI_goto (tgt := 128) X.1 dX10_undo_95 (by decide) ?_
      refine aI_aload_n X.1 dX10_undo_128 rfl ?_
      refine gf_10_139 X dX10_undo_129 ?_
      exact aI_iret E (hret _ _ dX10_undo_132)
    have E := o_neg c19 E
    refine aI_lookup (off := 59) (tgt := 98) X.1 dX10_undo_39 (by decide) (by have ac18 := i32_ne 0 (by decide) c18; have ac19 := i32_ne 1 (by decide) c19; simp [Op.lookupswitch.offset, ac18.symm, ac19.symm]) (by decide) ?_
    refine aI_aload_n X.1 dX10_undo_98 rfl ?_
    refine gf_10_26 X dX10_undo_99 ?_
    refine aI_iload_n X.1 dX10_undo_102 rfl ?_
    refine aI_aload_n X.1 dX10_undo_103 rfl ?_
    refine gf_10_38 X dX10_undo_104 ?_
    refine aI_aload_n X.1 dX10_undo_107 rfl ?_
    refine gf_10_139 X dX10_undo_108 ?_
    obtain ⟨g12, E⟩ := o_if E
    refine al1_10 X g12 dX10_undo_111 ?_
    obtain ⟨g13, E⟩ := o_if E
    obtain ⟨h14, eh14, E⟩ := o_letE E
    refine as1_6 X g13 dX10_undo_112 (aI_eqh eh14 ?_)
    refine aI_aload_n X.1 dX10_undo_113 rfl ?_
    refine gf_10_29 X dX10_undo_114 ?_
    refine aI_iload_n X.1 dX10_undo_117 rfl ?_
    refine aI_aload_n X.1 dX10_undo_118 rfl ?_
    refine gf_10_41 X dX10_undo_119 ?_
    refine aI_aload_n X.1 dX10_undo_122 rfl ?_
    refine gf_10_139 X dX10_undo_123 ?_
    obtain ⟨g15, E⟩ := o_if E
    refine al1_11 X g15 dX10_undo_126 ?_
    obtain ⟨g16, E⟩ := o_if E
    obtain ⟨h17, eh17, E⟩ := o_letE E
    refine as1_7 X g16 dX10_undo_127 (aI_eqh eh17 ?_)
    refine aI_aload_n X.1 dX10_undo_128 rfl ?_
    refine gf_10_139 X dX10_undo_129 ?_
    exact aI_iret E (hret _ _ dX10_undo_132)
  · have E := o_pos c1 E
    refine aI_bipush (v := -3) X.1 dX10_undo_7 (by decide) ?_
    exact aI_iret E (hret _ _ dX10_undo_9)
theorem c_X10_undo {q : Nat → Nat}   {r : Int32} {h2 : hp_T} {h : hp_T} (E : f_X10_undo  h = some (r, h2)) : cI 1 yX10_undo cX10_undo 2 .int 1 23 q [.ref (q 0)] h r h2 := metI (own := RX10) (by decide) rfl (Nat.le_of_ble_eq_true rfl) rfl (fun Γ X N hret => w_X10_undo X N hret E)
set_option maxRecDepth 4000 in
theorem w_X10_leastKey_L1 {Γ : g_T} {q : Nat → Nat}    {r : Int32} {h2 : hp_T} (X : aC 1 Γ q RX10 cX10_leastKey 0 0) (N : ∀ k, k < 2 → aN Γ k) (hret : ∀ pc lv, decode cX10_leastKey pc = .ok (.ireturn, 1) → aA Γ pc lv [.int r] h2) {K : Int32 → hp_T → Option (Int32 × hp_T)} (hk : ∀ v1 h, K v1 h = some (r, h2) → aA Γ 23 [some (.ref (q 0)), some (.int v1)] [] h) : ∀ (n : Nat) (v1 : Int32) (h : hp_T), f_X10_leastKey_L1 K n v1 h = some (r, h2) → aA Γ 2 [some (.ref (q 0)), some (.int v1)] [] h := by
  intro n
  induction n with
  | zero =>
    intro v1 h E
    cases E
  | succ n ih =>
    intro v1 h E
    rw [f_X10_leastKey_L1] at E
    refine aI_iload_n X.1 dX10_leastKey_2 rfl ?_
    refine aI_bipush (v := 48) X.1 dX10_leastKey_3 (by decide) ?_
    refine aI_icmp_ge (tgt := 23) X.1 dX10_leastKey_5 (by decide) (fun c1 => ?_) (fun c1 => ?_)
    · have E := o_pos c1 E
      exact hk v1 h E
    · have E := o_neg c1 E
      refine aI_aload_n X.1 dX10_leastKey_8 rfl ?_
      refine gf_10_22 X dX10_leastKey_9 ?_
      refine aI_iload_n X.1 dX10_leastKey_12 rfl ?_
      obtain ⟨g2, E⟩ := o_if E
      refine al1_5 X g2 dX10_leastKey_13 ?_
      refine aI_if_eq (tgt := 23) X.1 dX10_leastKey_14 (by decide) (fun c3 => ?_) (fun c3 => ?_)
      · have E := o_pos c3 E
        exact hk v1 h E
      · have E := o_neg c3 E
        obtain ⟨x4, ex4, E⟩ := o_letE E
        refine aI_iinc (v := 1) (lv2 := [some (.ref (q 0)), some (.int x4)]) X.1 dX10_leastKey_17 (N 1 (by decide)) rfl (by decide) (by rw [← ex4]; rfl) ?_
        refine aI_goto (tgt := 2) X.1 dX10_leastKey_20 (by decide) ?_
        exact ih x4 h E
set_option maxRecDepth 4000 in
theorem w_X10_leastKey {Γ : g_T} {q : Nat → Nat}   {r : Int32} {h2 : hp_T} {h : hp_T} (X : aC 1 Γ q RX10 cX10_leastKey 0 0) (N : ∀ k, k < 2 → aN Γ k) (hret : ∀ pc lv, decode cX10_leastKey pc = .ok (.ireturn, 1) → aA Γ pc lv [.int r] h2) (E : f_X10_leastKey  h = some (r, h2)) : aA Γ 0 [some (.ref (q 0)), none] [] h := by
  unfold f_X10_leastKey at E
  refine aI_iconst (v := 0) X.1 dX10_leastKey_0 (by decide) ?_
  refine aI_istore_n (lv2 := [some (.ref (q 0)), some (.int (0 : Int32))]) X.1 dX10_leastKey_1 (N 1 (by decide)) rfl ?_
  refine w_X10_leastKey_L1  X N hret ?_ 100 (0 : Int32) h E
  intro x5 h6 E
  refine aI_iload_n X.1 dX10_leastKey_23 rfl ?_
  exact aI_iret E (hret _ _ dX10_leastKey_24)
theorem c_X10_leastKey {q : Nat → Nat}   {r : Int32} {h2 : hp_T} {h : hp_T} (E : f_X10_leastKey  h = some (r, h2)) : cI 1 yX10_leastKey cX10_leastKey 2 .int 0 0 q [.ref (q 0)] h r h2 := metI (own := RX10) (by decide) rfl (Nat.le_of_ble_eq_true rfl) rfl (fun Γ X N hret => w_X10_leastKey X N hret E)
set_option maxRecDepth 4000 in
theorem w_X10_fill_L1 {Γ : g_T} {q : Nat → Nat}  {u1 : Int32}  {r : Int32} {h2 : hp_T} (X : aC 1 Γ q RX10 cX10_fill 4 89) (N : ∀ k, k < 5 → aN Γ k) (hret : ∀ pc lv, decode cX10_fill pc = .ok (.ireturn, 1) → aA Γ pc lv [.int r] h2) {K : Int32 → Int32 → hp_T → Option (Int32 × hp_T)} (hk : ∀ v2 v3 h, K v2 v3 h = some (r, h2) → aA Γ 105 [some (.ref (q 0)), some (.int u1), some (.int v2), some (.int v3), none] [] h) : ∀ (n : Nat) (v2 : Int32) (v3 : Int32) (h : hp_T), f_X10_fill_L1 u1 K n v2 v3 h = some (r, h2) → aA Γ 29 [some (.ref (q 0)), some (.int u1), some (.int v2), some (.int v3), none] [] h := by
  intro n
  induction n with
  | zero =>
    intro v2 v3 h E
    cases E
  | succ n ih =>
    intro v2 v3 h E
    rw [f_X10_fill_L1] at E
    refine aI_iload_n X.1 dX10_fill_29 rfl ?_
    refine aI_if_eq (tgt := 105) X.1 dX10_fill_30 (by decide) (fun c7 => ?_) (fun c7 => ?_)
    · have E := o_pos c7 E
      exact hk v2 v3 h E
    · have E := o_neg c7 E
      refine aI_iconst (v := 2) X.1 dX10_fill_33 (by decide) ?_
      refine aI_iload_n X.1 dX10_fill_34 rfl ?_
      refine aI_imul X.1 dX10_fill_35 ?_
      refine aI_iconst (v := 2) X.1 dX10_fill_36 (by decide) ?_
      refine aI_iadd X.1 dX10_fill_37 ?_
      refine aI_aload_n X.1 dX10_fill_38 rfl ?_
      refine gf_10_13 X dX10_fill_39 ?_
      refine aI_iload_n X.1 dX10_fill_42 rfl ?_
      obtain ⟨g8, E⟩ := o_if E
      refine al1_2 X g8 dX10_fill_43 ?_
      refine aI_icmp_gt (tgt := 105) X.1 dX10_fill_44 (by decide) (fun c9 => ?_) (fun c9 => ?_)
      · have E := o_pos c9 E
        exact hk v2 v3 h E
      · have E := o_neg c9 E
        refine aI_bipush (v := 60) X.1 dX10_fill_47 (by decide) ?_
        refine aI_iload_n X.1 dX10_fill_49 rfl ?_
        refine aI_imul X.1 dX10_fill_50 ?_
        refine aI_iconst (v := 2) X.1 dX10_fill_51 (by decide) ?_
        refine aI_iload_n X.1 dX10_fill_52 rfl ?_
        refine aI_imul X.1 dX10_fill_53 ?_
        refine aI_iadd X.1 dX10_fill_54 ?_
        obtain ⟨x10, ex10, E⟩ := o_letE E
        refine aI_eqi ex10 ?_
        refine aI_istore (lv2 := [some (.ref (q 0)), some (.int u1), some (.int v2), some (.int v3), some (.int x10)]) X.1 dX10_fill_55 (N 4 (by decide)) rfl ?_
        refine aI_aload_n X.1 dX10_fill_57 rfl ?_
        refine aI_aload_n X.1 dX10_fill_58 rfl ?_
        obtain ⟨r12, h11, e13, E⟩ := o_callE E
        refine cv_X10_leastKey X (c_X10_leastKey e13) ml_10_164 (by decide) (by decide) (Nat.le_of_ble_eq_true rfl) dX10_fill_59 ?_
        refine aI_aload_n X.1 dX10_fill_62 rfl ?_
        refine gf_10_16 X dX10_fill_63 ?_
        refine aI_iload X.1 dX10_fill_66 rfl ?_
        obtain ⟨g14, E⟩ := o_if E
        refine al1_3 X g14 dX10_fill_68 ?_
        refine aI_aload_n X.1 dX10_fill_69 rfl ?_
        refine gf_10_16 X dX10_fill_70 ?_
        refine aI_iload X.1 dX10_fill_73 rfl ?_
        refine aI_iconst (v := 1) X.1 dX10_fill_75 (by decide) ?_
        refine aI_iadd X.1 dX10_fill_76 ?_
        obtain ⟨g15, E⟩ := o_if E
        refine al1_3 X g15 dX10_fill_77 ?_
        obtain ⟨r17, h16, e18, E⟩ := o_callE E
        refine cv_X10_put X (c_X10_put e18) ml_10_168 (by decide) (by decide) (Nat.le_of_ble_eq_true rfl) dX10_fill_78 ?_
        refine aI_if_lt (tgt := 88) X.1 dX10_fill_81 (by decide) (fun c19 => ?_) (fun c19 => ?_)
        · have E := o_pos c19 E
          refine aI_iconst (v := 0) X.1 dX10_fill_88 (by decide) ?_
          refine aI_istore_n (lv2 := [some (.ref (q 0)), some (.int u1), some (.int v2), some (.int (0 : Int32)), some (.int x10)]) X.1 dX10_fill_89 (N 3 (by decide)) rfl ?_
          refine aI_iload_n X.1 dX10_fill_90 rfl ?_
          refine aI_iload_n X.1 dX10_fill_91 rfl ?_
          refine aI_if_eq (tgt := 99) X.1 dX10_fill_92 (by decide) (fun _ => ?_) (fun z => absurd z (by decide))
          refine aI_iconst (v := 0) X.1 dX10_fill_99 (by decide) ?_
          refine aI_iadd X.1 dX10_fill_100 ?_
          obtain ⟨x21, ex21, E⟩ := o_letE E
          refine aI_eqi ex21 ?_
          refine aI_istore_n (lv2 := [some (.ref (q 0)), some (.int u1), some (.int x21), some (.int (0 : Int32)), some (.int x10)]) X.1 dX10_fill_101 (N 2 (by decide)) rfl ?_
          refine aI_goto (tgt := 29) X.1 dX10_fill_102 (by decide) ?_
          refine aI_lv [true, true, true, true, false] (lv2 := [some (.ref (q 0)), some (.int u1), some (.int x21), some (.int (0 : Int32)), none]) rfl ?_
          exact ih x21 (0 : Int32) h16 E
        · have E := o_neg c19 E
          refine aI_iconst (v := 1) X.1 dX10_fill_84 (by decide) ?_
          refine aI_goto (tgt := 89) X.1 dX10_fill_85 (by decide) ?_
          refine aI_istore_n (lv2 := [some (.ref (q 0)), some (.int u1), some (.int v2), some (.int (1 : Int32)), some (.int x10)]) X.1 dX10_fill_89 (N 3 (by decide)) rfl ?_
          refine aI_iload_n X.1 dX10_fill_90 rfl ?_
          refine aI_iload_n X.1 dX10_fill_91 rfl ?_
          refine aI_if_eq (tgt := 99) X.1 dX10_fill_92 (by decide) (fun z => absurd z (by decide)) (fun _ => ?_)
          refine aI_iconst (v := 1) X.1 dX10_fill_95 (by decide) ?_
          refine aI_goto (tgt := 100) X.1 dX10_fill_96 (by decide) ?_
          refine aI_iadd X.1 dX10_fill_100 ?_
          obtain ⟨x23, ex23, E⟩ := o_letE E
          refine aI_eqi ex23 ?_
          refine aI_istore_n (lv2 := [some (.ref (q 0)), some (.int u1), some (.int x23), some (.int (1 : Int32)), some (.int x10)]) X.1 dX10_fill_101 (N 2 (by decide)) rfl ?_
          refine aI_goto (tgt := 29) X.1 dX10_fill_102 (by decide) ?_
          refine aI_lv [true, true, true, true, false] (lv2 := [some (.ref (q 0)), some (.int u1), some (.int x23), some (.int (1 : Int32)), none]) rfl ?_
          exact ih x23 (1 : Int32) h16 E
set_option maxRecDepth 4000 in
theorem w_X10_fill {Γ : g_T} {q : Nat → Nat} {p1 : Int32}  {r : Int32} {h2 : hp_T} {h : hp_T} (X : aC 1 Γ q RX10 cX10_fill 4 89) (N : ∀ k, k < 5 → aN Γ k) (hret : ∀ pc lv, decode cX10_fill pc = .ok (.ireturn, 1) → aA Γ pc lv [.int r] h2) (E : f_X10_fill p1 h = some (r, h2)) : aA Γ 0 [some (.ref (q 0)), some (.int p1), none, none, none] [] h := by
  unfold f_X10_fill at E
  refine aI_iload_n X.1 dX10_fill_0 rfl ?_
  obtain ⟨r2, h1, e3, E⟩ := o_callE E
  refine cv_X10_isSheet X (c_X10_isSheet e3) ml_10_111 (by decide) (by decide) (Nat.le_of_ble_eq_true rfl) dX10_fill_1 ?_
  refine aI_if_ne (tgt := 10) X.1 dX10_fill_4 (by decide) (fun c4 => ?_) (fun c4 => ?_)
  · have E := o_neg c4 E
    refine aI_aload_n X.1 dX10_fill_10 rfl ?_
    refine gf_10_7 X dX10_fill_11 ?_
    refine aI_iload_n X.1 dX10_fill_14 rfl ?_
    obtain ⟨g5, E⟩ := o_if E
    refine al1_1 X g5 dX10_fill_15 ?_
    refine aI_if_ge (tgt := 25) X.1 dX10_fill_16 (by decide) (fun c6 => ?_) (fun c6 => ?_)
    · have E := o_pos c6 E
      refine aI_iconst (v := 0) X.1 dX10_fill_25 (by decide) ?_
      refine aI_istore_n (lv2 := [some (.ref (q 0)), some (.int p1), some (.int (0 : Int32)), none, none]) X.1 dX10_fill_26 (N 2 (by decide)) rfl ?_
      refine aI_iconst (v := 1) X.1 dX10_fill_27 (by decide) ?_
      refine aI_istore_n (lv2 := [some (.ref (q 0)), some (.int p1), some (.int (0 : Int32)), some (.int (1 : Int32)), none]) X.1 dX10_fill_28 (N 3 (by decide)) rfl ?_
      refine w_X10_fill_L1  X N hret ?_ 100 (0 : Int32) (1 : Int32) h1 E
      intro x24 x25 h26 E
      refine aI_iload_n X.1 dX10_fill_105 rfl ?_
      exact aI_iret E (hret _ _ dX10_fill_106)
    · have E := o_neg c6 E
      refine aI_aload_n X.1 dX10_fill_19 rfl ?_
      refine aI_iconst (v := 1) X.1 dX10_fill_20 (by decide) ?_
      obtain ⟨r28, h27, e29, E⟩ := o_callE E
      refine cv_X10_finds X (c_X10_finds e29) ml_10_117 (by decide) (by decide) (Nat.le_of_ble_eq_true rfl) dX10_fill_21 ?_
      exact aI_iret E (hret _ _ dX10_fill_24)
  · have E := o_pos c4 E
    refine aI_bipush (v := -2) X.1 dX10_fill_7 (by decide) ?_
    exact aI_iret E (hret _ _ dX10_fill_9)
theorem c_X10_fill {q : Nat → Nat} {p1 : Int32}  {r : Int32} {h2 : hp_T} {h : hp_T} (E : f_X10_fill p1 h = some (r, h2)) : cI 1 yX10_fill cX10_fill 5 .int 4 89 q [.ref (q 0), .int p1] h r h2 := metI (own := RX10) (by decide) rfl (Nat.le_of_ble_eq_true rfl) rfl (fun Γ X N hret => w_X10_fill X N hret E)
set_option maxRecDepth 4000 in
theorem w_X10_has {Γ : g_T} {q : Nat → Nat} {p1 : Int32}  {r : Int32} {h2 : hp_T} {h : hp_T} (X : aC 1 Γ q RX10 cX10_has 2 45) (N : ∀ k, k < 2 → aN Γ k) (hret : ∀ pc lv, decode cX10_has pc = .ok (.ireturn, 1) → bz r = true → aA Γ pc lv [.int r] h2) (E : f_X10_has p1 h = some (r, h2)) : aA Γ 0 [some (.ref (q 0)), some (.int p1)] [] h := by
  unfold f_X10_has at E
  refine aI_iload_n X.1 dX10_has_0 rfl ?_
  obtain ⟨r2, h1, e3, E⟩ := o_callE E
  refine cv_X10_isKey X (c_X10_isKey e3) ml_10_145 (by decide) (by decide) (Nat.le_of_ble_eq_true rfl) dX10_has_1 ?_
  refine aI_if_eq (tgt := 20) X.1 dX10_has_4 (by decide) (fun c4 => ?_) (fun c4 => ?_)
  · have E := o_pos c4 E
    refine aI_iconst (v := 0) X.1 dX10_has_20 (by decide) ?_
    exact aI_zret (by decide) E (hret _ _ dX10_has_21)
  · have E := o_neg c4 E
    refine aI_aload_n X.1 dX10_has_7 rfl ?_
    refine gf_10_22 X dX10_has_8 ?_
    refine aI_iload_n X.1 dX10_has_11 rfl ?_
    obtain ⟨g5, E⟩ := o_if E
    refine al1_5 X g5 dX10_has_12 ?_
    refine aI_if_eq (tgt := 20) X.1 dX10_has_13 (by decide) (fun c6 => ?_) (fun c6 => ?_)
    · have E := o_pos c6 E
      refine aI_iconst (v := 0) X.1 dX10_has_20 (by decide) ?_
      exact aI_zret (by decide) E (hret _ _ dX10_has_21)
    · have E := o_neg c6 E
      refine aI_iconst (v := 1) X.1 dX10_has_16 (by decide) ?_
      refine aI_goto (tgt := 21) X.1 dX10_has_17 (by decide) ?_
      exact aI_zret (by decide) E (hret _ _ dX10_has_21)
theorem c_X10_has {q : Nat → Nat} {p1 : Int32}  {r : Int32} {h2 : hp_T} {h : hp_T} (E : f_X10_has p1 h = some (r, h2)) : cI 1 yX10_has cX10_has 2 .boolean 2 45 q [.ref (q 0), .int p1] h r h2 := metZ (own := RX10) (by decide) rfl (Nat.le_of_ble_eq_true rfl) rfl (fun Γ X N hret => w_X10_has X N hret E)
set_option maxRecDepth 4000 in
theorem w_X10_span {Γ : g_T} {q : Nat → Nat} {p1 : Int32} {p2 : Int32}  {r : Int32} {h2 : hp_T} {h : hp_T} (X : aC 1 Γ q RX10 cX10_span 3 66) (N : ∀ k, k < 3 → aN Γ k) (hret : ∀ pc lv, decode cX10_span pc = .ok (.ireturn, 1) → aA Γ pc lv [.int r] h2) (E : f_X10_span p1 p2 h = some (r, h2)) : aA Γ 0 [some (.ref (q 0)), some (.int p1), some (.int p2)] [] h := by
  unfold f_X10_span at E
  refine aI_aload_n X.1 dX10_span_0 rfl ?_
  refine aI_iload_n X.1 dX10_span_1 rfl ?_
  obtain ⟨r2, h1, e3, E⟩ := o_callE E
  refine cv_X10_has X (c_X10_has e3) ml_10_171 (by decide) (by decide) (Nat.le_of_ble_eq_true rfl) dX10_span_2 ?_
  refine aI_if_eq (tgt := 37) X.1 dX10_span_5 (by decide) (fun c4 => ?_) (fun c4 => ?_)
  · have E := o_pos c4 E
    refine aI_ldc X.1 dX10_span_37 kc_10_129 ?_
    exact aI_iret E (hret _ _ dX10_span_39)
  · have E := o_neg c4 E
    refine aI_iload_n X.1 dX10_span_8 rfl ?_
    obtain ⟨r6, h5, e7, E⟩ := o_callE E
    refine cv_X10_isTwo X (c_X10_isTwo e7) ml_10_174 (by decide) (by decide) (Nat.le_of_ble_eq_true rfl) dX10_span_9 ?_
    refine aI_if_eq (tgt := 37) X.1 dX10_span_12 (by decide) (fun c8 => ?_) (fun c8 => ?_)
    · have E := o_pos c8 E
      refine aI_ldc X.1 dX10_span_37 kc_10_129 ?_
      exact aI_iret E (hret _ _ dX10_span_39)
    · have E := o_neg c8 E
      refine aI_iload_n X.1 dX10_span_15 rfl ?_
      refine aI_if_ne (tgt := 28) X.1 dX10_span_16 (by decide) (fun c9 => ?_) (fun c9 => ?_)
      · have E := o_neg c9 E
        refine aI_aload_n X.1 dX10_span_28 rfl ?_
        refine gf_10_29 X dX10_span_29 ?_
        refine aI_iload_n X.1 dX10_span_32 rfl ?_
        obtain ⟨g10, E⟩ := o_if E
        refine al1_7 X g10 dX10_span_33 ?_
        refine aI_goto (tgt := 39) X.1 dX10_span_34 (by decide) ?_
        exact aI_iret E (hret _ _ dX10_span_39)
      · have E := o_pos c9 E
        refine aI_aload_n X.1 dX10_span_19 rfl ?_
        refine gf_10_26 X dX10_span_20 ?_
        refine aI_iload_n X.1 dX10_span_23 rfl ?_
        obtain ⟨g11, E⟩ := o_if E
        refine al1_6 X g11 dX10_span_24 ?_
        refine aI_goto (tgt := 39) X.1 dX10_span_25 (by decide) ?_
        exact aI_iret E (hret _ _ dX10_span_39)
theorem c_X10_span {q : Nat → Nat} {p1 : Int32} {p2 : Int32}  {r : Int32} {h2 : hp_T} {h : hp_T} (E : f_X10_span p1 p2 h = some (r, h2)) : cI 1 yX10_span cX10_span 3 .int 3 66 q [.ref (q 0), .int p1, .int p2] h r h2 := metI (own := RX10) (by decide) rfl (Nat.le_of_ble_eq_true rfl) rfl (fun Γ X N hret => w_X10_span X N hret E)
set_option maxRecDepth 4000 in
theorem w_X10_isAhead {Γ : g_T} {q : Nat → Nat} {p1 : Int32} {p2 : Int32}  {r : Int32} {h2 : hp_T} {h : hp_T} (X : aC 1 Γ q RX10 cX10_isAhead 0 0) (N : ∀ k, k < 3 → aN Γ k) (hret : ∀ pc lv, decode cX10_isAhead pc = .ok (.ireturn, 1) → bz r = true → aA Γ pc lv [.int r] h2) (E : f_X10_isAhead p1 p2 h = some (r, h2)) : aA Γ 0 [some (.ref (q 0)), some (.int p1), some (.int p2)] [] h := by
  unfold f_X10_isAhead at E
  refine aI_aload_n X.1 dX10_isAhead_0 rfl ?_
  refine gf_10_26 X dX10_isAhead_1 ?_
  refine aI_iload_n X.1 dX10_isAhead_4 rfl ?_
  obtain ⟨g1, E⟩ := o_if E
  refine al1_6 X g1 dX10_isAhead_5 ?_
  refine aI_aload_n X.1 dX10_isAhead_6 rfl ?_
  refine gf_10_26 X dX10_isAhead_7 ?_
  refine aI_iload_n X.1 dX10_isAhead_10 rfl ?_
  obtain ⟨g2, E⟩ := o_if E
  refine al1_6 X g2 dX10_isAhead_11 ?_
  refine aI_icmp_eq (tgt := 38) X.1 dX10_isAhead_12 (by decide) (fun c3 => ?_) (fun c3 => ?_)
  · have E := o_pos c3 E
    refine aI_aload_n X.1 dX10_isAhead_38 rfl ?_
    refine gf_10_29 X dX10_isAhead_39 ?_
    refine aI_iload_n X.1 dX10_isAhead_42 rfl ?_
    obtain ⟨g4, E⟩ := o_if E
    refine al1_7 X g4 dX10_isAhead_43 ?_
    refine aI_aload_n X.1 dX10_isAhead_44 rfl ?_
    refine gf_10_29 X dX10_isAhead_45 ?_
    refine aI_iload_n X.1 dX10_isAhead_48 rfl ?_
    obtain ⟨g5, E⟩ := o_if E
    refine al1_7 X g5 dX10_isAhead_49 ?_
    refine aI_icmp_eq (tgt := 76) X.1 dX10_isAhead_50 (by decide) (fun c6 => ?_) (fun c6 => ?_)
    · have E := o_pos c6 E
      refine aI_iload_n X.1 dX10_isAhead_76 rfl ?_
      refine aI_iload_n X.1 dX10_isAhead_77 rfl ?_
      refine aI_icmp_ge (tgt := 85) X.1 dX10_isAhead_78 (by decide) (fun c7 => ?_) (fun c7 => ?_)
      · have E := o_pos c7 E
        refine aI_iconst (v := 0) X.1 dX10_isAhead_85 (by decide) ?_
        exact aI_zret (by decide) E (hret _ _ dX10_isAhead_86)
      · have E := o_neg c7 E
        refine aI_iconst (v := 1) X.1 dX10_isAhead_81 (by decide) ?_
        refine aI_goto (tgt := 86) X.1 dX10_isAhead_82 (by decide) ?_
        exact aI_zret (by decide) E (hret _ _ dX10_isAhead_86)
    · have E := o_neg c6 E
      refine aI_aload_n X.1 dX10_isAhead_53 rfl ?_
      refine gf_10_29 X dX10_isAhead_54 ?_
      refine aI_iload_n X.1 dX10_isAhead_57 rfl ?_
      obtain ⟨g8, E⟩ := o_if E
      refine al1_7 X g8 dX10_isAhead_58 ?_
      refine aI_aload_n X.1 dX10_isAhead_59 rfl ?_
      refine gf_10_29 X dX10_isAhead_60 ?_
      refine aI_iload_n X.1 dX10_isAhead_63 rfl ?_
      obtain ⟨g9, E⟩ := o_if E
      refine al1_7 X g9 dX10_isAhead_64 ?_
      refine aI_icmp_ge (tgt := 72) X.1 dX10_isAhead_65 (by decide) (fun c10 => ?_) (fun c10 => ?_)
      · have E := o_pos c10 E
        refine aI_iconst (v := 0) X.1 dX10_isAhead_72 (by decide) ?_
        refine aI_goto (tgt := 86) X.1 dX10_isAhead_73 (by decide) ?_
        exact aI_zret (by decide) E (hret _ _ dX10_isAhead_86)
      · have E := o_neg c10 E
        refine aI_iconst (v := 1) X.1 dX10_isAhead_68 (by decide) ?_
        refine aI_goto (tgt := 86) X.1 dX10_isAhead_69 (by decide) ?_
        exact aI_zret (by decide) E (hret _ _ dX10_isAhead_86)
  · have E := o_neg c3 E
    refine aI_aload_n X.1 dX10_isAhead_15 rfl ?_
    refine gf_10_26 X dX10_isAhead_16 ?_
    refine aI_iload_n X.1 dX10_isAhead_19 rfl ?_
    obtain ⟨g11, E⟩ := o_if E
    refine al1_6 X g11 dX10_isAhead_20 ?_
    refine aI_aload_n X.1 dX10_isAhead_21 rfl ?_
    refine gf_10_26 X dX10_isAhead_22 ?_
    refine aI_iload_n X.1 dX10_isAhead_25 rfl ?_
    obtain ⟨g12, E⟩ := o_if E
    refine al1_6 X g12 dX10_isAhead_26 ?_
    refine aI_icmp_ge (tgt := 34) X.1 dX10_isAhead_27 (by decide) (fun c13 => ?_) (fun c13 => ?_)
    · have E := o_pos c13 E
      refine aI_iconst (v := 0) X.1 dX10_isAhead_34 (by decide) ?_
      refine aI_goto (tgt := 86) X.1 dX10_isAhead_35 (by decide) ?_
      exact aI_zret (by decide) E (hret _ _ dX10_isAhead_86)
    · have E := o_neg c13 E
      refine aI_iconst (v := 1) X.1 dX10_isAhead_30 (by decide) ?_
      refine aI_goto (tgt := 86) X.1 dX10_isAhead_31 (by decide) ?_
      exact aI_zret (by decide) E (hret _ _ dX10_isAhead_86)
theorem c_X10_isAhead {q : Nat → Nat} {p1 : Int32} {p2 : Int32}  {r : Int32} {h2 : hp_T} {h : hp_T} (E : f_X10_isAhead p1 p2 h = some (r, h2)) : cI 1 yX10_isAhead cX10_isAhead 3 .boolean 0 0 q [.ref (q 0), .int p1, .int p2] h r h2 := metZ (own := RX10) (by decide) rfl (Nat.le_of_ble_eq_true rfl) rfl (fun Γ X N hret => w_X10_isAhead X N hret E)
set_option maxRecDepth 4000 in
theorem w_X10_orders_L2 {Γ : g_T} {q : Nat → Nat}  {u1 : Int32} {u2 : Int32}  {h2 : hp_T} (X : aC 1 Γ q RX10 cX10_orders 1 22) (N : ∀ k, k < 4 → aN Γ k) (hret : ∀ pc lv, decode cX10_orders pc = .ok (.return_, 1) → aA Γ pc lv [] h2) {K : Int32 → hp_T → Option (hp_T)} (hk : ∀ v3 h, K v3 h = some h2 → aA Γ 61 [some (.ref (q 0)), some (.int u1), some (.int u2), some (.int v3)] [] h) : ∀ (n : Nat) (v3 : Int32) (h : hp_T), f_X10_orders_L2 u2 K n v3 h = some h2 → aA Γ 21 [some (.ref (q 0)), some (.int u1), some (.int u2), some (.int v3)] [] h := by
  intro n
  induction n with
  | zero =>
    intro v3 h E
    cases E
  | succ n ih =>
    intro v3 h E
    rw [f_X10_orders_L2] at E
    refine aI_iload_n X.1 dX10_orders_21 rfl ?_
    refine aI_if_le (tgt := 61) X.1 dX10_orders_22 (by decide) (fun c5 => ?_) (fun c5 => ?_)
    · have E := o_pos c5 E
      exact hk v3 h E
    · have E := o_neg c5 E
      refine aI_aload_n X.1 dX10_orders_25 rfl ?_
      refine aI_iload_n X.1 dX10_orders_26 rfl ?_
      refine aI_aload_n X.1 dX10_orders_27 rfl ?_
      refine gf_10_44 X dX10_orders_28 ?_
      refine aI_iload_n X.1 dX10_orders_31 rfl ?_
      refine aI_iconst (v := 1) X.1 dX10_orders_32 (by decide) ?_
      refine aI_isub X.1 dX10_orders_33 ?_
      obtain ⟨g6, E⟩ := o_if E
      refine al1_12 X g6 dX10_orders_34 ?_
      obtain ⟨r8, h7, e9, E⟩ := o_callE E
      refine cv_X10_isAhead X (c_X10_isAhead e9) ml_10_177 (by decide) (by decide) (Nat.le_of_ble_eq_true rfl) dX10_orders_35 ?_
      refine aI_if_eq (tgt := 61) X.1 dX10_orders_38 (by decide) (fun c10 => ?_) (fun c10 => ?_)
      · have E := o_pos c10 E
        exact hk v3 h7 E
      · have E := o_neg c10 E
        refine aI_aload_n X.1 dX10_orders_41 rfl ?_
        refine gf_10_44 X dX10_orders_42 ?_
        refine aI_iload_n X.1 dX10_orders_45 rfl ?_
        refine aI_aload_n X.1 dX10_orders_46 rfl ?_
        refine gf_10_44 X dX10_orders_47 ?_
        refine aI_iload_n X.1 dX10_orders_50 rfl ?_
        refine aI_iconst (v := 1) X.1 dX10_orders_51 (by decide) ?_
        refine aI_isub X.1 dX10_orders_52 ?_
        obtain ⟨g11, E⟩ := o_if E
        refine al1_12 X g11 dX10_orders_53 ?_
        obtain ⟨g12, E⟩ := o_if E
        obtain ⟨h13, eh13, E⟩ := o_letE E
        refine as1_12 X g12 dX10_orders_54 (aI_eqh eh13 ?_)
        obtain ⟨x14, ex14, E⟩ := o_letE E
        refine aI_iinc (v := -1) (lv2 := [some (.ref (q 0)), some (.int u1), some (.int u2), some (.int x14)]) X.1 dX10_orders_55 (N 3 (by decide)) rfl (by decide) (by rw [← ex14]; rfl) ?_
        refine aI_goto (tgt := 21) X.1 dX10_orders_58 (by decide) ?_
        exact ih x14 h13 E
set_option maxRecDepth 4000 in
theorem w_X10_orders_L1 {Γ : g_T} {q : Nat → Nat}    {h2 : hp_T} (X : aC 1 Γ q RX10 cX10_orders 1 22) (N : ∀ k, k < 4 → aN Γ k) (hret : ∀ pc lv, decode cX10_orders pc = .ok (.return_, 1) → aA Γ pc lv [] h2) {K : Int32 → Int32 → hp_T → Option (hp_T)} (hk : ∀ v1 v2 h, K v1 v2 h = some h2 → aA Γ 77 [some (.ref (q 0)), some (.int v1), some (.int v2), none] [] h) : ∀ (n : Nat) (v1 : Int32) (v2 : Int32) (h : hp_T), f_X10_orders_L1 K n v1 v2 h = some h2 → aA Γ 4 [some (.ref (q 0)), some (.int v1), some (.int v2), none] [] h := by
  intro n
  induction n with
  | zero =>
    intro v1 v2 h E
    cases E
  | succ n ih =>
    intro v1 v2 h E
    rw [f_X10_orders_L1] at E
    refine aI_iload_n X.1 dX10_orders_4 rfl ?_
    refine aI_bipush (v := 48) X.1 dX10_orders_5 (by decide) ?_
    refine aI_icmp_ge (tgt := 77) X.1 dX10_orders_7 (by decide) (fun c1 => ?_) (fun c1 => ?_)
    · have E := o_pos c1 E
      exact hk v1 v2 h E
    · have E := o_neg c1 E
      refine aI_aload_n X.1 dX10_orders_10 rfl ?_
      refine gf_10_22 X dX10_orders_11 ?_
      refine aI_iload_n X.1 dX10_orders_14 rfl ?_
      obtain ⟨g2, E⟩ := o_if E
      refine al1_5 X g2 dX10_orders_15 ?_
      refine aI_if_eq (tgt := 71) X.1 dX10_orders_16 (by decide) (fun c3 => ?_) (fun c3 => ?_)
      · have E := o_pos c3 E
        obtain ⟨x4, ex4, E⟩ := o_letE E
        refine aI_iinc (v := 1) (lv2 := [some (.ref (q 0)), some (.int v1), some (.int x4), none]) X.1 dX10_orders_71 (N 2 (by decide)) rfl (by decide) (by rw [← ex4]; rfl) ?_
        refine aI_goto (tgt := 4) X.1 dX10_orders_74 (by decide) ?_
        exact ih v1 x4 h E
      · have E := o_neg c3 E
        refine aI_iload_n X.1 dX10_orders_19 rfl ?_
        refine aI_istore_n (lv2 := [some (.ref (q 0)), some (.int v1), some (.int v2), some (.int v1)]) X.1 dX10_orders_20 (N 3 (by decide)) rfl ?_
        refine w_X10_orders_L2  X N hret ?_ 100 v1 h E
        intro x15 h16 E
        refine aI_aload_n X.1 dX10_orders_61 rfl ?_
        refine gf_10_44 X dX10_orders_62 ?_
        refine aI_iload_n X.1 dX10_orders_65 rfl ?_
        refine aI_iload_n X.1 dX10_orders_66 rfl ?_
        obtain ⟨g17, E⟩ := o_if E
        obtain ⟨h18, eh18, E⟩ := o_letE E
        refine as1_12 X g17 dX10_orders_67 (aI_eqh eh18 ?_)
        obtain ⟨x19, ex19, E⟩ := o_letE E
        refine aI_iinc (v := 1) (lv2 := [some (.ref (q 0)), some (.int x19), some (.int v2), some (.int x15)]) X.1 dX10_orders_68 (N 1 (by decide)) rfl (by decide) (by rw [← ex19]; rfl) ?_
        obtain ⟨x20, ex20, E⟩ := o_letE E
        refine aI_iinc (v := 1) (lv2 := [some (.ref (q 0)), some (.int x19), some (.int x20), some (.int x15)]) X.1 dX10_orders_71 (N 2 (by decide)) rfl (by decide) (by rw [← ex20]; rfl) ?_
        refine aI_goto (tgt := 4) X.1 dX10_orders_74 (by decide) ?_
        refine aI_lv [true, true, true, false] (lv2 := [some (.ref (q 0)), some (.int x19), some (.int x20), none]) rfl ?_
        exact ih x19 x20 h18 E
set_option maxRecDepth 4000 in
theorem w_X10_orders_L3 {Γ : g_T} {q : Nat → Nat}  {u1 : Int32}  {h2 : hp_T} (X : aC 1 Γ q RX10 cX10_orders 1 22) (N : ∀ k, k < 4 → aN Γ k) (hret : ∀ pc lv, decode cX10_orders pc = .ok (.return_, 1) → aA Γ pc lv [] h2) {K : Int32 → hp_T → Option (hp_T)} (hk : ∀ v2 h, K v2 h = some h2 → aA Γ 102 [some (.ref (q 0)), some (.int u1), some (.int v2), none] [] h) : ∀ (n : Nat) (v2 : Int32) (h : hp_T), f_X10_orders_L3 u1 K n v2 h = some h2 → aA Γ 79 [some (.ref (q 0)), some (.int u1), some (.int v2), none] [] h := by
  intro n
  induction n with
  | zero =>
    intro v2 h E
    cases E
  | succ n ih =>
    intro v2 h E
    rw [f_X10_orders_L3] at E
    refine aI_iload_n X.1 dX10_orders_79 rfl ?_
    refine aI_iload_n X.1 dX10_orders_80 rfl ?_
    refine aI_icmp_ge (tgt := 102) X.1 dX10_orders_81 (by decide) (fun c24 => ?_) (fun c24 => ?_)
    · have E := o_pos c24 E
      exact hk v2 h E
    · have E := o_neg c24 E
      refine aI_aload_n X.1 dX10_orders_84 rfl ?_
      refine gf_10_47 X dX10_orders_85 ?_
      refine aI_aload_n X.1 dX10_orders_88 rfl ?_
      refine gf_10_44 X dX10_orders_89 ?_
      refine aI_iload_n X.1 dX10_orders_92 rfl ?_
      obtain ⟨g25, E⟩ := o_if E
      refine al1_12 X g25 dX10_orders_93 ?_
      refine aI_iload_n X.1 dX10_orders_94 rfl ?_
      obtain ⟨g26, E⟩ := o_if E
      obtain ⟨h27, eh27, E⟩ := o_letE E
      refine as1_13 X g26 dX10_orders_95 (aI_eqh eh27 ?_)
      obtain ⟨x28, ex28, E⟩ := o_letE E
      refine aI_iinc (v := 1) (lv2 := [some (.ref (q 0)), some (.int u1), some (.int x28), none]) X.1 dX10_orders_96 (N 2 (by decide)) rfl (by decide) (by rw [← ex28]; rfl) ?_
      refine aI_goto (tgt := 79) X.1 dX10_orders_99 (by decide) ?_
      exact ih x28 h27 E
set_option maxRecDepth 4000 in
theorem w_X10_orders {Γ : g_T} {q : Nat → Nat}   {h2 : hp_T} {h : hp_T} (X : aC 1 Γ q RX10 cX10_orders 1 22) (N : ∀ k, k < 4 → aN Γ k) (hret : ∀ pc lv, decode cX10_orders pc = .ok (.return_, 1) → aA Γ pc lv [] h2) (E : f_X10_orders  h = some h2) : aA Γ 0 [some (.ref (q 0)), none, none, none] [] h := by
  unfold f_X10_orders at E
  refine aI_iconst (v := 0) X.1 dX10_orders_0 (by decide) ?_
  refine aI_istore_n (lv2 := [some (.ref (q 0)), some (.int (0 : Int32)), none, none]) X.1 dX10_orders_1 (N 1 (by decide)) rfl ?_
  refine aI_iconst (v := 0) X.1 dX10_orders_2 (by decide) ?_
  refine aI_istore_n (lv2 := [some (.ref (q 0)), some (.int (0 : Int32)), some (.int (0 : Int32)), none]) X.1 dX10_orders_3 (N 2 (by decide)) rfl ?_
  refine w_X10_orders_L1  X N hret ?_ 100 (0 : Int32) (0 : Int32) h E
  intro x21 x22 h23 E
  refine aI_iconst (v := 0) X.1 dX10_orders_77 (by decide) ?_
  refine aI_istore_n (lv2 := [some (.ref (q 0)), some (.int x21), some (.int (0 : Int32)), none]) X.1 dX10_orders_78 (N 2 (by decide)) rfl ?_
  refine w_X10_orders_L3  X N hret ?_ 100 (0 : Int32) h23 E
  intro x29 h30 E
  exact aI_vret E (hret _ _ dX10_orders_102)
theorem c_X10_orders {q : Nat → Nat}   {h2 : hp_T} {h : hp_T} (E : f_X10_orders  h = some h2) : cV 1 yX10_orders cX10_orders 4 1 22 q [.ref (q 0)] h h2 := metV (own := RX10) (by decide) rfl (Nat.le_of_ble_eq_true rfl) rfl (fun Γ X N hret => w_X10_orders X N hret E)
set_option maxRecDepth 4000 in
theorem w_X10_weightAt {Γ : g_T} {q : Nat → Nat} {p1 : Int32}  {r : Int32} {h2 : hp_T} {h : hp_T} (X : aC 1 Γ q RX10 cX10_weightAt 0 0) (N : ∀ k, k < 2 → aN Γ k) (hret : ∀ pc lv, decode cX10_weightAt pc = .ok (.ireturn, 1) → aA Γ pc lv [.int r] h2) (E : f_X10_weightAt p1 h = some (r, h2)) : aA Γ 0 [some (.ref (q 0)), some (.int p1)] [] h := by
  unfold f_X10_weightAt at E
  refine aI_aload_n X.1 dX10_weightAt_0 rfl ?_
  refine gf_10_44 X dX10_weightAt_1 ?_
  refine aI_iload_n X.1 dX10_weightAt_4 rfl ?_
  obtain ⟨g1, E⟩ := o_if E
  refine al1_12 X g1 dX10_weightAt_5 ?_
  refine aI_iconst (v := 1) X.1 dX10_weightAt_6 (by decide) ?_
  refine aI_iadd X.1 dX10_weightAt_7 ?_
  refine aI_ldc X.1 dX10_weightAt_8 kc_10_180 ?_
  refine aI_imul X.1 dX10_weightAt_10 ?_
  refine aI_ldc X.1 dX10_weightAt_11 kc_10_181 ?_
  refine aI_irem X.1 dX10_weightAt_13 (by decide) ?_
  exact aI_iret E (hret _ _ dX10_weightAt_14)
theorem c_X10_weightAt {q : Nat → Nat} {p1 : Int32}  {r : Int32} {h2 : hp_T} {h : hp_T} (E : f_X10_weightAt p1 h = some (r, h2)) : cI 1 yX10_weightAt cX10_weightAt 2 .int 0 0 q [.ref (q 0), .int p1] h r h2 := metI (own := RX10) (by decide) rfl (Nat.le_of_ble_eq_true rfl) rfl (fun Γ X N hret => w_X10_weightAt X N hret E)
set_option maxRecDepth 4000 in
theorem w_X10_greatest_L1 {Γ : g_T} {q : Nat → Nat}  {u2 : Int32}  {r : Int32} {h2 : hp_T} (X : aC 1 Γ q RX10 cX10_greatest 1 21) (N : ∀ k, k < 5 → aN Γ k) (hret : ∀ pc lv, decode cX10_greatest pc = .ok (.ireturn, 1) → aA Γ pc lv [.int r] h2) {K : Int32 → Int32 → hp_T → Option (Int32 × hp_T)} (hk : ∀ v3 v4 h, K v3 v4 h = some (r, h2) → aA Γ 43 [some (.ref (q 0)), none, some (.int u2), some (.int v3), some (.int v4)] [] h) : ∀ (n : Nat) (v3 : Int32) (v4 : Int32) (h : hp_T), f_X10_greatest_L1 u2 K n v3 v4 h = some (r, h2) → aA Γ 5 [some (.ref (q 0)), none, some (.int u2), some (.int v3), some (.int v4)] [] h := by
  intro n
  induction n with
  | zero =>
    intro v3 v4 h E
    cases E
  | succ n ih =>
    intro v3 v4 h E
    rw [f_X10_greatest_L1] at E
    refine aI_iload X.1 dX10_greatest_5 rfl ?_
    refine aI_iload_n X.1 dX10_greatest_7 rfl ?_
    refine aI_icmp_ge (tgt := 43) X.1 dX10_greatest_8 (by decide) (fun c1 => ?_) (fun c1 => ?_)
    · have E := o_pos c1 E
      exact hk v3 v4 h E
    · have E := o_neg c1 E
      refine aI_iload_n X.1 dX10_greatest_11 rfl ?_
      refine aI_iconst (v := -1) X.1 dX10_greatest_12 (by decide) ?_
      refine aI_icmp_eq (tgt := 30) X.1 dX10_greatest_13 (by decide) (fun c2 => ?_) (fun c2 => ?_)
      · have E := o_pos c2 E
        refine aI_iload X.1 dX10_greatest_30 rfl ?_
        refine aI_goto (tgt := 36) X.1 dX10_greatest_32 (by decide) ?_
        refine aI_istore_n (lv2 := [some (.ref (q 0)), none, some (.int u2), some (.int v4), some (.int v4)]) X.1 dX10_greatest_36 (N 3 (by decide)) rfl ?_
        obtain ⟨x3, ex3, E⟩ := o_letE E
        refine aI_iinc (v := 1) (lv2 := [some (.ref (q 0)), none, some (.int u2), some (.int v4), some (.int x3)]) X.1 dX10_greatest_37 (N 4 (by decide)) rfl (by decide) (by rw [← ex3]; rfl) ?_
        refine aI_goto (tgt := 5) X.1 dX10_greatest_40 (by decide) ?_
        exact ih v4 x3 h E
      · have E := o_neg c2 E
        refine aI_aload_n X.1 dX10_greatest_16 rfl ?_
        refine aI_iload X.1 dX10_greatest_17 rfl ?_
        obtain ⟨r5, h4, e6, E⟩ := o_callE E
        refine cv_X10_weightAt X (c_X10_weightAt e6) ml_10_182 (by decide) (by decide) (Nat.le_of_ble_eq_true rfl) dX10_greatest_19 ?_
        refine aI_aload_n X.1 dX10_greatest_22 rfl ?_
        refine aI_iload_n X.1 dX10_greatest_23 rfl ?_
        obtain ⟨r8, h7, e9, E⟩ := o_callE E
        refine cv_X10_weightAt X (c_X10_weightAt e9) ml_10_182 (by decide) (by decide) (Nat.le_of_ble_eq_true rfl) dX10_greatest_24 ?_
        refine aI_icmp_le (tgt := 35) X.1 dX10_greatest_27 (by decide) (fun c10 => ?_) (fun c10 => ?_)
        · have E := o_pos c10 E
          refine aI_iload_n X.1 dX10_greatest_35 rfl ?_
          refine aI_istore_n (lv2 := [some (.ref (q 0)), none, some (.int u2), some (.int v3), some (.int v4)]) X.1 dX10_greatest_36 (N 3 (by decide)) rfl ?_
          obtain ⟨x11, ex11, E⟩ := o_letE E
          refine aI_iinc (v := 1) (lv2 := [some (.ref (q 0)), none, some (.int u2), some (.int v3), some (.int x11)]) X.1 dX10_greatest_37 (N 4 (by decide)) rfl (by decide) (by rw [← ex11]; rfl) ?_
          refine aI_goto (tgt := 5) X.1 dX10_greatest_40 (by decide) ?_
          exact ih v3 x11 h7 E
        · have E := o_neg c10 E
          refine aI_iload X.1 dX10_greatest_30 rfl ?_
          refine aI_goto (tgt := 36) X.1 dX10_greatest_32 (by decide) ?_
          refine aI_istore_n (lv2 := [some (.ref (q 0)), none, some (.int u2), some (.int v4), some (.int v4)]) X.1 dX10_greatest_36 (N 3 (by decide)) rfl ?_
          obtain ⟨x12, ex12, E⟩ := o_letE E
          refine aI_iinc (v := 1) (lv2 := [some (.ref (q 0)), none, some (.int u2), some (.int v4), some (.int x12)]) X.1 dX10_greatest_37 (N 4 (by decide)) rfl (by decide) (by rw [← ex12]; rfl) ?_
          refine aI_goto (tgt := 5) X.1 dX10_greatest_40 (by decide) ?_
          exact ih v4 x12 h7 E
set_option maxRecDepth 4000 in
theorem w_X10_greatest {Γ : g_T} {q : Nat → Nat} {p1 : Int32} {p2 : Int32}  {r : Int32} {h2 : hp_T} {h : hp_T} (X : aC 1 Γ q RX10 cX10_greatest 1 21) (N : ∀ k, k < 5 → aN Γ k) (hret : ∀ pc lv, decode cX10_greatest pc = .ok (.ireturn, 1) → aA Γ pc lv [.int r] h2) (E : f_X10_greatest p1 p2 h = some (r, h2)) : aA Γ 0 [some (.ref (q 0)), some (.int p1), some (.int p2), none, none] [] h := by
  unfold f_X10_greatest at E
  refine aI_iconst (v := -1) X.1 dX10_greatest_0 (by decide) ?_
  refine aI_istore_n (lv2 := [some (.ref (q 0)), some (.int p1), some (.int p2), some (.int (-1 : Int32)), none]) X.1 dX10_greatest_1 (N 3 (by decide)) rfl ?_
  refine aI_iload_n X.1 dX10_greatest_2 rfl ?_
  refine aI_istore (lv2 := [some (.ref (q 0)), some (.int p1), some (.int p2), some (.int (-1 : Int32)), some (.int p1)]) X.1 dX10_greatest_3 (N 4 (by decide)) rfl ?_
  refine aI_lv [true, false, true, true, true] (lv2 := [some (.ref (q 0)), none, some (.int p2), some (.int (-1 : Int32)), some (.int p1)]) rfl ?_
  refine w_X10_greatest_L1  X N hret ?_ 100 (-1 : Int32) p1 h E
  intro x13 x14 h15 E
  refine aI_iload_n X.1 dX10_greatest_43 rfl ?_
  exact aI_iret E (hret _ _ dX10_greatest_44)
theorem c_X10_greatest {q : Nat → Nat} {p1 : Int32} {p2 : Int32}  {r : Int32} {h2 : hp_T} {h : hp_T} (E : f_X10_greatest p1 p2 h = some (r, h2)) : cI 1 yX10_greatest cX10_greatest 5 .int 1 21 q [.ref (q 0), .int p1, .int p2] h r h2 := metI (own := RX10) (by decide) rfl (Nat.le_of_ble_eq_true rfl) rfl (fun Γ X N hret => w_X10_greatest X N hret E)
set_option maxRecDepth 4000 in
theorem w_X10_hangs {Γ : g_T} {q : Nat → Nat} {p1 : Int32} {p2 : Int32} {p3 : Int32} {p4 : Int32}  {r : Int32} {h2 : hp_T} {h : hp_T} (X : aC 1 Γ q RX10 cX10_hangs 2 45) (N : ∀ k, k < 6 → aN Γ k) (hret : ∀ pc lv, decode cX10_hangs pc = .ok (.ireturn, 1) → aA Γ pc lv [.int r] h2) (E : f_X10_hangs p1 p2 p3 p4 h = some (r, h2)) : aA Γ 0 [some (.ref (q 0)), some (.int p1), some (.int p2), some (.int p3), some (.int p4), none] [] h := by
  unfold f_X10_hangs at E
  refine aI_aload_n X.1 dX10_hangs_0 rfl ?_
  refine aI_iload_n X.1 dX10_hangs_1 rfl ?_
  refine aI_iload_n X.1 dX10_hangs_2 rfl ?_
  obtain ⟨r2, h1, e3, E⟩ := o_callE E
  refine cv_X10_greatest X (c_X10_greatest e3) ml_10_185 (by decide) (by decide) (Nat.le_of_ble_eq_true rfl) dX10_hangs_3 ?_
  refine aI_istore (lv2 := [some (.ref (q 0)), some (.int p1), some (.int p2), some (.int p3), some (.int p4), some (.int r2)]) X.1 dX10_hangs_6 (N 5 (by decide)) rfl ?_
  refine aI_iload X.1 dX10_hangs_8 rfl ?_
  refine aI_iconst (v := -1) X.1 dX10_hangs_10 (by decide) ?_
  refine aI_icmp_eq (tgt := 47) X.1 dX10_hangs_11 (by decide) (fun c4 => ?_) (fun c4 => ?_)
  · have E := o_pos c4 E
    refine aI_iload X.1 dX10_hangs_47 rfl ?_
    exact aI_iret E (hret _ _ dX10_hangs_49)
  · have E := o_neg c4 E
    refine aI_aload_n X.1 dX10_hangs_14 rfl ?_
    refine gf_10_53 X dX10_hangs_15 ?_
    refine aI_iload X.1 dX10_hangs_18 rfl ?_
    refine aI_iload_n X.1 dX10_hangs_20 rfl ?_
    obtain ⟨g5, E⟩ := o_if E
    obtain ⟨h6, eh6, E⟩ := o_letE E
    refine as1_15 X g5 dX10_hangs_21 (aI_eqh eh6 ?_)
    refine aI_aload_n X.1 dX10_hangs_22 rfl ?_
    refine gf_10_74 X dX10_hangs_23 ?_
    refine aI_iload X.1 dX10_hangs_26 rfl ?_
    refine aI_iload_n X.1 dX10_hangs_28 rfl ?_
    obtain ⟨g7, E⟩ := o_if E
    obtain ⟨h8, eh8, E⟩ := o_letE E
    refine as1_22 X g7 dX10_hangs_29 (aI_eqh eh8 ?_)
    refine aI_aload_n X.1 dX10_hangs_30 rfl ?_
    refine gf_10_77 X dX10_hangs_31 ?_
    refine aI_iload X.1 dX10_hangs_34 rfl ?_
    refine aI_iload_n X.1 dX10_hangs_36 rfl ?_
    obtain ⟨g9, E⟩ := o_if E
    obtain ⟨h10, eh10, E⟩ := o_letE E
    refine as1_23 X g9 dX10_hangs_37 (aI_eqh eh10 ?_)
    refine aI_aload_n X.1 dX10_hangs_38 rfl ?_
    refine gf_10_62 X dX10_hangs_39 ?_
    refine aI_iload X.1 dX10_hangs_42 rfl ?_
    refine aI_iload X.1 dX10_hangs_44 rfl ?_
    obtain ⟨g11, E⟩ := o_if E
    obtain ⟨h12, eh12, E⟩ := o_letE E
    refine as1_18 X g11 dX10_hangs_46 (aI_eqh eh12 ?_)
    refine aI_iload X.1 dX10_hangs_47 rfl ?_
    exact aI_iret E (hret _ _ dX10_hangs_49)
theorem c_X10_hangs {q : Nat → Nat} {p1 : Int32} {p2 : Int32} {p3 : Int32} {p4 : Int32}  {r : Int32} {h2 : hp_T} {h : hp_T} (E : f_X10_hangs p1 p2 p3 p4 h = some (r, h2)) : cI 1 yX10_hangs cX10_hangs 6 .int 2 45 q [.ref (q 0), .int p1, .int p2, .int p3, .int p4] h r h2 := metI (own := RX10) (by decide) rfl (Nat.le_of_ble_eq_true rfl) rfl (fun Γ X N hret => w_X10_hangs X N hret E)
set_option maxRecDepth 4000 in
theorem w_X10_sums_L1 {Γ : g_T} {q : Nat → Nat}  {u1 : Int32}  {h2 : hp_T} (X : aC 1 Γ q RX10 cX10_sums 1 21) (N : ∀ k, k < 4 → aN Γ k) (hret : ∀ pc lv, decode cX10_sums pc = .ok (.return_, 1) → aA Γ pc lv [] h2) {K : Int32 → hp_T → Option (hp_T)} (hk : ∀ v2 h, K v2 h = some h2 → aA Γ 128 [some (.ref (q 0)), some (.int u1), some (.int v2), none] [] h) : ∀ (n : Nat) (v2 : Int32) (h : hp_T), f_X10_sums_L1 u1 K n v2 h = some h2 → aA Γ 33 [some (.ref (q 0)), some (.int u1), some (.int v2), none] [] h := by
  intro n
  induction n with
  | zero =>
    intro v2 h E
    cases E
  | succ n ih =>
    intro v2 h E
    rw [f_X10_sums_L1] at E
    refine aI_iload_n X.1 dX10_sums_33 rfl ?_
    refine aI_iconst (v := 2) X.1 dX10_sums_34 (by decide) ?_
    refine aI_icmp_ge (tgt := 128) X.1 dX10_sums_35 (by decide) (fun c9 => ?_) (fun c9 => ?_)
    · have E := o_pos c9 E
      exact hk v2 h E
    · have E := o_neg c9 E
      refine aI_iload_n X.1 dX10_sums_38 rfl ?_
      refine aI_if_ne (tgt := 51) X.1 dX10_sums_39 (by decide) (fun c10 => ?_) (fun c10 => ?_)
      · have E := o_neg c10 E
        refine aI_aload_n X.1 dX10_sums_51 rfl ?_
        refine gf_10_59 X dX10_sums_52 ?_
        refine aI_iload_n X.1 dX10_sums_55 rfl ?_
        obtain ⟨g11, E⟩ := o_if E
        refine al1_17 X g11 dX10_sums_56 ?_
        obtain ⟨x12, ex12, E⟩ := o_letE E
        refine aI_eqi ex12 ?_
        refine aI_istore_n (lv2 := [some (.ref (q 0)), some (.int u1), some (.int v2), some (.int x12)]) X.1 dX10_sums_57 (N 3 (by decide)) rfl ?_
        refine aI_iload_n X.1 dX10_sums_58 rfl ?_
        refine aI_iconst (v := -1) X.1 dX10_sums_59 (by decide) ?_
        refine aI_icmp_eq (tgt := 122) X.1 dX10_sums_60 (by decide) (fun c13 => ?_) (fun c13 => ?_)
        · have E := o_pos c13 E
          obtain ⟨x14, ex14, E⟩ := o_letE E
          refine aI_iinc (v := 1) (lv2 := [some (.ref (q 0)), some (.int u1), some (.int x14), some (.int x12)]) X.1 dX10_sums_122 (N 2 (by decide)) rfl (by decide) (by rw [← ex14]; rfl) ?_
          refine aI_goto (tgt := 33) X.1 dX10_sums_125 (by decide) ?_
          refine aI_lv [true, true, true, false] (lv2 := [some (.ref (q 0)), some (.int u1), some (.int x14), none]) rfl ?_
          exact ih x14 h E
        · have E := o_neg c13 E
          refine aI_aload_n X.1 dX10_sums_63 rfl ?_
          refine gf_10_65 X dX10_sums_64 ?_
          refine aI_iload_n X.1 dX10_sums_67 rfl ?_
          refine aI_dup2 X.1 dX10_sums_68 rfl rfl ?_
          obtain ⟨g15, E⟩ := o_if E
          refine al1_19 X g15 dX10_sums_69 ?_
          refine aI_aload_n X.1 dX10_sums_70 rfl ?_
          refine gf_10_65 X dX10_sums_71 ?_
          refine aI_iload_n X.1 dX10_sums_74 rfl ?_
          obtain ⟨g16, E⟩ := o_if E
          refine al1_19 X g16 dX10_sums_75 ?_
          refine aI_iadd X.1 dX10_sums_76 ?_
          obtain ⟨g17, E⟩ := o_if E
          obtain ⟨h18, eh18, E⟩ := o_letE E
          refine as1_19 X g17 dX10_sums_77 (aI_eqh eh18 ?_)
          refine aI_aload_n X.1 dX10_sums_78 rfl ?_
          refine gf_10_68 X dX10_sums_79 ?_
          refine aI_iload_n X.1 dX10_sums_82 rfl ?_
          refine aI_aload_n X.1 dX10_sums_83 rfl ?_
          refine gf_10_68 X dX10_sums_84 ?_
          refine aI_iload_n X.1 dX10_sums_87 rfl ?_
          obtain ⟨g19, E⟩ := o_if E
          refine al1_20 X g19 dX10_sums_88 ?_
          refine aI_iconst (v := 1) X.1 dX10_sums_89 (by decide) ?_
          refine aI_iadd X.1 dX10_sums_90 ?_
          refine aI_aload_n X.1 dX10_sums_91 rfl ?_
          refine gf_10_68 X dX10_sums_92 ?_
          refine aI_iload_n X.1 dX10_sums_95 rfl ?_
          obtain ⟨g20, E⟩ := o_if E
          refine al1_20 X g20 dX10_sums_96 ?_
          obtain ⟨r22, h21, e23, E⟩ := o_callE E
          refine cv_X10_greater X (c_X10_greater e23) ml_10_198 (by decide) (by decide) (Nat.le_of_ble_eq_true rfl) dX10_sums_97 ?_
          obtain ⟨g24, E⟩ := o_if E
          obtain ⟨h25, eh25, E⟩ := o_letE E
          refine as1_20 X g24 dX10_sums_100 (aI_eqh eh25 ?_)
          refine aI_aload_n X.1 dX10_sums_101 rfl ?_
          refine gf_10_71 X dX10_sums_102 ?_
          refine aI_iload_n X.1 dX10_sums_105 rfl ?_
          refine aI_aload_n X.1 dX10_sums_106 rfl ?_
          refine gf_10_71 X dX10_sums_107 ?_
          refine aI_iload_n X.1 dX10_sums_110 rfl ?_
          obtain ⟨g26, E⟩ := o_if E
          refine al1_21 X g26 dX10_sums_111 ?_
          refine aI_aload_n X.1 dX10_sums_112 rfl ?_
          refine gf_10_71 X dX10_sums_113 ?_
          refine aI_iload_n X.1 dX10_sums_116 rfl ?_
          obtain ⟨g27, E⟩ := o_if E
          refine al1_21 X g27 dX10_sums_117 ?_
          obtain ⟨r29, h28, e30, E⟩ := o_callE E
          refine cv_X10_greater X (c_X10_greater e30) ml_10_198 (by decide) (by decide) (Nat.le_of_ble_eq_true rfl) dX10_sums_118 ?_
          obtain ⟨g31, E⟩ := o_if E
          obtain ⟨h32, eh32, E⟩ := o_letE E
          refine as1_21 X g31 dX10_sums_121 (aI_eqh eh32 ?_)
          obtain ⟨x33, ex33, E⟩ := o_letE E
          refine aI_iinc (v := 1) (lv2 := [some (.ref (q 0)), some (.int u1), some (.int x33), some (.int x12)]) X.1 dX10_sums_122 (N 2 (by decide)) rfl (by decide) (by rw [← ex33]; rfl) ?_
          refine aI_goto (tgt := 33) X.1 dX10_sums_125 (by decide) ?_
          refine aI_lv [true, true, true, false] (lv2 := [some (.ref (q 0)), some (.int u1), some (.int x33), none]) rfl ?_
          exact ih x33 h32 E
      · have E := o_pos c10 E
        refine aI_aload_n X.1 dX10_sums_42 rfl ?_
        refine gf_10_56 X dX10_sums_43 ?_
        refine aI_iload_n X.1 dX10_sums_46 rfl ?_
        obtain ⟨g34, E⟩ := o_if E
        refine al1_16 X g34 dX10_sums_47 ?_
        refine aI_goto (tgt := 57) X.1 dX10_sums_48 (by decide) ?_
        obtain ⟨x35, ex35, E⟩ := o_letE E
        refine aI_eqi ex35 ?_
        refine aI_istore_n (lv2 := [some (.ref (q 0)), some (.int u1), some (.int v2), some (.int x35)]) X.1 dX10_sums_57 (N 3 (by decide)) rfl ?_
        refine aI_iload_n X.1 dX10_sums_58 rfl ?_
        refine aI_iconst (v := -1) X.1 dX10_sums_59 (by decide) ?_
        refine aI_icmp_eq (tgt := 122) X.1 dX10_sums_60 (by decide) (fun c36 => ?_) (fun c36 => ?_)
        · have E := o_pos c36 E
          obtain ⟨x37, ex37, E⟩ := o_letE E
          refine aI_iinc (v := 1) (lv2 := [some (.ref (q 0)), some (.int u1), some (.int x37), some (.int x35)]) X.1 dX10_sums_122 (N 2 (by decide)) rfl (by decide) (by rw [← ex37]; rfl) ?_
          refine aI_goto (tgt := 33) X.1 dX10_sums_125 (by decide) ?_
          refine aI_lv [true, true, true, false] (lv2 := [some (.ref (q 0)), some (.int u1), some (.int x37), none]) rfl ?_
          exact ih x37 h E
        · have E := o_neg c36 E
          refine aI_aload_n X.1 dX10_sums_63 rfl ?_
          refine gf_10_65 X dX10_sums_64 ?_
          refine aI_iload_n X.1 dX10_sums_67 rfl ?_
          refine aI_dup2 X.1 dX10_sums_68 rfl rfl ?_
          obtain ⟨g38, E⟩ := o_if E
          refine al1_19 X g38 dX10_sums_69 ?_
          refine aI_aload_n X.1 dX10_sums_70 rfl ?_
          refine gf_10_65 X dX10_sums_71 ?_
          refine aI_iload_n X.1 dX10_sums_74 rfl ?_
          obtain ⟨g39, E⟩ := o_if E
          refine al1_19 X g39 dX10_sums_75 ?_
          refine aI_iadd X.1 dX10_sums_76 ?_
          obtain ⟨g40, E⟩ := o_if E
          obtain ⟨h41, eh41, E⟩ := o_letE E
          refine as1_19 X g40 dX10_sums_77 (aI_eqh eh41 ?_)
          refine aI_aload_n X.1 dX10_sums_78 rfl ?_
          refine gf_10_68 X dX10_sums_79 ?_
          refine aI_iload_n X.1 dX10_sums_82 rfl ?_
          refine aI_aload_n X.1 dX10_sums_83 rfl ?_
          refine gf_10_68 X dX10_sums_84 ?_
          refine aI_iload_n X.1 dX10_sums_87 rfl ?_
          obtain ⟨g42, E⟩ := o_if E
          refine al1_20 X g42 dX10_sums_88 ?_
          refine aI_iconst (v := 1) X.1 dX10_sums_89 (by decide) ?_
          refine aI_iadd X.1 dX10_sums_90 ?_
          refine aI_aload_n X.1 dX10_sums_91 rfl ?_
          refine gf_10_68 X dX10_sums_92 ?_
          refine aI_iload_n X.1 dX10_sums_95 rfl ?_
          obtain ⟨g43, E⟩ := o_if E
          refine al1_20 X g43 dX10_sums_96 ?_
          obtain ⟨r45, h44, e46, E⟩ := o_callE E
          refine cv_X10_greater X (c_X10_greater e46) ml_10_198 (by decide) (by decide) (Nat.le_of_ble_eq_true rfl) dX10_sums_97 ?_
          obtain ⟨g47, E⟩ := o_if E
          obtain ⟨h48, eh48, E⟩ := o_letE E
          refine as1_20 X g47 dX10_sums_100 (aI_eqh eh48 ?_)
          refine aI_aload_n X.1 dX10_sums_101 rfl ?_
          refine gf_10_71 X dX10_sums_102 ?_
          refine aI_iload_n X.1 dX10_sums_105 rfl ?_
          refine aI_aload_n X.1 dX10_sums_106 rfl ?_
          refine gf_10_71 X dX10_sums_107 ?_
          refine aI_iload_n X.1 dX10_sums_110 rfl ?_
          obtain ⟨g49, E⟩ := o_if E
          refine al1_21 X g49 dX10_sums_111 ?_
          refine aI_aload_n X.1 dX10_sums_112 rfl ?_
          refine gf_10_71 X dX10_sums_113 ?_
          refine aI_iload_n X.1 dX10_sums_116 rfl ?_
          obtain ⟨g50, E⟩ := o_if E
          refine al1_21 X g50 dX10_sums_117 ?_
          obtain ⟨r52, h51, e53, E⟩ := o_callE E
          refine cv_X10_greater X (c_X10_greater e53) ml_10_198 (by decide) (by decide) (Nat.le_of_ble_eq_true rfl) dX10_sums_118 ?_
          obtain ⟨g54, E⟩ := o_if E
          obtain ⟨h55, eh55, E⟩ := o_letE E
          refine as1_21 X g54 dX10_sums_121 (aI_eqh eh55 ?_)
          obtain ⟨x56, ex56, E⟩ := o_letE E
          refine aI_iinc (v := 1) (lv2 := [some (.ref (q 0)), some (.int u1), some (.int x56), some (.int x35)]) X.1 dX10_sums_122 (N 2 (by decide)) rfl (by decide) (by rw [← ex56]; rfl) ?_
          refine aI_goto (tgt := 33) X.1 dX10_sums_125 (by decide) ?_
          refine aI_lv [true, true, true, false] (lv2 := [some (.ref (q 0)), some (.int u1), some (.int x56), none]) rfl ?_
          exact ih x56 h55 E
set_option maxRecDepth 4000 in
theorem w_X10_sums {Γ : g_T} {q : Nat → Nat} {p1 : Int32}  {h2 : hp_T} {h : hp_T} (X : aC 1 Γ q RX10 cX10_sums 1 21) (N : ∀ k, k < 4 → aN Γ k) (hret : ∀ pc lv, decode cX10_sums pc = .ok (.return_, 1) → aA Γ pc lv [] h2) (E : f_X10_sums p1 h = some h2) : aA Γ 0 [some (.ref (q 0)), some (.int p1), none, none] [] h := by
  unfold f_X10_sums at E
  refine aI_aload_n X.1 dX10_sums_0 rfl ?_
  refine gf_10_65 X dX10_sums_1 ?_
  refine aI_iload_n X.1 dX10_sums_4 rfl ?_
  refine aI_iconst (v := 1) X.1 dX10_sums_5 (by decide) ?_
  obtain ⟨g1, E⟩ := o_if E
  obtain ⟨h2, eh2, E⟩ := o_letE E
  refine as1_19 X g1 dX10_sums_6 (aI_eqh eh2 ?_)
  refine aI_aload_n X.1 dX10_sums_7 rfl ?_
  refine gf_10_68 X dX10_sums_8 ?_
  refine aI_iload_n X.1 dX10_sums_11 rfl ?_
  refine aI_iconst (v := 1) X.1 dX10_sums_12 (by decide) ?_
  obtain ⟨g3, E⟩ := o_if E
  obtain ⟨h4, eh4, E⟩ := o_letE E
  refine as1_20 X g3 dX10_sums_13 (aI_eqh eh4 ?_)
  refine aI_aload_n X.1 dX10_sums_14 rfl ?_
  refine gf_10_71 X dX10_sums_15 ?_
  refine aI_iload_n X.1 dX10_sums_18 rfl ?_
  refine aI_aload_n X.1 dX10_sums_19 rfl ?_
  refine gf_10_29 X dX10_sums_20 ?_
  refine aI_aload_n X.1 dX10_sums_23 rfl ?_
  refine gf_10_44 X dX10_sums_24 ?_
  refine aI_iload_n X.1 dX10_sums_27 rfl ?_
  obtain ⟨g5, E⟩ := o_if E
  refine al1_12 X g5 dX10_sums_28 ?_
  obtain ⟨g6, E⟩ := o_if E
  refine al1_7 X g6 dX10_sums_29 ?_
  obtain ⟨g7, E⟩ := o_if E
  obtain ⟨h8, eh8, E⟩ := o_letE E
  refine as1_21 X g7 dX10_sums_30 (aI_eqh eh8 ?_)
  refine aI_iconst (v := 0) X.1 dX10_sums_31 (by decide) ?_
  refine aI_istore_n (lv2 := [some (.ref (q 0)), some (.int p1), some (.int (0 : Int32)), none]) X.1 dX10_sums_32 (N 2 (by decide)) rfl ?_
  refine w_X10_sums_L1  X N hret ?_ 100 (0 : Int32) h8 E
  intro x57 h58 E
  exact aI_vret E (hret _ _ dX10_sums_128)
theorem c_X10_sums {q : Nat → Nat} {p1 : Int32}  {h2 : hp_T} {h : hp_T} (E : f_X10_sums p1 h = some h2) : cV 1 yX10_sums cX10_sums 4 1 21 q [.ref (q 0), .int p1] h h2 := metV (own := RX10) (by decide) rfl (Nat.le_of_ble_eq_true rfl) rfl (fun Γ X N hret => w_X10_sums X N hret E)
