set_option maxRecDepth 4000 in
theorem w_X9_lay {Γ : g_T} {q : Nat → Nat} {p1 : Int32} {p2 : Int32} {p3 : Int32} {p4 : Int32}  {r : Int32} {h2 : hp_T} {h : hp_T} (X : aC 0 Γ q RX9 cX9_lay 2 46) (N : ∀ k, k < 6 → aN Γ k) (hret : ∀ pc lv, decode cX9_lay pc = .ok (.ireturn, 1) → aA Γ pc lv [.int r] h2) (E : f_X9_lay p1 p2 p3 p4 h = some (r, h2)) : aA Γ 0 [some (.ref (q 0)), some (.int p1), some (.int p2), some (.int p3), some (.int p4), none] [] h := by
  unfold f_X9_lay at E
  refine aI_aload_n X.1 dX9_lay_0 rfl ?_
  refine aI_iload_n X.1 dX9_lay_1 rfl ?_
  refine aI_iload_n X.1 dX9_lay_2 rfl ?_
  refine aI_iload_n X.1 dX9_lay_3 rfl ?_
  obtain ⟨r2, h1, e3, E⟩ := o_callE E
  refine cv_X9_itemRefusal X (c_X9_itemRefusal e3) ml_9_272 (by decide) (by decide) (Nat.le_of_ble_eq_true rfl) dX9_lay_4 ?_
  refine aI_istore (lv2 := [some (.ref (q 0)), some (.int p1), some (.int p2), some (.int p3), some (.int p4), some (.int r2)]) X.1 dX9_lay_7 (N 5 (by decide)) rfl ?_
  refine aI_iload X.1 dX9_lay_9 rfl ?_
  refine aI_if_eq (tgt := 17) X.1 dX9_lay_11 (by decide) (fun c4 => ?_) (fun c4 => ?_)
  · have E := o_pos c4 E
    refine aI_aload_n X.1 dX9_lay_17 rfl ?_
    refine gf_9_67 X dX9_lay_18 ?_
    refine aI_iload_n X.1 dX9_lay_21 rfl ?_
    obtain ⟨g5, E⟩ := o_if E
    refine aK_aald X g5 dX9_lay_22 ?_
    refine aI_iload_n X.1 dX9_lay_23 rfl ?_
    refine aI_iload X.1 dX9_lay_24 rfl ?_
    obtain ⟨h6, e7, E⟩ := o_cvE E
    refine cv_X6_setItem (p1.toNatClampNeg) (ix_lt g5) X (c_X6_setItem (ix_lt g5) e7) ml_9_275 (by decide) (by decide) (Nat.le_of_ble_eq_true rfl) dX9_lay_26 ?_
    refine aI_iconst (v := 1) X.1 dX9_lay_29 (by decide) ?_
    exact aI_iret E (hret _ _ dX9_lay_30)
  · have E := o_neg c4 E
    refine aI_iload X.1 dX9_lay_14 rfl ?_
    exact aI_iret E (hret _ _ dX9_lay_16)
theorem c_X9_lay {q : Nat → Nat} {p1 : Int32} {p2 : Int32} {p3 : Int32} {p4 : Int32}  {r : Int32} {h2 : hp_T} {h : hp_T} (E : f_X9_lay p1 p2 p3 p4 h = some (r, h2)) : cI 0 yX9_lay cX9_lay 6 .int 2 46 q [.ref (q 0), .int p1, .int p2, .int p3, .int p4] h r h2 := metI (own := RX9) (by decide) rfl (Nat.le_of_ble_eq_true rfl) rfl (fun Γ X N hret => w_X9_lay X N hret E)
set_option maxRecDepth 4000 in
theorem w_X9_get {Γ : g_T} {q : Nat → Nat} {p1 : Int32} {p2 : Int32} {p3 : Int32}  {r : Int32} {h2 : hp_T} {h : hp_T} (X : aC 0 Γ q RX9 cX9_get 2 46) (N : ∀ k, k < 4 → aN Γ k) (hret : ∀ pc lv, decode cX9_get pc = .ok (.ireturn, 1) → aA Γ pc lv [.int r] h2) (E : f_X9_get p1 p2 p3 h = some (r, h2)) : aA Γ 0 [some (.ref (q 0)), some (.int p1), some (.int p2), some (.int p3)] [] h := by
  unfold f_X9_get at E
  refine aI_aload_n X.1 dX9_get_0 rfl ?_
  refine aI_iload_n X.1 dX9_get_1 rfl ?_
  refine aI_iload_n X.1 dX9_get_2 rfl ?_
  refine aI_iload_n X.1 dX9_get_3 rfl ?_
  obtain ⟨r2, h1, e3, E⟩ := o_callE E
  refine cv_X9_itemRefusal X (c_X9_itemRefusal e3) ml_9_272 (by decide) (by decide) (Nat.le_of_ble_eq_true rfl) dX9_get_4 ?_
  refine aI_if_ne (tgt := 24) X.1 dX9_get_7 (by decide) (fun c4 => ?_) (fun c4 => ?_)
  · have E := o_neg c4 E
    refine aI_ldc X.1 dX9_get_24 kc_9_144 ?_
    exact aI_iret E (hret _ _ dX9_get_26)
  · have E := o_pos c4 E
    refine aI_aload_n X.1 dX9_get_10 rfl ?_
    refine gf_9_67 X dX9_get_11 ?_
    refine aI_iload_n X.1 dX9_get_14 rfl ?_
    obtain ⟨g5, E⟩ := o_if E
    refine aK_aald X g5 dX9_get_15 ?_
    refine gf_9_138 (p1.toNatClampNeg) (ix_lt g5) X dX9_get_16 ?_
    refine aI_iload_n X.1 dX9_get_19 rfl ?_
    obtain ⟨g6, E⟩ := o_if E
    refine al0_s (p1.toNatClampNeg) (ix_lt g5) X g6 dX9_get_20 ?_
    refine aI_goto (tgt := 26) X.1 dX9_get_21 (by decide) ?_
    exact aI_iret E (hret _ _ dX9_get_26)
theorem c_X9_get {q : Nat → Nat} {p1 : Int32} {p2 : Int32} {p3 : Int32}  {r : Int32} {h2 : hp_T} {h : hp_T} (E : f_X9_get p1 p2 p3 h = some (r, h2)) : cI 0 yX9_get cX9_get 4 .int 2 46 q [.ref (q 0), .int p1, .int p2, .int p3] h r h2 := metI (own := RX9) (by decide) rfl (Nat.le_of_ble_eq_true rfl) rfl (fun Γ X N hret => w_X9_get X N hret E)
set_option maxRecDepth 4000 in
theorem w_X9_copy {Γ : g_T} {q : Nat → Nat} {p1 : Int32} {p2 : Int32} {p3 : Int32} {p4 : Int32} {p5 : Int32}  {r : Int32} {h2 : hp_T} {h : hp_T} (X : aC 0 Γ q RX9 cX9_copy 1 26) (N : ∀ k, k < 8 → aN Γ k) (hret : ∀ pc lv, decode cX9_copy pc = .ok (.ireturn, 1) → aA Γ pc lv [.int r] h2) (E : f_X9_copy p1 p2 p3 p4 p5 h = some (r, h2)) : aA Γ 0 [some (.ref (q 0)), some (.int p1), some (.int p2), some (.int p3), some (.int p4), some (.int p5), none, none] [] h := by
  unfold f_X9_copy at E
  refine aI_iload_n X.1 dX9_copy_0 rfl ?_
  obtain ⟨r2, h1, e3, E⟩ := o_callE E
  refine cv_X9_isSheet X (c_X9_isSheet e3) ml_9_124 (by decide) (by decide) (Nat.le_of_ble_eq_true rfl) dX9_copy_1 ?_
  refine aI_if_eq (tgt := 14) X.1 dX9_copy_4 (by decide) (fun c4 => ?_) (fun c4 => ?_)
  · have E := o_pos c4 E
    refine aI_bipush (v := -2) X.1 dX9_copy_14 (by decide) ?_
    exact aI_iret E (hret _ _ dX9_copy_16)
  · have E := o_neg c4 E
    refine aI_iload_n X.1 dX9_copy_7 rfl ?_
    obtain ⟨r6, h5, e7, E⟩ := o_callE E
    refine cv_X9_isSheet X (c_X9_isSheet e7) ml_9_124 (by decide) (by decide) (Nat.le_of_ble_eq_true rfl) dX9_copy_8 ?_
    refine aI_if_ne (tgt := 17) X.1 dX9_copy_11 (by decide) (fun c8 => ?_) (fun c8 => ?_)
    · have E := o_neg c8 E
      refine aI_aload_n X.1 dX9_copy_17 rfl ?_
      refine gf_9_67 X dX9_copy_18 ?_
      refine aI_iload_n X.1 dX9_copy_21 rfl ?_
      obtain ⟨g9, E⟩ := o_if E
      refine aK_aald X g9 dX9_copy_22 ?_
      refine aI_astore (lv2 := [some (.ref (q 0)), some (.int p1), some (.int p2), some (.int p3), some (.int p4), some (.int p5), some (.ref (q (38 + p1.toNatClampNeg))), none]) X.1 dX9_copy_23 (N 6 (by decide)) rfl ?_
      refine aI_aload_n X.1 dX9_copy_25 rfl ?_
      refine gf_9_67 X dX9_copy_26 ?_
      refine aI_iload_n X.1 dX9_copy_29 rfl ?_
      obtain ⟨g10, E⟩ := o_if E
      refine aK_aald X g10 dX9_copy_30 ?_
      refine aI_astore (lv2 := [some (.ref (q 0)), some (.int p1), some (.int p2), some (.int p3), some (.int p4), some (.int p5), some (.ref (q (38 + p1.toNatClampNeg))), some (.ref (q (38 + p3.toNatClampNeg)))]) X.1 dX9_copy_31 (N 7 (by decide)) rfl ?_
      refine aI_aload X.1 dX9_copy_33 rfl ?_
      refine gf_9_127 (p1.toNatClampNeg) (ix_lt g9) X dX9_copy_35 ?_
      refine aI_if_ne (tgt := 49) X.1 dX9_copy_38 (by decide) (fun c11 => ?_) (fun c11 => ?_)
      · have E := o_neg c11 E
        refine aI_aload_n X.1 dX9_copy_49 rfl ?_
        refine aI_iconst (v := 1) X.1 dX9_copy_50 (by decide) ?_
        obtain ⟨r13, h12, e14, E⟩ := o_callE E
        refine cv_X9_found X (c_X9_found e14) ml_9_130 (by decide) (by decide) (Nat.le_of_ble_eq_true rfl) dX9_copy_51 ?_
        exact aI_iret E (hret _ _ dX9_copy_54)
      · have E := o_pos c11 E
        refine aI_aload X.1 dX9_copy_41 rfl ?_
        refine gf_9_127 (p3.toNatClampNeg) (ix_lt g10) X dX9_copy_43 ?_
        refine aI_if_eq (tgt := 55) X.1 dX9_copy_46 (by decide) (fun c15 => ?_) (fun c15 => ?_)
        · have E := o_pos c15 E
          refine aI_aload X.1 dX9_copy_55 rfl ?_
          refine gf_9_278 (p1.toNatClampNeg) (ix_lt g9) X dX9_copy_57 ?_
          refine aI_aload X.1 dX9_copy_60 rfl ?_
          refine gf_9_278 (p3.toNatClampNeg) (ix_lt g10) X dX9_copy_62 ?_
          refine aI_icmp_eq (tgt := 74) X.1 dX9_copy_65 (by decide) (fun c16 => ?_) (fun c16 => ?_)
          · have E := o_pos c16 E
            refine aI_aload X.1 dX9_copy_74 rfl ?_
            refine aI_iload_n X.1 dX9_copy_76 rfl ?_
            refine aI_iload X.1 dX9_copy_77 rfl ?_
            obtain ⟨r18, h17, e19, E⟩ := o_callE E
            refine cv_X6_hasItems (p1.toNatClampNeg) (ix_lt g9) X (c_X6_hasItems (ix_lt g9) e19) ml_9_281 (by decide) (by decide) (Nat.le_of_ble_eq_true rfl) dX9_copy_79 ?_
            refine aI_if_eq (tgt := 97) X.1 dX9_copy_82 (by decide) (fun c20 => ?_) (fun c20 => ?_)
            · have E := o_pos c20 E
              refine aI_aload_n X.1 dX9_copy_97 rfl ?_
              refine aI_iconst (v := 2) X.1 dX9_copy_98 (by decide) ?_
              obtain ⟨r22, h21, e23, E⟩ := o_callE E
              refine cv_X9_found X (c_X9_found e23) ml_9_130 (by decide) (by decide) (Nat.le_of_ble_eq_true rfl) dX9_copy_99 ?_
              exact aI_iret E (hret _ _ dX9_copy_102)
            · have E := o_neg c20 E
              refine aI_aload X.1 dX9_copy_85 rfl ?_
              refine aI_iload X.1 dX9_copy_87 rfl ?_
              refine aI_iload X.1 dX9_copy_89 rfl ?_
              obtain ⟨r25, h24, e26, E⟩ := o_callE E
              refine cv_X6_hasItems (p3.toNatClampNeg) (ix_lt g10) X (c_X6_hasItems (ix_lt g10) e26) ml_9_281 (by decide) (by decide) (Nat.le_of_ble_eq_true rfl) dX9_copy_91 ?_
              refine aI_if_ne (tgt := 103) X.1 dX9_copy_94 (by decide) (fun c27 => ?_) (fun c27 => ?_)
              · have E := o_neg c27 E
                refine aI_aload X.1 dX9_copy_103 rfl ?_
                refine gf_9_138 (p1.toNatClampNeg) (ix_lt g9) X dX9_copy_105 ?_
                refine aI_iload_n X.1 dX9_copy_108 rfl ?_
                refine aI_aload X.1 dX9_copy_109 rfl ?_
                refine gf_9_138 (p3.toNatClampNeg) (ix_lt g10) X dX9_copy_111 ?_
                refine aI_iload X.1 dX9_copy_114 rfl ?_
                refine aI_iload X.1 dX9_copy_116 rfl ?_
                obtain ⟨g28, E⟩ := o_if E
                obtain ⟨h29, eh29, E⟩ := o_letE E
                refine aK_copy (42 + p1.toNatClampNeg) (42 + p3.toNatClampNeg) 60 60 (29 + p1.toNatClampNeg) (29 + p3.toNatClampNeg) (nW0_i (ix_lt g9)) (nW0_i (ix_lt g10)) (fun _ _ _ _ => cell_items (p1.toNatClampNeg) (ix_lt g9)) (fun _ _ _ _ => cell_items (p3.toNatClampNeg) (ix_lt g10)) (fun _ => tys_items (p1.toNatClampNeg) (ix_lt g9)) (fun _ => tys_items (p3.toNatClampNeg) (ix_lt g10)) X g28 ml_9_284 mn_copy ms_copy mi_System (by decide) (Nat.le_of_ble_eq_true rfl) dX9_copy_118 (aI_eqh eh29 ?_)
                refine aI_iconst (v := 1) X.1 dX9_copy_121 (by decide) ?_
                exact aI_iret E (hret _ _ dX9_copy_122)
              · have E := o_pos c27 E
                refine aI_aload_n X.1 dX9_copy_97 rfl ?_
                refine aI_iconst (v := 2) X.1 dX9_copy_98 (by decide) ?_
                obtain ⟨r31, h30, e32, E⟩ := o_callE E
                refine cv_X9_found X (c_X9_found e32) ml_9_130 (by decide) (by decide) (Nat.le_of_ble_eq_true rfl) dX9_copy_99 ?_
                exact aI_iret E (hret _ _ dX9_copy_102)
          · have E := o_neg c16 E
            refine aI_aload_n X.1 dX9_copy_68 rfl ?_
            refine aI_iconst (v := 4) X.1 dX9_copy_69 (by decide) ?_
            obtain ⟨r34, h33, e35, E⟩ := o_callE E
            refine cv_X9_found X (c_X9_found e35) ml_9_130 (by decide) (by decide) (Nat.le_of_ble_eq_true rfl) dX9_copy_70 ?_
            exact aI_iret E (hret _ _ dX9_copy_73)
        · have E := o_neg c15 E
          refine aI_aload_n X.1 dX9_copy_49 rfl ?_
          refine aI_iconst (v := 1) X.1 dX9_copy_50 (by decide) ?_
          obtain ⟨r37, h36, e38, E⟩ := o_callE E
          refine cv_X9_found X (c_X9_found e38) ml_9_130 (by decide) (by decide) (Nat.le_of_ble_eq_true rfl) dX9_copy_51 ?_
          exact aI_iret E (hret _ _ dX9_copy_54)
    · have E := o_pos c8 E
      refine aI_bipush (v := -2) X.1 dX9_copy_14 (by decide) ?_
      exact aI_iret E (hret _ _ dX9_copy_16)
theorem c_X9_copy {q : Nat → Nat} {p1 : Int32} {p2 : Int32} {p3 : Int32} {p4 : Int32} {p5 : Int32}  {r : Int32} {h2 : hp_T} {h : hp_T} (E : f_X9_copy p1 p2 p3 p4 p5 h = some (r, h2)) : cI 0 yX9_copy cX9_copy 8 .int 1 26 q [.ref (q 0), .int p1, .int p2, .int p3, .int p4, .int p5] h r h2 := metI (own := RX9) (by decide) rfl (Nat.le_of_ble_eq_true rfl) rfl (fun Γ X N hret => w_X9_copy X N hret E)
set_option maxRecDepth 4000 in
theorem w_X9_write_L1 {Γ : g_T} {q : Nat → Nat} {j4 : Nat} {u1 : Int32} {u2 : Int32} (hj4 : j4 < 4) {r : Int32} {h2 : hp_T} (X : aC 0 Γ q RX9 cX9_write 1 23) (N : ∀ k, k < 8 → aN Γ k) (hret : ∀ pc lv, decode cX9_write pc = .ok (.ireturn, 1) → aA Γ pc lv [.int r] h2) {K : Int32 → Int32 → hp_T → Option (Int32 × hp_T)} (hk : ∀ v5 v6 h, K v5 v6 h = some (r, h2) → aA Γ 112 [some (.ref (q 0)), some (.int u1), some (.int u2), none, some (.ref (q (38 + j4))), some (.int v5), some (.int v6), none] [] h) : ∀ (n : Nat) (v5 : Int32) (v6 : Int32) (h : hp_T), f_X9_write_L1 j4 u1 u2 K n v5 v6 h = some (r, h2) → aA Γ 46 [some (.ref (q 0)), some (.int u1), some (.int u2), none, some (.ref (q (38 + j4))), some (.int v5), some (.int v6), none] [] h := by
  intro n
  induction n with
  | zero =>
    intro v5 v6 h E
    cases E
  | succ n ih =>
    intro v5 v6 h E
    rw [f_X9_write_L1] at E
    refine aI_iload X.1 dX9_write_46 rfl ?_
    refine aI_aload_n X.1 dX9_write_48 rfl ?_
    refine gf_9_12 X dX9_write_49 ?_
    refine gf_9_96 X dX9_write_52 ?_
    refine aI_icmp_ge (tgt := 112) X.1 dX9_write_55 (by decide) (fun c11 => ?_) (fun c11 => ?_)
    · have E := o_pos c11 E
      exact hk v5 v6 h E
    · have E := o_neg c11 E
      refine aI_iload X.1 dX9_write_58 rfl ?_
      refine aI_aload X.1 dX9_write_60 rfl ?_
      refine gf_9_134 j4 hj4 X dX9_write_62 ?_
      refine aI_icmp_ge (tgt := 112) X.1 dX9_write_65 (by decide) (fun c12 => ?_) (fun c12 => ?_)
      · have E := o_pos c12 E
        exact hk v5 v6 h E
      · have E := o_neg c12 E
        refine aI_aload_n X.1 dX9_write_68 rfl ?_
        refine gf_9_12 X dX9_write_69 ?_
        refine gf_9_148 X dX9_write_72 ?_
        refine aI_iload X.1 dX9_write_75 rfl ?_
        obtain ⟨g13, E⟩ := o_if E
        refine al0_5 X g13 dX9_write_77 ?_
        obtain ⟨x14, ex14, E⟩ := o_letE E
        refine aI_eqi ex14 ?_
        refine aI_istore (lv2 := [some (.ref (q 0)), some (.int u1), some (.int u2), none, some (.ref (q (38 + j4))), some (.int v5), some (.int v6), some (.int x14)]) X.1 dX9_write_78 (N 7 (by decide)) rfl ?_
        refine aI_aload_n X.1 dX9_write_80 rfl ?_
        refine gf_9_12 X dX9_write_81 ?_
        refine aI_iload X.1 dX9_write_84 rfl ?_
        refine aI_iload_n X.1 dX9_write_86 rfl ?_
        refine aI_iload_n X.1 dX9_write_87 rfl ?_
        obtain ⟨r16, h15, e17, E⟩ := o_callE E
        refine cv_X7_meetsStretch X (c_X7_meetsStretch e17) ml_9_290 (by decide) (by decide) (Nat.le_of_ble_eq_true rfl) dX9_write_88 ?_
        refine aI_if_eq (tgt := 106) X.1 dX9_write_91 (by decide) (fun c18 => ?_) (fun c18 => ?_)
        · have E := o_pos c18 E
          obtain ⟨x19, ex19, E⟩ := o_letE E
          refine aI_iinc (v := 1) (lv2 := [some (.ref (q 0)), some (.int u1), some (.int u2), none, some (.ref (q (38 + j4))), some (.int v5), some (.int x19), some (.int x14)]) X.1 dX9_write_106 (N 6 (by decide)) rfl (by decide) (by rw [← ex19]; rfl) ?_
          refine aI_goto (tgt := 46) X.1 dX9_write_109 (by decide) ?_
          refine aI_lv [true, true, true, false, true, true, true, false] (lv2 := [some (.ref (q 0)), some (.int u1), some (.int u2), none, some (.ref (q (38 + j4))), some (.int v5), some (.int x19), none]) rfl ?_
          exact ih v5 x19 h15 E
        · have E := o_neg c18 E
          refine aI_aload X.1 dX9_write_94 rfl ?_
          refine aI_iload X.1 dX9_write_96 rfl ?_
          refine aI_iload X.1 dX9_write_98 rfl ?_
          obtain ⟨h20, e21, E⟩ := o_cvE E
          refine cv_X6_setItem j4 hj4 X (c_X6_setItem hj4 e21) ml_9_275 (by decide) (by decide) (Nat.le_of_ble_eq_true rfl) dX9_write_100 ?_
          obtain ⟨x22, ex22, E⟩ := o_letE E
          refine aI_iinc (v := 1) (lv2 := [some (.ref (q 0)), some (.int u1), some (.int u2), none, some (.ref (q (38 + j4))), some (.int x22), some (.int v6), some (.int x14)]) X.1 dX9_write_103 (N 5 (by decide)) rfl (by decide) (by rw [← ex22]; rfl) ?_
          obtain ⟨x23, ex23, E⟩ := o_letE E
          refine aI_iinc (v := 1) (lv2 := [some (.ref (q 0)), some (.int u1), some (.int u2), none, some (.ref (q (38 + j4))), some (.int x22), some (.int x23), some (.int x14)]) X.1 dX9_write_106 (N 6 (by decide)) rfl (by decide) (by rw [← ex23]; rfl) ?_
          refine aI_goto (tgt := 46) X.1 dX9_write_109 (by decide) ?_
          refine aI_lv [true, true, true, false, true, true, true, false] (lv2 := [some (.ref (q 0)), some (.int u1), some (.int u2), none, some (.ref (q (38 + j4))), some (.int x22), some (.int x23), none]) rfl ?_
          exact ih x22 x23 h20 E
set_option maxRecDepth 4000 in
theorem w_X9_write {Γ : g_T} {q : Nat → Nat} {p1 : Int32} {p2 : Int32} {p3 : Int32}  {r : Int32} {h2 : hp_T} {h : hp_T} (X : aC 0 Γ q RX9 cX9_write 1 23) (N : ∀ k, k < 8 → aN Γ k) (hret : ∀ pc lv, decode cX9_write pc = .ok (.ireturn, 1) → aA Γ pc lv [.int r] h2) (E : f_X9_write p1 p2 p3 h = some (r, h2)) : aA Γ 0 [some (.ref (q 0)), some (.int p1), some (.int p2), some (.int p3), none, none, none, none] [] h := by
  unfold f_X9_write at E
  refine aI_iload_n X.1 dX9_write_0 rfl ?_
  refine aI_iload_n X.1 dX9_write_1 rfl ?_
  obtain ⟨r2, h1, e3, E⟩ := o_callE E
  refine cv_X9_isStretch X (c_X9_isStretch e3) ml_9_84 (by decide) (by decide) (Nat.le_of_ble_eq_true rfl) dX9_write_2 ?_
  refine aI_if_eq (tgt := 15) X.1 dX9_write_5 (by decide) (fun c4 => ?_) (fun c4 => ?_)
  · have E := o_pos c4 E
    refine aI_bipush (v := -2) X.1 dX9_write_15 (by decide) ?_
    exact aI_iret E (hret _ _ dX9_write_17)
  · have E := o_neg c4 E
    refine aI_iload_n X.1 dX9_write_8 rfl ?_
    obtain ⟨r6, h5, e7, E⟩ := o_callE E
    refine cv_X9_isSheet X (c_X9_isSheet e7) ml_9_124 (by decide) (by decide) (Nat.le_of_ble_eq_true rfl) dX9_write_9 ?_
    refine aI_if_ne (tgt := 18) X.1 dX9_write_12 (by decide) (fun c8 => ?_) (fun c8 => ?_)
    · have E := o_neg c8 E
      refine aI_aload_n X.1 dX9_write_18 rfl ?_
      refine gf_9_67 X dX9_write_19 ?_
      refine aI_iload_n X.1 dX9_write_22 rfl ?_
      obtain ⟨g9, E⟩ := o_if E
      refine aK_aald X g9 dX9_write_23 ?_
      refine aI_astore (lv2 := [some (.ref (q 0)), some (.int p1), some (.int p2), some (.int p3), some (.ref (q (38 + p3.toNatClampNeg))), none, none, none]) X.1 dX9_write_24 (N 4 (by decide)) rfl ?_
      refine aI_aload X.1 dX9_write_26 rfl ?_
      refine gf_9_127 (p3.toNatClampNeg) (ix_lt g9) X dX9_write_28 ?_
      refine aI_if_eq (tgt := 40) X.1 dX9_write_31 (by decide) (fun c10 => ?_) (fun c10 => ?_)
      · have E := o_pos c10 E
        refine aI_iconst (v := 0) X.1 dX9_write_40 (by decide) ?_
        refine aI_istore (lv2 := [some (.ref (q 0)), some (.int p1), some (.int p2), some (.int p3), some (.ref (q (38 + p3.toNatClampNeg))), some (.int (0 : Int32)), none, none]) X.1 dX9_write_41 (N 5 (by decide)) rfl ?_
        refine aI_iconst (v := 0) X.1 dX9_write_43 (by decide) ?_
        refine aI_istore (lv2 := [some (.ref (q 0)), some (.int p1), some (.int p2), some (.int p3), some (.ref (q (38 + p3.toNatClampNeg))), some (.int (0 : Int32)), some (.int (0 : Int32)), none]) X.1 dX9_write_44 (N 6 (by decide)) rfl ?_
        refine aI_lv [true, true, true, false, true, true, true, false] (lv2 := [some (.ref (q 0)), some (.int p1), some (.int p2), none, some (.ref (q (38 + p3.toNatClampNeg))), some (.int (0 : Int32)), some (.int (0 : Int32)), none]) rfl ?_
        refine w_X9_write_L1 (ix_lt g9) X N hret ?_ 100 (0 : Int32) (0 : Int32) h5 E
        intro x24 x25 h26 E
        refine aI_iload X.1 dX9_write_112 rfl ?_
        exact aI_iret E (hret _ _ dX9_write_114)
      · have E := o_neg c10 E
        refine aI_aload_n X.1 dX9_write_34 rfl ?_
        refine aI_iconst (v := 1) X.1 dX9_write_35 (by decide) ?_
        obtain ⟨r28, h27, e29, E⟩ := o_callE E
        refine cv_X9_found X (c_X9_found e29) ml_9_130 (by decide) (by decide) (Nat.le_of_ble_eq_true rfl) dX9_write_36 ?_
        exact aI_iret E (hret _ _ dX9_write_39)
    · have E := o_pos c8 E
      refine aI_bipush (v := -2) X.1 dX9_write_15 (by decide) ?_
      exact aI_iret E (hret _ _ dX9_write_17)
theorem c_X9_write {q : Nat → Nat} {p1 : Int32} {p2 : Int32} {p3 : Int32}  {r : Int32} {h2 : hp_T} {h : hp_T} (E : f_X9_write p1 p2 p3 h = some (r, h2)) : cI 0 yX9_write cX9_write 8 .int 1 23 q [.ref (q 0), .int p1, .int p2, .int p3] h r h2 := metI (own := RX9) (by decide) rfl (Nat.le_of_ble_eq_true rfl) rfl (fun Γ X N hret => w_X9_write X N hret E)
set_option maxRecDepth 4000 in
theorem w_X9_count {Γ : g_T} {q : Nat → Nat} {p1 : Int32}  {r : Int32} {h2 : hp_T} {h : hp_T} (X : aC 0 Γ q RX9 cX9_count 4 88) (N : ∀ k, k < 2 → aN Γ k) (hret : ∀ pc lv, decode cX9_count pc = .ok (.ireturn, 1) → aA Γ pc lv [.int r] h2) (E : f_X9_count p1 h = some (r, h2)) : aA Γ 0 [some (.ref (q 0)), some (.int p1)] [] h := by
  unfold f_X9_count at E
  refine aI_aload_n X.1 dX9_count_0 rfl ?_
  obtain ⟨h1, e2, E⟩ := o_cvE E
  refine cv_X9_settle X (c_X9_settle e2) ml_9_151 (by decide) (by decide) (Nat.le_of_ble_eq_true rfl) dX9_count_1 ?_
  refine aI_iload_n X.1 dX9_count_4 rfl ?_
  by_cases c5 : p1 = (0 : Int32)
  · have E := o_pos c5 E
    refine aI_tableIn (tgt := 56) (0 : Int32) X.1 dX9_count_5 c5 (by decide) (by decide) rfl (by decide) ?_
    refine aI_aload_n X.1 dX9_count_56 rfl ?_
    refine gf_9_12 X dX9_count_57 ?_
    refine gf_9_96 X dX9_count_60 ?_
    exact aI_iret E (hret _ _ dX9_count_63)
  have E := o_neg c5 E
  by_cases c6 : p1 = (1 : Int32)
  · have E := o_pos c6 E
    refine aI_tableIn (tgt := 64) (1 : Int32) X.1 dX9_count_5 c6 (by decide) (by decide) rfl (by decide) ?_
    refine aI_aload_n X.1 dX9_count_64 rfl ?_
    refine gf_9_19 X dX9_count_65 ?_
    refine gf_9_110 X dX9_count_68 ?_
    exact aI_iret E (hret _ _ dX9_count_71)
  have E := o_neg c6 E
  by_cases c7 : p1 = (2 : Int32)
  · have E := o_pos c7 E
    refine aI_tableIn (tgt := 72) (2 : Int32) X.1 dX9_count_5 c7 (by decide) (by decide) rfl (by decide) ?_
    refine aI_aload_n X.1 dX9_count_72 rfl ?_
    refine gf_9_26 X dX9_count_73 ?_
    refine gf_9_154 X dX9_count_76 ?_
    refine aI_iconst (v := -1) X.1 dX9_count_79 (by decide) ?_
    refine aI_icmp_ne (tgt := 87) X.1 dX9_count_80 (by decide) (fun c3 => ?_) (fun c3 => ?_)
    · have E := o_neg c3 E
      refine aI_aload_n X.1 dX9_count_87 rfl ?_
      refine gf_9_26 X dX9_count_88 ?_
      refine gf_9_172 X dX9_count_91 ?_
      refine aI_aload_n X.1 dX9_count_94 rfl ?_
      refine gf_9_26 X dX9_count_95 ?_
      refine gf_9_154 X dX9_count_98 ?_
      obtain ⟨g4, E⟩ := o_if E
      refine al0_19 X g4 dX9_count_101 ?_
      exact aI_iret E (hret _ _ dX9_count_102)
    · have E := o_pos c3 E
      refine aI_iconst (v := 0) X.1 dX9_count_83 (by decide) ?_
      refine aI_goto (tgt := 102) X.1 dX9_count_84 (by decide) ?_
      exact aI_iret E (hret _ _ dX9_count_102)
  have E := o_neg c7 E
  by_cases c8 : p1 = (3 : Int32)
  · have E := o_pos c8 E
    refine aI_tableIn (tgt := 103) (3 : Int32) X.1 dX9_count_5 c8 (by decide) (by decide) rfl (by decide) ?_
    refine aI_aload_n X.1 dX9_count_103 rfl ?_
    refine gf_9_40 X dX9_count_104 ?_
    refine gf_9_229 X dX9_count_107 ?_
    exact aI_iret E (hret _ _ dX9_count_110)
  have E := o_neg c8 E
  by_cases c9 : p1 = (4 : Int32)
  · have E := o_pos c9 E
    refine aI_tableIn (tgt := 111) (4 : Int32) X.1 dX9_count_5 c9 (by decide) (by decide) rfl (by decide) ?_
    refine aI_aload_n X.1 dX9_count_111 rfl ?_
    refine gf_9_40 X dX9_count_112 ?_
    refine gf_9_235 X dX9_count_115 ?_
    exact aI_iret E (hret _ _ dX9_count_118)
  have E := o_neg c9 E
  by_cases c10 : p1 = (5 : Int32)
  · have E := o_pos c10 E
    refine aI_tableIn (tgt := 119) (5 : Int32) X.1 dX9_count_5 c10 (by decide) (by decide) rfl (by decide) ?_
    refine aI_aload_n X.1 dX9_count_119 rfl ?_
    refine gf_9_47 X dX9_count_120 ?_
    refine gf_9_239 X dX9_count_123 ?_
    exact aI_iret E (hret _ _ dX9_count_126)
  have E := o_neg c10 E
  by_cases c11 : p1 = (6 : Int32)
  · have E := o_pos c11 E
    refine aI_tableIn (tgt := 127) (6 : Int32) X.1 dX9_count_5 c11 (by decide) (by decide) rfl (by decide) ?_
    refine aI_aload_n X.1 dX9_count_127 rfl ?_
    refine gf_9_61 X dX9_count_128 ?_
    refine gf_9_257 X dX9_count_131 ?_
    exact aI_iret E (hret _ _ dX9_count_134)
  have E := o_neg c11 E
  by_cases c12 : p1 = (7 : Int32)
  · have E := o_pos c12 E
    refine aI_tableIn (tgt := 135) (7 : Int32) X.1 dX9_count_5 c12 (by decide) (by decide) rfl (by decide) ?_
    refine aI_aload_n X.1 dX9_count_135 rfl ?_
    refine gf_9_54 X dX9_count_136 ?_
    refine gf_9_243 X dX9_count_139 ?_
    exact aI_iret E (hret _ _ dX9_count_142)
  have E := o_neg c12 E
  by_cases c13 : p1 = (8 : Int32)
  · have E := o_pos c13 E
    refine aI_tableIn (tgt := 143) (8 : Int32) X.1 dX9_count_5 c13 (by decide) (by decide) rfl (by decide) ?_
    refine aI_aload_n X.1 dX9_count_143 rfl ?_
    refine gf_9_75 X dX9_count_144 ?_
    exact aI_iret E (hret _ _ dX9_count_147)
  have E := o_neg c13 E
  refine aI_tableOut (tgt := 148) X.1 dX9_count_5 (by have ac5 := i32_ne 0 (by decide) c5; have ac6 := i32_ne 1 (by decide) c6; have ac7 := i32_ne 2 (by decide) c7; have ac8 := i32_ne 3 (by decide) c8; have ac9 := i32_ne 4 (by decide) c9; have ac10 := i32_ne 5 (by decide) c10; have ac11 := i32_ne 6 (by decide) c11; have ac12 := i32_ne 7 (by decide) c12; have ac13 := i32_ne 8 (by decide) c13; omega) (by decide) ?_
  refine aI_bipush (v := -2) X.1 dX9_count_148 (by decide) ?_
  exact aI_iret E (hret _ _ dX9_count_150)
theorem c_X9_count {q : Nat → Nat} {p1 : Int32}  {r : Int32} {h2 : hp_T} {h : hp_T} (E : f_X9_count p1 h = some (r, h2)) : cI 0 yX9_count cX9_count 2 .int 4 88 q [.ref (q 0), .int p1] h r h2 := metI (own := RX9) (by decide) rfl (Nat.le_of_ble_eq_true rfl) rfl (fun Γ X N hret => w_X9_count X N hret E)
set_option maxRecDepth 4000 in
theorem w_X9_mixed {Γ : g_T} {q : Nat → Nat} {p1 : Int64} {p2 : Int64}  {r : Int64} {h2 : hp_T} {h : hp_T} (X : aC 0 Γ q RX9 cX9_mixed 0 0) (N : ∀ k, k < 4 → aN Γ k) (hret : ∀ pc lv, decode cX9_mixed pc = .ok (.lreturn, 1) → aA Γ pc lv [.long r] h2) (E : f_X9_mixed p1 p2 h = some (r, h2)) : aA Γ 0 [some (.long p1), none, some (.long p2), none] [] h := by
  unfold f_X9_mixed at E
  refine aI_ldc2 X.1 dX9_mixed_0 kl_9_333 ?_
  refine aI_lload_n X.1 dX9_mixed_3 rfl ?_
  refine aI_lmul X.1 dX9_mixed_4 ?_
  refine aI_lload_n X.1 dX9_mixed_5 rfl ?_
  refine aI_ladd X.1 dX9_mixed_6 ?_
  exact aI_lret E (hret _ _ dX9_mixed_7)
theorem c_X9_mixed {q : Nat → Nat} {p1 : Int64} {p2 : Int64}  {r : Int64} {h2 : hp_T} {h : hp_T} (E : f_X9_mixed p1 p2 h = some (r, h2)) : cL 0 yX9_mixed cX9_mixed 4 0 0 q [.long p1, .long p2] h r h2 := metL (own := RX9) (by decide) rfl (Nat.le_of_ble_eq_true rfl) rfl (fun Γ X N hret => w_X9_mixed X N hret E)
set_option maxRecDepth 4000 in
theorem w_X9_mixedKey_L1 {Γ : g_T} {q : Nat → Nat}  {u3 : Int32}  {r : Int64} {h2 : hp_T} (X : aC 0 Γ q RX9 cX9_mixedKey 5 111) (N : ∀ k, k < 7 → aN Γ k) (hret : ∀ pc lv, decode cX9_mixedKey pc = .ok (.lreturn, 1) → aA Γ pc lv [.long r] h2) {K : Int64 → Int32 → hp_T → Option (Int64 × hp_T)} (hk : ∀ v4 v6 h, K v4 v6 h = some (r, h2) → aA Γ 70 [some (.ref (q 0)), none, none, some (.int u3), some (.long v4), none, some (.int v6)] [] h) : ∀ (n : Nat) (v4 : Int64) (v6 : Int32) (h : hp_T), f_X9_mixedKey_L1 u3 K n v4 v6 h = some (r, h2) → aA Γ 43 [some (.ref (q 0)), none, none, some (.int u3), some (.long v4), none, some (.int v6)] [] h := by
  intro n
  induction n with
  | zero =>
    intro v4 v6 h E
    cases E
  | succ n ih =>
    intro v4 v6 h E
    rw [f_X9_mixedKey_L1] at E
    refine aI_iload X.1 dX9_mixedKey_43 rfl ?_
    refine aI_iconst (v := 5) X.1 dX9_mixedKey_45 (by decide) ?_
    refine aI_icmp_gt (tgt := 70) X.1 dX9_mixedKey_46 (by decide) (fun c19 => ?_) (fun c19 => ?_)
    · have E := o_pos c19 E
      exact hk v4 v6 h E
    · have E := o_neg c19 E
      refine aI_lload X.1 dX9_mixedKey_49 rfl ?_
      refine aI_aload_n X.1 dX9_mixedKey_51 rfl ?_
      refine aI_iload_n X.1 dX9_mixedKey_52 rfl ?_
      refine aI_iload X.1 dX9_mixedKey_53 rfl ?_
      obtain ⟨r21, h20, e22, E⟩ := o_callE E
      refine cv_X9_tree X (c_X9_tree e22) ml_9_341 (by decide) (by decide) (Nat.le_of_ble_eq_true rfl) dX9_mixedKey_55 ?_
      refine aI_i2l X.1 dX9_mixedKey_58 ?_
      obtain ⟨r24, h23, e25, E⟩ := o_callE E
      refine cv_X9_mixed X (c_X9_mixed e25) ml_9_299 (by decide) (by decide) (Nat.le_of_ble_eq_true rfl) dX9_mixedKey_59 ?_
      refine aI_lstore (lv2 := [some (.ref (q 0)), none, none, some (.int u3), some (.long r24), none, some (.int v6)]) X.1 dX9_mixedKey_62 (N 5 (by decide)) rfl ?_
      obtain ⟨x26, ex26, E⟩ := o_letE E
      refine aI_iinc (v := 1) (lv2 := [some (.ref (q 0)), none, none, some (.int u3), some (.long r24), none, some (.int x26)]) X.1 dX9_mixedKey_64 (N 6 (by decide)) rfl (by decide) (by rw [← ex26]; rfl) ?_
      refine aI_goto (tgt := 43) X.1 dX9_mixedKey_67 (by decide) ?_
      exact ih r24 x26 h23 E
set_option maxRecDepth 4000 in
theorem w_X9_mixedKey {Γ : g_T} {q : Nat → Nat} {p1 : Int64} {p2 : Int32}  {r : Int64} {h2 : hp_T} {h : hp_T} (X : aC 0 Γ q RX9 cX9_mixedKey 5 111) (N : ∀ k, k < 7 → aN Γ k) (hret : ∀ pc lv, decode cX9_mixedKey pc = .ok (.lreturn, 1) → aA Γ pc lv [.long r] h2) (E : f_X9_mixedKey p1 p2 h = some (r, h2)) : aA Γ 0 [some (.ref (q 0)), some (.long p1), none, some (.int p2), none, none, none] [] h := by
  unfold f_X9_mixedKey at E
  refine aI_lload_n X.1 dX9_mixedKey_0 rfl ?_
  refine aI_aload_n X.1 dX9_mixedKey_1 rfl ?_
  refine aI_iload_n X.1 dX9_mixedKey_2 rfl ?_
  refine aI_iconst (v := 0) X.1 dX9_mixedKey_3 (by decide) ?_
  obtain ⟨r2, h1, e3, E⟩ := o_callE E
  refine cv_X9_span X (c_X9_span e3) ml_9_335 (by decide) (by decide) (Nat.le_of_ble_eq_true rfl) dX9_mixedKey_4 ?_
  refine aI_i2l X.1 dX9_mixedKey_7 ?_
  obtain ⟨r5, h4, e6, E⟩ := o_callE E
  refine cv_X9_mixed X (c_X9_mixed e6) ml_9_299 (by decide) (by decide) (Nat.le_of_ble_eq_true rfl) dX9_mixedKey_8 ?_
  refine aI_lstore (lv2 := [some (.ref (q 0)), some (.long p1), none, some (.int p2), some (.long r5), none, none]) X.1 dX9_mixedKey_11 (N 5 (by decide)) rfl ?_
  refine aI_lload X.1 dX9_mixedKey_13 rfl ?_
  refine aI_aload_n X.1 dX9_mixedKey_15 rfl ?_
  refine aI_iload_n X.1 dX9_mixedKey_16 rfl ?_
  refine aI_iconst (v := 1) X.1 dX9_mixedKey_17 (by decide) ?_
  obtain ⟨r8, h7, e9, E⟩ := o_callE E
  refine cv_X9_span X (c_X9_span e9) ml_9_335 (by decide) (by decide) (Nat.le_of_ble_eq_true rfl) dX9_mixedKey_18 ?_
  refine aI_i2l X.1 dX9_mixedKey_21 ?_
  obtain ⟨r11, h10, e12, E⟩ := o_callE E
  refine cv_X9_mixed X (c_X9_mixed e12) ml_9_299 (by decide) (by decide) (Nat.le_of_ble_eq_true rfl) dX9_mixedKey_22 ?_
  refine aI_lstore (lv2 := [some (.ref (q 0)), some (.long p1), none, some (.int p2), some (.long r11), none, none]) X.1 dX9_mixedKey_25 (N 5 (by decide)) rfl ?_
  refine aI_lload X.1 dX9_mixedKey_27 rfl ?_
  refine aI_aload_n X.1 dX9_mixedKey_29 rfl ?_
  refine aI_iload_n X.1 dX9_mixedKey_30 rfl ?_
  obtain ⟨r14, h13, e15, E⟩ := o_callE E
  refine cv_X9_rank X (c_X9_rank e15) ml_9_338 (by decide) (by decide) (Nat.le_of_ble_eq_true rfl) dX9_mixedKey_31 ?_
  refine aI_i2l X.1 dX9_mixedKey_34 ?_
  obtain ⟨r17, h16, e18, E⟩ := o_callE E
  refine cv_X9_mixed X (c_X9_mixed e18) ml_9_299 (by decide) (by decide) (Nat.le_of_ble_eq_true rfl) dX9_mixedKey_35 ?_
  refine aI_lstore (lv2 := [some (.ref (q 0)), some (.long p1), none, some (.int p2), some (.long r17), none, none]) X.1 dX9_mixedKey_38 (N 5 (by decide)) rfl ?_
  refine aI_iconst (v := 0) X.1 dX9_mixedKey_40 (by decide) ?_
  refine aI_istore (lv2 := [some (.ref (q 0)), some (.long p1), none, some (.int p2), some (.long r17), none, some (.int (0 : Int32))]) X.1 dX9_mixedKey_41 (N 6 (by decide)) rfl ?_
  refine aI_lv [true, false, false, true, true, false, true] (lv2 := [some (.ref (q 0)), none, none, some (.int p2), some (.long r17), none, some (.int (0 : Int32))]) rfl ?_
  refine w_X9_mixedKey_L1  X N hret ?_ 100 r17 (0 : Int32) h16 E
  intro x27 x28 h29 E
  refine aI_lload X.1 dX9_mixedKey_70 rfl ?_
  refine aI_aload_n X.1 dX9_mixedKey_72 rfl ?_
  refine aI_iload_n X.1 dX9_mixedKey_73 rfl ?_
  obtain ⟨r31, h30, e32, E⟩ := o_callE E
  refine cv_X9_end X (c_X9_end e32) ml_9_344 (by decide) (by decide) (Nat.le_of_ble_eq_true rfl) dX9_mixedKey_74 ?_
  refine aI_i2l X.1 dX9_mixedKey_77 ?_
  obtain ⟨r34, h33, e35, E⟩ := o_callE E
  refine cv_X9_mixed X (c_X9_mixed e35) ml_9_299 (by decide) (by decide) (Nat.le_of_ble_eq_true rfl) dX9_mixedKey_78 ?_
  refine aI_lstore (lv2 := [some (.ref (q 0)), none, none, some (.int p2), some (.long r34), none, some (.int x28)]) X.1 dX9_mixedKey_81 (N 5 (by decide)) rfl ?_
  refine aI_lload X.1 dX9_mixedKey_83 rfl ?_
  refine aI_aload_n X.1 dX9_mixedKey_85 rfl ?_
  refine aI_iload_n X.1 dX9_mixedKey_86 rfl ?_
  obtain ⟨r37, h36, e38, E⟩ := o_callE E
  refine cv_X9_room X (c_X9_room e38) ml_9_347 (by decide) (by decide) (Nat.le_of_ble_eq_true rfl) dX9_mixedKey_87 ?_
  refine aI_i2l X.1 dX9_mixedKey_90 ?_
  obtain ⟨r40, h39, e41, E⟩ := o_callE E
  refine cv_X9_mixed X (c_X9_mixed e41) ml_9_299 (by decide) (by decide) (Nat.le_of_ble_eq_true rfl) dX9_mixedKey_91 ?_
  refine aI_lstore (lv2 := [some (.ref (q 0)), none, none, some (.int p2), some (.long r40), none, some (.int x28)]) X.1 dX9_mixedKey_94 (N 5 (by decide)) rfl ?_
  refine aI_lload X.1 dX9_mixedKey_96 rfl ?_
  refine aI_aload_n X.1 dX9_mixedKey_98 rfl ?_
  refine aI_iload_n X.1 dX9_mixedKey_99 rfl ?_
  refine aI_iconst (v := 0) X.1 dX9_mixedKey_100 (by decide) ?_
  obtain ⟨r43, h42, e44, E⟩ := o_callE E
  refine cv_X9_group X (c_X9_group e44) ml_9_350 (by decide) (by decide) (Nat.le_of_ble_eq_true rfl) dX9_mixedKey_101 ?_
  refine aI_i2l X.1 dX9_mixedKey_104 ?_
  obtain ⟨r46, h45, e47, E⟩ := o_callE E
  refine cv_X9_mixed X (c_X9_mixed e47) ml_9_299 (by decide) (by decide) (Nat.le_of_ble_eq_true rfl) dX9_mixedKey_105 ?_
  refine aI_lstore (lv2 := [some (.ref (q 0)), none, none, some (.int p2), some (.long r46), none, some (.int x28)]) X.1 dX9_mixedKey_108 (N 5 (by decide)) rfl ?_
  refine aI_lload X.1 dX9_mixedKey_110 rfl ?_
  refine aI_aload_n X.1 dX9_mixedKey_112 rfl ?_
  refine aI_iload_n X.1 dX9_mixedKey_113 rfl ?_
  refine aI_iconst (v := 1) X.1 dX9_mixedKey_114 (by decide) ?_
  obtain ⟨r49, h48, e50, E⟩ := o_callE E
  refine cv_X9_group X (c_X9_group e50) ml_9_350 (by decide) (by decide) (Nat.le_of_ble_eq_true rfl) dX9_mixedKey_115 ?_
  refine aI_i2l X.1 dX9_mixedKey_118 ?_
  obtain ⟨r52, h51, e53, E⟩ := o_callE E
  refine cv_X9_mixed X (c_X9_mixed e53) ml_9_299 (by decide) (by decide) (Nat.le_of_ble_eq_true rfl) dX9_mixedKey_119 ?_
  exact aI_lret E (hret _ _ dX9_mixedKey_122)
theorem c_X9_mixedKey {q : Nat → Nat} {p1 : Int64} {p2 : Int32}  {r : Int64} {h2 : hp_T} {h : hp_T} (E : f_X9_mixedKey p1 p2 h = some (r, h2)) : cL 0 yX9_mixedKey cX9_mixedKey 7 5 111 q [.ref (q 0), .long p1, .int p2] h r h2 := metL (own := RX9) (by decide) rfl (Nat.le_of_ble_eq_true rfl) rfl (fun Γ X N hret => w_X9_mixedKey X N hret E)
set_option maxRecDepth 4000 in
theorem w_X9_mixedPoint_L1 {Γ : g_T} {q : Nat → Nat}  {u3 : Int32}  {r : Int64} {h2 : hp_T} (X : aC 0 Γ q RX9 cX9_mixedPoint 5 111) (N : ∀ k, k < 7 → aN Γ k) (hret : ∀ pc lv, decode cX9_mixedPoint pc = .ok (.lreturn, 1) → aA Γ pc lv [.long r] h2) {K : Int64 → Int32 → hp_T → Option (Int64 × hp_T)} (hk : ∀ v4 v6 h, K v4 v6 h = some (r, h2) → aA Γ 59 [some (.ref (q 0)), none, none, some (.int u3), some (.long v4), none, some (.int v6)] [] h) : ∀ (n : Nat) (v4 : Int64) (v6 : Int32) (h : hp_T), f_X9_mixedPoint_L1 u3 K n v4 v6 h = some (r, h2) → aA Γ 30 [some (.ref (q 0)), none, none, some (.int u3), some (.long v4), none, some (.int v6)] [] h := by
  intro n
  induction n with
  | zero =>
    intro v4 v6 h E
    cases E
  | succ n ih =>
    intro v4 v6 h E
    rw [f_X9_mixedPoint_L1] at E
    refine aI_iload X.1 dX9_mixedPoint_30 rfl ?_
    refine aI_iconst (v := 2) X.1 dX9_mixedPoint_32 (by decide) ?_
    refine aI_icmp_gt (tgt := 59) X.1 dX9_mixedPoint_33 (by decide) (fun c13 => ?_) (fun c13 => ?_)
    · have E := o_pos c13 E
      exact hk v4 v6 h E
    · have E := o_neg c13 E
      refine aI_lload X.1 dX9_mixedPoint_36 rfl ?_
      refine aI_aload_n X.1 dX9_mixedPoint_38 rfl ?_
      refine aI_iload_n X.1 dX9_mixedPoint_39 rfl ?_
      refine aI_bipush (v := 7) X.1 dX9_mixedPoint_40 (by decide) ?_
      refine aI_iload X.1 dX9_mixedPoint_42 rfl ?_
      obtain ⟨r15, h14, e16, E⟩ := o_callE E
      refine cv_X9_place X (c_X9_place e16) ml_9_356 (by decide) (by decide) (Nat.le_of_ble_eq_true rfl) dX9_mixedPoint_44 ?_
      refine aI_i2l X.1 dX9_mixedPoint_47 ?_
      obtain ⟨r18, h17, e19, E⟩ := o_callE E
      refine cv_X9_mixed X (c_X9_mixed e19) ml_9_299 (by decide) (by decide) (Nat.le_of_ble_eq_true rfl) dX9_mixedPoint_48 ?_
      refine aI_lstore (lv2 := [some (.ref (q 0)), none, none, some (.int u3), some (.long r18), none, some (.int v6)]) X.1 dX9_mixedPoint_51 (N 5 (by decide)) rfl ?_
      obtain ⟨x20, ex20, E⟩ := o_letE E
      refine aI_iinc (v := 1) (lv2 := [some (.ref (q 0)), none, none, some (.int u3), some (.long r18), none, some (.int x20)]) X.1 dX9_mixedPoint_53 (N 6 (by decide)) rfl (by decide) (by rw [← ex20]; rfl) ?_
      refine aI_goto (tgt := 30) X.1 dX9_mixedPoint_56 (by decide) ?_
      exact ih r18 x20 h17 E
set_option maxRecDepth 4000 in
theorem w_X9_mixedPoint {Γ : g_T} {q : Nat → Nat} {p1 : Int64} {p2 : Int32}  {r : Int64} {h2 : hp_T} {h : hp_T} (X : aC 0 Γ q RX9 cX9_mixedPoint 5 111) (N : ∀ k, k < 7 → aN Γ k) (hret : ∀ pc lv, decode cX9_mixedPoint pc = .ok (.lreturn, 1) → aA Γ pc lv [.long r] h2) (E : f_X9_mixedPoint p1 p2 h = some (r, h2)) : aA Γ 0 [some (.ref (q 0)), some (.long p1), none, some (.int p2), none, none, none] [] h := by
  unfold f_X9_mixedPoint at E
  refine aI_lload_n X.1 dX9_mixedPoint_0 rfl ?_
  refine aI_aload_n X.1 dX9_mixedPoint_1 rfl ?_
  refine aI_iload_n X.1 dX9_mixedPoint_2 rfl ?_
  refine aI_iconst (v := -1) X.1 dX9_mixedPoint_3 (by decide) ?_
  obtain ⟨r2, h1, e3, E⟩ := o_callE E
  refine cv_X9_holds X (c_X9_holds e3) ml_9_353 (by decide) (by decide) (Nat.le_of_ble_eq_true rfl) dX9_mixedPoint_4 ?_
  refine aI_i2l X.1 dX9_mixedPoint_7 ?_
  obtain ⟨r5, h4, e6, E⟩ := o_callE E
  refine cv_X9_mixed X (c_X9_mixed e6) ml_9_299 (by decide) (by decide) (Nat.le_of_ble_eq_true rfl) dX9_mixedPoint_8 ?_
  refine aI_lstore (lv2 := [some (.ref (q 0)), some (.long p1), none, some (.int p2), some (.long r5), none, none]) X.1 dX9_mixedPoint_11 (N 5 (by decide)) rfl ?_
  refine aI_lload X.1 dX9_mixedPoint_13 rfl ?_
  refine aI_aload_n X.1 dX9_mixedPoint_15 rfl ?_
  refine aI_iload_n X.1 dX9_mixedPoint_16 rfl ?_
  refine aI_iconst (v := 1) X.1 dX9_mixedPoint_17 (by decide) ?_
  obtain ⟨r8, h7, e9, E⟩ := o_callE E
  refine cv_X9_holds X (c_X9_holds e9) ml_9_353 (by decide) (by decide) (Nat.le_of_ble_eq_true rfl) dX9_mixedPoint_18 ?_
  refine aI_i2l X.1 dX9_mixedPoint_21 ?_
  obtain ⟨r11, h10, e12, E⟩ := o_callE E
  refine cv_X9_mixed X (c_X9_mixed e12) ml_9_299 (by decide) (by decide) (Nat.le_of_ble_eq_true rfl) dX9_mixedPoint_22 ?_
  refine aI_lstore (lv2 := [some (.ref (q 0)), some (.long p1), none, some (.int p2), some (.long r11), none, none]) X.1 dX9_mixedPoint_25 (N 5 (by decide)) rfl ?_
  refine aI_iconst (v := 0) X.1 dX9_mixedPoint_27 (by decide) ?_
  refine aI_istore (lv2 := [some (.ref (q 0)), some (.long p1), none, some (.int p2), some (.long r11), none, some (.int (0 : Int32))]) X.1 dX9_mixedPoint_28 (N 6 (by decide)) rfl ?_
  refine aI_lv [true, false, false, true, true, false, true] (lv2 := [some (.ref (q 0)), none, none, some (.int p2), some (.long r11), none, some (.int (0 : Int32))]) rfl ?_
  refine w_X9_mixedPoint_L1  X N hret ?_ 100 r11 (0 : Int32) h10 E
  intro x21 x22 h23 E
  refine aI_lload X.1 dX9_mixedPoint_59 rfl ?_
  exact aI_lret E (hret _ _ dX9_mixedPoint_61)
theorem c_X9_mixedPoint {q : Nat → Nat} {p1 : Int64} {p2 : Int32}  {r : Int64} {h2 : hp_T} {h : hp_T} (E : f_X9_mixedPoint p1 p2 h = some (r, h2)) : cL 0 yX9_mixedPoint cX9_mixedPoint 7 5 111 q [.ref (q 0), .long p1, .int p2] h r h2 := metL (own := RX9) (by decide) rfl (Nat.le_of_ble_eq_true rfl) rfl (fun Γ X N hret => w_X9_mixedPoint X N hret E)
set_option maxRecDepth 4000 in
theorem w_X9_mixedStretch_L1 {Γ : g_T} {q : Nat → Nat}  {u3 : Int32} {u4 : Int32}  {r : Int64} {h2 : hp_T} (X : aC 0 Γ q RX9 cX9_mixedStretch 5 113) (N : ∀ k, k < 8 → aN Γ k) (hret : ∀ pc lv, decode cX9_mixedStretch pc = .ok (.lreturn, 1) → aA Γ pc lv [.long r] h2) {K : Int64 → Int32 → hp_T → Option (Int64 × hp_T)} (hk : ∀ v5 v7 h, K v5 v7 h = some (r, h2) → aA Γ 127 [some (.ref (q 0)), none, none, some (.int u3), some (.int u4), some (.long v5), none, some (.int v7)] [] h) : ∀ (n : Nat) (v5 : Int64) (v7 : Int32) (h : hp_T), f_X9_mixedStretch_L1 u3 u4 K n v5 v7 h = some (r, h2) → aA Γ 79 [some (.ref (q 0)), none, none, some (.int u3), some (.int u4), some (.long v5), none, some (.int v7)] [] h := by
  intro n
  induction n with
  | zero =>
    intro v5 v7 h E
    cases E
  | succ n ih =>
    intro v5 v7 h E
    rw [f_X9_mixedStretch_L1] at E
    refine aI_iload X.1 dX9_mixedStretch_79 rfl ?_
    refine aI_iconst (v := 1) X.1 dX9_mixedStretch_81 (by decide) ?_
    refine aI_icmp_gt (tgt := 127) X.1 dX9_mixedStretch_82 (by decide) (fun c31 => ?_) (fun c31 => ?_)
    · have E := o_pos c31 E
      exact hk v5 v7 h E
    · have E := o_neg c31 E
      refine aI_lload X.1 dX9_mixedStretch_85 rfl ?_
      refine aI_aload_n X.1 dX9_mixedStretch_87 rfl ?_
      refine aI_iload_n X.1 dX9_mixedStretch_88 rfl ?_
      refine aI_iload X.1 dX9_mixedStretch_89 rfl ?_
      refine aI_iload X.1 dX9_mixedStretch_91 rfl ?_
      refine aI_iconst (v := 0) X.1 dX9_mixedStretch_93 (by decide) ?_
      obtain ⟨r33, h32, e34, E⟩ := o_callE E
      refine cv_X9_free X (c_X9_free e34) ml_9_371 (by decide) (by decide) (Nat.le_of_ble_eq_true rfl) dX9_mixedStretch_94 ?_
      refine aI_i2l X.1 dX9_mixedStretch_97 ?_
      obtain ⟨r36, h35, e37, E⟩ := o_callE E
      refine cv_X9_mixed X (c_X9_mixed e37) ml_9_299 (by decide) (by decide) (Nat.le_of_ble_eq_true rfl) dX9_mixedStretch_98 ?_
      refine aI_lstore (lv2 := [some (.ref (q 0)), none, none, some (.int u3), some (.int u4), some (.long r36), none, some (.int v7)]) X.1 dX9_mixedStretch_101 (N 6 (by decide)) rfl ?_
      refine aI_lload X.1 dX9_mixedStretch_103 rfl ?_
      refine aI_aload_n X.1 dX9_mixedStretch_105 rfl ?_
      refine aI_iload_n X.1 dX9_mixedStretch_106 rfl ?_
      refine aI_iload X.1 dX9_mixedStretch_107 rfl ?_
      refine aI_iload X.1 dX9_mixedStretch_109 rfl ?_
      refine aI_iconst (v := 1) X.1 dX9_mixedStretch_111 (by decide) ?_
      obtain ⟨r39, h38, e40, E⟩ := o_callE E
      refine cv_X9_free X (c_X9_free e40) ml_9_371 (by decide) (by decide) (Nat.le_of_ble_eq_true rfl) dX9_mixedStretch_112 ?_
      refine aI_i2l X.1 dX9_mixedStretch_115 ?_
      obtain ⟨r42, h41, e43, E⟩ := o_callE E
      refine cv_X9_mixed X (c_X9_mixed e43) ml_9_299 (by decide) (by decide) (Nat.le_of_ble_eq_true rfl) dX9_mixedStretch_116 ?_
      refine aI_lstore (lv2 := [some (.ref (q 0)), none, none, some (.int u3), some (.int u4), some (.long r42), none, some (.int v7)]) X.1 dX9_mixedStretch_119 (N 6 (by decide)) rfl ?_
      obtain ⟨x44, ex44, E⟩ := o_letE E
      refine aI_iinc (v := 1) (lv2 := [some (.ref (q 0)), none, none, some (.int u3), some (.int u4), some (.long r42), none, some (.int x44)]) X.1 dX9_mixedStretch_121 (N 7 (by decide)) rfl (by decide) (by rw [← ex44]; rfl) ?_
      refine aI_goto (tgt := 79) X.1 dX9_mixedStretch_124 (by decide) ?_
      exact ih r42 x44 h41 E
set_option maxRecDepth 4000 in
theorem w_X9_mixedStretch {Γ : g_T} {q : Nat → Nat} {p1 : Int64} {p2 : Int32} {p3 : Int32}  {r : Int64} {h2 : hp_T} {h : hp_T} (X : aC 0 Γ q RX9 cX9_mixedStretch 5 113) (N : ∀ k, k < 8 → aN Γ k) (hret : ∀ pc lv, decode cX9_mixedStretch pc = .ok (.lreturn, 1) → aA Γ pc lv [.long r] h2) (E : f_X9_mixedStretch p1 p2 p3 h = some (r, h2)) : aA Γ 0 [some (.ref (q 0)), some (.long p1), none, some (.int p2), some (.int p3), none, none, none] [] h := by
  unfold f_X9_mixedStretch at E
  refine aI_lload_n X.1 dX9_mixedStretch_0 rfl ?_
  refine aI_aload_n X.1 dX9_mixedStretch_1 rfl ?_
  refine aI_iload_n X.1 dX9_mixedStretch_2 rfl ?_
  refine aI_iload X.1 dX9_mixedStretch_3 rfl ?_
  obtain ⟨r2, h1, e3, E⟩ := o_callE E
  refine cv_X9_looks X (c_X9_looks e3) ml_9_359 (by decide) (by decide) (Nat.le_of_ble_eq_true rfl) dX9_mixedStretch_5 ?_
  refine aI_i2l X.1 dX9_mixedStretch_8 ?_
  obtain ⟨r5, h4, e6, E⟩ := o_callE E
  refine cv_X9_mixed X (c_X9_mixed e6) ml_9_299 (by decide) (by decide) (Nat.le_of_ble_eq_true rfl) dX9_mixedStretch_9 ?_
  refine aI_lstore (lv2 := [some (.ref (q 0)), some (.long p1), none, some (.int p2), some (.int p3), some (.long r5), none, none]) X.1 dX9_mixedStretch_12 (N 6 (by decide)) rfl ?_
  refine aI_lload X.1 dX9_mixedStretch_14 rfl ?_
  refine aI_aload_n X.1 dX9_mixedStretch_16 rfl ?_
  refine aI_iload_n X.1 dX9_mixedStretch_17 rfl ?_
  refine aI_iload X.1 dX9_mixedStretch_18 rfl ?_
  refine aI_iconst (v := -1) X.1 dX9_mixedStretch_20 (by decide) ?_
  obtain ⟨r8, h7, e9, E⟩ := o_callE E
  refine cv_X9_meets X (c_X9_meets e9) ml_9_362 (by decide) (by decide) (Nat.le_of_ble_eq_true rfl) dX9_mixedStretch_21 ?_
  refine aI_i2l X.1 dX9_mixedStretch_24 ?_
  obtain ⟨r11, h10, e12, E⟩ := o_callE E
  refine cv_X9_mixed X (c_X9_mixed e12) ml_9_299 (by decide) (by decide) (Nat.le_of_ble_eq_true rfl) dX9_mixedStretch_25 ?_
  refine aI_lstore (lv2 := [some (.ref (q 0)), some (.long p1), none, some (.int p2), some (.int p3), some (.long r11), none, none]) X.1 dX9_mixedStretch_28 (N 6 (by decide)) rfl ?_
  refine aI_lload X.1 dX9_mixedStretch_30 rfl ?_
  refine aI_aload_n X.1 dX9_mixedStretch_32 rfl ?_
  refine aI_iload_n X.1 dX9_mixedStretch_33 rfl ?_
  refine aI_iload X.1 dX9_mixedStretch_34 rfl ?_
  refine aI_iconst (v := 0) X.1 dX9_mixedStretch_36 (by decide) ?_
  obtain ⟨r14, h13, e15, E⟩ := o_callE E
  refine cv_X9_meets X (c_X9_meets e15) ml_9_362 (by decide) (by decide) (Nat.le_of_ble_eq_true rfl) dX9_mixedStretch_37 ?_
  refine aI_i2l X.1 dX9_mixedStretch_40 ?_
  obtain ⟨r17, h16, e18, E⟩ := o_callE E
  refine cv_X9_mixed X (c_X9_mixed e18) ml_9_299 (by decide) (by decide) (Nat.le_of_ble_eq_true rfl) dX9_mixedStretch_41 ?_
  refine aI_lstore (lv2 := [some (.ref (q 0)), some (.long p1), none, some (.int p2), some (.int p3), some (.long r17), none, none]) X.1 dX9_mixedStretch_44 (N 6 (by decide)) rfl ?_
  refine aI_lload X.1 dX9_mixedStretch_46 rfl ?_
  refine aI_aload_n X.1 dX9_mixedStretch_48 rfl ?_
  refine aI_iload_n X.1 dX9_mixedStretch_49 rfl ?_
  refine aI_iload X.1 dX9_mixedStretch_50 rfl ?_
  obtain ⟨r20, h19, e21, E⟩ := o_callE E
  refine cv_X9_taken X (c_X9_taken e21) ml_9_365 (by decide) (by decide) (Nat.le_of_ble_eq_true rfl) dX9_mixedStretch_52 ?_
  refine aI_i2l X.1 dX9_mixedStretch_55 ?_
  obtain ⟨r23, h22, e24, E⟩ := o_callE E
  refine cv_X9_mixed X (c_X9_mixed e24) ml_9_299 (by decide) (by decide) (Nat.le_of_ble_eq_true rfl) dX9_mixedStretch_56 ?_
  refine aI_lstore (lv2 := [some (.ref (q 0)), some (.long p1), none, some (.int p2), some (.int p3), some (.long r23), none, none]) X.1 dX9_mixedStretch_59 (N 6 (by decide)) rfl ?_
  refine aI_lload X.1 dX9_mixedStretch_61 rfl ?_
  refine aI_aload_n X.1 dX9_mixedStretch_63 rfl ?_
  refine aI_iload_n X.1 dX9_mixedStretch_64 rfl ?_
  refine aI_iload X.1 dX9_mixedStretch_65 rfl ?_
  obtain ⟨r26, h25, e27, E⟩ := o_callE E
  refine cv_X9_frees X (c_X9_frees e27) ml_9_368 (by decide) (by decide) (Nat.le_of_ble_eq_true rfl) dX9_mixedStretch_67 ?_
  refine aI_i2l X.1 dX9_mixedStretch_70 ?_
  obtain ⟨r29, h28, e30, E⟩ := o_callE E
  refine cv_X9_mixed X (c_X9_mixed e30) ml_9_299 (by decide) (by decide) (Nat.le_of_ble_eq_true rfl) dX9_mixedStretch_71 ?_
  refine aI_lstore (lv2 := [some (.ref (q 0)), some (.long p1), none, some (.int p2), some (.int p3), some (.long r29), none, none]) X.1 dX9_mixedStretch_74 (N 6 (by decide)) rfl ?_
  refine aI_iconst (v := 0) X.1 dX9_mixedStretch_76 (by decide) ?_
  refine aI_istore (lv2 := [some (.ref (q 0)), some (.long p1), none, some (.int p2), some (.int p3), some (.long r29), none, some (.int (0 : Int32))]) X.1 dX9_mixedStretch_77 (N 7 (by decide)) rfl ?_
  refine aI_lv [true, false, false, true, true, true, false, true] (lv2 := [some (.ref (q 0)), none, none, some (.int p2), some (.int p3), some (.long r29), none, some (.int (0 : Int32))]) rfl ?_
  refine w_X9_mixedStretch_L1  X N hret ?_ 100 r29 (0 : Int32) h28 E
  intro x45 x46 h47 E
  refine aI_lload X.1 dX9_mixedStretch_127 rfl ?_
  exact aI_lret E (hret _ _ dX9_mixedStretch_129)
theorem c_X9_mixedStretch {q : Nat → Nat} {p1 : Int64} {p2 : Int32} {p3 : Int32}  {r : Int64} {h2 : hp_T} {h : hp_T} (E : f_X9_mixedStretch p1 p2 p3 h = some (r, h2)) : cL 0 yX9_mixedStretch cX9_mixedStretch 8 5 113 q [.ref (q 0), .long p1, .int p2, .int p3] h r h2 := metL (own := RX9) (by decide) rfl (Nat.le_of_ble_eq_true rfl) rfl (fun Γ X N hret => w_X9_mixedStretch X N hret E)
set_option maxRecDepth 4000 in
theorem w_X9_digest_L1 {Γ : g_T} {q : Nat → Nat}    {r : Int64} {h2 : hp_T} (X : aC 0 Γ q RX9 cX9_digest 6 140) (N : ∀ k, k < 5 → aN Γ k) (hret : ∀ pc lv, decode cX9_digest pc = .ok (.lreturn, 1) → aA Γ pc lv [.long r] h2) {K : Int64 → Int32 → hp_T → Option (Int64 × hp_T)} (hk : ∀ v1 v3 h, K v1 v3 h = some (r, h2) → aA Γ 29 [some (.ref (q 0)), some (.long v1), none, some (.int v3), none] [] h) : ∀ (n : Nat) (v1 : Int64) (v3 : Int32) (h : hp_T), f_X9_digest_L1 K n v1 v3 h = some (r, h2) → aA Γ 6 [some (.ref (q 0)), some (.long v1), none, some (.int v3), none] [] h := by
  intro n
  induction n with
  | zero =>
    intro v1 v3 h E
    cases E
  | succ n ih =>
    intro v1 v3 h E
    rw [f_X9_digest_L1] at E
    refine aI_iload_n X.1 dX9_digest_6 rfl ?_
    refine aI_bipush (v := 7) X.1 dX9_digest_7 (by decide) ?_
    refine aI_icmp_gt (tgt := 29) X.1 dX9_digest_9 (by decide) (fun c1 => ?_) (fun c1 => ?_)
    · have E := o_pos c1 E
      exact hk v1 v3 h E
    · have E := o_neg c1 E
      refine aI_lload_n X.1 dX9_digest_12 rfl ?_
      refine aI_aload_n X.1 dX9_digest_13 rfl ?_
      refine aI_iload_n X.1 dX9_digest_14 rfl ?_
      obtain ⟨r3, h2, e4, E⟩ := o_callE E
      refine cv_X9_count X (c_X9_count e4) ml_9_296 (by decide) (by decide) (Nat.le_of_ble_eq_true rfl) dX9_digest_15 ?_
      refine aI_i2l X.1 dX9_digest_18 ?_
      obtain ⟨r6, h5, e7, E⟩ := o_callE E
      refine cv_X9_mixed X (c_X9_mixed e7) ml_9_299 (by decide) (by decide) (Nat.le_of_ble_eq_true rfl) dX9_digest_19 ?_
      refine aI_lstore_n (lv2 := [some (.ref (q 0)), some (.long r6), none, some (.int v3), none]) X.1 dX9_digest_22 (N 2 (by decide)) rfl ?_
      obtain ⟨x8, ex8, E⟩ := o_letE E
      refine aI_iinc (v := 1) (lv2 := [some (.ref (q 0)), some (.long r6), none, some (.int x8), none]) X.1 dX9_digest_23 (N 3 (by decide)) rfl (by decide) (by rw [← ex8]; rfl) ?_
      refine aI_goto (tgt := 6) X.1 dX9_digest_26 (by decide) ?_
      exact ih r6 x8 h5 E
set_option maxRecDepth 4000 in
theorem w_X9_digest_L2 {Γ : g_T} {q : Nat → Nat}    {r : Int64} {h2 : hp_T} (X : aC 0 Γ q RX9 cX9_digest 6 140) (N : ∀ k, k < 5 → aN Γ k) (hret : ∀ pc lv, decode cX9_digest pc = .ok (.lreturn, 1) → aA Γ pc lv [.long r] h2) {K : Int64 → Int32 → hp_T → Option (Int64 × hp_T)} (hk : ∀ v1 v3 h, K v1 v3 h = some (r, h2) → aA Γ 79 [some (.ref (q 0)), some (.long v1), none, some (.int v3), none] [] h) : ∀ (n : Nat) (v1 : Int64) (v3 : Int32) (h : hp_T), f_X9_digest_L2 K n v1 v3 h = some (r, h2) → aA Γ 60 [some (.ref (q 0)), some (.long v1), none, some (.int v3), none] [] h := by
  intro n
  induction n with
  | zero =>
    intro v1 v3 h E
    cases E
  | succ n ih =>
    intro v1 v3 h E
    rw [f_X9_digest_L2] at E
    refine aI_iload_n X.1 dX9_digest_60 rfl ?_
    refine aI_bipush (v := 48) X.1 dX9_digest_61 (by decide) ?_
    refine aI_icmp_ge (tgt := 79) X.1 dX9_digest_63 (by decide) (fun c30 => ?_) (fun c30 => ?_)
    · have E := o_pos c30 E
      exact hk v1 v3 h E
    · have E := o_neg c30 E
      refine aI_aload_n X.1 dX9_digest_66 rfl ?_
      refine aI_lload_n X.1 dX9_digest_67 rfl ?_
      refine aI_iload_n X.1 dX9_digest_68 rfl ?_
      obtain ⟨r32, h31, e33, E⟩ := o_callE E
      refine cv_X9_mixedKey X (c_X9_mixedKey e33) ml_9_313 (by decide) (by decide) (Nat.le_of_ble_eq_true rfl) dX9_digest_69 ?_
      refine aI_lstore_n (lv2 := [some (.ref (q 0)), some (.long r32), none, some (.int v3), none]) X.1 dX9_digest_72 (N 2 (by decide)) rfl ?_
      obtain ⟨x34, ex34, E⟩ := o_letE E
      refine aI_iinc (v := 1) (lv2 := [some (.ref (q 0)), some (.long r32), none, some (.int x34), none]) X.1 dX9_digest_73 (N 3 (by decide)) rfl (by decide) (by rw [← ex34]; rfl) ?_
      refine aI_goto (tgt := 60) X.1 dX9_digest_76 (by decide) ?_
      exact ih r32 x34 h31 E
set_option maxRecDepth 4000 in
theorem w_X9_digest_L3 {Γ : g_T} {q : Nat → Nat}    {r : Int64} {h2 : hp_T} (X : aC 0 Γ q RX9 cX9_digest 6 140) (N : ∀ k, k < 5 → aN Γ k) (hret : ∀ pc lv, decode cX9_digest pc = .ok (.lreturn, 1) → aA Γ pc lv [.long r] h2) {K : Int64 → Int32 → hp_T → Option (Int64 × hp_T)} (hk : ∀ v1 v3 h, K v1 v3 h = some (r, h2) → aA Γ 115 [some (.ref (q 0)), some (.long v1), none, some (.int v3), none] [] h) : ∀ (n : Nat) (v1 : Int64) (v3 : Int32) (h : hp_T), f_X9_digest_L3 K n v1 v3 h = some (r, h2) → aA Γ 81 [some (.ref (q 0)), some (.long v1), none, some (.int v3), none] [] h := by
  intro n
  induction n with
  | zero =>
    intro v1 v3 h E
    cases E
  | succ n ih =>
    intro v1 v3 h E
    rw [f_X9_digest_L3] at E
    refine aI_iload_n X.1 dX9_digest_81 rfl ?_
    refine aI_bipush (v := 48) X.1 dX9_digest_82 (by decide) ?_
    refine aI_icmp_ge (tgt := 115) X.1 dX9_digest_84 (by decide) (fun c38 => ?_) (fun c38 => ?_)
    · have E := o_pos c38 E
      exact hk v1 v3 h E
    · have E := o_neg c38 E
      refine aI_lload_n X.1 dX9_digest_87 rfl ?_
      refine aI_aload_n X.1 dX9_digest_88 rfl ?_
      refine aI_iload_n X.1 dX9_digest_89 rfl ?_
      obtain ⟨r40, h39, e41, E⟩ := o_callE E
      refine cv_X9_ranked X (c_X9_ranked e41) ml_9_317 (by decide) (by decide) (Nat.le_of_ble_eq_true rfl) dX9_digest_90 ?_
      refine aI_i2l X.1 dX9_digest_93 ?_
      obtain ⟨r43, h42, e44, E⟩ := o_callE E
      refine cv_X9_mixed X (c_X9_mixed e44) ml_9_299 (by decide) (by decide) (Nat.le_of_ble_eq_true rfl) dX9_digest_94 ?_
      refine aI_lstore_n (lv2 := [some (.ref (q 0)), some (.long r43), none, some (.int v3), none]) X.1 dX9_digest_97 (N 2 (by decide)) rfl ?_
      refine aI_lload_n X.1 dX9_digest_98 rfl ?_
      refine aI_aload_n X.1 dX9_digest_99 rfl ?_
      refine aI_iload_n X.1 dX9_digest_100 rfl ?_
      obtain ⟨r46, h45, e47, E⟩ := o_callE E
      refine cv_X9_keep X (c_X9_keep e47) ml_9_320 (by decide) (by decide) (Nat.le_of_ble_eq_true rfl) dX9_digest_101 ?_
      refine aI_i2l X.1 dX9_digest_104 ?_
      obtain ⟨r49, h48, e50, E⟩ := o_callE E
      refine cv_X9_mixed X (c_X9_mixed e50) ml_9_299 (by decide) (by decide) (Nat.le_of_ble_eq_true rfl) dX9_digest_105 ?_
      refine aI_lstore_n (lv2 := [some (.ref (q 0)), some (.long r49), none, some (.int v3), none]) X.1 dX9_digest_108 (N 2 (by decide)) rfl ?_
      obtain ⟨x51, ex51, E⟩ := o_letE E
      refine aI_iinc (v := 1) (lv2 := [some (.ref (q 0)), some (.long r49), none, some (.int x51), none]) X.1 dX9_digest_109 (N 3 (by decide)) rfl (by decide) (by rw [← ex51]; rfl) ?_
      refine aI_goto (tgt := 81) X.1 dX9_digest_112 (by decide) ?_
      exact ih r49 x51 h48 E
set_option maxRecDepth 4000 in
theorem w_X9_digest_L5 {Γ : g_T} {q : Nat → Nat}  {u3 : Int32}  {r : Int64} {h2 : hp_T} (X : aC 0 Γ q RX9 cX9_digest 6 140) (N : ∀ k, k < 5 → aN Γ k) (hret : ∀ pc lv, decode cX9_digest pc = .ok (.lreturn, 1) → aA Γ pc lv [.long r] h2) {K : Int64 → Int32 → hp_T → Option (Int64 × hp_T)} (hk : ∀ v1 v4 h, K v1 v4 h = some (r, h2) → aA Γ 151 [some (.ref (q 0)), some (.long v1), none, some (.int u3), some (.int v4)] [] h) : ∀ (n : Nat) (v1 : Int64) (v4 : Int32) (h : hp_T), f_X9_digest_L5 u3 K n v1 v4 h = some (r, h2) → aA Γ 126 [some (.ref (q 0)), some (.long v1), none, some (.int u3), some (.int v4)] [] h := by
  intro n
  induction n with
  | zero =>
    intro v1 v4 h E
    cases E
  | succ n ih =>
    intro v1 v4 h E
    rw [f_X9_digest_L5] at E
    refine aI_iload X.1 dX9_digest_126 rfl ?_
    refine aI_iconst (v := 2) X.1 dX9_digest_128 (by decide) ?_
    refine aI_icmp_gt (tgt := 151) X.1 dX9_digest_129 (by decide) (fun c56 => ?_) (fun c56 => ?_)
    · have E := o_pos c56 E
      exact hk v1 v4 h E
    · have E := o_neg c56 E
      refine aI_lload_n X.1 dX9_digest_132 rfl ?_
      refine aI_aload_n X.1 dX9_digest_133 rfl ?_
      refine aI_iload_n X.1 dX9_digest_134 rfl ?_
      refine aI_iload X.1 dX9_digest_135 rfl ?_
      obtain ⟨r58, h57, e59, E⟩ := o_callE E
      refine cv_X9_clash X (c_X9_clash e59) ml_9_323 (by decide) (by decide) (Nat.le_of_ble_eq_true rfl) dX9_digest_137 ?_
      refine aI_i2l X.1 dX9_digest_140 ?_
      obtain ⟨r61, h60, e62, E⟩ := o_callE E
      refine cv_X9_mixed X (c_X9_mixed e62) ml_9_299 (by decide) (by decide) (Nat.le_of_ble_eq_true rfl) dX9_digest_141 ?_
      refine aI_lstore_n (lv2 := [some (.ref (q 0)), some (.long r61), none, some (.int u3), some (.int v4)]) X.1 dX9_digest_144 (N 2 (by decide)) rfl ?_
      obtain ⟨x63, ex63, E⟩ := o_letE E
      refine aI_iinc (v := 1) (lv2 := [some (.ref (q 0)), some (.long r61), none, some (.int u3), some (.int x63)]) X.1 dX9_digest_145 (N 4 (by decide)) rfl (by decide) (by rw [← ex63]; rfl) ?_
      refine aI_goto (tgt := 126) X.1 dX9_digest_148 (by decide) ?_
      exact ih r61 x63 h60 E
set_option maxRecDepth 4000 in
theorem w_X9_digest_L4 {Γ : g_T} {q : Nat → Nat}    {r : Int64} {h2 : hp_T} (X : aC 0 Γ q RX9 cX9_digest 6 140) (N : ∀ k, k < 5 → aN Γ k) (hret : ∀ pc lv, decode cX9_digest pc = .ok (.lreturn, 1) → aA Γ pc lv [.long r] h2) {K : Int64 → Int32 → hp_T → Option (Int64 × hp_T)} (hk : ∀ v1 v3 h, K v1 v3 h = some (r, h2) → aA Γ 157 [some (.ref (q 0)), some (.long v1), none, some (.int v3), none] [] h) : ∀ (n : Nat) (v1 : Int64) (v3 : Int32) (h : hp_T), f_X9_digest_L4 K n v1 v3 h = some (r, h2) → aA Γ 117 [some (.ref (q 0)), some (.long v1), none, some (.int v3), none] [] h := by
  intro n
  induction n with
  | zero =>
    intro v1 v3 h E
    cases E
  | succ n ih =>
    intro v1 v3 h E
    rw [f_X9_digest_L4] at E
    refine aI_iload_n X.1 dX9_digest_117 rfl ?_
    refine aI_bipush (v := 30) X.1 dX9_digest_118 (by decide) ?_
    refine aI_icmp_gt (tgt := 157) X.1 dX9_digest_120 (by decide) (fun c55 => ?_) (fun c55 => ?_)
    · have E := o_pos c55 E
      exact hk v1 v3 h E
    · have E := o_neg c55 E
      refine aI_iconst (v := 0) X.1 dX9_digest_123 (by decide) ?_
      refine aI_istore (lv2 := [some (.ref (q 0)), some (.long v1), none, some (.int v3), some (.int (0 : Int32))]) X.1 dX9_digest_124 (N 4 (by decide)) rfl ?_
      refine w_X9_digest_L5  X N hret ?_ 100 v1 (0 : Int32) h E
      intro x64 x65 h66 E
      obtain ⟨x67, ex67, E⟩ := o_letE E
      refine aI_iinc (v := 1) (lv2 := [some (.ref (q 0)), some (.long x64), none, some (.int x67), some (.int x65)]) X.1 dX9_digest_151 (N 3 (by decide)) rfl (by decide) (by rw [← ex67]; rfl) ?_
      refine aI_goto (tgt := 117) X.1 dX9_digest_154 (by decide) ?_
      refine aI_lv [true, true, false, true, false] (lv2 := [some (.ref (q 0)), some (.long x64), none, some (.int x67), none]) rfl ?_
      exact ih x64 x67 h66 E
set_option maxRecDepth 4000 in
theorem w_X9_digest_L6 {Γ : g_T} {q : Nat → Nat}    {r : Int64} {h2 : hp_T} (X : aC 0 Γ q RX9 cX9_digest 6 140) (N : ∀ k, k < 5 → aN Γ k) (hret : ∀ pc lv, decode cX9_digest pc = .ok (.lreturn, 1) → aA Γ pc lv [.long r] h2) {K : Int64 → Int32 → hp_T → Option (Int64 × hp_T)} (hk : ∀ v1 v3 h, K v1 v3 h = some (r, h2) → aA Γ 180 [some (.ref (q 0)), some (.long v1), none, some (.int v3), none] [] h) : ∀ (n : Nat) (v1 : Int64) (v3 : Int32) (h : hp_T), f_X9_digest_L6 K n v1 v3 h = some (r, h2) → aA Γ 160 [some (.ref (q 0)), some (.long v1), none, some (.int v3), none] [] h := by
  intro n
  induction n with
  | zero =>
    intro v1 v3 h E
    cases E
  | succ n ih =>
    intro v1 v3 h E
    rw [f_X9_digest_L6] at E
    refine aI_iload_n X.1 dX9_digest_160 rfl ?_
    refine aI_sipush (v := 150) X.1 dX9_digest_161 (by decide) ?_
    refine aI_icmp_gt (tgt := 180) X.1 dX9_digest_164 (by decide) (fun c71 => ?_) (fun c71 => ?_)
    · have E := o_pos c71 E
      exact hk v1 v3 h E
    · have E := o_neg c71 E
      refine aI_aload_n X.1 dX9_digest_167 rfl ?_
      refine aI_lload_n X.1 dX9_digest_168 rfl ?_
      refine aI_iload_n X.1 dX9_digest_169 rfl ?_
      obtain ⟨r73, h72, e74, E⟩ := o_callE E
      refine cv_X9_mixedPoint X (c_X9_mixedPoint e74) ml_9_326 (by decide) (by decide) (Nat.le_of_ble_eq_true rfl) dX9_digest_170 ?_
      refine aI_lstore_n (lv2 := [some (.ref (q 0)), some (.long r73), none, some (.int v3), none]) X.1 dX9_digest_173 (N 2 (by decide)) rfl ?_
      obtain ⟨x75, ex75, E⟩ := o_letE E
      refine aI_iinc (v := 20) (lv2 := [some (.ref (q 0)), some (.long r73), none, some (.int x75), none]) X.1 dX9_digest_174 (N 3 (by decide)) rfl (by decide) (by rw [← ex75]; rfl) ?_
      refine aI_goto (tgt := 160) X.1 dX9_digest_177 (by decide) ?_
      exact ih r73 x75 h72 E
set_option maxRecDepth 4000 in
theorem w_X9_digest_L7 {Γ : g_T} {q : Nat → Nat}    {r : Int64} {h2 : hp_T} (X : aC 0 Γ q RX9 cX9_digest 6 140) (N : ∀ k, k < 5 → aN Γ k) (hret : ∀ pc lv, decode cX9_digest pc = .ok (.lreturn, 1) → aA Γ pc lv [.long r] h2) {K : Int64 → Int32 → hp_T → Option (Int64 × hp_T)} (hk : ∀ v1 v3 h, K v1 v3 h = some (r, h2) → aA Γ 206 [some (.ref (q 0)), some (.long v1), none, some (.int v3), none] [] h) : ∀ (n : Nat) (v1 : Int64) (v3 : Int32) (h : hp_T), f_X9_digest_L7 K n v1 v3 h = some (r, h2) → aA Γ 183 [some (.ref (q 0)), some (.long v1), none, some (.int v3), none] [] h := by
  intro n
  induction n with
  | zero =>
    intro v1 v3 h E
    cases E
  | succ n ih =>
    intro v1 v3 h E
    rw [f_X9_digest_L7] at E
    refine aI_iload_n X.1 dX9_digest_183 rfl ?_
    refine aI_bipush (v := 60) X.1 dX9_digest_184 (by decide) ?_
    refine aI_icmp_gt (tgt := 206) X.1 dX9_digest_186 (by decide) (fun c79 => ?_) (fun c79 => ?_)
    · have E := o_pos c79 E
      exact hk v1 v3 h E
    · have E := o_neg c79 E
      refine aI_aload_n X.1 dX9_digest_189 rfl ?_
      refine aI_lload_n X.1 dX9_digest_190 rfl ?_
      refine aI_iload_n X.1 dX9_digest_191 rfl ?_
      refine aI_iload_n X.1 dX9_digest_192 rfl ?_
      refine aI_bipush (v := 90) X.1 dX9_digest_193 (by decide) ?_
      refine aI_iadd X.1 dX9_digest_195 ?_
      obtain ⟨r81, h80, e82, E⟩ := o_callE E
      refine cv_X9_mixedStretch X (c_X9_mixedStretch e82) ml_9_329 (by decide) (by decide) (Nat.le_of_ble_eq_true rfl) dX9_digest_196 ?_
      refine aI_lstore_n (lv2 := [some (.ref (q 0)), some (.long r81), none, some (.int v3), none]) X.1 dX9_digest_199 (N 2 (by decide)) rfl ?_
      obtain ⟨x83, ex83, E⟩ := o_letE E
      refine aI_iinc (v := 40) (lv2 := [some (.ref (q 0)), some (.long r81), none, some (.int x83), none]) X.1 dX9_digest_200 (N 3 (by decide)) rfl (by decide) (by rw [← ex83]; rfl) ?_
      refine aI_goto (tgt := 183) X.1 dX9_digest_203 (by decide) ?_
      exact ih r81 x83 h80 E
set_option maxRecDepth 4000 in
theorem w_X9_digest {Γ : g_T} {q : Nat → Nat}   {r : Int64} {h2 : hp_T} {h : hp_T} (X : aC 0 Γ q RX9 cX9_digest 6 140) (N : ∀ k, k < 5 → aN Γ k) (hret : ∀ pc lv, decode cX9_digest pc = .ok (.lreturn, 1) → aA Γ pc lv [.long r] h2) (E : f_X9_digest  h = some (r, h2)) : aA Γ 0 [some (.ref (q 0)), none, none, none, none] [] h := by
  unfold f_X9_digest at E
  refine aI_ldc2 X.1 dX9_digest_0 kl_9_294 ?_
  refine aI_lstore_n (lv2 := [some (.ref (q 0)), some (.long (17 : Int64)), none, none, none]) X.1 dX9_digest_3 (N 2 (by decide)) rfl ?_
  refine aI_iconst (v := 0) X.1 dX9_digest_4 (by decide) ?_
  refine aI_istore_n (lv2 := [some (.ref (q 0)), some (.long (17 : Int64)), none, some (.int (0 : Int32)), none]) X.1 dX9_digest_5 (N 3 (by decide)) rfl ?_
  refine w_X9_digest_L1  X N hret ?_ 100 (17 : Int64) (0 : Int32) h E
  intro x9 x10 h11 E
  refine aI_lload_n X.1 dX9_digest_29 rfl ?_
  refine aI_aload_n X.1 dX9_digest_30 rfl ?_
  obtain ⟨r13, h12, e14, E⟩ := o_callE E
  refine cv_X9_root X (c_X9_root e14) ml_9_303 (by decide) (by decide) (Nat.le_of_ble_eq_true rfl) dX9_digest_31 ?_
  refine aI_i2l X.1 dX9_digest_34 ?_
  obtain ⟨r16, h15, e17, E⟩ := o_callE E
  refine cv_X9_mixed X (c_X9_mixed e17) ml_9_299 (by decide) (by decide) (Nat.le_of_ble_eq_true rfl) dX9_digest_35 ?_
  refine aI_lstore_n (lv2 := [some (.ref (q 0)), some (.long r16), none, some (.int x10), none]) X.1 dX9_digest_38 (N 2 (by decide)) rfl ?_
  refine aI_lload_n X.1 dX9_digest_39 rfl ?_
  refine aI_aload_n X.1 dX9_digest_40 rfl ?_
  obtain ⟨r19, h18, e20, E⟩ := o_callE E
  refine cv_X9_point X (c_X9_point e20) ml_9_306 (by decide) (by decide) (Nat.le_of_ble_eq_true rfl) dX9_digest_41 ?_
  refine aI_i2l X.1 dX9_digest_44 ?_
  obtain ⟨r22, h21, e23, E⟩ := o_callE E
  refine cv_X9_mixed X (c_X9_mixed e23) ml_9_299 (by decide) (by decide) (Nat.le_of_ble_eq_true rfl) dX9_digest_45 ?_
  refine aI_lstore_n (lv2 := [some (.ref (q 0)), some (.long r22), none, some (.int x10), none]) X.1 dX9_digest_48 (N 2 (by decide)) rfl ?_
  refine aI_lload_n X.1 dX9_digest_49 rfl ?_
  refine aI_aload_n X.1 dX9_digest_50 rfl ?_
  obtain ⟨r25, h24, e26, E⟩ := o_callE E
  refine cv_X9_alone X (c_X9_alone e26) ml_9_309 (by decide) (by decide) (Nat.le_of_ble_eq_true rfl) dX9_digest_51 ?_
  obtain ⟨r28, h27, e29, E⟩ := o_callE E
  refine cv_X9_mixed X (c_X9_mixed e29) ml_9_299 (by decide) (by decide) (Nat.le_of_ble_eq_true rfl) dX9_digest_54 ?_
  refine aI_lstore_n (lv2 := [some (.ref (q 0)), some (.long r28), none, some (.int x10), none]) X.1 dX9_digest_57 (N 2 (by decide)) rfl ?_
  refine aI_iconst (v := 0) X.1 dX9_digest_58 (by decide) ?_
  refine aI_istore_n (lv2 := [some (.ref (q 0)), some (.long r28), none, some (.int (0 : Int32)), none]) X.1 dX9_digest_59 (N 3 (by decide)) rfl ?_
  refine w_X9_digest_L2  X N hret ?_ 100 r28 (0 : Int32) h27 E
  intro x35 x36 h37 E
  refine aI_iconst (v := 0) X.1 dX9_digest_79 (by decide) ?_
  refine aI_istore_n (lv2 := [some (.ref (q 0)), some (.long x35), none, some (.int (0 : Int32)), none]) X.1 dX9_digest_80 (N 3 (by decide)) rfl ?_
  refine w_X9_digest_L3  X N hret ?_ 100 x35 (0 : Int32) h37 E
  intro x52 x53 h54 E
  refine aI_iconst (v := 0) X.1 dX9_digest_115 (by decide) ?_
  refine aI_istore_n (lv2 := [some (.ref (q 0)), some (.long x52), none, some (.int (0 : Int32)), none]) X.1 dX9_digest_116 (N 3 (by decide)) rfl ?_
  refine w_X9_digest_L4  X N hret ?_ 100 x52 (0 : Int32) h54 E
  intro x68 x69 h70 E
  refine aI_bipush (v := -50) X.1 dX9_digest_157 (by decide) ?_
  refine aI_istore_n (lv2 := [some (.ref (q 0)), some (.long x68), none, some (.int (-50 : Int32)), none]) X.1 dX9_digest_159 (N 3 (by decide)) rfl ?_
  refine w_X9_digest_L6  X N hret ?_ 100 x68 (-50 : Int32) h70 E
  intro x76 x77 h78 E
  refine aI_bipush (v := -60) X.1 dX9_digest_180 (by decide) ?_
  refine aI_istore_n (lv2 := [some (.ref (q 0)), some (.long x76), none, some (.int (-60 : Int32)), none]) X.1 dX9_digest_182 (N 3 (by decide)) rfl ?_
  refine w_X9_digest_L7  X N hret ?_ 100 x76 (-60 : Int32) h78 E
  intro x84 x85 h86 E
  refine aI_lload_n X.1 dX9_digest_206 rfl ?_
  exact aI_lret E (hret _ _ dX9_digest_207)
theorem c_X9_digest {q : Nat → Nat}   {r : Int64} {h2 : hp_T} {h : hp_T} (E : f_X9_digest  h = some (r, h2)) : cL 0 yX9_digest cX9_digest 5 6 140 q [.ref (q 0)] h r h2 := metL (own := RX9) (by decide) rfl (Nat.le_of_ble_eq_true rfl) rfl (fun Γ X N hret => w_X9_digest X N hret E)
set_option maxRecDepth 4000 in
theorem w_X8_weight {Γ : g_T} {q : Nat → Nat} {p1 : Int32}  {r : Int32} {h2 : hp_T} {h : hp_T} (X : aC 0 Γ q RX8 cX8_weight 0 0) (N : ∀ k, k < 1 → aN Γ k) (hret : ∀ pc lv, decode cX8_weight pc = .ok (.ireturn, 1) → aA Γ pc lv [.int r] h2) (E : f_X8_weight p1 h = some (r, h2)) : aA Γ 0 [some (.int p1)] [] h := by
  unfold f_X8_weight at E
  refine aI_iload_n X.1 dX8_weight_0 rfl ?_
  refine aI_iconst (v := 1) X.1 dX8_weight_1 (by decide) ?_
  refine aI_iadd X.1 dX8_weight_2 ?_
  refine aI_ldc X.1 dX8_weight_3 kc_8_48 ?_
  refine aI_imul X.1 dX8_weight_5 ?_
  refine aI_ldc X.1 dX8_weight_6 kc_8_49 ?_
  refine aI_irem X.1 dX8_weight_8 (by decide) ?_
  exact aI_iret E (hret _ _ dX8_weight_9)
theorem c_X8_weight {q : Nat → Nat} {p1 : Int32}  {r : Int32} {h2 : hp_T} {h : hp_T} (E : f_X8_weight p1 h = some (r, h2)) : cI 0 yX8_weight cX8_weight 1 .int 0 0 q [.int p1] h r h2 := metI (own := RX8) (by decide) rfl (Nat.le_of_ble_eq_true rfl) rfl (fun Γ X N hret => w_X8_weight X N hret E)
set_option maxRecDepth 4000 in
theorem w_X10_in {Γ : g_T} {q : Nat → Nat} {p1 : Int64} {p2 : Int64} {p3 : Int64}  {r : Int32} {h2 : hp_T} {h : hp_T} (X : aC 1 Γ q RX10 cX10_in 0 0) (N : ∀ k, k < 6 → aN Γ k) (hret : ∀ pc lv, decode cX10_in pc = .ok (.ireturn, 1) → bz r = true → aA Γ pc lv [.int r] h2) (E : f_X10_in p1 p2 p3 h = some (r, h2)) : aA Γ 0 [some (.long p1), none, some (.long p2), none, some (.long p3), none] [] h := by
  unfold f_X10_in at E
  refine aI_lload_n X.1 dX10_in_0 rfl ?_
  refine aI_lload_n X.1 dX10_in_1 rfl ?_
  refine aI_lcmp X.1 dX10_in_2 ?_
  refine aI_if_lt (tgt := 17) X.1 dX10_in_3 (by decide) (fun c1 => ?_) (fun c1 => ?_)
  · have E := o_pos c1 E
    refine aI_iconst (v := 0) X.1 dX10_in_17 (by decide) ?_
    exact aI_zret (by decide) E (hret _ _ dX10_in_18)
  · have E := o_neg c1 E
    refine aI_lload_n X.1 dX10_in_6 rfl ?_
    refine aI_lload X.1 dX10_in_7 rfl ?_
    refine aI_lcmp X.1 dX10_in_9 ?_
    refine aI_if_gt (tgt := 17) X.1 dX10_in_10 (by decide) (fun c2 => ?_) (fun c2 => ?_)
    · have E := o_pos c2 E
      refine aI_iconst (v := 0) X.1 dX10_in_17 (by decide) ?_
      exact aI_zret (by decide) E (hret _ _ dX10_in_18)
    · have E := o_neg c2 E
      refine aI_iconst (v := 1) X.1 dX10_in_13 (by decide) ?_
      refine aI_goto (tgt := 18) X.1 dX10_in_14 (by decide) ?_
      exact aI_zret (by decide) E (hret _ _ dX10_in_18)
theorem c_X10_in {q : Nat → Nat} {p1 : Int64} {p2 : Int64} {p3 : Int64}  {r : Int32} {h2 : hp_T} {h : hp_T} (E : f_X10_in p1 p2 p3 h = some (r, h2)) : cI 1 yX10_in cX10_in 6 .boolean 0 0 q [.long p1, .long p2, .long p3] h r h2 := metZ (own := RX10) (by decide) rfl (Nat.le_of_ble_eq_true rfl) rfl (fun Γ X N hret => w_X10_in X N hret E)
set_option maxRecDepth 4000 in
theorem w_X10_isTwo {Γ : g_T} {q : Nat → Nat} {p1 : Int32}  {r : Int32} {h2 : hp_T} {h : hp_T} (X : aC 1 Γ q RX10 cX10_isTwo 1 25) (N : ∀ k, k < 1 → aN Γ k) (hret : ∀ pc lv, decode cX10_isTwo pc = .ok (.ireturn, 1) → bz r = true → aA Γ pc lv [.int r] h2) (E : f_X10_isTwo p1 h = some (r, h2)) : aA Γ 0 [some (.int p1)] [] h := by
  unfold f_X10_isTwo at E
  refine aI_iload_n X.1 dX10_isTwo_0 rfl ?_
  refine aI_i2l X.1 dX10_isTwo_1 ?_
  refine aI_lconst (v := 0) X.1 dX10_isTwo_2 (by decide) ?_
  refine aI_lconst (v := 1) X.1 dX10_isTwo_3 (by decide) ?_
  obtain ⟨r2, h1, e3, E⟩ := o_callE E
  refine cv_X10_in X (c_X10_in e3) ml_10_101 (by decide) (by decide) (Nat.le_of_ble_eq_true rfl) dX10_isTwo_4 ?_
  obtain ⟨g4, E⟩ := o_if E
  exact aI_zret g4 E (hret _ _ dX10_isTwo_7)
theorem c_X10_isTwo {q : Nat → Nat} {p1 : Int32}  {r : Int32} {h2 : hp_T} {h : hp_T} (E : f_X10_isTwo p1 h = some (r, h2)) : cI 1 yX10_isTwo cX10_isTwo 1 .boolean 1 25 q [.int p1] h r h2 := metZ (own := RX10) (by decide) rfl (Nat.le_of_ble_eq_true rfl) rfl (fun Γ X N hret => w_X10_isTwo X N hret E)
set_option maxRecDepth 4000 in
theorem w_X10_lesser {Γ : g_T} {q : Nat → Nat} {p1 : Int32} {p2 : Int32}  {r : Int32} {h2 : hp_T} {h : hp_T} (X : aC 1 Γ q RX10 cX10_lesser 0 0) (N : ∀ k, k < 2 → aN Γ k) (hret : ∀ pc lv, decode cX10_lesser pc = .ok (.ireturn, 1) → aA Γ pc lv [.int r] h2) (E : f_X10_lesser p1 p2 h = some (r, h2)) : aA Γ 0 [some (.int p1), some (.int p2)] [] h := by
  unfold f_X10_lesser at E
  refine aI_iload_n X.1 dX10_lesser_0 rfl ?_
  refine aI_iload_n X.1 dX10_lesser_1 rfl ?_
  refine aI_icmp_ge (tgt := 9) X.1 dX10_lesser_2 (by decide) (fun c1 => ?_) (fun c1 => ?_)
  · have E := o_pos c1 E
    refine aI_iload_n X.1 dX10_lesser_9 rfl ?_
    exact aI_iret E (hret _ _ dX10_lesser_10)
  · have E := o_neg c1 E
    refine aI_iload_n X.1 dX10_lesser_5 rfl ?_
    refine aI_goto (tgt := 10) X.1 dX10_lesser_6 (by decide) ?_
    exact aI_iret E (hret _ _ dX10_lesser_10)
theorem c_X10_lesser {q : Nat → Nat} {p1 : Int32} {p2 : Int32}  {r : Int32} {h2 : hp_T} {h : hp_T} (E : f_X10_lesser p1 p2 h = some (r, h2)) : cI 1 yX10_lesser cX10_lesser 2 .int 0 0 q [.int p1, .int p2] h r h2 := metI (own := RX10) (by decide) rfl (Nat.le_of_ble_eq_true rfl) rfl (fun Γ X N hret => w_X10_lesser X N hret E)
set_option maxRecDepth 4000 in
theorem w_X10_greater {Γ : g_T} {q : Nat → Nat} {p1 : Int32} {p2 : Int32}  {r : Int32} {h2 : hp_T} {h : hp_T} (X : aC 1 Γ q RX10 cX10_greater 0 0) (N : ∀ k, k < 2 → aN Γ k) (hret : ∀ pc lv, decode cX10_greater pc = .ok (.ireturn, 1) → aA Γ pc lv [.int r] h2) (E : f_X10_greater p1 p2 h = some (r, h2)) : aA Γ 0 [some (.int p1), some (.int p2)] [] h := by
  unfold f_X10_greater at E
  refine aI_iload_n X.1 dX10_greater_0 rfl ?_
  refine aI_iload_n X.1 dX10_greater_1 rfl ?_
  refine aI_icmp_le (tgt := 9) X.1 dX10_greater_2 (by decide) (fun c1 => ?_) (fun c1 => ?_)
  · have E := o_pos c1 E
    refine aI_iload_n X.1 dX10_greater_9 rfl ?_
    exact aI_iret E (hret _ _ dX10_greater_10)
  · have E := o_neg c1 E
    refine aI_iload_n X.1 dX10_greater_5 rfl ?_
    refine aI_goto (tgt := 10) X.1 dX10_greater_6 (by decide) ?_
    exact aI_iret E (hret _ _ dX10_greater_10)
theorem c_X10_greater {q : Nat → Nat} {p1 : Int32} {p2 : Int32}  {r : Int32} {h2 : hp_T} {h : hp_T} (E : f_X10_greater p1 p2 h = some (r, h2)) : cI 1 yX10_greater cX10_greater 2 .int 0 0 q [.int p1, .int p2] h r h2 := metI (own := RX10) (by decide) rfl (Nat.le_of_ble_eq_true rfl) rfl (fun Γ X N hret => w_X10_greater X N hret E)
set_option maxRecDepth 4000 in
theorem w_X10_finds {Γ : g_T} {q : Nat → Nat} {p1 : Int32}  {r : Int32} {h2 : hp_T} {h : hp_T} (X : aC 1 Γ q RX10 cX10_finds 0 0) (N : ∀ k, k < 2 → aN Γ k) (hret : ∀ pc lv, decode cX10_finds pc = .ok (.ireturn, 1) → aA Γ pc lv [.int r] h2) (E : f_X10_finds p1 h = some (r, h2)) : aA Γ 0 [some (.ref (q 0)), some (.int p1)] [] h := by
  unfold f_X10_finds at E
  refine aI_aload_n X.1 dX10_finds_0 rfl ?_
  refine aI_iload_n X.1 dX10_finds_1 rfl ?_
  obtain ⟨h1, eh1, E⟩ := o_letE E
  refine pf_10_105 X dX10_finds_2 (aI_eqh eh1 ?_)
  refine aI_bipush (v := -10) X.1 dX10_finds_5 (by decide) ?_
  refine aI_iload_n X.1 dX10_finds_7 rfl ?_
  refine aI_isub X.1 dX10_finds_8 ?_
  exact aI_iret E (hret _ _ dX10_finds_9)
theorem c_X10_finds {q : Nat → Nat} {p1 : Int32}  {r : Int32} {h2 : hp_T} {h : hp_T} (E : f_X10_finds p1 h = some (r, h2)) : cI 1 yX10_finds cX10_finds 2 .int 0 0 q [.ref (q 0), .int p1] h r h2 := metI (own := RX10) (by decide) rfl (Nat.le_of_ble_eq_true rfl) rfl (fun Γ X N hret => w_X10_finds X N hret E)
set_option maxRecDepth 4000 in
theorem w_X10_isSheet {Γ : g_T} {q : Nat → Nat} {p1 : Int32}  {r : Int32} {h2 : hp_T} {h : hp_T} (X : aC 1 Γ q RX10 cX10_isSheet 1 25) (N : ∀ k, k < 1 → aN Γ k) (hret : ∀ pc lv, decode cX10_isSheet pc = .ok (.ireturn, 1) → bz r = true → aA Γ pc lv [.int r] h2) (E : f_X10_isSheet p1 h = some (r, h2)) : aA Γ 0 [some (.int p1)] [] h := by
  unfold f_X10_isSheet at E
  refine aI_iload_n X.1 dX10_isSheet_0 rfl ?_
  refine aI_i2l X.1 dX10_isSheet_1 ?_
  refine aI_lconst (v := 0) X.1 dX10_isSheet_2 (by decide) ?_
  refine aI_ldc2 X.1 dX10_isSheet_3 kl_10_109 ?_
  obtain ⟨r2, h1, e3, E⟩ := o_callE E
  refine cv_X10_in X (c_X10_in e3) ml_10_101 (by decide) (by decide) (Nat.le_of_ble_eq_true rfl) dX10_isSheet_6 ?_
  obtain ⟨g4, E⟩ := o_if E
  exact aI_zret g4 E (hret _ _ dX10_isSheet_9)
theorem c_X10_isSheet {q : Nat → Nat} {p1 : Int32}  {r : Int32} {h2 : hp_T} {h : hp_T} (E : f_X10_isSheet p1 h = some (r, h2)) : cI 1 yX10_isSheet cX10_isSheet 1 .boolean 1 25 q [.int p1] h r h2 := metZ (own := RX10) (by decide) rfl (Nat.le_of_ble_eq_true rfl) rfl (fun Γ X N hret => w_X10_isSheet X N hret E)
set_option maxRecDepth 4000 in
theorem w_X10_sheet_L1 {Γ : g_T} {q : Nat → Nat}  {u1 : Int32} {u3 : Int32}  {r : Int32} {h2 : hp_T} (X : aC 1 Γ q RX10 cX10_sheet 2 45) (N : ∀ k, k < 5 → aN Γ k) (hret : ∀ pc lv, decode cX10_sheet pc = .ok (.ireturn, 1) → aA Γ pc lv [.int r] h2) {K : Int32 → hp_T → Option (Int32 × hp_T)} (hk : ∀ v4 h, K v4 h = some (r, h2) → aA Γ 80 [some (.ref (q 0)), some (.int u1), none, some (.int u3), some (.int v4)] [] h) : ∀ (n : Nat) (v4 : Int32) (h : hp_T), f_X10_sheet_L1 u1 u3 K n v4 h = some (r, h2) → aA Γ 55 [some (.ref (q 0)), some (.int u1), none, some (.int u3), some (.int v4)] [] h := by
  intro n
  induction n with
  | zero =>
    intro v4 h E
    cases E
  | succ n ih =>
    intro v4 h E
    rw [f_X10_sheet_L1] at E
    refine aI_iload X.1 dX10_sheet_55 rfl ?_
    refine aI_iload_n X.1 dX10_sheet_57 rfl ?_
    refine aI_icmp_ge (tgt := 80) X.1 dX10_sheet_58 (by decide) (fun c15 => ?_) (fun c15 => ?_)
    · have E := o_pos c15 E
      exact hk v4 h E
    · have E := o_neg c15 E
      refine aI_aload_n X.1 dX10_sheet_61 rfl ?_
      refine gf_10_16 X dX10_sheet_62 ?_
      refine aI_bipush (v := 60) X.1 dX10_sheet_65 (by decide) ?_
      refine aI_iload_n X.1 dX10_sheet_67 rfl ?_
      refine aI_imul X.1 dX10_sheet_68 ?_
      refine aI_iload X.1 dX10_sheet_69 rfl ?_
      refine aI_iadd X.1 dX10_sheet_71 ?_
      refine aI_iconst (v := 0) X.1 dX10_sheet_72 (by decide) ?_
      obtain ⟨g16, E⟩ := o_if E
      obtain ⟨h17, eh17, E⟩ := o_letE E
      refine as1_3 X g16 dX10_sheet_73 (aI_eqh eh17 ?_)
      obtain ⟨x18, ex18, E⟩ := o_letE E
      refine aI_iinc (v := 1) (lv2 := [some (.ref (q 0)), some (.int u1), none, some (.int u3), some (.int x18)]) X.1 dX10_sheet_74 (N 4 (by decide)) rfl (by decide) (by rw [← ex18]; rfl) ?_
      refine aI_goto (tgt := 55) X.1 dX10_sheet_77 (by decide) ?_
      exact ih x18 h17 E
set_option maxRecDepth 4000 in
theorem w_X10_sheet {Γ : g_T} {q : Nat → Nat} {p1 : Int32} {p2 : Int32} {p3 : Int32}  {r : Int32} {h2 : hp_T} {h : hp_T} (X : aC 1 Γ q RX10 cX10_sheet 2 45) (N : ∀ k, k < 5 → aN Γ k) (hret : ∀ pc lv, decode cX10_sheet pc = .ok (.ireturn, 1) → aA Γ pc lv [.int r] h2) (E : f_X10_sheet p1 p2 p3 h = some (r, h2)) : aA Γ 0 [some (.ref (q 0)), some (.int p1), some (.int p2), some (.int p3), none] [] h := by
  unfold f_X10_sheet at E
  refine aI_iload_n X.1 dX10_sheet_0 rfl ?_
  obtain ⟨r2, h1, e3, E⟩ := o_callE E
  refine cv_X10_isSheet X (c_X10_isSheet e3) ml_10_111 (by decide) (by decide) (Nat.le_of_ble_eq_true rfl) dX10_sheet_1 ?_
  refine aI_if_eq (tgt := 25) X.1 dX10_sheet_4 (by decide) (fun c4 => ?_) (fun c4 => ?_)
  · have E := o_pos c4 E
    refine aI_bipush (v := -2) X.1 dX10_sheet_25 (by decide) ?_
    exact aI_iret E (hret _ _ dX10_sheet_27)
  · have E := o_neg c4 E
    refine aI_iload_n X.1 dX10_sheet_7 rfl ?_
    refine aI_i2l X.1 dX10_sheet_8 ?_
    refine aI_lconst (v := 0) X.1 dX10_sheet_9 (by decide) ?_
    refine aI_ldc2 X.1 dX10_sheet_10 kl_10_115 ?_
    obtain ⟨r6, h5, e7, E⟩ := o_callE E
    refine cv_X10_in X (c_X10_in e7) ml_10_101 (by decide) (by decide) (Nat.le_of_ble_eq_true rfl) dX10_sheet_13 ?_
    refine aI_if_eq (tgt := 25) X.1 dX10_sheet_16 (by decide) (fun c8 => ?_) (fun c8 => ?_)
    · have E := o_pos c8 E
      refine aI_bipush (v := -2) X.1 dX10_sheet_25 (by decide) ?_
      exact aI_iret E (hret _ _ dX10_sheet_27)
    · have E := o_neg c8 E
      refine aI_iload_n X.1 dX10_sheet_19 rfl ?_
      refine aI_bipush (v := 60) X.1 dX10_sheet_20 (by decide) ?_
      refine aI_icmp_le (tgt := 28) X.1 dX10_sheet_22 (by decide) (fun c9 => ?_) (fun c9 => ?_)
      · have E := o_pos c9 E
        refine aI_iload_n X.1 dX10_sheet_28 rfl ?_
        refine aI_if_ge (tgt := 38) X.1 dX10_sheet_29 (by decide) (fun c10 => ?_) (fun c10 => ?_)
        · have E := o_pos c10 E
          refine aI_aload_n X.1 dX10_sheet_38 rfl ?_
          refine gf_10_7 X dX10_sheet_39 ?_
          refine aI_iload_n X.1 dX10_sheet_42 rfl ?_
          refine aI_iload_n X.1 dX10_sheet_43 rfl ?_
          obtain ⟨g11, E⟩ := o_if E
          obtain ⟨h12, eh12, E⟩ := o_letE E
          refine as1_1 X g11 dX10_sheet_44 (aI_eqh eh12 ?_)
          refine aI_aload_n X.1 dX10_sheet_45 rfl ?_
          refine gf_10_13 X dX10_sheet_46 ?_
          refine aI_iload_n X.1 dX10_sheet_49 rfl ?_
          refine aI_iload_n X.1 dX10_sheet_50 rfl ?_
          obtain ⟨g13, E⟩ := o_if E
          obtain ⟨h14, eh14, E⟩ := o_letE E
          refine as1_2 X g13 dX10_sheet_51 (aI_eqh eh14 ?_)
          refine aI_iconst (v := 0) X.1 dX10_sheet_52 (by decide) ?_
          refine aI_istore (lv2 := [some (.ref (q 0)), some (.int p1), some (.int p2), some (.int p3), some (.int (0 : Int32))]) X.1 dX10_sheet_53 (N 4 (by decide)) rfl ?_
          refine aI_lv [true, true, false, true, true] (lv2 := [some (.ref (q 0)), some (.int p1), none, some (.int p3), some (.int (0 : Int32))]) rfl ?_
          refine w_X10_sheet_L1  X N hret ?_ 100 (0 : Int32) h14 E
          intro x19 h20 E
          refine aI_iload_n X.1 dX10_sheet_80 rfl ?_
          exact aI_iret E (hret _ _ dX10_sheet_81)
        · have E := o_neg c10 E
          refine aI_aload_n X.1 dX10_sheet_32 rfl ?_
          refine aI_iconst (v := 5) X.1 dX10_sheet_33 (by decide) ?_
          obtain ⟨r22, h21, e23, E⟩ := o_callE E
          refine cv_X10_finds X (c_X10_finds e23) ml_10_117 (by decide) (by decide) (Nat.le_of_ble_eq_true rfl) dX10_sheet_34 ?_
          exact aI_iret E (hret _ _ dX10_sheet_37)
      · have E := o_neg c9 E
        refine aI_bipush (v := -2) X.1 dX10_sheet_25 (by decide) ?_
        exact aI_iret E (hret _ _ dX10_sheet_27)
theorem c_X10_sheet {q : Nat → Nat} {p1 : Int32} {p2 : Int32} {p3 : Int32}  {r : Int32} {h2 : hp_T} {h : hp_T} (E : f_X10_sheet p1 p2 p3 h = some (r, h2)) : cI 1 yX10_sheet cX10_sheet 5 .int 2 45 q [.ref (q 0), .int p1, .int p2, .int p3] h r h2 := metI (own := RX10) (by decide) rfl (Nat.le_of_ble_eq_true rfl) rfl (fun Γ X N hret => w_X10_sheet X N hret E)
set_option maxRecDepth 4000 in
theorem w_X10_lose {Γ : g_T} {q : Nat → Nat} {p1 : Int32}  {r : Int32} {h2 : hp_T} {h : hp_T} (X : aC 1 Γ q RX10 cX10_lose 2 45) (N : ∀ k, k < 2 → aN Γ k) (hret : ∀ pc lv, decode cX10_lose pc = .ok (.ireturn, 1) → aA Γ pc lv [.int r] h2) (E : f_X10_lose p1 h = some (r, h2)) : aA Γ 0 [some (.ref (q 0)), some (.int p1)] [] h := by
  unfold f_X10_lose at E
  refine aI_iload_n X.1 dX10_lose_0 rfl ?_
  obtain ⟨r2, h1, e3, E⟩ := o_callE E
  refine cv_X10_isSheet X (c_X10_isSheet e3) ml_10_111 (by decide) (by decide) (Nat.le_of_ble_eq_true rfl) dX10_lose_1 ?_
  refine aI_if_ne (tgt := 10) X.1 dX10_lose_4 (by decide) (fun c4 => ?_) (fun c4 => ?_)
  · have E := o_neg c4 E
    refine aI_aload_n X.1 dX10_lose_10 rfl ?_
    refine gf_10_7 X dX10_lose_11 ?_
    refine aI_iload_n X.1 dX10_lose_14 rfl ?_
    obtain ⟨g5, E⟩ := o_if E
    refine al1_1 X g5 dX10_lose_15 ?_
    refine aI_if_ge (tgt := 25) X.1 dX10_lose_16 (by decide) (fun c6 => ?_) (fun c6 => ?_)
    · have E := o_pos c6 E
      refine aI_aload_n X.1 dX10_lose_25 rfl ?_
      refine gf_10_7 X dX10_lose_26 ?_
      refine aI_iload_n X.1 dX10_lose_29 rfl ?_
      refine aI_iconst (v := -1) X.1 dX10_lose_30 (by decide) ?_
      obtain ⟨g7, E⟩ := o_if E
      obtain ⟨h8, eh8, E⟩ := o_letE E
      refine as1_1 X g7 dX10_lose_31 (aI_eqh eh8 ?_)
      refine aI_aload_n X.1 dX10_lose_32 rfl ?_
      refine gf_10_13 X dX10_lose_33 ?_
      refine aI_iload_n X.1 dX10_lose_36 rfl ?_
      obtain ⟨g9, E⟩ := o_if E
      refine al1_2 X g9 dX10_lose_37 ?_
      exact aI_iret E (hret _ _ dX10_lose_38)
    · have E := o_neg c6 E
      refine aI_aload_n X.1 dX10_lose_19 rfl ?_
      refine aI_iconst (v := 1) X.1 dX10_lose_20 (by decide) ?_
      obtain ⟨r11, h10, e12, E⟩ := o_callE E
      refine cv_X10_finds X (c_X10_finds e12) ml_10_117 (by decide) (by decide) (Nat.le_of_ble_eq_true rfl) dX10_lose_21 ?_
      exact aI_iret E (hret _ _ dX10_lose_24)
  · have E := o_pos c4 E
    refine aI_bipush (v := -2) X.1 dX10_lose_7 (by decide) ?_
    exact aI_iret E (hret _ _ dX10_lose_9)
theorem c_X10_lose {q : Nat → Nat} {p1 : Int32}  {r : Int32} {h2 : hp_T} {h : hp_T} (E : f_X10_lose p1 h = some (r, h2)) : cI 1 yX10_lose cX10_lose 2 .int 2 45 q [.ref (q 0), .int p1] h r h2 := metI (own := RX10) (by decide) rfl (Nat.le_of_ble_eq_true rfl) rfl (fun Γ X N hret => w_X10_lose X N hret E)
set_option maxRecDepth 4000 in
theorem w_X10_lacks {Γ : g_T} {q : Nat → Nat} {p1 : Int32} {p2 : Int32} {p3 : Int32}  {r : Int32} {h2 : hp_T} {h : hp_T} (X : aC 1 Γ q RX10 cX10_lacks 1 25) (N : ∀ k, k < 4 → aN Γ k) (hret : ∀ pc lv, decode cX10_lacks pc = .ok (.ireturn, 1) → aA Γ pc lv [.int r] h2) (E : f_X10_lacks p1 p2 p3 h = some (r, h2)) : aA Γ 0 [some (.ref (q 0)), some (.int p1), some (.int p2), some (.int p3)] [] h := by
  unfold f_X10_lacks at E
  refine aI_aload_n X.1 dX10_lacks_0 rfl ?_
  refine gf_10_7 X dX10_lacks_1 ?_
  refine aI_iload_n X.1 dX10_lacks_4 rfl ?_
  obtain ⟨g1, E⟩ := o_if E
  refine al1_1 X g1 dX10_lacks_5 ?_
  refine aI_if_ge (tgt := 15) X.1 dX10_lacks_6 (by decide) (fun c2 => ?_) (fun c2 => ?_)
  · have E := o_pos c2 E
    refine aI_aload_n X.1 dX10_lacks_15 rfl ?_
    refine gf_10_7 X dX10_lacks_16 ?_
    refine aI_iload_n X.1 dX10_lacks_19 rfl ?_
    obtain ⟨g3, E⟩ := o_if E
    refine al1_1 X g3 dX10_lacks_20 ?_
    refine aI_iload_n X.1 dX10_lacks_21 rfl ?_
    refine aI_icmp_eq (tgt := 31) X.1 dX10_lacks_22 (by decide) (fun c4 => ?_) (fun c4 => ?_)
    · have E := o_pos c4 E
      refine aI_iload_n X.1 dX10_lacks_31 rfl ?_
      refine aI_i2l X.1 dX10_lacks_32 ?_
      refine aI_lconst (v := 0) X.1 dX10_lacks_33 (by decide) ?_
      refine aI_aload_n X.1 dX10_lacks_34 rfl ?_
      refine gf_10_13 X dX10_lacks_35 ?_
      refine aI_iload_n X.1 dX10_lacks_38 rfl ?_
      obtain ⟨g5, E⟩ := o_if E
      refine al1_2 X g5 dX10_lacks_39 ?_
      refine aI_iconst (v := 1) X.1 dX10_lacks_40 (by decide) ?_
      refine aI_isub X.1 dX10_lacks_41 ?_
      refine aI_i2l X.1 dX10_lacks_42 ?_
      obtain ⟨r7, h6, e8, E⟩ := o_callE E
      refine cv_X10_in X (c_X10_in e8) ml_10_101 (by decide) (by decide) (Nat.le_of_ble_eq_true rfl) dX10_lacks_43 ?_
      refine aI_if_eq (tgt := 53) X.1 dX10_lacks_46 (by decide) (fun c9 => ?_) (fun c9 => ?_)
      · have E := o_pos c9 E
        refine aI_aload_n X.1 dX10_lacks_53 rfl ?_
        refine aI_iconst (v := 2) X.1 dX10_lacks_54 (by decide) ?_
        obtain ⟨r11, h10, e12, E⟩ := o_callE E
        refine cv_X10_finds X (c_X10_finds e12) ml_10_117 (by decide) (by decide) (Nat.le_of_ble_eq_true rfl) dX10_lacks_55 ?_
        exact aI_iret E (hret _ _ dX10_lacks_58)
      · have E := o_neg c9 E
        refine aI_iconst (v := 0) X.1 dX10_lacks_49 (by decide) ?_
        refine aI_goto (tgt := 58) X.1 dX10_lacks_50 (by decide) ?_
        exact aI_iret E (hret _ _ dX10_lacks_58)
    · have E := o_neg c4 E
      refine aI_aload_n X.1 dX10_lacks_25 rfl ?_
      refine aI_iconst (v := 3) X.1 dX10_lacks_26 (by decide) ?_
      obtain ⟨r14, h13, e15, E⟩ := o_callE E
      refine cv_X10_finds X (c_X10_finds e15) ml_10_117 (by decide) (by decide) (Nat.le_of_ble_eq_true rfl) dX10_lacks_27 ?_
      exact aI_iret E (hret _ _ dX10_lacks_30)
  · have E := o_neg c2 E
    refine aI_aload_n X.1 dX10_lacks_9 rfl ?_
    refine aI_iconst (v := 1) X.1 dX10_lacks_10 (by decide) ?_
    obtain ⟨r17, h16, e18, E⟩ := o_callE E
    refine cv_X10_finds X (c_X10_finds e18) ml_10_117 (by decide) (by decide) (Nat.le_of_ble_eq_true rfl) dX10_lacks_11 ?_
    exact aI_iret E (hret _ _ dX10_lacks_14)
theorem c_X10_lacks {q : Nat → Nat} {p1 : Int32} {p2 : Int32} {p3 : Int32}  {r : Int32} {h2 : hp_T} {h : hp_T} (E : f_X10_lacks p1 p2 p3 h = some (r, h2)) : cI 1 yX10_lacks cX10_lacks 4 .int 1 25 q [.ref (q 0), .int p1, .int p2, .int p3] h r h2 := metI (own := RX10) (by decide) rfl (Nat.le_of_ble_eq_true rfl) rfl (fun Γ X N hret => w_X10_lacks X N hret E)
set_option maxRecDepth 4000 in
theorem w_X10_cut {Γ : g_T} {q : Nat → Nat} {p1 : Int32} {p2 : Int32}  {r : Int32} {h2 : hp_T} {h : hp_T} (X : aC 1 Γ q RX10 cX10_cut 0 0) (N : ∀ k, k < 2 → aN Γ k) (hret : ∀ pc lv, decode cX10_cut pc = .ok (.ireturn, 1) → aA Γ pc lv [.int r] h2) (E : f_X10_cut p1 p2 h = some (r, h2)) : aA Γ 0 [some (.int p1), some (.int p2)] [] h := by
  unfold f_X10_cut at E
  refine aI_iload_n X.1 dX10_cut_0 rfl ?_
  refine aI_if_ne (tgt := 9) X.1 dX10_cut_1 (by decide) (fun c1 => ?_) (fun c1 => ?_)
  · have E := o_neg c1 E
    refine aI_iload_n X.1 dX10_cut_9 rfl ?_
    refine aI_iconst (v := 1) X.1 dX10_cut_10 (by decide) ?_
    refine aI_icmp_ne (tgt := 19) X.1 dX10_cut_11 (by decide) (fun c2 => ?_) (fun c2 => ?_)
    · have E := o_neg c2 E
      refine aI_iload_n X.1 dX10_cut_19 rfl ?_
      exact aI_iret E (hret _ _ dX10_cut_20)
    · have E := o_pos c2 E
      refine aI_iload_n X.1 dX10_cut_14 rfl ?_
      refine aI_i2s X.1 dX10_cut_15 ?_
      refine aI_goto (tgt := 20) X.1 dX10_cut_16 (by decide) ?_
      exact aI_iret E (hret _ _ dX10_cut_20)
  · have E := o_pos c1 E
    refine aI_iload_n X.1 dX10_cut_4 rfl ?_
    refine aI_i2b X.1 dX10_cut_5 ?_
    refine aI_goto (tgt := 20) X.1 dX10_cut_6 (by decide) ?_
    exact aI_iret E (hret _ _ dX10_cut_20)
theorem c_X10_cut {q : Nat → Nat} {p1 : Int32} {p2 : Int32}  {r : Int32} {h2 : hp_T} {h : hp_T} (E : f_X10_cut p1 p2 h = some (r, h2)) : cI 1 yX10_cut cX10_cut 2 .int 0 0 q [.int p1, .int p2] h r h2 := metI (own := RX10) (by decide) rfl (Nat.le_of_ble_eq_true rfl) rfl (fun Γ X N hret => w_X10_cut X N hret E)
set_option maxRecDepth 4000 in
theorem w_X10_lay {Γ : g_T} {q : Nat → Nat} {p1 : Int32} {p2 : Int32} {p3 : Int32} {p4 : Int32}  {r : Int32} {h2 : hp_T} {h : hp_T} (X : aC 1 Γ q RX10 cX10_lay 2 48) (N : ∀ k, k < 6 → aN Γ k) (hret : ∀ pc lv, decode cX10_lay pc = .ok (.ireturn, 1) → aA Γ pc lv [.int r] h2) (E : f_X10_lay p1 p2 p3 p4 h = some (r, h2)) : aA Γ 0 [some (.ref (q 0)), some (.int p1), some (.int p2), some (.int p3), some (.int p4), none] [] h := by
  unfold f_X10_lay at E
  refine aI_iload_n X.1 dX10_lay_0 rfl ?_
  obtain ⟨r2, h1, e3, E⟩ := o_callE E
  refine cv_X10_isSheet X (c_X10_isSheet e3) ml_10_111 (by decide) (by decide) (Nat.le_of_ble_eq_true rfl) dX10_lay_1 ?_
  refine aI_if_eq (tgt := 19) X.1 dX10_lay_4 (by decide) (fun c4 => ?_) (fun c4 => ?_)
  · have E := o_pos c4 E
    refine aI_bipush (v := -2) X.1 dX10_lay_19 (by decide) ?_
    exact aI_iret E (hret _ _ dX10_lay_21)
  · have E := o_neg c4 E
    refine aI_iload_n X.1 dX10_lay_7 rfl ?_
    refine aI_i2l X.1 dX10_lay_8 ?_
    refine aI_lconst (v := 0) X.1 dX10_lay_9 (by decide) ?_
    refine aI_ldc2 X.1 dX10_lay_10 kl_10_115 ?_
    obtain ⟨r6, h5, e7, E⟩ := o_callE E
    refine cv_X10_in X (c_X10_in e7) ml_10_101 (by decide) (by decide) (Nat.le_of_ble_eq_true rfl) dX10_lay_13 ?_
    refine aI_if_ne (tgt := 22) X.1 dX10_lay_16 (by decide) (fun c8 => ?_) (fun c8 => ?_)
    · have E := o_neg c8 E
      refine aI_aload_n X.1 dX10_lay_22 rfl ?_
      refine aI_iload_n X.1 dX10_lay_23 rfl ?_
      refine aI_iload_n X.1 dX10_lay_24 rfl ?_
      refine aI_iload_n X.1 dX10_lay_25 rfl ?_
      obtain ⟨r10, h9, e11, E⟩ := o_callE E
      refine cv_X10_lacks X (c_X10_lacks e11) ml_10_121 (by decide) (by decide) (Nat.le_of_ble_eq_true rfl) dX10_lay_26 ?_
      refine aI_istore (lv2 := [some (.ref (q 0)), some (.int p1), some (.int p2), some (.int p3), some (.int p4), some (.int r10)]) X.1 dX10_lay_29 (N 5 (by decide)) rfl ?_
      refine aI_iload X.1 dX10_lay_31 rfl ?_
      refine aI_if_eq (tgt := 39) X.1 dX10_lay_33 (by decide) (fun c12 => ?_) (fun c12 => ?_)
      · have E := o_pos c12 E
        refine aI_aload_n X.1 dX10_lay_39 rfl ?_
        refine gf_10_16 X dX10_lay_40 ?_
        refine aI_bipush (v := 60) X.1 dX10_lay_43 (by decide) ?_
        refine aI_iload_n X.1 dX10_lay_45 rfl ?_
        refine aI_imul X.1 dX10_lay_46 ?_
        refine aI_iload_n X.1 dX10_lay_47 rfl ?_
        refine aI_iadd X.1 dX10_lay_48 ?_
        refine aI_iload_n X.1 dX10_lay_49 rfl ?_
        refine aI_iload X.1 dX10_lay_50 rfl ?_
        obtain ⟨r14, h13, e15, E⟩ := o_callE E
        refine cv_X10_cut X (c_X10_cut e15) ml_10_125 (by decide) (by decide) (Nat.le_of_ble_eq_true rfl) dX10_lay_52 ?_
        obtain ⟨g16, E⟩ := o_if E
        obtain ⟨h17, eh17, E⟩ := o_letE E
        refine as1_3 X g16 dX10_lay_55 (aI_eqh eh17 ?_)
        refine aI_iconst (v := 1) X.1 dX10_lay_56 (by decide) ?_
        exact aI_iret E (hret _ _ dX10_lay_57)
      · have E := o_neg c12 E
        refine aI_iload X.1 dX10_lay_36 rfl ?_
        exact aI_iret E (hret _ _ dX10_lay_38)
    · have E := o_pos c8 E
      refine aI_bipush (v := -2) X.1 dX10_lay_19 (by decide) ?_
      exact aI_iret E (hret _ _ dX10_lay_21)
theorem c_X10_lay {q : Nat → Nat} {p1 : Int32} {p2 : Int32} {p3 : Int32} {p4 : Int32}  {r : Int32} {h2 : hp_T} {h : hp_T} (E : f_X10_lay p1 p2 p3 p4 h = some (r, h2)) : cI 1 yX10_lay cX10_lay 6 .int 2 48 q [.ref (q 0), .int p1, .int p2, .int p3, .int p4] h r h2 := metI (own := RX10) (by decide) rfl (Nat.le_of_ble_eq_true rfl) rfl (fun Γ X N hret => w_X10_lay X N hret E)
