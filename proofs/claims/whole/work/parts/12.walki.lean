set_option maxRecDepth 4000 in
theorem w_X8_weight3 {Γ : g_T} {q : Nat → Nat} {p1 : Int32}  {r : Int32} {h2 : hp_T} {h : hp_T} (X : aC 3 Γ q RX8 cX8_weight 0 0) (N : ∀ k, k < 1 → aN Γ k) (hret : ∀ pc lv, decode cX8_weight pc = .ok (.ireturn, 1) → aA Γ pc lv [.int r] h2) (E : f_X8_weight3 p1 h = some (r, h2)) : aA Γ 0 [some (.int p1)] [] h := by
  unfold f_X8_weight3 at E
  refine aI_iload_n X.1 dX8_weight_0 rfl ?_
  refine aI_iconst (v := 1) X.1 dX8_weight_1 (by decide) ?_
  refine aI_iadd X.1 dX8_weight_2 ?_
  refine aI_ldc X.1 dX8_weight_3 kc_8_48 ?_
  refine aI_imul X.1 dX8_weight_5 ?_
  refine aI_ldc X.1 dX8_weight_6 kc_8_49 ?_
  refine aI_irem X.1 dX8_weight_8 (by decide) ?_
  exact aI_iret E (hret _ _ dX8_weight_9)
theorem c_X8_weight3 {q : Nat → Nat} {p1 : Int32}  {r : Int32} {h2 : hp_T} {h : hp_T} (E : f_X8_weight3 p1 h = some (r, h2)) : cI 3 yX8_weight cX8_weight 1 .int 0 0 q [.int p1] h r h2 := metI (own := RX8) (by decide) rfl (Nat.le_of_ble_eq_true rfl) rfl (fun Γ X N hret => w_X8_weight3 X N hret E)
set_option maxRecDepth 4000 in
theorem w_X8_init3_L2 {Γ : g_T} {q : Nat → Nat}  {u1 : Int32}  {h2 : hp_T} (X : aC 3 Γ q RX8 cX8_init 1 20) (N : ∀ k, k < 3 → aN Γ k) (hret : ∀ pc lv, decode cX8_init pc = .ok (.return_, 1) → aA Γ pc lv [] h2) {K : Int32 → hp_T → Option (hp_T)} (hk : ∀ v2 h, K v2 h = some h2 → aA Γ 133 [some (.ref (q 0)), some (.int u1), some (.int v2)] [] h) : ∀ (n : Nat) (v2 : Int32) (h : hp_T), f_X8_init3_L2 u1 K n v2 h = some h2 → aA Γ 91 [some (.ref (q 0)), some (.int u1), some (.int v2)] [] h := by
  intro n
  induction n with
  | zero =>
    intro v2 h E
    cases E
  | succ n ih =>
    intro v2 h E
    rw [f_X8_init3_L2] at E
    refine aI_iload_n X.1 dX8_init_91 rfl ?_
    refine aI_if_le (tgt := 133) X.1 dX8_init_92 (by decide) (fun c2 => ?_) (fun c2 => ?_)
    · have E := o_pos c2 E
      exact hk v2 h E
    · have E := o_neg c2 E
      refine aI_aload_n X.1 dX8_init_95 rfl ?_
      refine gf_8_9_w3 X dX8_init_96 ?_
      refine aI_iload_n X.1 dX8_init_99 rfl ?_
      refine aI_iconst (v := 1) X.1 dX8_init_100 (by decide) ?_
      refine aI_isub X.1 dX8_init_101 ?_
      obtain ⟨g3, E⟩ := o_if E
      refine al3_1 X g3 dX8_init_102 ?_
      obtain ⟨r5, h4, e6, E⟩ := o_callE E
      refine cv_X8_weight3 X (c_X8_weight3 e6) ml_8_44 (by decide) (by decide) (Nat.le_of_ble_eq_true rfl) dX8_init_103 ?_
      refine aI_iload_n X.1 dX8_init_106 rfl ?_
      obtain ⟨r8, h7, e9, E⟩ := o_callE E
      refine cv_X8_weight3 X (c_X8_weight3 e9) ml_8_44 (by decide) (by decide) (Nat.le_of_ble_eq_true rfl) dX8_init_107 ?_
      refine aI_icmp_ge (tgt := 133) X.1 dX8_init_110 (by decide) (fun c10 => ?_) (fun c10 => ?_)
      · have E := o_pos c10 E
        exact hk v2 h7 E
      · have E := o_neg c10 E
        refine aI_aload_n X.1 dX8_init_113 rfl ?_
        refine gf_8_9_w3 X dX8_init_114 ?_
        refine aI_iload_n X.1 dX8_init_117 rfl ?_
        refine aI_aload_n X.1 dX8_init_118 rfl ?_
        refine gf_8_9_w3 X dX8_init_119 ?_
        refine aI_iload_n X.1 dX8_init_122 rfl ?_
        refine aI_iconst (v := 1) X.1 dX8_init_123 (by decide) ?_
        refine aI_isub X.1 dX8_init_124 ?_
        obtain ⟨g11, E⟩ := o_if E
        refine al3_1 X g11 dX8_init_125 ?_
        obtain ⟨g12, E⟩ := o_if E
        obtain ⟨h13, eh13, E⟩ := o_letE E
        refine as3_1 X g12 dX8_init_126 (aI_eqh eh13 ?_)
        obtain ⟨x14, ex14, E⟩ := o_letE E
        refine aI_iinc (v := -1) (lv2 := [some (.ref (q 0)), some (.int u1), some (.int x14)]) X.1 dX8_init_127 (N 2 (by decide)) rfl (by decide) (by rw [← ex14]; rfl) ?_
        refine aI_goto (tgt := 91) X.1 dX8_init_130 (by decide) ?_
        exact ih x14 h13 E
set_option maxRecDepth 4000 in
theorem w_X8_init3_L1 {Γ : g_T} {q : Nat → Nat}    {h2 : hp_T} (X : aC 3 Γ q RX8 cX8_init 1 20) (N : ∀ k, k < 3 → aN Γ k) (hret : ∀ pc lv, decode cX8_init pc = .ok (.return_, 1) → aA Γ pc lv [] h2) {K : Int32 → hp_T → Option (hp_T)} (hk : ∀ v1 h, K v1 h = some h2 → aA Γ 146 [some (.ref (q 0)), some (.int v1), none] [] h) : ∀ (n : Nat) (v1 : Int32) (h : hp_T), f_X8_init3_L1 K n v1 h = some h2 → aA Γ 83 [some (.ref (q 0)), some (.int v1), none] [] h := by
  intro n
  induction n with
  | zero =>
    intro v1 h E
    cases E
  | succ n ih =>
    intro v1 h E
    rw [f_X8_init3_L1] at E
    refine aI_iload_n X.1 dX8_init_83 rfl ?_
    refine aI_bipush (v := 48) X.1 dX8_init_84 (by decide) ?_
    refine aI_icmp_ge (tgt := 146) X.1 dX8_init_86 (by decide) (fun c1 => ?_) (fun c1 => ?_)
    · have E := o_pos c1 E
      exact hk v1 h E
    · have E := o_neg c1 E
      refine aI_iload_n X.1 dX8_init_89 rfl ?_
      refine aI_istore_n (lv2 := [some (.ref (q 0)), some (.int v1), some (.int v1)]) X.1 dX8_init_90 (N 2 (by decide)) rfl ?_
      refine w_X8_init3_L2  X N hret ?_ 100 v1 h E
      intro x15 h16 E
      refine aI_aload_n X.1 dX8_init_133 rfl ?_
      refine gf_8_9_w3 X dX8_init_134 ?_
      refine aI_iload_n X.1 dX8_init_137 rfl ?_
      refine aI_iload_n X.1 dX8_init_138 rfl ?_
      obtain ⟨g17, E⟩ := o_if E
      obtain ⟨h18, eh18, E⟩ := o_letE E
      refine as3_1 X g17 dX8_init_139 (aI_eqh eh18 ?_)
      obtain ⟨x19, ex19, E⟩ := o_letE E
      refine aI_iinc (v := 1) (lv2 := [some (.ref (q 0)), some (.int x19), some (.int x15)]) X.1 dX8_init_140 (N 1 (by decide)) rfl (by decide) (by rw [← ex19]; rfl) ?_
      refine aI_goto (tgt := 83) X.1 dX8_init_143 (by decide) ?_
      refine aI_lv [true, true, false] (lv2 := [some (.ref (q 0)), some (.int x19), none]) rfl ?_
      exact ih x19 h18 E
set_option maxRecDepth 4000 in
theorem w_X8_init3 {Γ : g_T} {q : Nat → Nat}   {h2 : hp_T} {h : hp_T} (X : aC 3 Γ q RX8 cX8_init 1 20) (N : ∀ k, k < 3 → aN Γ k) (hret : ∀ pc lv, decode cX8_init pc = .ok (.return_, 1) → aA Γ pc lv [] h2) (E : f_X8_init3  h = some h2) : aA Γ 81 [some (.ref (q 0)), none, none] [] h := by
  unfold f_X8_init3 at E
  refine aI_iconst (v := 0) X.1 dX8_init_81 (by decide) ?_
  refine aI_istore_n (lv2 := [some (.ref (q 0)), some (.int (0 : Int32)), none]) X.1 dX8_init_82 (N 1 (by decide)) rfl ?_
  refine w_X8_init3_L1  X N hret ?_ 100 (0 : Int32) h E
  intro x20 h21 E
  exact aI_vret E (hret _ _ dX8_init_146)
set_option maxRecDepth 4000 in
theorem w_X10_init1_L1 {Γ : g_T} {q : Nat → Nat}    {h2 : hp_T} (X : aC 1 Γ q RX10 cX10_init 1 12) (N : ∀ k, k < 2 → aN Γ k) (hret : ∀ pc lv, decode cX10_init pc = .ok (.return_, 1) → aA Γ pc lv [] h2) {K : Int32 → hp_T → Option (hp_T)} (hk : ∀ v1 h, K v1 h = some h2 → aA Γ 263 [some (.ref (q 0)), some (.int v1)] [] h) : ∀ (n : Nat) (v1 : Int32) (h : hp_T), f_X10_init1_L1 K n v1 h = some h2 → aA Γ 245 [some (.ref (q 0)), some (.int v1)] [] h := by
  intro n
  induction n with
  | zero =>
    intro v1 h E
    cases E
  | succ n ih =>
    intro v1 h E
    rw [f_X10_init1_L1] at E
    refine aI_iload_n X.1 dX10_init_245 rfl ?_
    refine aI_iconst (v := 4) X.1 dX10_init_246 (by decide) ?_
    refine aI_icmp_ge (tgt := 263) X.1 dX10_init_247 (by decide) (fun c1 => ?_) (fun c1 => ?_)
    · have E := o_pos c1 E
      exact hk v1 h E
    · have E := o_neg c1 E
      refine aI_aload_n X.1 dX10_init_250 rfl ?_
      refine gf_10_7 X dX10_init_251 ?_
      refine aI_iload_n X.1 dX10_init_254 rfl ?_
      refine aI_iconst (v := -1) X.1 dX10_init_255 (by decide) ?_
      obtain ⟨g2, E⟩ := o_if E
      obtain ⟨h3, eh3, E⟩ := o_letE E
      refine as1_1 X g2 dX10_init_256 (aI_eqh eh3 ?_)
      obtain ⟨x4, ex4, E⟩ := o_letE E
      refine aI_iinc (v := 1) (lv2 := [some (.ref (q 0)), some (.int x4)]) X.1 dX10_init_257 (N 1 (by decide)) rfl (by decide) (by rw [← ex4]; rfl) ?_
      refine aI_goto (tgt := 245) X.1 dX10_init_260 (by decide) ?_
      exact ih x4 h3 E
set_option maxRecDepth 4000 in
theorem w_X10_init1 {Γ : g_T} {q : Nat → Nat}   {h2 : hp_T} {h : hp_T} (X : aC 1 Γ q RX10 cX10_init 1 12) (N : ∀ k, k < 2 → aN Γ k) (hret : ∀ pc lv, decode cX10_init pc = .ok (.return_, 1) → aA Γ pc lv [] h2) (E : f_X10_init1  h = some h2) : aA Γ 243 [some (.ref (q 0)), none] [] h := by
  unfold f_X10_init1 at E
  refine aI_iconst (v := 0) X.1 dX10_init_243 (by decide) ?_
  refine aI_istore_n (lv2 := [some (.ref (q 0)), some (.int (0 : Int32))]) X.1 dX10_init_244 (N 1 (by decide)) rfl ?_
  refine w_X10_init1_L1  X N hret ?_ 100 (0 : Int32) h E
  intro x5 h6 E
  exact aI_vret E (hret _ _ dX10_init_263)
