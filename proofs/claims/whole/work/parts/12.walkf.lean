set_option maxRecDepth 4000 in
theorem w_X10_grows_L1 {Γ : g_T} {q : Nat → Nat}    {h2 : hp_T} (X : aC 1 Γ q RX10 cX10_grows 3 70) (N : ∀ k, k < 4 → aN Γ k) (hret : ∀ pc lv, decode cX10_grows pc = .ok (.return_, 1) → aA Γ pc lv [] h2) {K : Int32 → Int32 → hp_T → Option (hp_T)} (hk : ∀ v1 v2 h, K v1 v2 h = some h2 → aA Γ 156 [some (.ref (q 0)), some (.int v1), some (.int v2), none] [] h) : ∀ (n : Nat) (v1 : Int32) (v2 : Int32) (h : hp_T), f_X10_grows_L1 K n v1 v2 h = some h2 → aA Γ 34 [some (.ref (q 0)), some (.int v1), some (.int v2), none] [] h := by
  intro n
  induction n with
  | zero =>
    intro v1 v2 h E
    cases E
  | succ n ih =>
    intro v1 v2 h E
    rw [f_X10_grows_L1] at E
    refine aI_iload_n X.1 dX10_grows_34 rfl ?_
    refine aI_iload_n X.1 dX10_grows_35 rfl ?_
    refine aI_icmp_ge (tgt := 156) X.1 dX10_grows_36 (by decide) (fun c4 => ?_) (fun c4 => ?_)
    · have E := o_pos c4 E
      exact hk v1 v2 h E
    · have E := o_neg c4 E
      refine aI_aload_n X.1 dX10_grows_39 rfl ?_
      refine gf_10_50 X dX10_grows_40 ?_
      refine aI_iload_n X.1 dX10_grows_43 rfl ?_
      obtain ⟨g5, E⟩ := o_if E
      refine al1_14 X g5 dX10_grows_44 ?_
      obtain ⟨x6, ex6, E⟩ := o_letE E
      refine aI_eqi ex6 ?_
      refine aI_istore_n (lv2 := [some (.ref (q 0)), some (.int v1), some (.int v2), some (.int x6)]) X.1 dX10_grows_45 (N 3 (by decide)) rfl ?_
      refine aI_aload_n X.1 dX10_grows_46 rfl ?_
      refine gf_10_56 X dX10_grows_47 ?_
      refine aI_iload_n X.1 dX10_grows_50 rfl ?_
      refine aI_aload_n X.1 dX10_grows_51 rfl ?_
      refine aI_iload_n X.1 dX10_grows_52 rfl ?_
      refine aI_aload_n X.1 dX10_grows_53 rfl ?_
      refine gf_10_74 X dX10_grows_54 ?_
      refine aI_iload_n X.1 dX10_grows_57 rfl ?_
      obtain ⟨g7, E⟩ := o_if E
      refine al1_22 X g7 dX10_grows_58 ?_
      refine aI_iload_n X.1 dX10_grows_59 rfl ?_
      refine aI_aload_n X.1 dX10_grows_60 rfl ?_
      refine gf_10_62 X dX10_grows_61 ?_
      refine aI_iload_n X.1 dX10_grows_64 rfl ?_
      obtain ⟨g8, E⟩ := o_if E
      refine al1_18 X g8 dX10_grows_65 ?_
      refine aI_iconst (v := 1) X.1 dX10_grows_66 (by decide) ?_
      refine aI_iadd X.1 dX10_grows_67 ?_
      obtain ⟨r10, h9, e11, E⟩ := o_callE E
      refine cv_X10_hangs X (c_X10_hangs e11) ml_10_191 (by decide) (by decide) (Nat.le_of_ble_eq_true rfl) dX10_grows_68 ?_
      obtain ⟨g12, E⟩ := o_if E
      obtain ⟨h13, eh13, E⟩ := o_letE E
      refine as1_16 X g12 dX10_grows_71 (aI_eqh eh13 ?_)
      refine aI_aload_n X.1 dX10_grows_72 rfl ?_
      refine gf_10_59 X dX10_grows_73 ?_
      refine aI_iload_n X.1 dX10_grows_76 rfl ?_
      refine aI_aload_n X.1 dX10_grows_77 rfl ?_
      refine aI_iload_n X.1 dX10_grows_78 rfl ?_
      refine aI_iload_n X.1 dX10_grows_79 rfl ?_
      refine aI_iconst (v := 1) X.1 dX10_grows_80 (by decide) ?_
      refine aI_iadd X.1 dX10_grows_81 ?_
      refine aI_aload_n X.1 dX10_grows_82 rfl ?_
      refine gf_10_77 X dX10_grows_83 ?_
      refine aI_iload_n X.1 dX10_grows_86 rfl ?_
      obtain ⟨g14, E⟩ := o_if E
      refine al1_23 X g14 dX10_grows_87 ?_
      refine aI_aload_n X.1 dX10_grows_88 rfl ?_
      refine gf_10_62 X dX10_grows_89 ?_
      refine aI_iload_n X.1 dX10_grows_92 rfl ?_
      obtain ⟨g15, E⟩ := o_if E
      refine al1_18 X g15 dX10_grows_93 ?_
      refine aI_iconst (v := 1) X.1 dX10_grows_94 (by decide) ?_
      refine aI_iadd X.1 dX10_grows_95 ?_
      obtain ⟨r17, h16, e18, E⟩ := o_callE E
      refine cv_X10_hangs X (c_X10_hangs e18) ml_10_191 (by decide) (by decide) (Nat.le_of_ble_eq_true rfl) dX10_grows_96 ?_
      obtain ⟨g19, E⟩ := o_if E
      obtain ⟨h20, eh20, E⟩ := o_letE E
      refine as1_17 X g19 dX10_grows_99 (aI_eqh eh20 ?_)
      refine aI_aload_n X.1 dX10_grows_100 rfl ?_
      refine gf_10_56 X dX10_grows_101 ?_
      refine aI_iload_n X.1 dX10_grows_104 rfl ?_
      obtain ⟨g21, E⟩ := o_if E
      refine al1_16 X g21 dX10_grows_105 ?_
      refine aI_iconst (v := -1) X.1 dX10_grows_106 (by decide) ?_
      refine aI_icmp_eq (tgt := 125) X.1 dX10_grows_107 (by decide) (fun c22 => ?_) (fun c22 => ?_)
      · have E := o_pos c22 E
        refine aI_aload_n X.1 dX10_grows_125 rfl ?_
        refine gf_10_59 X dX10_grows_126 ?_
        refine aI_iload_n X.1 dX10_grows_129 rfl ?_
        obtain ⟨g23, E⟩ := o_if E
        refine al1_17 X g23 dX10_grows_130 ?_
        refine aI_iconst (v := -1) X.1 dX10_grows_131 (by decide) ?_
        refine aI_icmp_eq (tgt := 150) X.1 dX10_grows_132 (by decide) (fun c24 => ?_) (fun c24 => ?_)
        · have E := o_pos c24 E
          obtain ⟨x25, ex25, E⟩ := o_letE E
          refine aI_iinc (v := 1) (lv2 := [some (.ref (q 0)), some (.int v1), some (.int x25), some (.int x6)]) X.1 dX10_grows_150 (N 2 (by decide)) rfl (by decide) (by rw [← ex25]; rfl) ?_
          refine aI_goto (tgt := 34) X.1 dX10_grows_153 (by decide) ?_
          refine aI_lv [true, true, true, false] (lv2 := [some (.ref (q 0)), some (.int v1), some (.int x25), none]) rfl ?_
          exact ih v1 x25 h20 E
        · have E := o_neg c24 E
          refine aI_aload_n X.1 dX10_grows_135 rfl ?_
          refine gf_10_50 X dX10_grows_136 ?_
          refine aI_iload_n X.1 dX10_grows_139 rfl ?_
          refine aI_aload_n X.1 dX10_grows_140 rfl ?_
          refine gf_10_59 X dX10_grows_141 ?_
          refine aI_iload_n X.1 dX10_grows_144 rfl ?_
          obtain ⟨g26, E⟩ := o_if E
          refine al1_17 X g26 dX10_grows_145 ?_
          obtain ⟨g27, E⟩ := o_if E
          obtain ⟨h28, eh28, E⟩ := o_letE E
          refine as1_14 X g27 dX10_grows_146 (aI_eqh eh28 ?_)
          obtain ⟨x29, ex29, E⟩ := o_letE E
          refine aI_iinc (v := 1) (lv2 := [some (.ref (q 0)), some (.int x29), some (.int v2), some (.int x6)]) X.1 dX10_grows_147 (N 1 (by decide)) rfl (by decide) (by rw [← ex29]; rfl) ?_
          obtain ⟨x30, ex30, E⟩ := o_letE E
          refine aI_iinc (v := 1) (lv2 := [some (.ref (q 0)), some (.int x29), some (.int x30), some (.int x6)]) X.1 dX10_grows_150 (N 2 (by decide)) rfl (by decide) (by rw [← ex30]; rfl) ?_
          refine aI_goto (tgt := 34) X.1 dX10_grows_153 (by decide) ?_
          refine aI_lv [true, true, true, false] (lv2 := [some (.ref (q 0)), some (.int x29), some (.int x30), none]) rfl ?_
          exact ih x29 x30 h28 E
      · have E := o_neg c22 E
        refine aI_aload_n X.1 dX10_grows_110 rfl ?_
        refine gf_10_50 X dX10_grows_111 ?_
        refine aI_iload_n X.1 dX10_grows_114 rfl ?_
        refine aI_aload_n X.1 dX10_grows_115 rfl ?_
        refine gf_10_56 X dX10_grows_116 ?_
        refine aI_iload_n X.1 dX10_grows_119 rfl ?_
        obtain ⟨g31, E⟩ := o_if E
        refine al1_16 X g31 dX10_grows_120 ?_
        obtain ⟨g32, E⟩ := o_if E
        obtain ⟨h33, eh33, E⟩ := o_letE E
        refine as1_14 X g32 dX10_grows_121 (aI_eqh eh33 ?_)
        obtain ⟨x34, ex34, E⟩ := o_letE E
        refine aI_iinc (v := 1) (lv2 := [some (.ref (q 0)), some (.int x34), some (.int v2), some (.int x6)]) X.1 dX10_grows_122 (N 1 (by decide)) rfl (by decide) (by rw [← ex34]; rfl) ?_
        refine aI_aload_n X.1 dX10_grows_125 rfl ?_
        refine gf_10_59 X dX10_grows_126 ?_
        refine aI_iload_n X.1 dX10_grows_129 rfl ?_
        obtain ⟨g35, E⟩ := o_if E
        refine al1_17 X g35 dX10_grows_130 ?_
        refine aI_iconst (v := -1) X.1 dX10_grows_131 (by decide) ?_
        refine aI_icmp_eq (tgt := 150) X.1 dX10_grows_132 (by decide) (fun c36 => ?_) (fun c36 => ?_)
        · have E := o_pos c36 E
          obtain ⟨x37, ex37, E⟩ := o_letE E
          refine aI_iinc (v := 1) (lv2 := [some (.ref (q 0)), some (.int x34), some (.int x37), some (.int x6)]) X.1 dX10_grows_150 (N 2 (by decide)) rfl (by decide) (by rw [← ex37]; rfl) ?_
          refine aI_goto (tgt := 34) X.1 dX10_grows_153 (by decide) ?_
          refine aI_lv [true, true, true, false] (lv2 := [some (.ref (q 0)), some (.int x34), some (.int x37), none]) rfl ?_
          exact ih x34 x37 h33 E
        · have E := o_neg c36 E
          refine aI_aload_n X.1 dX10_grows_135 rfl ?_
          refine gf_10_50 X dX10_grows_136 ?_
          refine aI_iload_n X.1 dX10_grows_139 rfl ?_
          refine aI_aload_n X.1 dX10_grows_140 rfl ?_
          refine gf_10_59 X dX10_grows_141 ?_
          refine aI_iload_n X.1 dX10_grows_144 rfl ?_
          obtain ⟨g38, E⟩ := o_if E
          refine al1_17 X g38 dX10_grows_145 ?_
          obtain ⟨g39, E⟩ := o_if E
          obtain ⟨h40, eh40, E⟩ := o_letE E
          refine as1_14 X g39 dX10_grows_146 (aI_eqh eh40 ?_)
          obtain ⟨x41, ex41, E⟩ := o_letE E
          refine aI_iinc (v := 1) (lv2 := [some (.ref (q 0)), some (.int x41), some (.int v2), some (.int x6)]) X.1 dX10_grows_147 (N 1 (by decide)) rfl (by decide) (by rw [← ex41]; rfl) ?_
          obtain ⟨x42, ex42, E⟩ := o_letE E
          refine aI_iinc (v := 1) (lv2 := [some (.ref (q 0)), some (.int x41), some (.int x42), some (.int x6)]) X.1 dX10_grows_150 (N 2 (by decide)) rfl (by decide) (by rw [← ex42]; rfl) ?_
          refine aI_goto (tgt := 34) X.1 dX10_grows_153 (by decide) ?_
          refine aI_lv [true, true, true, false] (lv2 := [some (.ref (q 0)), some (.int x41), some (.int x42), none]) rfl ?_
          exact ih x41 x42 h40 E
set_option maxRecDepth 4000 in
theorem w_X10_grows_L2 {Γ : g_T} {q : Nat → Nat}    {h2 : hp_T} (X : aC 1 Γ q RX10 cX10_grows 3 70) (N : ∀ k, k < 4 → aN Γ k) (hret : ∀ pc lv, decode cX10_grows pc = .ok (.return_, 1) → aA Γ pc lv [] h2) {K : Int32 → hp_T → Option (hp_T)} (hk : ∀ v2 h, K v2 h = some h2 → aA Γ 180 [some (.ref (q 0)), none, some (.int v2), none] [] h) : ∀ (n : Nat) (v2 : Int32) (h : hp_T), f_X10_grows_L2 K n v2 h = some h2 → aA Γ 160 [some (.ref (q 0)), none, some (.int v2), none] [] h := by
  intro n
  induction n with
  | zero =>
    intro v2 h E
    cases E
  | succ n ih =>
    intro v2 h E
    rw [f_X10_grows_L2] at E
    refine aI_iload_n X.1 dX10_grows_160 rfl ?_
    refine aI_if_lt (tgt := 180) X.1 dX10_grows_161 (by decide) (fun c47 => ?_) (fun c47 => ?_)
    · have E := o_pos c47 E
      exact hk v2 h E
    · have E := o_neg c47 E
      refine aI_aload_n X.1 dX10_grows_164 rfl ?_
      refine aI_aload_n X.1 dX10_grows_165 rfl ?_
      refine gf_10_50 X dX10_grows_166 ?_
      refine aI_iload_n X.1 dX10_grows_169 rfl ?_
      obtain ⟨g48, E⟩ := o_if E
      refine al1_14 X g48 dX10_grows_170 ?_
      obtain ⟨h49, e50, E⟩ := o_cvE E
      refine cv_X10_sums X (c_X10_sums e50) ml_10_195 (by decide) (by decide) (Nat.le_of_ble_eq_true rfl) dX10_grows_171 ?_
      obtain ⟨x51, ex51, E⟩ := o_letE E
      refine aI_iinc (v := -1) (lv2 := [some (.ref (q 0)), none, some (.int x51), none]) X.1 dX10_grows_174 (N 2 (by decide)) rfl (by decide) (by rw [← ex51]; rfl) ?_
      refine aI_goto (tgt := 160) X.1 dX10_grows_177 (by decide) ?_
      exact ih x51 h49 E
set_option maxRecDepth 4000 in
theorem w_X10_grows {Γ : g_T} {q : Nat → Nat}   {h2 : hp_T} {h : hp_T} (X : aC 1 Γ q RX10 cX10_grows 3 70) (N : ∀ k, k < 4 → aN Γ k) (hret : ∀ pc lv, decode cX10_grows pc = .ok (.return_, 1) → aA Γ pc lv [] h2) (E : f_X10_grows  h = some h2) : aA Γ 0 [some (.ref (q 0)), none, none, none] [] h := by
  unfold f_X10_grows at E
  refine aI_aload_n X.1 dX10_grows_0 rfl ?_
  obtain ⟨h1, e2, E⟩ := o_cvE E
  refine cv_X10_orders X (c_X10_orders e2) ml_10_188 (by decide) (by decide) (Nat.le_of_ble_eq_true rfl) dX10_grows_1 ?_
  refine aI_iconst (v := 0) X.1 dX10_grows_4 (by decide) ?_
  refine aI_istore_n (lv2 := [some (.ref (q 0)), some (.int (0 : Int32)), none, none]) X.1 dX10_grows_5 (N 1 (by decide)) rfl ?_
  refine aI_aload_n X.1 dX10_grows_6 rfl ?_
  refine gf_10_142 X dX10_grows_7 ?_
  refine aI_if_le (tgt := 32) X.1 dX10_grows_10 (by decide) (fun c3 => ?_) (fun c3 => ?_)
  · have E := o_pos c3 E
    refine aI_iconst (v := 0) X.1 dX10_grows_32 (by decide) ?_
    refine aI_istore_n (lv2 := [some (.ref (q 0)), some (.int (0 : Int32)), some (.int (0 : Int32)), none]) X.1 dX10_grows_33 (N 2 (by decide)) rfl ?_
    refine w_X10_grows_L1  X N hret ?_ 100 (0 : Int32) (0 : Int32) h1 E
    intro x43 x44 h45 E
    refine aI_iload_n X.1 dX10_grows_156 rfl ?_
    refine aI_iconst (v := 1) X.1 dX10_grows_157 (by decide) ?_
    refine aI_isub X.1 dX10_grows_158 ?_
    obtain ⟨x46, ex46, E⟩ := o_letE E
    refine aI_eqi ex46 ?_
    refine aI_istore_n (lv2 := [some (.ref (q 0)), some (.int x43), some (.int x46), none]) X.1 dX10_grows_159 (N 2 (by decide)) rfl ?_
    refine aI_lv [true, false, true, false] (lv2 := [some (.ref (q 0)), none, some (.int x46), none]) rfl ?_
    refine w_X10_grows_L2  X N hret ?_ 100 x46 h45 E
    intro x52 h53 E
    exact aI_vret E (hret _ _ dX10_grows_180)
  · have E := o_neg c3 E
    refine aI_aload_n X.1 dX10_grows_13 rfl ?_
    refine gf_10_50 X dX10_grows_14 ?_
    refine aI_iconst (v := 0) X.1 dX10_grows_17 (by decide) ?_
    refine aI_aload_n X.1 dX10_grows_18 rfl ?_
    refine aI_iconst (v := -1) X.1 dX10_grows_19 (by decide) ?_
    refine aI_iconst (v := 0) X.1 dX10_grows_20 (by decide) ?_
    refine aI_aload_n X.1 dX10_grows_21 rfl ?_
    refine gf_10_142 X dX10_grows_22 ?_
    refine aI_iconst (v := 0) X.1 dX10_grows_25 (by decide) ?_
    obtain ⟨r55, h54, e56, E⟩ := o_callE E
    refine cv_X10_hangs X (c_X10_hangs e56) ml_10_191 (by decide) (by decide) (Nat.le_of_ble_eq_true rfl) dX10_grows_26 ?_
    obtain ⟨g57, E⟩ := o_if E
    obtain ⟨h58, eh58, E⟩ := o_letE E
    refine as1_14 X g57 dX10_grows_29 (aI_eqh eh58 ?_)
    refine aI_iconst (v := 1) X.1 dX10_grows_30 (by decide) ?_
    refine aI_istore_n (lv2 := [some (.ref (q 0)), some (.int (1 : Int32)), none, none]) X.1 dX10_grows_31 (N 1 (by decide)) rfl ?_
    refine aI_iconst (v := 0) X.1 dX10_grows_32 (by decide) ?_
    refine aI_istore_n (lv2 := [some (.ref (q 0)), some (.int (1 : Int32)), some (.int (0 : Int32)), none]) X.1 dX10_grows_33 (N 2 (by decide)) rfl ?_
    refine w_X10_grows_L1  X N hret ?_ 100 (1 : Int32) (0 : Int32) h58 E
    intro x59 x60 h61 E
    refine aI_iload_n X.1 dX10_grows_156 rfl ?_
    refine aI_iconst (v := 1) X.1 dX10_grows_157 (by decide) ?_
    refine aI_isub X.1 dX10_grows_158 ?_
    obtain ⟨x62, ex62, E⟩ := o_letE E
    refine aI_eqi ex62 ?_
    refine aI_istore_n (lv2 := [some (.ref (q 0)), some (.int x59), some (.int x62), none]) X.1 dX10_grows_159 (N 2 (by decide)) rfl ?_
    refine aI_lv [true, false, true, false] (lv2 := [some (.ref (q 0)), none, some (.int x62), none]) rfl ?_
    refine w_X10_grows_L2  X N hret ?_ 100 x62 h61 E
    intro x63 h64 E
    exact aI_vret E (hret _ _ dX10_grows_180)
theorem c_X10_grows {q : Nat → Nat}   {h2 : hp_T} {h : hp_T} (E : f_X10_grows  h = some h2) : cV 1 yX10_grows cX10_grows 4 3 70 q [.ref (q 0)] h h2 := metV (own := RX10) (by decide) rfl (Nat.le_of_ble_eq_true rfl) rfl (fun Γ X N hret => w_X10_grows X N hret E)
set_option maxRecDepth 4000 in
theorem w_X10_rank {Γ : g_T} {q : Nat → Nat} {p1 : Int32}  {r : Int32} {h2 : hp_T} {h : hp_T} (X : aC 1 Γ q RX10 cX10_rank 2 45) (N : ∀ k, k < 2 → aN Γ k) (hret : ∀ pc lv, decode cX10_rank pc = .ok (.ireturn, 1) → aA Γ pc lv [.int r] h2) (E : f_X10_rank p1 h = some (r, h2)) : aA Γ 0 [some (.ref (q 0)), some (.int p1)] [] h := by
  unfold f_X10_rank at E
  refine aI_aload_n X.1 dX10_rank_0 rfl ?_
  obtain ⟨h1, e2, E⟩ := o_cvE E
  refine cv_X10_orders X (c_X10_orders e2) ml_10_188 (by decide) (by decide) (Nat.le_of_ble_eq_true rfl) dX10_rank_1 ?_
  refine aI_iload_n X.1 dX10_rank_4 rfl ?_
  obtain ⟨r4, h3, e5, E⟩ := o_callE E
  refine cv_X10_isKey X (c_X10_isKey e5) ml_10_145 (by decide) (by decide) (Nat.le_of_ble_eq_true rfl) dX10_rank_5 ?_
  refine aI_if_ne (tgt := 16) X.1 dX10_rank_8 (by decide) (fun c6 => ?_) (fun c6 => ?_)
  · have E := o_neg c6 E
    refine aI_aload_n X.1 dX10_rank_16 rfl ?_
    refine gf_10_22 X dX10_rank_17 ?_
    refine aI_iload_n X.1 dX10_rank_20 rfl ?_
    obtain ⟨g7, E⟩ := o_if E
    refine al1_5 X g7 dX10_rank_21 ?_
    refine aI_if_eq (tgt := 34) X.1 dX10_rank_22 (by decide) (fun c8 => ?_) (fun c8 => ?_)
    · have E := o_pos c8 E
      refine aI_bipush (v := -3) X.1 dX10_rank_34 (by decide) ?_
      exact aI_iret E (hret _ _ dX10_rank_36)
    · have E := o_neg c8 E
      refine aI_aload_n X.1 dX10_rank_25 rfl ?_
      refine gf_10_47 X dX10_rank_26 ?_
      refine aI_iload_n X.1 dX10_rank_29 rfl ?_
      obtain ⟨g9, E⟩ := o_if E
      refine al1_13 X g9 dX10_rank_30 ?_
      refine aI_goto (tgt := 36) X.1 dX10_rank_31 (by decide) ?_
      exact aI_iret E (hret _ _ dX10_rank_36)
  · have E := o_pos c6 E
    refine aI_bipush (v := -2) X.1 dX10_rank_11 (by decide) ?_
    refine aI_goto (tgt := 36) X.1 dX10_rank_13 (by decide) ?_
    exact aI_iret E (hret _ _ dX10_rank_36)
theorem c_X10_rank {q : Nat → Nat} {p1 : Int32}  {r : Int32} {h2 : hp_T} {h : hp_T} (E : f_X10_rank p1 h = some (r, h2)) : cI 1 yX10_rank cX10_rank 2 .int 2 45 q [.ref (q 0), .int p1] h r h2 := metI (own := RX10) (by decide) rfl (Nat.le_of_ble_eq_true rfl) rfl (fun Γ X N hret => w_X10_rank X N hret E)
set_option maxRecDepth 4000 in
theorem w_X10_keyAt {Γ : g_T} {q : Nat → Nat} {p1 : Int32}  {r : Int32} {h2 : hp_T} {h : hp_T} (X : aC 1 Γ q RX10 cX10_keyAt 0 0) (N : ∀ k, k < 2 → aN Γ k) (hret : ∀ pc lv, decode cX10_keyAt pc = .ok (.ireturn, 1) → aA Γ pc lv [.int r] h2) (E : f_X10_keyAt p1 h = some (r, h2)) : aA Γ 0 [some (.ref (q 0)), some (.int p1)] [] h := by
  unfold f_X10_keyAt at E
  refine aI_iload_n X.1 dX10_keyAt_0 rfl ?_
  refine aI_iconst (v := -1) X.1 dX10_keyAt_1 (by decide) ?_
  refine aI_icmp_eq (tgt := 13) X.1 dX10_keyAt_2 (by decide) (fun c1 => ?_) (fun c1 => ?_)
  · have E := o_pos c1 E
    refine aI_iconst (v := -1) X.1 dX10_keyAt_13 (by decide) ?_
    refine aI_goto (tgt := 23) X.1 dX10_keyAt_14 (by decide) ?_
    exact aI_iret E (hret _ _ dX10_keyAt_23)
  · have E := o_neg c1 E
    refine aI_iload_n X.1 dX10_keyAt_5 rfl ?_
    refine aI_aload_n X.1 dX10_keyAt_6 rfl ?_
    refine gf_10_142 X dX10_keyAt_7 ?_
    refine aI_icmp_lt (tgt := 17) X.1 dX10_keyAt_10 (by decide) (fun c2 => ?_) (fun c2 => ?_)
    · have E := o_pos c2 E
      refine aI_aload_n X.1 dX10_keyAt_17 rfl ?_
      refine gf_10_44 X dX10_keyAt_18 ?_
      refine aI_iload_n X.1 dX10_keyAt_21 rfl ?_
      obtain ⟨g3, E⟩ := o_if E
      refine al1_12 X g3 dX10_keyAt_22 ?_
      exact aI_iret E (hret _ _ dX10_keyAt_23)
    · have E := o_neg c2 E
      refine aI_iconst (v := -1) X.1 dX10_keyAt_13 (by decide) ?_
      refine aI_goto (tgt := 23) X.1 dX10_keyAt_14 (by decide) ?_
      exact aI_iret E (hret _ _ dX10_keyAt_23)
theorem c_X10_keyAt {q : Nat → Nat} {p1 : Int32}  {r : Int32} {h2 : hp_T} {h : hp_T} (E : f_X10_keyAt p1 h = some (r, h2)) : cI 1 yX10_keyAt cX10_keyAt 2 .int 0 0 q [.ref (q 0), .int p1] h r h2 := metI (own := RX10) (by decide) rfl (Nat.le_of_ble_eq_true rfl) rfl (fun Γ X N hret => w_X10_keyAt X N hret E)
set_option maxRecDepth 4000 in
theorem w_X10_ranked {Γ : g_T} {q : Nat → Nat} {p1 : Int32}  {r : Int32} {h2 : hp_T} {h : hp_T} (X : aC 1 Γ q RX10 cX10_ranked 2 45) (N : ∀ k, k < 2 → aN Γ k) (hret : ∀ pc lv, decode cX10_ranked pc = .ok (.ireturn, 1) → aA Γ pc lv [.int r] h2) (E : f_X10_ranked p1 h = some (r, h2)) : aA Γ 0 [some (.ref (q 0)), some (.int p1)] [] h := by
  unfold f_X10_ranked at E
  refine aI_aload_n X.1 dX10_ranked_0 rfl ?_
  obtain ⟨h1, e2, E⟩ := o_cvE E
  refine cv_X10_orders X (c_X10_orders e2) ml_10_188 (by decide) (by decide) (Nat.le_of_ble_eq_true rfl) dX10_ranked_1 ?_
  refine aI_iload_n X.1 dX10_ranked_4 rfl ?_
  refine aI_i2l X.1 dX10_ranked_5 ?_
  refine aI_lconst (v := 0) X.1 dX10_ranked_6 (by decide) ?_
  refine aI_ldc2 X.1 dX10_ranked_7 kl_10_130 ?_
  obtain ⟨r4, h3, e5, E⟩ := o_callE E
  refine cv_X10_in X (c_X10_in e5) ml_10_101 (by decide) (by decide) (Nat.le_of_ble_eq_true rfl) dX10_ranked_10 ?_
  refine aI_if_eq (tgt := 24) X.1 dX10_ranked_13 (by decide) (fun c6 => ?_) (fun c6 => ?_)
  · have E := o_pos c6 E
    refine aI_bipush (v := -2) X.1 dX10_ranked_24 (by decide) ?_
    exact aI_iret E (hret _ _ dX10_ranked_26)
  · have E := o_neg c6 E
    refine aI_aload_n X.1 dX10_ranked_16 rfl ?_
    refine aI_iload_n X.1 dX10_ranked_17 rfl ?_
    obtain ⟨r8, h7, e9, E⟩ := o_callE E
    refine cv_X10_keyAt X (c_X10_keyAt e9) ml_10_201 (by decide) (by decide) (Nat.le_of_ble_eq_true rfl) dX10_ranked_18 ?_
    refine aI_goto (tgt := 26) X.1 dX10_ranked_21 (by decide) ?_
    exact aI_iret E (hret _ _ dX10_ranked_26)
theorem c_X10_ranked {q : Nat → Nat} {p1 : Int32}  {r : Int32} {h2 : hp_T} {h : hp_T} (E : f_X10_ranked p1 h = some (r, h2)) : cI 1 yX10_ranked cX10_ranked 2 .int 2 45 q [.ref (q 0), .int p1] h r h2 := metI (own := RX10) (by decide) rfl (Nat.le_of_ble_eq_true rfl) rfl (fun Γ X N hret => w_X10_ranked X N hret E)
set_option maxRecDepth 4000 in
theorem w_X10_root {Γ : g_T} {q : Nat → Nat}   {r : Int32} {h2 : hp_T} {h : hp_T} (X : aC 1 Γ q RX10 cX10_root 4 93) (N : ∀ k, k < 1 → aN Γ k) (hret : ∀ pc lv, decode cX10_root pc = .ok (.ireturn, 1) → aA Γ pc lv [.int r] h2) (E : f_X10_root  h = some (r, h2)) : aA Γ 0 [some (.ref (q 0))] [] h := by
  unfold f_X10_root at E
  refine aI_aload_n X.1 dX10_root_0 rfl ?_
  obtain ⟨h1, e2, E⟩ := o_cvE E
  refine cv_X10_grows X (c_X10_grows e2) ml_10_204 (by decide) (by decide) (Nat.le_of_ble_eq_true rfl) dX10_root_1 ?_
  refine aI_aload_n X.1 dX10_root_4 rfl ?_
  refine gf_10_142 X dX10_root_5 ?_
  refine aI_if_ne (tgt := 15) X.1 dX10_root_8 (by decide) (fun c3 => ?_) (fun c3 => ?_)
  · have E := o_neg c3 E
    refine aI_aload_n X.1 dX10_root_15 rfl ?_
    refine gf_10_44 X dX10_root_16 ?_
    refine aI_aload_n X.1 dX10_root_19 rfl ?_
    refine gf_10_50 X dX10_root_20 ?_
    refine aI_iconst (v := 0) X.1 dX10_root_23 (by decide) ?_
    obtain ⟨g4, E⟩ := o_if E
    refine al1_14 X g4 dX10_root_24 ?_
    obtain ⟨g5, E⟩ := o_if E
    refine al1_12 X g5 dX10_root_25 ?_
    exact aI_iret E (hret _ _ dX10_root_26)
  · have E := o_pos c3 E
    refine aI_iconst (v := -1) X.1 dX10_root_11 (by decide) ?_
    refine aI_goto (tgt := 26) X.1 dX10_root_12 (by decide) ?_
    exact aI_iret E (hret _ _ dX10_root_26)
theorem c_X10_root {q : Nat → Nat}   {r : Int32} {h2 : hp_T} {h : hp_T} (E : f_X10_root  h = some (r, h2)) : cI 1 yX10_root cX10_root 1 .int 4 93 q [.ref (q 0)] h r h2 := metI (own := RX10) (by decide) rfl (Nat.le_of_ble_eq_true rfl) rfl (fun Γ X N hret => w_X10_root X N hret E)
set_option maxRecDepth 4000 in
theorem w_X10_treeBy {Γ : g_T} {q : Nat → Nat} {p1 : Int32} {p2 : Int32}  {r : Int32} {h2 : hp_T} {h : hp_T} (X : aC 1 Γ q RX10 cX10_treeBy 1 21) (N : ∀ k, k < 3 → aN Γ k) (hret : ∀ pc lv, decode cX10_treeBy pc = .ok (.ireturn, 1) → aA Γ pc lv [.int r] h2) (E : f_X10_treeBy p1 p2 h = some (r, h2)) : aA Γ 0 [some (.ref (q 0)), some (.int p1), some (.int p2)] [] h := by
  unfold f_X10_treeBy at E
  refine aI_iload_n X.1 dX10_treeBy_0 rfl ?_
  by_cases c16 : p2 = (0 : Int32)
  · have E := o_pos c16 E
    refine aI_tableIn (tgt := 36) (0 : Int32) X.1 dX10_treeBy_1 c16 (by decide) (by decide) rfl (by decide) ?_
    refine aI_aload_n X.1 dX10_treeBy_36 rfl ?_
    refine aI_aload_n X.1 dX10_treeBy_37 rfl ?_
    refine gf_10_53 X dX10_treeBy_38 ?_
    refine aI_iload_n X.1 dX10_treeBy_41 rfl ?_
    obtain ⟨g1, E⟩ := o_if E
    refine al1_15 X g1 dX10_treeBy_42 ?_
    obtain ⟨r3, h2, e4, E⟩ := o_callE E
    refine cv_X10_keyAt X (c_X10_keyAt e4) ml_10_201 (by decide) (by decide) (Nat.le_of_ble_eq_true rfl) dX10_treeBy_43 ?_
    exact aI_iret E (hret _ _ dX10_treeBy_46)
  have E := o_neg c16 E
  by_cases c17 : p2 = (1 : Int32)
  · have E := o_pos c17 E
    refine aI_tableIn (tgt := 47) (1 : Int32) X.1 dX10_treeBy_1 c17 (by decide) (by decide) rfl (by decide) ?_
    refine aI_aload_n X.1 dX10_treeBy_47 rfl ?_
    refine aI_aload_n X.1 dX10_treeBy_48 rfl ?_
    refine gf_10_56 X dX10_treeBy_49 ?_
    refine aI_iload_n X.1 dX10_treeBy_52 rfl ?_
    obtain ⟨g5, E⟩ := o_if E
    refine al1_16 X g5 dX10_treeBy_53 ?_
    obtain ⟨r7, h6, e8, E⟩ := o_callE E
    refine cv_X10_keyAt X (c_X10_keyAt e8) ml_10_201 (by decide) (by decide) (Nat.le_of_ble_eq_true rfl) dX10_treeBy_54 ?_
    exact aI_iret E (hret _ _ dX10_treeBy_57)
  have E := o_neg c17 E
  by_cases c18 : p2 = (2 : Int32)
  · have E := o_pos c18 E
    refine aI_tableIn (tgt := 58) (2 : Int32) X.1 dX10_treeBy_1 c18 (by decide) (by decide) rfl (by decide) ?_
    refine aI_aload_n X.1 dX10_treeBy_58 rfl ?_
    refine aI_aload_n X.1 dX10_treeBy_59 rfl ?_
    refine gf_10_59 X dX10_treeBy_60 ?_
    refine aI_iload_n X.1 dX10_treeBy_63 rfl ?_
    obtain ⟨g9, E⟩ := o_if E
    refine al1_17 X g9 dX10_treeBy_64 ?_
    obtain ⟨r11, h10, e12, E⟩ := o_callE E
    refine cv_X10_keyAt X (c_X10_keyAt e12) ml_10_201 (by decide) (by decide) (Nat.le_of_ble_eq_true rfl) dX10_treeBy_65 ?_
    exact aI_iret E (hret _ _ dX10_treeBy_68)
  have E := o_neg c18 E
  by_cases c19 : p2 = (3 : Int32)
  · have E := o_pos c19 E
    refine aI_tableIn (tgt := 69) (3 : Int32) X.1 dX10_treeBy_1 c19 (by decide) (by decide) rfl (by decide) ?_
    refine aI_aload_n X.1 dX10_treeBy_69 rfl ?_
    refine gf_10_62 X dX10_treeBy_70 ?_
    refine aI_iload_n X.1 dX10_treeBy_73 rfl ?_
    obtain ⟨g13, E⟩ := o_if E
    refine al1_18 X g13 dX10_treeBy_74 ?_
    exact aI_iret E (hret _ _ dX10_treeBy_75)
  have E := o_neg c19 E
  by_cases c20 : p2 = (4 : Int32)
  · have E := o_pos c20 E
    refine aI_tableIn (tgt := 76) (4 : Int32) X.1 dX10_treeBy_1 c20 (by decide) (by decide) rfl (by decide) ?_
    refine aI_aload_n X.1 dX10_treeBy_76 rfl ?_
    refine gf_10_65 X dX10_treeBy_77 ?_
    refine aI_iload_n X.1 dX10_treeBy_80 rfl ?_
    obtain ⟨g14, E⟩ := o_if E
    refine al1_19 X g14 dX10_treeBy_81 ?_
    exact aI_iret E (hret _ _ dX10_treeBy_82)
  have E := o_neg c20 E
  refine aI_tableOut (tgt := 83) X.1 dX10_treeBy_1 (by have ac16 := i32_ne 0 (by decide) c16; have ac17 := i32_ne 1 (by decide) c17; have ac18 := i32_ne 2 (by decide) c18; have ac19 := i32_ne 3 (by decide) c19; have ac20 := i32_ne 4 (by decide) c20; omega) (by decide) ?_
  refine aI_aload_n X.1 dX10_treeBy_83 rfl ?_
  refine gf_10_68 X dX10_treeBy_84 ?_
  refine aI_iload_n X.1 dX10_treeBy_87 rfl ?_
  obtain ⟨g15, E⟩ := o_if E
  refine al1_20 X g15 dX10_treeBy_88 ?_
  exact aI_iret E (hret _ _ dX10_treeBy_89)
theorem c_X10_treeBy {q : Nat → Nat} {p1 : Int32} {p2 : Int32}  {r : Int32} {h2 : hp_T} {h : hp_T} (E : f_X10_treeBy p1 p2 h = some (r, h2)) : cI 1 yX10_treeBy cX10_treeBy 3 .int 1 21 q [.ref (q 0), .int p1, .int p2] h r h2 := metI (own := RX10) (by decide) rfl (Nat.le_of_ble_eq_true rfl) rfl (fun Γ X N hret => w_X10_treeBy X N hret E)
set_option maxRecDepth 4000 in
theorem w_X10_tree {Γ : g_T} {q : Nat → Nat} {p1 : Int32} {p2 : Int32}  {r : Int32} {h2 : hp_T} {h : hp_T} (X : aC 1 Γ q RX10 cX10_tree 4 93) (N : ∀ k, k < 3 → aN Γ k) (hret : ∀ pc lv, decode cX10_tree pc = .ok (.ireturn, 1) → aA Γ pc lv [.int r] h2) (E : f_X10_tree p1 p2 h = some (r, h2)) : aA Γ 0 [some (.ref (q 0)), some (.int p1), some (.int p2)] [] h := by
  unfold f_X10_tree at E
  refine aI_aload_n X.1 dX10_tree_0 rfl ?_
  obtain ⟨h1, e2, E⟩ := o_cvE E
  refine cv_X10_grows X (c_X10_grows e2) ml_10_204 (by decide) (by decide) (Nat.le_of_ble_eq_true rfl) dX10_tree_1 ?_
  refine aI_iload_n X.1 dX10_tree_4 rfl ?_
  obtain ⟨r4, h3, e5, E⟩ := o_callE E
  refine cv_X10_isKey X (c_X10_isKey e5) ml_10_145 (by decide) (by decide) (Nat.le_of_ble_eq_true rfl) dX10_tree_5 ?_
  refine aI_if_eq (tgt := 23) X.1 dX10_tree_8 (by decide) (fun c6 => ?_) (fun c6 => ?_)
  · have E := o_pos c6 E
    refine aI_bipush (v := -2) X.1 dX10_tree_23 (by decide) ?_
    exact aI_iret E (hret _ _ dX10_tree_25)
  · have E := o_neg c6 E
    refine aI_iload_n X.1 dX10_tree_11 rfl ?_
    refine aI_i2l X.1 dX10_tree_12 ?_
    refine aI_lconst (v := 0) X.1 dX10_tree_13 (by decide) ?_
    refine aI_ldc2 X.1 dX10_tree_14 kl_10_207 ?_
    obtain ⟨r8, h7, e9, E⟩ := o_callE E
    refine cv_X10_in X (c_X10_in e9) ml_10_101 (by decide) (by decide) (Nat.le_of_ble_eq_true rfl) dX10_tree_17 ?_
    refine aI_if_ne (tgt := 26) X.1 dX10_tree_20 (by decide) (fun c10 => ?_) (fun c10 => ?_)
    · have E := o_neg c10 E
      refine aI_aload_n X.1 dX10_tree_26 rfl ?_
      refine gf_10_22 X dX10_tree_27 ?_
      refine aI_iload_n X.1 dX10_tree_30 rfl ?_
      obtain ⟨g11, E⟩ := o_if E
      refine al1_5 X g11 dX10_tree_31 ?_
      refine aI_if_eq (tgt := 49) X.1 dX10_tree_32 (by decide) (fun c12 => ?_) (fun c12 => ?_)
      · have E := o_pos c12 E
        refine aI_bipush (v := -3) X.1 dX10_tree_49 (by decide) ?_
        exact aI_iret E (hret _ _ dX10_tree_51)
      · have E := o_neg c12 E
        refine aI_aload_n X.1 dX10_tree_35 rfl ?_
        refine aI_aload_n X.1 dX10_tree_36 rfl ?_
        refine gf_10_47 X dX10_tree_37 ?_
        refine aI_iload_n X.1 dX10_tree_40 rfl ?_
        obtain ⟨g13, E⟩ := o_if E
        refine al1_13 X g13 dX10_tree_41 ?_
        refine aI_iload_n X.1 dX10_tree_42 rfl ?_
        obtain ⟨r15, h14, e16, E⟩ := o_callE E
        refine cv_X10_treeBy X (c_X10_treeBy e16) ml_10_209 (by decide) (by decide) (Nat.le_of_ble_eq_true rfl) dX10_tree_43 ?_
        refine aI_goto (tgt := 51) X.1 dX10_tree_46 (by decide) ?_
        exact aI_iret E (hret _ _ dX10_tree_51)
    · have E := o_pos c10 E
      refine aI_bipush (v := -2) X.1 dX10_tree_23 (by decide) ?_
      exact aI_iret E (hret _ _ dX10_tree_25)
theorem c_X10_tree {q : Nat → Nat} {p1 : Int32} {p2 : Int32}  {r : Int32} {h2 : hp_T} {h : hp_T} (E : f_X10_tree p1 p2 h = some (r, h2)) : cI 1 yX10_tree cX10_tree 3 .int 4 93 q [.ref (q 0), .int p1, .int p2] h r h2 := metI (own := RX10) (by decide) rfl (Nat.le_of_ble_eq_true rfl) rfl (fun Γ X N hret => w_X10_tree X N hret E)
set_option maxRecDepth 4000 in
theorem w_X10_end {Γ : g_T} {q : Nat → Nat} {p1 : Int32}  {r : Int32} {h2 : hp_T} {h : hp_T} (X : aC 1 Γ q RX10 cX10_end 4 93) (N : ∀ k, k < 2 → aN Γ k) (hret : ∀ pc lv, decode cX10_end pc = .ok (.ireturn, 1) → aA Γ pc lv [.int r] h2) (E : f_X10_end p1 h = some (r, h2)) : aA Γ 0 [some (.ref (q 0)), some (.int p1)] [] h := by
  unfold f_X10_end at E
  refine aI_aload_n X.1 dX10_end_0 rfl ?_
  obtain ⟨h1, e2, E⟩ := o_cvE E
  refine cv_X10_grows X (c_X10_grows e2) ml_10_204 (by decide) (by decide) (Nat.le_of_ble_eq_true rfl) dX10_end_1 ?_
  refine aI_aload_n X.1 dX10_end_4 rfl ?_
  refine aI_iload_n X.1 dX10_end_5 rfl ?_
  obtain ⟨r4, h3, e5, E⟩ := o_callE E
  refine cv_X10_has X (c_X10_has e5) ml_10_171 (by decide) (by decide) (Nat.le_of_ble_eq_true rfl) dX10_end_6 ?_
  refine aI_if_eq (tgt := 26) X.1 dX10_end_9 (by decide) (fun c6 => ?_) (fun c6 => ?_)
  · have E := o_pos c6 E
    refine aI_ldc X.1 dX10_end_26 kc_10_129 ?_
    exact aI_iret E (hret _ _ dX10_end_28)
  · have E := o_neg c6 E
    refine aI_aload_n X.1 dX10_end_12 rfl ?_
    refine gf_10_71 X dX10_end_13 ?_
    refine aI_aload_n X.1 dX10_end_16 rfl ?_
    refine gf_10_47 X dX10_end_17 ?_
    refine aI_iload_n X.1 dX10_end_20 rfl ?_
    obtain ⟨g7, E⟩ := o_if E
    refine al1_13 X g7 dX10_end_21 ?_
    obtain ⟨g8, E⟩ := o_if E
    refine al1_21 X g8 dX10_end_22 ?_
    refine aI_goto (tgt := 28) X.1 dX10_end_23 (by decide) ?_
    exact aI_iret E (hret _ _ dX10_end_28)
theorem c_X10_end {q : Nat → Nat} {p1 : Int32}  {r : Int32} {h2 : hp_T} {h : hp_T} (E : f_X10_end p1 h = some (r, h2)) : cI 1 yX10_end cX10_end 2 .int 4 93 q [.ref (q 0), .int p1] h r h2 := metI (own := RX10) (by decide) rfl (Nat.le_of_ble_eq_true rfl) rfl (fun Γ X N hret => w_X10_end X N hret E)
set_option maxRecDepth 4000 in
theorem w_X10_looksAt_L1 {Γ : g_T} {q : Nat → Nat}  {u1 : Int32} {u2 : Int32}  {r : Int32} {h2 : hp_T} (X : aC 1 Γ q RX10 cX10_looksAt 0 0) (N : ∀ k, k < 7 → aN Γ k) (hret : ∀ pc lv, decode cX10_looksAt pc = .ok (.ireturn, 1) → aA Γ pc lv [.int r] h2) {K : Int32 → Int32 → Int32 → hp_T → Option (Int32 × hp_T)} (hk : ∀ v3 v4 v5 h, K v3 v4 v5 h = some (r, h2) → aA Γ 155 [some (.ref (q 0)), some (.int u1), some (.int u2), some (.int v3), some (.int v4), some (.int v5), none] [] h) : ∀ (n : Nat) (v3 : Int32) (v4 : Int32) (v5 : Int32) (h : hp_T), f_X10_looksAt_L1 u1 u2 K n v3 v4 v5 h = some (r, h2) → aA Γ 29 [some (.ref (q 0)), some (.int u1), some (.int u2), some (.int v3), some (.int v4), some (.int v5), none] [] h := by
  intro n
  induction n with
  | zero =>
    intro v3 v4 v5 h E
    cases E
  | succ n ih =>
    intro v3 v4 v5 h E
    rw [f_X10_looksAt_L1] at E
    refine aI_iload X.1 dX10_looksAt_29 rfl ?_
    refine aI_iload_n X.1 dX10_looksAt_31 rfl ?_
    refine aI_icmp_ge (tgt := 155) X.1 dX10_looksAt_32 (by decide) (fun c2 => ?_) (fun c2 => ?_)
    · have E := o_pos c2 E
      exact hk v3 v4 v5 h E
    · have E := o_neg c2 E
      refine aI_aload_n X.1 dX10_looksAt_35 rfl ?_
      refine gf_10_80 X dX10_looksAt_36 ?_
      refine aI_iload X.1 dX10_looksAt_39 rfl ?_
      obtain ⟨g3, E⟩ := o_if E
      refine al1_24 X g3 dX10_looksAt_41 ?_
      obtain ⟨x4, ex4, E⟩ := o_letE E
      refine aI_eqi ex4 ?_
      refine aI_istore (lv2 := [some (.ref (q 0)), some (.int u1), some (.int u2), some (.int v3), some (.int v4), some (.int v5), some (.int x4)]) X.1 dX10_looksAt_42 (N 6 (by decide)) rfl ?_
      obtain ⟨x5, ex5, E⟩ := o_letE E
      refine aI_iinc (v := 1) (lv2 := [some (.ref (q 0)), some (.int u1), some (.int u2), some (.int v3), some (.int x5), some (.int v5), some (.int x4)]) X.1 dX10_looksAt_44 (N 4 (by decide)) rfl (by decide) (by rw [← ex5]; rfl) ?_
      refine aI_aload_n X.1 dX10_looksAt_47 rfl ?_
      refine gf_10_56 X dX10_looksAt_48 ?_
      refine aI_iload X.1 dX10_looksAt_51 rfl ?_
      obtain ⟨g6, E⟩ := o_if E
      refine al1_16 X g6 dX10_looksAt_53 ?_
      refine aI_iconst (v := -1) X.1 dX10_looksAt_54 (by decide) ?_
      refine aI_icmp_eq (tgt := 90) X.1 dX10_looksAt_55 (by decide) (fun c7 => ?_) (fun c7 => ?_)
      · have E := o_pos c7 E
        refine aI_aload_n X.1 dX10_looksAt_90 rfl ?_
        refine gf_10_59 X dX10_looksAt_91 ?_
        refine aI_iload X.1 dX10_looksAt_94 rfl ?_
        obtain ⟨g8, E⟩ := o_if E
        refine al1_17 X g8 dX10_looksAt_96 ?_
        refine aI_iconst (v := -1) X.1 dX10_looksAt_97 (by decide) ?_
        refine aI_icmp_eq (tgt := 149) X.1 dX10_looksAt_98 (by decide) (fun c9 => ?_) (fun c9 => ?_)
        · have E := o_pos c9 E
          obtain ⟨x10, ex10, E⟩ := o_letE E
          refine aI_iinc (v := 1) (lv2 := [some (.ref (q 0)), some (.int u1), some (.int u2), some (.int v3), some (.int x5), some (.int x10), some (.int x4)]) X.1 dX10_looksAt_149 (N 5 (by decide)) rfl (by decide) (by rw [← ex10]; rfl) ?_
          refine aI_goto (tgt := 29) X.1 dX10_looksAt_152 (by decide) ?_
          refine aI_lv [true, true, true, true, true, true, false] (lv2 := [some (.ref (q 0)), some (.int u1), some (.int u2), some (.int v3), some (.int x5), some (.int x10), none]) rfl ?_
          exact ih v3 x5 x10 h E
        · have E := o_neg c9 E
          refine aI_aload_n X.1 dX10_looksAt_101 rfl ?_
          refine gf_10_71 X dX10_looksAt_102 ?_
          refine aI_aload_n X.1 dX10_looksAt_105 rfl ?_
          refine gf_10_59 X dX10_looksAt_106 ?_
          refine aI_iload X.1 dX10_looksAt_109 rfl ?_
          obtain ⟨g11, E⟩ := o_if E
          refine al1_17 X g11 dX10_looksAt_111 ?_
          obtain ⟨g12, E⟩ := o_if E
          refine al1_21 X g12 dX10_looksAt_112 ?_
          refine aI_iload_n X.1 dX10_looksAt_113 rfl ?_
          refine aI_icmp_le (tgt := 149) X.1 dX10_looksAt_114 (by decide) (fun c13 => ?_) (fun c13 => ?_)
          · have E := o_pos c13 E
            obtain ⟨x14, ex14, E⟩ := o_letE E
            refine aI_iinc (v := 1) (lv2 := [some (.ref (q 0)), some (.int u1), some (.int u2), some (.int v3), some (.int x5), some (.int x14), some (.int x4)]) X.1 dX10_looksAt_149 (N 5 (by decide)) rfl (by decide) (by rw [← ex14]; rfl) ?_
            refine aI_goto (tgt := 29) X.1 dX10_looksAt_152 (by decide) ?_
            refine aI_lv [true, true, true, true, true, true, false] (lv2 := [some (.ref (q 0)), some (.int u1), some (.int u2), some (.int v3), some (.int x5), some (.int x14), none]) rfl ?_
            exact ih v3 x5 x14 h E
          · have E := o_neg c13 E
            refine aI_aload_n X.1 dX10_looksAt_117 rfl ?_
            refine gf_10_26 X dX10_looksAt_118 ?_
            refine aI_aload_n X.1 dX10_looksAt_121 rfl ?_
            refine gf_10_44 X dX10_looksAt_122 ?_
            refine aI_iload X.1 dX10_looksAt_125 rfl ?_
            obtain ⟨g15, E⟩ := o_if E
            refine al1_12 X g15 dX10_looksAt_127 ?_
            obtain ⟨g16, E⟩ := o_if E
            refine al1_6 X g16 dX10_looksAt_128 ?_
            refine aI_iload_n X.1 dX10_looksAt_129 rfl ?_
            refine aI_icmp_ge (tgt := 149) X.1 dX10_looksAt_130 (by decide) (fun c17 => ?_) (fun c17 => ?_)
            · have E := o_pos c17 E
              obtain ⟨x18, ex18, E⟩ := o_letE E
              refine aI_iinc (v := 1) (lv2 := [some (.ref (q 0)), some (.int u1), some (.int u2), some (.int v3), some (.int x5), some (.int x18), some (.int x4)]) X.1 dX10_looksAt_149 (N 5 (by decide)) rfl (by decide) (by rw [← ex18]; rfl) ?_
              refine aI_goto (tgt := 29) X.1 dX10_looksAt_152 (by decide) ?_
              refine aI_lv [true, true, true, true, true, true, false] (lv2 := [some (.ref (q 0)), some (.int u1), some (.int u2), some (.int v3), some (.int x5), some (.int x18), none]) rfl ?_
              exact ih v3 x5 x18 h E
            · have E := o_neg c17 E
              refine aI_aload_n X.1 dX10_looksAt_133 rfl ?_
              refine gf_10_80 X dX10_looksAt_134 ?_
              refine aI_iload_n X.1 dX10_looksAt_137 rfl ?_
              refine aI_aload_n X.1 dX10_looksAt_138 rfl ?_
              refine gf_10_59 X dX10_looksAt_139 ?_
              refine aI_iload X.1 dX10_looksAt_142 rfl ?_
              obtain ⟨g19, E⟩ := o_if E
              refine al1_17 X g19 dX10_looksAt_144 ?_
              obtain ⟨g20, E⟩ := o_if E
              obtain ⟨h21, eh21, E⟩ := o_letE E
              refine as1_24 X g20 dX10_looksAt_145 (aI_eqh eh21 ?_)
              obtain ⟨x22, ex22, E⟩ := o_letE E
              refine aI_iinc (v := 1) (lv2 := [some (.ref (q 0)), some (.int u1), some (.int u2), some (.int x22), some (.int x5), some (.int v5), some (.int x4)]) X.1 dX10_looksAt_146 (N 3 (by decide)) rfl (by decide) (by rw [← ex22]; rfl) ?_
              obtain ⟨x23, ex23, E⟩ := o_letE E
              refine aI_iinc (v := 1) (lv2 := [some (.ref (q 0)), some (.int u1), some (.int u2), some (.int x22), some (.int x5), some (.int x23), some (.int x4)]) X.1 dX10_looksAt_149 (N 5 (by decide)) rfl (by decide) (by rw [← ex23]; rfl) ?_
              refine aI_goto (tgt := 29) X.1 dX10_looksAt_152 (by decide) ?_
              refine aI_lv [true, true, true, true, true, true, false] (lv2 := [some (.ref (q 0)), some (.int u1), some (.int u2), some (.int x22), some (.int x5), some (.int x23), none]) rfl ?_
              exact ih x22 x5 x23 h21 E
      · have E := o_neg c7 E
        refine aI_aload_n X.1 dX10_looksAt_58 rfl ?_
        refine gf_10_71 X dX10_looksAt_59 ?_
        refine aI_aload_n X.1 dX10_looksAt_62 rfl ?_
        refine gf_10_56 X dX10_looksAt_63 ?_
        refine aI_iload X.1 dX10_looksAt_66 rfl ?_
        obtain ⟨g24, E⟩ := o_if E
        refine al1_16 X g24 dX10_looksAt_68 ?_
        obtain ⟨g25, E⟩ := o_if E
        refine al1_21 X g25 dX10_looksAt_69 ?_
        refine aI_iload_n X.1 dX10_looksAt_70 rfl ?_
        refine aI_icmp_le (tgt := 90) X.1 dX10_looksAt_71 (by decide) (fun c26 => ?_) (fun c26 => ?_)
        · have E := o_pos c26 E
          refine aI_aload_n X.1 dX10_looksAt_90 rfl ?_
          refine gf_10_59 X dX10_looksAt_91 ?_
          refine aI_iload X.1 dX10_looksAt_94 rfl ?_
          obtain ⟨g27, E⟩ := o_if E
          refine al1_17 X g27 dX10_looksAt_96 ?_
          refine aI_iconst (v := -1) X.1 dX10_looksAt_97 (by decide) ?_
          refine aI_icmp_eq (tgt := 149) X.1 dX10_looksAt_98 (by decide) (fun c28 => ?_) (fun c28 => ?_)
          · have E := o_pos c28 E
            obtain ⟨x29, ex29, E⟩ := o_letE E
            refine aI_iinc (v := 1) (lv2 := [some (.ref (q 0)), some (.int u1), some (.int u2), some (.int v3), some (.int x5), some (.int x29), some (.int x4)]) X.1 dX10_looksAt_149 (N 5 (by decide)) rfl (by decide) (by rw [← ex29]; rfl) ?_
            refine aI_goto (tgt := 29) X.1 dX10_looksAt_152 (by decide) ?_
            refine aI_lv [true, true, true, true, true, true, false] (lv2 := [some (.ref (q 0)), some (.int u1), some (.int u2), some (.int v3), some (.int x5), some (.int x29), none]) rfl ?_
            exact ih v3 x5 x29 h E
          · have E := o_neg c28 E
            refine aI_aload_n X.1 dX10_looksAt_101 rfl ?_
            refine gf_10_71 X dX10_looksAt_102 ?_
            refine aI_aload_n X.1 dX10_looksAt_105 rfl ?_
            refine gf_10_59 X dX10_looksAt_106 ?_
            refine aI_iload X.1 dX10_looksAt_109 rfl ?_
            obtain ⟨g30, E⟩ := o_if E
            refine al1_17 X g30 dX10_looksAt_111 ?_
            obtain ⟨g31, E⟩ := o_if E
            refine al1_21 X g31 dX10_looksAt_112 ?_
            refine aI_iload_n X.1 dX10_looksAt_113 rfl ?_
            refine aI_icmp_le (tgt := 149) X.1 dX10_looksAt_114 (by decide) (fun c32 => ?_) (fun c32 => ?_)
            · have E := o_pos c32 E
              obtain ⟨x33, ex33, E⟩ := o_letE E
              refine aI_iinc (v := 1) (lv2 := [some (.ref (q 0)), some (.int u1), some (.int u2), some (.int v3), some (.int x5), some (.int x33), some (.int x4)]) X.1 dX10_looksAt_149 (N 5 (by decide)) rfl (by decide) (by rw [← ex33]; rfl) ?_
              refine aI_goto (tgt := 29) X.1 dX10_looksAt_152 (by decide) ?_
              refine aI_lv [true, true, true, true, true, true, false] (lv2 := [some (.ref (q 0)), some (.int u1), some (.int u2), some (.int v3), some (.int x5), some (.int x33), none]) rfl ?_
              exact ih v3 x5 x33 h E
            · have E := o_neg c32 E
              refine aI_aload_n X.1 dX10_looksAt_117 rfl ?_
              refine gf_10_26 X dX10_looksAt_118 ?_
              refine aI_aload_n X.1 dX10_looksAt_121 rfl ?_
              refine gf_10_44 X dX10_looksAt_122 ?_
              refine aI_iload X.1 dX10_looksAt_125 rfl ?_
              obtain ⟨g34, E⟩ := o_if E
              refine al1_12 X g34 dX10_looksAt_127 ?_
              obtain ⟨g35, E⟩ := o_if E
              refine al1_6 X g35 dX10_looksAt_128 ?_
              refine aI_iload_n X.1 dX10_looksAt_129 rfl ?_
              refine aI_icmp_ge (tgt := 149) X.1 dX10_looksAt_130 (by decide) (fun c36 => ?_) (fun c36 => ?_)
              · have E := o_pos c36 E
                obtain ⟨x37, ex37, E⟩ := o_letE E
                refine aI_iinc (v := 1) (lv2 := [some (.ref (q 0)), some (.int u1), some (.int u2), some (.int v3), some (.int x5), some (.int x37), some (.int x4)]) X.1 dX10_looksAt_149 (N 5 (by decide)) rfl (by decide) (by rw [← ex37]; rfl) ?_
                refine aI_goto (tgt := 29) X.1 dX10_looksAt_152 (by decide) ?_
                refine aI_lv [true, true, true, true, true, true, false] (lv2 := [some (.ref (q 0)), some (.int u1), some (.int u2), some (.int v3), some (.int x5), some (.int x37), none]) rfl ?_
                exact ih v3 x5 x37 h E
              · have E := o_neg c36 E
                refine aI_aload_n X.1 dX10_looksAt_133 rfl ?_
                refine gf_10_80 X dX10_looksAt_134 ?_
                refine aI_iload_n X.1 dX10_looksAt_137 rfl ?_
                refine aI_aload_n X.1 dX10_looksAt_138 rfl ?_
                refine gf_10_59 X dX10_looksAt_139 ?_
                refine aI_iload X.1 dX10_looksAt_142 rfl ?_
                obtain ⟨g38, E⟩ := o_if E
                refine al1_17 X g38 dX10_looksAt_144 ?_
                obtain ⟨g39, E⟩ := o_if E
                obtain ⟨h40, eh40, E⟩ := o_letE E
                refine as1_24 X g39 dX10_looksAt_145 (aI_eqh eh40 ?_)
                obtain ⟨x41, ex41, E⟩ := o_letE E
                refine aI_iinc (v := 1) (lv2 := [some (.ref (q 0)), some (.int u1), some (.int u2), some (.int x41), some (.int x5), some (.int v5), some (.int x4)]) X.1 dX10_looksAt_146 (N 3 (by decide)) rfl (by decide) (by rw [← ex41]; rfl) ?_
                obtain ⟨x42, ex42, E⟩ := o_letE E
                refine aI_iinc (v := 1) (lv2 := [some (.ref (q 0)), some (.int u1), some (.int u2), some (.int x41), some (.int x5), some (.int x42), some (.int x4)]) X.1 dX10_looksAt_149 (N 5 (by decide)) rfl (by decide) (by rw [← ex42]; rfl) ?_
                refine aI_goto (tgt := 29) X.1 dX10_looksAt_152 (by decide) ?_
                refine aI_lv [true, true, true, true, true, true, false] (lv2 := [some (.ref (q 0)), some (.int u1), some (.int u2), some (.int x41), some (.int x5), some (.int x42), none]) rfl ?_
                exact ih x41 x5 x42 h40 E
        · have E := o_neg c26 E
          refine aI_aload_n X.1 dX10_looksAt_74 rfl ?_
          refine gf_10_80 X dX10_looksAt_75 ?_
          refine aI_iload_n X.1 dX10_looksAt_78 rfl ?_
          refine aI_aload_n X.1 dX10_looksAt_79 rfl ?_
          refine gf_10_56 X dX10_looksAt_80 ?_
          refine aI_iload X.1 dX10_looksAt_83 rfl ?_
          obtain ⟨g43, E⟩ := o_if E
          refine al1_16 X g43 dX10_looksAt_85 ?_
          obtain ⟨g44, E⟩ := o_if E
          obtain ⟨h45, eh45, E⟩ := o_letE E
          refine as1_24 X g44 dX10_looksAt_86 (aI_eqh eh45 ?_)
          obtain ⟨x46, ex46, E⟩ := o_letE E
          refine aI_iinc (v := 1) (lv2 := [some (.ref (q 0)), some (.int u1), some (.int u2), some (.int x46), some (.int x5), some (.int v5), some (.int x4)]) X.1 dX10_looksAt_87 (N 3 (by decide)) rfl (by decide) (by rw [← ex46]; rfl) ?_
          refine aI_aload_n X.1 dX10_looksAt_90 rfl ?_
          refine gf_10_59 X dX10_looksAt_91 ?_
          refine aI_iload X.1 dX10_looksAt_94 rfl ?_
          obtain ⟨g47, E⟩ := o_if E
          refine al1_17 X g47 dX10_looksAt_96 ?_
          refine aI_iconst (v := -1) X.1 dX10_looksAt_97 (by decide) ?_
          refine aI_icmp_eq (tgt := 149) X.1 dX10_looksAt_98 (by decide) (fun c48 => ?_) (fun c48 => ?_)
          · have E := o_pos c48 E
            obtain ⟨x49, ex49, E⟩ := o_letE E
            refine aI_iinc (v := 1) (lv2 := [some (.ref (q 0)), some (.int u1), some (.int u2), some (.int x46), some (.int x5), some (.int x49), some (.int x4)]) X.1 dX10_looksAt_149 (N 5 (by decide)) rfl (by decide) (by rw [← ex49]; rfl) ?_
            refine aI_goto (tgt := 29) X.1 dX10_looksAt_152 (by decide) ?_
            refine aI_lv [true, true, true, true, true, true, false] (lv2 := [some (.ref (q 0)), some (.int u1), some (.int u2), some (.int x46), some (.int x5), some (.int x49), none]) rfl ?_
            exact ih x46 x5 x49 h45 E
          · have E := o_neg c48 E
            refine aI_aload_n X.1 dX10_looksAt_101 rfl ?_
            refine gf_10_71 X dX10_looksAt_102 ?_
            refine aI_aload_n X.1 dX10_looksAt_105 rfl ?_
            refine gf_10_59 X dX10_looksAt_106 ?_
            refine aI_iload X.1 dX10_looksAt_109 rfl ?_
            obtain ⟨g50, E⟩ := o_if E
            refine al1_17 X g50 dX10_looksAt_111 ?_
            obtain ⟨g51, E⟩ := o_if E
            refine al1_21 X g51 dX10_looksAt_112 ?_
            refine aI_iload_n X.1 dX10_looksAt_113 rfl ?_
            refine aI_icmp_le (tgt := 149) X.1 dX10_looksAt_114 (by decide) (fun c52 => ?_) (fun c52 => ?_)
            · have E := o_pos c52 E
              obtain ⟨x53, ex53, E⟩ := o_letE E
              refine aI_iinc (v := 1) (lv2 := [some (.ref (q 0)), some (.int u1), some (.int u2), some (.int x46), some (.int x5), some (.int x53), some (.int x4)]) X.1 dX10_looksAt_149 (N 5 (by decide)) rfl (by decide) (by rw [← ex53]; rfl) ?_
              refine aI_goto (tgt := 29) X.1 dX10_looksAt_152 (by decide) ?_
              refine aI_lv [true, true, true, true, true, true, false] (lv2 := [some (.ref (q 0)), some (.int u1), some (.int u2), some (.int x46), some (.int x5), some (.int x53), none]) rfl ?_
              exact ih x46 x5 x53 h45 E
            · have E := o_neg c52 E
              refine aI_aload_n X.1 dX10_looksAt_117 rfl ?_
              refine gf_10_26 X dX10_looksAt_118 ?_
              refine aI_aload_n X.1 dX10_looksAt_121 rfl ?_
              refine gf_10_44 X dX10_looksAt_122 ?_
              refine aI_iload X.1 dX10_looksAt_125 rfl ?_
              obtain ⟨g54, E⟩ := o_if E
              refine al1_12 X g54 dX10_looksAt_127 ?_
              obtain ⟨g55, E⟩ := o_if E
              refine al1_6 X g55 dX10_looksAt_128 ?_
              refine aI_iload_n X.1 dX10_looksAt_129 rfl ?_
              refine aI_icmp_ge (tgt := 149) X.1 dX10_looksAt_130 (by decide) (fun c56 => ?_) (fun c56 => ?_)
              · have E := o_pos c56 E
                obtain ⟨x57, ex57, E⟩ := o_letE E
                refine aI_iinc (v := 1) (lv2 := [some (.ref (q 0)), some (.int u1), some (.int u2), some (.int x46), some (.int x5), some (.int x57), some (.int x4)]) X.1 dX10_looksAt_149 (N 5 (by decide)) rfl (by decide) (by rw [← ex57]; rfl) ?_
                refine aI_goto (tgt := 29) X.1 dX10_looksAt_152 (by decide) ?_
                refine aI_lv [true, true, true, true, true, true, false] (lv2 := [some (.ref (q 0)), some (.int u1), some (.int u2), some (.int x46), some (.int x5), some (.int x57), none]) rfl ?_
                exact ih x46 x5 x57 h45 E
              · have E := o_neg c56 E
                refine aI_aload_n X.1 dX10_looksAt_133 rfl ?_
                refine gf_10_80 X dX10_looksAt_134 ?_
                refine aI_iload_n X.1 dX10_looksAt_137 rfl ?_
                refine aI_aload_n X.1 dX10_looksAt_138 rfl ?_
                refine gf_10_59 X dX10_looksAt_139 ?_
                refine aI_iload X.1 dX10_looksAt_142 rfl ?_
                obtain ⟨g58, E⟩ := o_if E
                refine al1_17 X g58 dX10_looksAt_144 ?_
                obtain ⟨g59, E⟩ := o_if E
                obtain ⟨h60, eh60, E⟩ := o_letE E
                refine as1_24 X g59 dX10_looksAt_145 (aI_eqh eh60 ?_)
                obtain ⟨x61, ex61, E⟩ := o_letE E
                refine aI_iinc (v := 1) (lv2 := [some (.ref (q 0)), some (.int u1), some (.int u2), some (.int x61), some (.int x5), some (.int v5), some (.int x4)]) X.1 dX10_looksAt_146 (N 3 (by decide)) rfl (by decide) (by rw [← ex61]; rfl) ?_
                obtain ⟨x62, ex62, E⟩ := o_letE E
                refine aI_iinc (v := 1) (lv2 := [some (.ref (q 0)), some (.int u1), some (.int u2), some (.int x61), some (.int x5), some (.int x62), some (.int x4)]) X.1 dX10_looksAt_149 (N 5 (by decide)) rfl (by decide) (by rw [← ex62]; rfl) ?_
                refine aI_goto (tgt := 29) X.1 dX10_looksAt_152 (by decide) ?_
                refine aI_lv [true, true, true, true, true, true, false] (lv2 := [some (.ref (q 0)), some (.int u1), some (.int u2), some (.int x61), some (.int x5), some (.int x62), none]) rfl ?_
                exact ih x61 x5 x62 h60 E
set_option maxRecDepth 4000 in
theorem w_X10_looksAt {Γ : g_T} {q : Nat → Nat} {p1 : Int32} {p2 : Int32}  {r : Int32} {h2 : hp_T} {h : hp_T} (X : aC 1 Γ q RX10 cX10_looksAt 0 0) (N : ∀ k, k < 7 → aN Γ k) (hret : ∀ pc lv, decode cX10_looksAt pc = .ok (.ireturn, 1) → aA Γ pc lv [.int r] h2) (E : f_X10_looksAt p1 p2 h = some (r, h2)) : aA Γ 0 [some (.ref (q 0)), some (.int p1), some (.int p2), none, none, none, none] [] h := by
  unfold f_X10_looksAt at E
  refine aI_iconst (v := 0) X.1 dX10_looksAt_0 (by decide) ?_
  refine aI_istore_n (lv2 := [some (.ref (q 0)), some (.int p1), some (.int p2), some (.int (0 : Int32)), none, none, none]) X.1 dX10_looksAt_1 (N 3 (by decide)) rfl ?_
  refine aI_iconst (v := 0) X.1 dX10_looksAt_2 (by decide) ?_
  refine aI_istore (lv2 := [some (.ref (q 0)), some (.int p1), some (.int p2), some (.int (0 : Int32)), some (.int (0 : Int32)), none, none]) X.1 dX10_looksAt_3 (N 4 (by decide)) rfl ?_
  refine aI_aload_n X.1 dX10_looksAt_5 rfl ?_
  refine gf_10_142 X dX10_looksAt_6 ?_
  refine aI_if_le (tgt := 26) X.1 dX10_looksAt_9 (by decide) (fun c1 => ?_) (fun c1 => ?_)
  · have E := o_pos c1 E
    refine aI_iconst (v := 0) X.1 dX10_looksAt_26 (by decide) ?_
    refine aI_istore (lv2 := [some (.ref (q 0)), some (.int p1), some (.int p2), some (.int (0 : Int32)), some (.int (0 : Int32)), some (.int (0 : Int32)), none]) X.1 dX10_looksAt_27 (N 5 (by decide)) rfl ?_
    refine w_X10_looksAt_L1  X N hret ?_ 100 (0 : Int32) (0 : Int32) (0 : Int32) h E
    intro x63 x64 x65 h66 E
    refine aI_iload X.1 dX10_looksAt_155 rfl ?_
    exact aI_iret E (hret _ _ dX10_looksAt_157)
  · have E := o_neg c1 E
    refine aI_aload_n X.1 dX10_looksAt_12 rfl ?_
    refine gf_10_80 X dX10_looksAt_13 ?_
    refine aI_iconst (v := 0) X.1 dX10_looksAt_16 (by decide) ?_
    refine aI_aload_n X.1 dX10_looksAt_17 rfl ?_
    refine gf_10_50 X dX10_looksAt_18 ?_
    refine aI_iconst (v := 0) X.1 dX10_looksAt_21 (by decide) ?_
    obtain ⟨g67, E⟩ := o_if E
    refine al1_14 X g67 dX10_looksAt_22 ?_
    obtain ⟨g68, E⟩ := o_if E
    obtain ⟨h69, eh69, E⟩ := o_letE E
    refine as1_24 X g68 dX10_looksAt_23 (aI_eqh eh69 ?_)
    refine aI_iconst (v := 1) X.1 dX10_looksAt_24 (by decide) ?_
    refine aI_istore_n (lv2 := [some (.ref (q 0)), some (.int p1), some (.int p2), some (.int (1 : Int32)), some (.int (0 : Int32)), none, none]) X.1 dX10_looksAt_25 (N 3 (by decide)) rfl ?_
    refine aI_iconst (v := 0) X.1 dX10_looksAt_26 (by decide) ?_
    refine aI_istore (lv2 := [some (.ref (q 0)), some (.int p1), some (.int p2), some (.int (1 : Int32)), some (.int (0 : Int32)), some (.int (0 : Int32)), none]) X.1 dX10_looksAt_27 (N 5 (by decide)) rfl ?_
    refine w_X10_looksAt_L1  X N hret ?_ 100 (1 : Int32) (0 : Int32) (0 : Int32) h69 E
    intro x70 x71 x72 h73 E
    refine aI_iload X.1 dX10_looksAt_155 rfl ?_
    exact aI_iret E (hret _ _ dX10_looksAt_157)
theorem c_X10_looksAt {q : Nat → Nat} {p1 : Int32} {p2 : Int32}  {r : Int32} {h2 : hp_T} {h : hp_T} (E : f_X10_looksAt p1 p2 h = some (r, h2)) : cI 1 yX10_looksAt cX10_looksAt 7 .int 0 0 q [.ref (q 0), .int p1, .int p2] h r h2 := metI (own := RX10) (by decide) rfl (Nat.le_of_ble_eq_true rfl) rfl (fun Γ X N hret => w_X10_looksAt X N hret E)
set_option maxRecDepth 4000 in
theorem w_X10_looks {Γ : g_T} {q : Nat → Nat} {p1 : Int32} {p2 : Int32}  {r : Int32} {h2 : hp_T} {h : hp_T} (X : aC 1 Γ q RX10 cX10_looks 4 93) (N : ∀ k, k < 3 → aN Γ k) (hret : ∀ pc lv, decode cX10_looks pc = .ok (.ireturn, 1) → aA Γ pc lv [.int r] h2) (E : f_X10_looks p1 p2 h = some (r, h2)) : aA Γ 0 [some (.ref (q 0)), some (.int p1), some (.int p2)] [] h := by
  unfold f_X10_looks at E
  refine aI_aload_n X.1 dX10_looks_0 rfl ?_
  obtain ⟨h1, e2, E⟩ := o_cvE E
  refine cv_X10_grows X (c_X10_grows e2) ml_10_204 (by decide) (by decide) (Nat.le_of_ble_eq_true rfl) dX10_looks_1 ?_
  refine aI_iload_n X.1 dX10_looks_4 rfl ?_
  refine aI_iload_n X.1 dX10_looks_5 rfl ?_
  obtain ⟨r4, h3, e5, E⟩ := o_callE E
  refine cv_X10_isStretch X (c_X10_isStretch e5) ml_10_148 (by decide) (by decide) (Nat.le_of_ble_eq_true rfl) dX10_looks_6 ?_
  refine aI_if_eq (tgt := 21) X.1 dX10_looks_9 (by decide) (fun c6 => ?_) (fun c6 => ?_)
  · have E := o_pos c6 E
    refine aI_bipush (v := -2) X.1 dX10_looks_21 (by decide) ?_
    exact aI_iret E (hret _ _ dX10_looks_23)
  · have E := o_neg c6 E
    refine aI_aload_n X.1 dX10_looks_12 rfl ?_
    refine aI_iload_n X.1 dX10_looks_13 rfl ?_
    refine aI_iload_n X.1 dX10_looks_14 rfl ?_
    obtain ⟨r8, h7, e9, E⟩ := o_callE E
    refine cv_X10_looksAt X (c_X10_looksAt e9) ml_10_212 (by decide) (by decide) (Nat.le_of_ble_eq_true rfl) dX10_looks_15 ?_
    refine aI_goto (tgt := 23) X.1 dX10_looks_18 (by decide) ?_
    exact aI_iret E (hret _ _ dX10_looks_23)
theorem c_X10_looks {q : Nat → Nat} {p1 : Int32} {p2 : Int32}  {r : Int32} {h2 : hp_T} {h : hp_T} (E : f_X10_looks p1 p2 h = some (r, h2)) : cI 1 yX10_looks cX10_looks 3 .int 4 93 q [.ref (q 0), .int p1, .int p2] h r h2 := metI (own := RX10) (by decide) rfl (Nat.le_of_ble_eq_true rfl) rfl (fun Γ X N hret => w_X10_looks X N hret E)
set_option maxRecDepth 4000 in
theorem w_X10_isMet {Γ : g_T} {q : Nat → Nat} {p1 : Int32} {p2 : Int32} {p3 : Int32}  {r : Int32} {h2 : hp_T} {h : hp_T} (X : aC 1 Γ q RX10 cX10_isMet 0 0) (N : ∀ k, k < 4 → aN Γ k) (hret : ∀ pc lv, decode cX10_isMet pc = .ok (.ireturn, 1) → bz r = true → aA Γ pc lv [.int r] h2) (E : f_X10_isMet p1 p2 p3 h = some (r, h2)) : aA Γ 0 [some (.ref (q 0)), some (.int p1), some (.int p2), some (.int p3)] [] h := by
  unfold f_X10_isMet at E
  refine aI_aload_n X.1 dX10_isMet_0 rfl ?_
  refine gf_10_26 X dX10_isMet_1 ?_
  refine aI_iload_n X.1 dX10_isMet_4 rfl ?_
  obtain ⟨g1, E⟩ := o_if E
  refine al1_6 X g1 dX10_isMet_5 ?_
  refine aI_iload_n X.1 dX10_isMet_6 rfl ?_
  refine aI_icmp_ge (tgt := 24) X.1 dX10_isMet_7 (by decide) (fun c2 => ?_) (fun c2 => ?_)
  · have E := o_pos c2 E
    refine aI_iconst (v := 0) X.1 dX10_isMet_24 (by decide) ?_
    exact aI_zret (by decide) E (hret _ _ dX10_isMet_25)
  · have E := o_neg c2 E
    refine aI_aload_n X.1 dX10_isMet_10 rfl ?_
    refine gf_10_29 X dX10_isMet_11 ?_
    refine aI_iload_n X.1 dX10_isMet_14 rfl ?_
    obtain ⟨g3, E⟩ := o_if E
    refine al1_7 X g3 dX10_isMet_15 ?_
    refine aI_iload_n X.1 dX10_isMet_16 rfl ?_
    refine aI_icmp_le (tgt := 24) X.1 dX10_isMet_17 (by decide) (fun c4 => ?_) (fun c4 => ?_)
    · have E := o_pos c4 E
      refine aI_iconst (v := 0) X.1 dX10_isMet_24 (by decide) ?_
      exact aI_zret (by decide) E (hret _ _ dX10_isMet_25)
    · have E := o_neg c4 E
      refine aI_iconst (v := 1) X.1 dX10_isMet_20 (by decide) ?_
      refine aI_goto (tgt := 25) X.1 dX10_isMet_21 (by decide) ?_
      exact aI_zret (by decide) E (hret _ _ dX10_isMet_25)
theorem c_X10_isMet {q : Nat → Nat} {p1 : Int32} {p2 : Int32} {p3 : Int32}  {r : Int32} {h2 : hp_T} {h : hp_T} (E : f_X10_isMet p1 p2 p3 h = some (r, h2)) : cI 1 yX10_isMet cX10_isMet 4 .boolean 0 0 q [.ref (q 0), .int p1, .int p2, .int p3] h r h2 := metZ (own := RX10) (by decide) rfl (Nat.le_of_ble_eq_true rfl) rfl (fun Γ X N hret => w_X10_isMet X N hret E)
set_option maxRecDepth 4000 in
theorem w_X10_meetsBy_L1 {Γ : g_T} {q : Nat → Nat}  {u1 : Int32} {u2 : Int32} {u3 : Int32}  {r : Int32} {h2 : hp_T} (X : aC 1 Γ q RX10 cX10_meetsBy 1 23) (N : ∀ k, k < 7 → aN Γ k) (hret : ∀ pc lv, decode cX10_meetsBy pc = .ok (.ireturn, 1) → aA Γ pc lv [.int r] h2) {K : Int32 → Int32 → Int32 → hp_T → Option (Int32 × hp_T)} (hk : ∀ v4 v5 v6 h, K v4 v5 v6 h = some (r, h2) → aA Γ 63 [some (.ref (q 0)), some (.int u1), some (.int u2), some (.int u3), some (.int v4), some (.int v5), some (.int v6)] [] h) : ∀ (n : Nat) (v4 : Int32) (v5 : Int32) (v6 : Int32) (h : hp_T), f_X10_meetsBy_L1 u1 u2 u3 K n v4 v5 v6 h = some (r, h2) → aA Γ 9 [some (.ref (q 0)), some (.int u1), some (.int u2), some (.int u3), some (.int v4), some (.int v5), some (.int v6)] [] h := by
  intro n
  induction n with
  | zero =>
    intro v4 v5 v6 h E
    cases E
  | succ n ih =>
    intro v4 v5 v6 h E
    rw [f_X10_meetsBy_L1] at E
    refine aI_iload X.1 dX10_meetsBy_9 rfl ?_
    refine aI_aload_n X.1 dX10_meetsBy_11 rfl ?_
    refine gf_10_142 X dX10_meetsBy_12 ?_
    refine aI_icmp_ge (tgt := 63) X.1 dX10_meetsBy_15 (by decide) (fun c1 => ?_) (fun c1 => ?_)
    · have E := o_pos c1 E
      exact hk v4 v5 v6 h E
    · have E := o_neg c1 E
      refine aI_aload_n X.1 dX10_meetsBy_18 rfl ?_
      refine aI_aload_n X.1 dX10_meetsBy_19 rfl ?_
      refine gf_10_44 X dX10_meetsBy_20 ?_
      refine aI_iload X.1 dX10_meetsBy_23 rfl ?_
      obtain ⟨g2, E⟩ := o_if E
      refine al1_12 X g2 dX10_meetsBy_25 ?_
      refine aI_iload_n X.1 dX10_meetsBy_26 rfl ?_
      refine aI_iload_n X.1 dX10_meetsBy_27 rfl ?_
      obtain ⟨r4, h3, e5, E⟩ := o_callE E
      refine cv_X10_isMet X (c_X10_isMet e5) ml_10_215 (by decide) (by decide) (Nat.le_of_ble_eq_true rfl) dX10_meetsBy_28 ?_
      refine aI_if_eq (tgt := 57) X.1 dX10_meetsBy_31 (by decide) (fun c6 => ?_) (fun c6 => ?_)
      · have E := o_pos c6 E
        obtain ⟨x7, ex7, E⟩ := o_letE E
        refine aI_iinc (v := 1) (lv2 := [some (.ref (q 0)), some (.int u1), some (.int u2), some (.int u3), some (.int v4), some (.int v5), some (.int x7)]) X.1 dX10_meetsBy_57 (N 6 (by decide)) rfl (by decide) (by rw [← ex7]; rfl) ?_
        refine aI_goto (tgt := 9) X.1 dX10_meetsBy_60 (by decide) ?_
        exact ih v4 v5 x7 h3 E
      · have E := o_neg c6 E
        refine aI_iload X.1 dX10_meetsBy_34 rfl ?_
        refine aI_iload_n X.1 dX10_meetsBy_36 rfl ?_
        refine aI_icmp_ne (tgt := 50) X.1 dX10_meetsBy_37 (by decide) (fun c8 => ?_) (fun c8 => ?_)
        · have E := o_neg c8 E
          refine aI_iload X.1 dX10_meetsBy_50 rfl ?_
          refine aI_istore (lv2 := [some (.ref (q 0)), some (.int u1), some (.int u2), some (.int u3), some (.int v4), some (.int v5), some (.int v6)]) X.1 dX10_meetsBy_52 (N 5 (by decide)) rfl ?_
          obtain ⟨x9, ex9, E⟩ := o_letE E
          refine aI_iinc (v := 1) (lv2 := [some (.ref (q 0)), some (.int u1), some (.int u2), some (.int u3), some (.int x9), some (.int v5), some (.int v6)]) X.1 dX10_meetsBy_54 (N 4 (by decide)) rfl (by decide) (by rw [← ex9]; rfl) ?_
          obtain ⟨x10, ex10, E⟩ := o_letE E
          refine aI_iinc (v := 1) (lv2 := [some (.ref (q 0)), some (.int u1), some (.int u2), some (.int u3), some (.int x9), some (.int v5), some (.int x10)]) X.1 dX10_meetsBy_57 (N 6 (by decide)) rfl (by decide) (by rw [← ex10]; rfl) ?_
          refine aI_goto (tgt := 9) X.1 dX10_meetsBy_60 (by decide) ?_
          exact ih x9 v5 x10 h3 E
        · have E := o_pos c8 E
          refine aI_aload_n X.1 dX10_meetsBy_40 rfl ?_
          refine gf_10_44 X dX10_meetsBy_41 ?_
          refine aI_iload X.1 dX10_meetsBy_44 rfl ?_
          obtain ⟨g11, E⟩ := o_if E
          refine al1_12 X g11 dX10_meetsBy_46 ?_
          refine aI_goto (tgt := 52) X.1 dX10_meetsBy_47 (by decide) ?_
          obtain ⟨x12, ex12, E⟩ := o_letE E
          refine aI_eqi ex12 ?_
          refine aI_istore (lv2 := [some (.ref (q 0)), some (.int u1), some (.int u2), some (.int u3), some (.int v4), some (.int x12), some (.int v6)]) X.1 dX10_meetsBy_52 (N 5 (by decide)) rfl ?_
          obtain ⟨x13, ex13, E⟩ := o_letE E
          refine aI_iinc (v := 1) (lv2 := [some (.ref (q 0)), some (.int u1), some (.int u2), some (.int u3), some (.int x13), some (.int x12), some (.int v6)]) X.1 dX10_meetsBy_54 (N 4 (by decide)) rfl (by decide) (by rw [← ex13]; rfl) ?_
          obtain ⟨x14, ex14, E⟩ := o_letE E
          refine aI_iinc (v := 1) (lv2 := [some (.ref (q 0)), some (.int u1), some (.int u2), some (.int u3), some (.int x13), some (.int x12), some (.int x14)]) X.1 dX10_meetsBy_57 (N 6 (by decide)) rfl (by decide) (by rw [← ex14]; rfl) ?_
          refine aI_goto (tgt := 9) X.1 dX10_meetsBy_60 (by decide) ?_
          exact ih x13 x12 x14 h3 E
set_option maxRecDepth 4000 in
theorem w_X10_meetsBy {Γ : g_T} {q : Nat → Nat} {p1 : Int32} {p2 : Int32} {p3 : Int32}  {r : Int32} {h2 : hp_T} {h : hp_T} (X : aC 1 Γ q RX10 cX10_meetsBy 1 23) (N : ∀ k, k < 7 → aN Γ k) (hret : ∀ pc lv, decode cX10_meetsBy pc = .ok (.ireturn, 1) → aA Γ pc lv [.int r] h2) (E : f_X10_meetsBy p1 p2 p3 h = some (r, h2)) : aA Γ 0 [some (.ref (q 0)), some (.int p1), some (.int p2), some (.int p3), none, none, none] [] h := by
  unfold f_X10_meetsBy at E
  refine aI_iconst (v := 0) X.1 dX10_meetsBy_0 (by decide) ?_
  refine aI_istore (lv2 := [some (.ref (q 0)), some (.int p1), some (.int p2), some (.int p3), some (.int (0 : Int32)), none, none]) X.1 dX10_meetsBy_1 (N 4 (by decide)) rfl ?_
  refine aI_iconst (v := -1) X.1 dX10_meetsBy_3 (by decide) ?_
  refine aI_istore (lv2 := [some (.ref (q 0)), some (.int p1), some (.int p2), some (.int p3), some (.int (0 : Int32)), some (.int (-1 : Int32)), none]) X.1 dX10_meetsBy_4 (N 5 (by decide)) rfl ?_
  refine aI_iconst (v := 0) X.1 dX10_meetsBy_6 (by decide) ?_
  refine aI_istore (lv2 := [some (.ref (q 0)), some (.int p1), some (.int p2), some (.int p3), some (.int (0 : Int32)), some (.int (-1 : Int32)), some (.int (0 : Int32))]) X.1 dX10_meetsBy_7 (N 6 (by decide)) rfl ?_
  refine w_X10_meetsBy_L1  X N hret ?_ 100 (0 : Int32) (-1 : Int32) (0 : Int32) h E
  intro x15 x16 x17 h18 E
  refine aI_iload_n X.1 dX10_meetsBy_63 rfl ?_
  refine aI_iconst (v := -1) X.1 dX10_meetsBy_64 (by decide) ?_
  refine aI_icmp_ne (tgt := 73) X.1 dX10_meetsBy_65 (by decide) (fun c19 => ?_) (fun c19 => ?_)
  · have E := o_neg c19 E
    refine aI_iload X.1 dX10_meetsBy_73 rfl ?_
    exact aI_iret E (hret _ _ dX10_meetsBy_75)
  · have E := o_pos c19 E
    refine aI_iload X.1 dX10_meetsBy_68 rfl ?_
    refine aI_goto (tgt := 75) X.1 dX10_meetsBy_70 (by decide) ?_
    exact aI_iret E (hret _ _ dX10_meetsBy_75)
theorem c_X10_meetsBy {q : Nat → Nat} {p1 : Int32} {p2 : Int32} {p3 : Int32}  {r : Int32} {h2 : hp_T} {h : hp_T} (E : f_X10_meetsBy p1 p2 p3 h = some (r, h2)) : cI 1 yX10_meetsBy cX10_meetsBy 7 .int 1 23 q [.ref (q 0), .int p1, .int p2, .int p3] h r h2 := metI (own := RX10) (by decide) rfl (Nat.le_of_ble_eq_true rfl) rfl (fun Γ X N hret => w_X10_meetsBy X N hret E)
set_option maxRecDepth 4000 in
theorem w_X10_meets {Γ : g_T} {q : Nat → Nat} {p1 : Int32} {p2 : Int32} {p3 : Int32}  {r : Int32} {h2 : hp_T} {h : hp_T} (X : aC 1 Γ q RX10 cX10_meets 3 66) (N : ∀ k, k < 4 → aN Γ k) (hret : ∀ pc lv, decode cX10_meets pc = .ok (.ireturn, 1) → aA Γ pc lv [.int r] h2) (E : f_X10_meets p1 p2 p3 h = some (r, h2)) : aA Γ 0 [some (.ref (q 0)), some (.int p1), some (.int p2), some (.int p3)] [] h := by
  unfold f_X10_meets at E
  refine aI_aload_n X.1 dX10_meets_0 rfl ?_
  obtain ⟨h1, e2, E⟩ := o_cvE E
  refine cv_X10_orders X (c_X10_orders e2) ml_10_188 (by decide) (by decide) (Nat.le_of_ble_eq_true rfl) dX10_meets_1 ?_
  refine aI_iload_n X.1 dX10_meets_4 rfl ?_
  refine aI_iload_n X.1 dX10_meets_5 rfl ?_
  obtain ⟨r4, h3, e5, E⟩ := o_callE E
  refine cv_X10_isStretch X (c_X10_isStretch e5) ml_10_148 (by decide) (by decide) (Nat.le_of_ble_eq_true rfl) dX10_meets_6 ?_
  refine aI_if_eq (tgt := 36) X.1 dX10_meets_9 (by decide) (fun c6 => ?_) (fun c6 => ?_)
  · have E := o_pos c6 E
    refine aI_bipush (v := -2) X.1 dX10_meets_36 (by decide) ?_
    exact aI_iret E (hret _ _ dX10_meets_38)
  · have E := o_neg c6 E
    refine aI_iload_n X.1 dX10_meets_12 rfl ?_
    refine aI_i2l X.1 dX10_meets_13 ?_
    refine aI_ldc2 X.1 dX10_meets_14 kl_10_219 ?_
    refine aI_ldc2 X.1 dX10_meets_17 kl_10_130 ?_
    obtain ⟨r8, h7, e9, E⟩ := o_callE E
    refine cv_X10_in X (c_X10_in e9) ml_10_101 (by decide) (by decide) (Nat.le_of_ble_eq_true rfl) dX10_meets_20 ?_
    refine aI_if_eq (tgt := 36) X.1 dX10_meets_23 (by decide) (fun c10 => ?_) (fun c10 => ?_)
    · have E := o_pos c10 E
      refine aI_bipush (v := -2) X.1 dX10_meets_36 (by decide) ?_
      exact aI_iret E (hret _ _ dX10_meets_38)
    · have E := o_neg c10 E
      refine aI_aload_n X.1 dX10_meets_26 rfl ?_
      refine aI_iload_n X.1 dX10_meets_27 rfl ?_
      refine aI_iload_n X.1 dX10_meets_28 rfl ?_
      refine aI_iload_n X.1 dX10_meets_29 rfl ?_
      obtain ⟨r12, h11, e13, E⟩ := o_callE E
      refine cv_X10_meetsBy X (c_X10_meetsBy e13) ml_10_221 (by decide) (by decide) (Nat.le_of_ble_eq_true rfl) dX10_meets_30 ?_
      refine aI_goto (tgt := 38) X.1 dX10_meets_33 (by decide) ?_
      exact aI_iret E (hret _ _ dX10_meets_38)
theorem c_X10_meets {q : Nat → Nat} {p1 : Int32} {p2 : Int32} {p3 : Int32}  {r : Int32} {h2 : hp_T} {h : hp_T} (E : f_X10_meets p1 p2 p3 h = some (r, h2)) : cI 1 yX10_meets cX10_meets 4 .int 3 66 q [.ref (q 0), .int p1, .int p2, .int p3] h r h2 := metI (own := RX10) (by decide) rfl (Nat.le_of_ble_eq_true rfl) rfl (fun Γ X N hret => w_X10_meets X N hret E)
set_option maxRecDepth 4000 in
theorem w_X10_holds {Γ : g_T} {q : Nat → Nat} {p1 : Int32} {p2 : Int32}  {r : Int32} {h2 : hp_T} {h : hp_T} (X : aC 1 Γ q RX10 cX10_holds 2 49) (N : ∀ k, k < 3 → aN Γ k) (hret : ∀ pc lv, decode cX10_holds pc = .ok (.ireturn, 1) → aA Γ pc lv [.int r] h2) (E : f_X10_holds p1 p2 h = some (r, h2)) : aA Γ 0 [some (.ref (q 0)), some (.int p1), some (.int p2)] [] h := by
  unfold f_X10_holds at E
  refine aI_aload_n X.1 dX10_holds_0 rfl ?_
  obtain ⟨h1, e2, E⟩ := o_cvE E
  refine cv_X10_orders X (c_X10_orders e2) ml_10_188 (by decide) (by decide) (Nat.le_of_ble_eq_true rfl) dX10_holds_1 ?_
  refine aI_iload_n X.1 dX10_holds_4 rfl ?_
  obtain ⟨r4, h3, e5, E⟩ := o_callE E
  refine cv_X10_isPoint X (c_X10_isPoint e5) ml_10_136 (by decide) (by decide) (Nat.le_of_ble_eq_true rfl) dX10_holds_5 ?_
  refine aI_if_eq (tgt := 37) X.1 dX10_holds_8 (by decide) (fun c6 => ?_) (fun c6 => ?_)
  · have E := o_pos c6 E
    refine aI_bipush (v := -2) X.1 dX10_holds_37 (by decide) ?_
    exact aI_iret E (hret _ _ dX10_holds_39)
  · have E := o_neg c6 E
    refine aI_iload_n X.1 dX10_holds_11 rfl ?_
    refine aI_i2l X.1 dX10_holds_12 ?_
    refine aI_ldc2 X.1 dX10_holds_13 kl_10_219 ?_
    refine aI_ldc2 X.1 dX10_holds_16 kl_10_130 ?_
    obtain ⟨r8, h7, e9, E⟩ := o_callE E
    refine cv_X10_in X (c_X10_in e9) ml_10_101 (by decide) (by decide) (Nat.le_of_ble_eq_true rfl) dX10_holds_19 ?_
    refine aI_if_eq (tgt := 37) X.1 dX10_holds_22 (by decide) (fun c10 => ?_) (fun c10 => ?_)
    · have E := o_pos c10 E
      refine aI_bipush (v := -2) X.1 dX10_holds_37 (by decide) ?_
      exact aI_iret E (hret _ _ dX10_holds_39)
    · have E := o_neg c10 E
      refine aI_aload_n X.1 dX10_holds_25 rfl ?_
      refine aI_iload_n X.1 dX10_holds_26 rfl ?_
      refine aI_iload_n X.1 dX10_holds_27 rfl ?_
      refine aI_iconst (v := 1) X.1 dX10_holds_28 (by decide) ?_
      refine aI_iadd X.1 dX10_holds_29 ?_
      refine aI_iload_n X.1 dX10_holds_30 rfl ?_
      obtain ⟨r12, h11, e13, E⟩ := o_callE E
      refine cv_X10_meetsBy X (c_X10_meetsBy e13) ml_10_221 (by decide) (by decide) (Nat.le_of_ble_eq_true rfl) dX10_holds_31 ?_
      refine aI_goto (tgt := 39) X.1 dX10_holds_34 (by decide) ?_
      exact aI_iret E (hret _ _ dX10_holds_39)
theorem c_X10_holds {q : Nat → Nat} {p1 : Int32} {p2 : Int32}  {r : Int32} {h2 : hp_T} {h : hp_T} (E : f_X10_holds p1 p2 h = some (r, h2)) : cI 1 yX10_holds cX10_holds 3 .int 2 49 q [.ref (q 0), .int p1, .int p2] h r h2 := metI (own := RX10) (by decide) rfl (Nat.le_of_ble_eq_true rfl) rfl (fun Γ X N hret => w_X10_holds X N hret E)
set_option maxRecDepth 4000 in
theorem w_X10_parts_L1 {Γ : g_T} {q : Nat → Nat}  {u1 : Int32} {u2 : Int32}  {r : Int32} {h2 : hp_T} (X : aC 1 Γ q RX10 cX10_parts 1 23) (N : ∀ k, k < 7 → aN Γ k) (hret : ∀ pc lv, decode cX10_parts pc = .ok (.ireturn, 1) → aA Γ pc lv [.int r] h2) {K : Int32 → Int32 → Int32 → hp_T → Option (Int32 × hp_T)} (hk : ∀ v3 v4 v5 h, K v3 v4 v5 h = some (r, h2) → aA Γ 93 [some (.ref (q 0)), some (.int u1), some (.int u2), some (.int v3), some (.int v4), some (.int v5), none] [] h) : ∀ (n : Nat) (v3 : Int32) (v4 : Int32) (v5 : Int32) (h : hp_T), f_X10_parts_L1 u1 u2 K n v3 v4 v5 h = some (r, h2) → aA Γ 8 [some (.ref (q 0)), some (.int u1), some (.int u2), some (.int v3), some (.int v4), some (.int v5), none] [] h := by
  intro n
  induction n with
  | zero =>
    intro v3 v4 v5 h E
    cases E
  | succ n ih =>
    intro v3 v4 v5 h E
    rw [f_X10_parts_L1] at E
    refine aI_iload X.1 dX10_parts_8 rfl ?_
    refine aI_aload_n X.1 dX10_parts_10 rfl ?_
    refine gf_10_142 X dX10_parts_11 ?_
    refine aI_icmp_ge (tgt := 93) X.1 dX10_parts_14 (by decide) (fun c1 => ?_) (fun c1 => ?_)
    · have E := o_pos c1 E
      exact hk v3 v4 v5 h E
    · have E := o_neg c1 E
      refine aI_aload_n X.1 dX10_parts_17 rfl ?_
      refine gf_10_44 X dX10_parts_18 ?_
      refine aI_iload X.1 dX10_parts_21 rfl ?_
      obtain ⟨g2, E⟩ := o_if E
      refine al1_12 X g2 dX10_parts_23 ?_
      obtain ⟨x3, ex3, E⟩ := o_letE E
      refine aI_eqi ex3 ?_
      refine aI_istore (lv2 := [some (.ref (q 0)), some (.int u1), some (.int u2), some (.int v3), some (.int v4), some (.int v5), some (.int x3)]) X.1 dX10_parts_24 (N 6 (by decide)) rfl ?_
      refine aI_aload_n X.1 dX10_parts_26 rfl ?_
      refine aI_iload X.1 dX10_parts_27 rfl ?_
      refine aI_iload_n X.1 dX10_parts_29 rfl ?_
      refine aI_iload_n X.1 dX10_parts_30 rfl ?_
      obtain ⟨r5, h4, e6, E⟩ := o_callE E
      refine cv_X10_isMet X (c_X10_isMet e6) ml_10_215 (by decide) (by decide) (Nat.le_of_ble_eq_true rfl) dX10_parts_31 ?_
      refine aI_if_eq (tgt := 87) X.1 dX10_parts_34 (by decide) (fun c7 => ?_) (fun c7 => ?_)
      · have E := o_pos c7 E
        obtain ⟨x8, ex8, E⟩ := o_letE E
        refine aI_iinc (v := 1) (lv2 := [some (.ref (q 0)), some (.int u1), some (.int u2), some (.int v3), some (.int v4), some (.int x8), some (.int x3)]) X.1 dX10_parts_87 (N 5 (by decide)) rfl (by decide) (by rw [← ex8]; rfl) ?_
        refine aI_goto (tgt := 8) X.1 dX10_parts_90 (by decide) ?_
        refine aI_lv [true, true, true, true, true, true, false] (lv2 := [some (.ref (q 0)), some (.int u1), some (.int u2), some (.int v3), some (.int v4), some (.int x8), none]) rfl ?_
        exact ih v3 v4 x8 h4 E
      · have E := o_neg c7 E
        refine aI_aload_n X.1 dX10_parts_37 rfl ?_
        refine gf_10_26 X dX10_parts_38 ?_
        refine aI_iload X.1 dX10_parts_41 rfl ?_
        obtain ⟨g9, E⟩ := o_if E
        refine al1_6 X g9 dX10_parts_43 ?_
        refine aI_iload X.1 dX10_parts_44 rfl ?_
        refine aI_icmp_le (tgt := 73) X.1 dX10_parts_46 (by decide) (fun c10 => ?_) (fun c10 => ?_)
        · have E := o_pos c10 E
          refine aI_aload_n X.1 dX10_parts_73 rfl ?_
          refine gf_10_29 X dX10_parts_74 ?_
          refine aI_iload X.1 dX10_parts_77 rfl ?_
          obtain ⟨g11, E⟩ := o_if E
          refine al1_7 X g11 dX10_parts_79 ?_
          refine aI_iload X.1 dX10_parts_80 rfl ?_
          obtain ⟨r13, h12, e14, E⟩ := o_callE E
          refine cv_X10_greater X (c_X10_greater e14) ml_10_198 (by decide) (by decide) (Nat.le_of_ble_eq_true rfl) dX10_parts_82 ?_
          refine aI_istore (lv2 := [some (.ref (q 0)), some (.int u1), some (.int u2), some (.int v3), some (.int r13), some (.int v5), some (.int x3)]) X.1 dX10_parts_85 (N 4 (by decide)) rfl ?_
          obtain ⟨x15, ex15, E⟩ := o_letE E
          refine aI_iinc (v := 1) (lv2 := [some (.ref (q 0)), some (.int u1), some (.int u2), some (.int v3), some (.int r13), some (.int x15), some (.int x3)]) X.1 dX10_parts_87 (N 5 (by decide)) rfl (by decide) (by rw [← ex15]; rfl) ?_
          refine aI_goto (tgt := 8) X.1 dX10_parts_90 (by decide) ?_
          refine aI_lv [true, true, true, true, true, true, false] (lv2 := [some (.ref (q 0)), some (.int u1), some (.int u2), some (.int v3), some (.int r13), some (.int x15), none]) rfl ?_
          exact ih v3 r13 x15 h12 E
        · have E := o_neg c10 E
          refine aI_aload_n X.1 dX10_parts_49 rfl ?_
          refine gf_10_83 X dX10_parts_50 ?_
          refine aI_iload_n X.1 dX10_parts_53 rfl ?_
          refine aI_iload X.1 dX10_parts_54 rfl ?_
          obtain ⟨g16, E⟩ := o_if E
          obtain ⟨h17, eh17, E⟩ := o_letE E
          refine as1_25 X g16 dX10_parts_56 (aI_eqh eh17 ?_)
          refine aI_aload_n X.1 dX10_parts_57 rfl ?_
          refine gf_10_86 X dX10_parts_58 ?_
          refine aI_iload_n X.1 dX10_parts_61 rfl ?_
          refine aI_aload_n X.1 dX10_parts_62 rfl ?_
          refine gf_10_26 X dX10_parts_63 ?_
          refine aI_iload X.1 dX10_parts_66 rfl ?_
          obtain ⟨g18, E⟩ := o_if E
          refine al1_6 X g18 dX10_parts_68 ?_
          obtain ⟨g19, E⟩ := o_if E
          obtain ⟨h20, eh20, E⟩ := o_letE E
          refine as1_26 X g19 dX10_parts_69 (aI_eqh eh20 ?_)
          obtain ⟨x21, ex21, E⟩ := o_letE E
          refine aI_iinc (v := 1) (lv2 := [some (.ref (q 0)), some (.int u1), some (.int u2), some (.int x21), some (.int v4), some (.int v5), some (.int x3)]) X.1 dX10_parts_70 (N 3 (by decide)) rfl (by decide) (by rw [← ex21]; rfl) ?_
          refine aI_aload_n X.1 dX10_parts_73 rfl ?_
          refine gf_10_29 X dX10_parts_74 ?_
          refine aI_iload X.1 dX10_parts_77 rfl ?_
          obtain ⟨g22, E⟩ := o_if E
          refine al1_7 X g22 dX10_parts_79 ?_
          refine aI_iload X.1 dX10_parts_80 rfl ?_
          obtain ⟨r24, h23, e25, E⟩ := o_callE E
          refine cv_X10_greater X (c_X10_greater e25) ml_10_198 (by decide) (by decide) (Nat.le_of_ble_eq_true rfl) dX10_parts_82 ?_
          refine aI_istore (lv2 := [some (.ref (q 0)), some (.int u1), some (.int u2), some (.int x21), some (.int r24), some (.int v5), some (.int x3)]) X.1 dX10_parts_85 (N 4 (by decide)) rfl ?_
          obtain ⟨x26, ex26, E⟩ := o_letE E
          refine aI_iinc (v := 1) (lv2 := [some (.ref (q 0)), some (.int u1), some (.int u2), some (.int x21), some (.int r24), some (.int x26), some (.int x3)]) X.1 dX10_parts_87 (N 5 (by decide)) rfl (by decide) (by rw [← ex26]; rfl) ?_
          refine aI_goto (tgt := 8) X.1 dX10_parts_90 (by decide) ?_
          refine aI_lv [true, true, true, true, true, true, false] (lv2 := [some (.ref (q 0)), some (.int u1), some (.int u2), some (.int x21), some (.int r24), some (.int x26), none]) rfl ?_
          exact ih x21 r24 x26 h23 E
set_option maxRecDepth 4000 in
theorem w_X10_parts {Γ : g_T} {q : Nat → Nat} {p1 : Int32} {p2 : Int32}  {r : Int32} {h2 : hp_T} {h : hp_T} (X : aC 1 Γ q RX10 cX10_parts 1 23) (N : ∀ k, k < 7 → aN Γ k) (hret : ∀ pc lv, decode cX10_parts pc = .ok (.ireturn, 1) → aA Γ pc lv [.int r] h2) (E : f_X10_parts p1 p2 h = some (r, h2)) : aA Γ 0 [some (.ref (q 0)), some (.int p1), some (.int p2), none, none, none, none] [] h := by
  unfold f_X10_parts at E
  refine aI_iconst (v := 0) X.1 dX10_parts_0 (by decide) ?_
  refine aI_istore_n (lv2 := [some (.ref (q 0)), some (.int p1), some (.int p2), some (.int (0 : Int32)), none, none, none]) X.1 dX10_parts_1 (N 3 (by decide)) rfl ?_
  refine aI_iload_n X.1 dX10_parts_2 rfl ?_
  refine aI_istore (lv2 := [some (.ref (q 0)), some (.int p1), some (.int p2), some (.int (0 : Int32)), some (.int p1), none, none]) X.1 dX10_parts_3 (N 4 (by decide)) rfl ?_
  refine aI_iconst (v := 0) X.1 dX10_parts_5 (by decide) ?_
  refine aI_istore (lv2 := [some (.ref (q 0)), some (.int p1), some (.int p2), some (.int (0 : Int32)), some (.int p1), some (.int (0 : Int32)), none]) X.1 dX10_parts_6 (N 5 (by decide)) rfl ?_
  refine w_X10_parts_L1  X N hret ?_ 100 (0 : Int32) p1 (0 : Int32) h E
  intro x27 x28 x29 h30 E
  refine aI_iload X.1 dX10_parts_93 rfl ?_
  refine aI_iload_n X.1 dX10_parts_95 rfl ?_
  refine aI_icmp_ge (tgt := 117) X.1 dX10_parts_96 (by decide) (fun c31 => ?_) (fun c31 => ?_)
  · have E := o_pos c31 E
    refine aI_iload_n X.1 dX10_parts_117 rfl ?_
    exact aI_iret E (hret _ _ dX10_parts_118)
  · have E := o_neg c31 E
    refine aI_aload_n X.1 dX10_parts_99 rfl ?_
    refine gf_10_83 X dX10_parts_100 ?_
    refine aI_iload_n X.1 dX10_parts_103 rfl ?_
    refine aI_iload X.1 dX10_parts_104 rfl ?_
    obtain ⟨g32, E⟩ := o_if E
    obtain ⟨h33, eh33, E⟩ := o_letE E
    refine as1_25 X g32 dX10_parts_106 (aI_eqh eh33 ?_)
    refine aI_aload_n X.1 dX10_parts_107 rfl ?_
    refine gf_10_86 X dX10_parts_108 ?_
    refine aI_iload_n X.1 dX10_parts_111 rfl ?_
    refine aI_iload_n X.1 dX10_parts_112 rfl ?_
    obtain ⟨g34, E⟩ := o_if E
    obtain ⟨h35, eh35, E⟩ := o_letE E
    refine as1_26 X g34 dX10_parts_113 (aI_eqh eh35 ?_)
    obtain ⟨x36, ex36, E⟩ := o_letE E
    refine aI_iinc (v := 1) (lv2 := [some (.ref (q 0)), some (.int p1), some (.int p2), some (.int x36), some (.int x28), some (.int x29), none]) X.1 dX10_parts_114 (N 3 (by decide)) rfl (by decide) (by rw [← ex36]; rfl) ?_
    refine aI_iload_n X.1 dX10_parts_117 rfl ?_
    exact aI_iret E (hret _ _ dX10_parts_118)
theorem c_X10_parts {q : Nat → Nat} {p1 : Int32} {p2 : Int32}  {r : Int32} {h2 : hp_T} {h : hp_T} (E : f_X10_parts p1 p2 h = some (r, h2)) : cI 1 yX10_parts cX10_parts 7 .int 1 23 q [.ref (q 0), .int p1, .int p2] h r h2 := metI (own := RX10) (by decide) rfl (Nat.le_of_ble_eq_true rfl) rfl (fun Γ X N hret => w_X10_parts X N hret E)
set_option maxRecDepth 4000 in
theorem w_X10_takenIn_L1 {Γ : g_T} {q : Nat → Nat}  {u3 : Int32}  {r : Int32} {h2 : hp_T} (X : aC 1 Γ q RX10 cX10_takenIn 2 49) (N : ∀ k, k < 6 → aN Γ k) (hret : ∀ pc lv, decode cX10_takenIn pc = .ok (.ireturn, 1) → aA Γ pc lv [.int r] h2) {K : Int32 → Int32 → hp_T → Option (Int32 × hp_T)} (hk : ∀ v4 v5 h, K v4 v5 h = some (r, h2) → aA Γ 47 [some (.ref (q 0)), none, none, some (.int u3), some (.int v4), some (.int v5)] [] h) : ∀ (n : Nat) (v4 : Int32) (v5 : Int32) (h : hp_T), f_X10_takenIn_L1 u3 K n v4 v5 h = some (r, h2) → aA Γ 15 [some (.ref (q 0)), none, none, some (.int u3), some (.int v4), some (.int v5)] [] h := by
  intro n
  induction n with
  | zero =>
    intro v4 v5 h E
    cases E
  | succ n ih =>
    intro v4 v5 h E
    rw [f_X10_takenIn_L1] at E
    refine aI_iload X.1 dX10_takenIn_15 rfl ?_
    refine aI_iload_n X.1 dX10_takenIn_17 rfl ?_
    refine aI_icmp_ge (tgt := 47) X.1 dX10_takenIn_18 (by decide) (fun c5 => ?_) (fun c5 => ?_)
    · have E := o_pos c5 E
      exact hk v4 v5 h E
    · have E := o_neg c5 E
      refine aI_iload X.1 dX10_takenIn_21 rfl ?_
      refine aI_aload_n X.1 dX10_takenIn_23 rfl ?_
      refine gf_10_86 X dX10_takenIn_24 ?_
      refine aI_iload X.1 dX10_takenIn_27 rfl ?_
      obtain ⟨g6, E⟩ := o_if E
      refine al1_26 X g6 dX10_takenIn_29 ?_
      refine aI_aload_n X.1 dX10_takenIn_30 rfl ?_
      refine gf_10_83 X dX10_takenIn_31 ?_
      refine aI_iload X.1 dX10_takenIn_34 rfl ?_
      obtain ⟨g7, E⟩ := o_if E
      refine al1_25 X g7 dX10_takenIn_36 ?_
      refine aI_isub X.1 dX10_takenIn_37 ?_
      refine aI_isub X.1 dX10_takenIn_38 ?_
      obtain ⟨x8, ex8, E⟩ := o_letE E
      refine aI_eqi ex8 ?_
      refine aI_istore (lv2 := [some (.ref (q 0)), none, none, some (.int u3), some (.int x8), some (.int v5)]) X.1 dX10_takenIn_39 (N 4 (by decide)) rfl ?_
      obtain ⟨x9, ex9, E⟩ := o_letE E
      refine aI_iinc (v := 1) (lv2 := [some (.ref (q 0)), none, none, some (.int u3), some (.int x8), some (.int x9)]) X.1 dX10_takenIn_41 (N 5 (by decide)) rfl (by decide) (by rw [← ex9]; rfl) ?_
      refine aI_goto (tgt := 15) X.1 dX10_takenIn_44 (by decide) ?_
      exact ih x8 x9 h E
set_option maxRecDepth 4000 in
theorem w_X10_takenIn {Γ : g_T} {q : Nat → Nat} {p1 : Int32} {p2 : Int32}  {r : Int32} {h2 : hp_T} {h : hp_T} (X : aC 1 Γ q RX10 cX10_takenIn 2 49) (N : ∀ k, k < 6 → aN Γ k) (hret : ∀ pc lv, decode cX10_takenIn pc = .ok (.ireturn, 1) → aA Γ pc lv [.int r] h2) (E : f_X10_takenIn p1 p2 h = some (r, h2)) : aA Γ 0 [some (.ref (q 0)), some (.int p1), some (.int p2), none, none, none] [] h := by
  unfold f_X10_takenIn at E
  refine aI_aload_n X.1 dX10_takenIn_0 rfl ?_
  refine aI_iload_n X.1 dX10_takenIn_1 rfl ?_
  refine aI_iload_n X.1 dX10_takenIn_2 rfl ?_
  obtain ⟨r2, h1, e3, E⟩ := o_callE E
  refine cv_X10_parts X (c_X10_parts e3) ml_10_224 (by decide) (by decide) (Nat.le_of_ble_eq_true rfl) dX10_takenIn_3 ?_
  refine aI_istore_n (lv2 := [some (.ref (q 0)), some (.int p1), some (.int p2), some (.int r2), none, none]) X.1 dX10_takenIn_6 (N 3 (by decide)) rfl ?_
  refine aI_iload_n X.1 dX10_takenIn_7 rfl ?_
  refine aI_iload_n X.1 dX10_takenIn_8 rfl ?_
  refine aI_isub X.1 dX10_takenIn_9 ?_
  obtain ⟨x4, ex4, E⟩ := o_letE E
  refine aI_eqi ex4 ?_
  refine aI_istore (lv2 := [some (.ref (q 0)), some (.int p1), some (.int p2), some (.int r2), some (.int x4), none]) X.1 dX10_takenIn_10 (N 4 (by decide)) rfl ?_
  refine aI_iconst (v := 0) X.1 dX10_takenIn_12 (by decide) ?_
  refine aI_istore (lv2 := [some (.ref (q 0)), some (.int p1), some (.int p2), some (.int r2), some (.int x4), some (.int (0 : Int32))]) X.1 dX10_takenIn_13 (N 5 (by decide)) rfl ?_
  refine aI_lv [true, false, false, true, true, true] (lv2 := [some (.ref (q 0)), none, none, some (.int r2), some (.int x4), some (.int (0 : Int32))]) rfl ?_
  refine w_X10_takenIn_L1  X N hret ?_ 100 x4 (0 : Int32) h1 E
  intro x10 x11 h12 E
  refine aI_iload X.1 dX10_takenIn_47 rfl ?_
  exact aI_iret E (hret _ _ dX10_takenIn_49)
theorem c_X10_takenIn {q : Nat → Nat} {p1 : Int32} {p2 : Int32}  {r : Int32} {h2 : hp_T} {h : hp_T} (E : f_X10_takenIn p1 p2 h = some (r, h2)) : cI 1 yX10_takenIn cX10_takenIn 6 .int 2 49 q [.ref (q 0), .int p1, .int p2] h r h2 := metI (own := RX10) (by decide) rfl (Nat.le_of_ble_eq_true rfl) rfl (fun Γ X N hret => w_X10_takenIn X N hret E)
set_option maxRecDepth 4000 in
theorem w_X10_taken {Γ : g_T} {q : Nat → Nat} {p1 : Int32} {p2 : Int32}  {r : Int32} {h2 : hp_T} {h : hp_T} (X : aC 1 Γ q RX10 cX10_taken 3 74) (N : ∀ k, k < 3 → aN Γ k) (hret : ∀ pc lv, decode cX10_taken pc = .ok (.ireturn, 1) → aA Γ pc lv [.int r] h2) (E : f_X10_taken p1 p2 h = some (r, h2)) : aA Γ 0 [some (.ref (q 0)), some (.int p1), some (.int p2)] [] h := by
  unfold f_X10_taken at E
  refine aI_aload_n X.1 dX10_taken_0 rfl ?_
  obtain ⟨h1, e2, E⟩ := o_cvE E
  refine cv_X10_orders X (c_X10_orders e2) ml_10_188 (by decide) (by decide) (Nat.le_of_ble_eq_true rfl) dX10_taken_1 ?_
  refine aI_iload_n X.1 dX10_taken_4 rfl ?_
  refine aI_iload_n X.1 dX10_taken_5 rfl ?_
  obtain ⟨r4, h3, e5, E⟩ := o_callE E
  refine cv_X10_isStretch X (c_X10_isStretch e5) ml_10_148 (by decide) (by decide) (Nat.le_of_ble_eq_true rfl) dX10_taken_6 ?_
  refine aI_if_eq (tgt := 21) X.1 dX10_taken_9 (by decide) (fun c6 => ?_) (fun c6 => ?_)
  · have E := o_pos c6 E
    refine aI_bipush (v := -2) X.1 dX10_taken_21 (by decide) ?_
    exact aI_iret E (hret _ _ dX10_taken_23)
  · have E := o_neg c6 E
    refine aI_aload_n X.1 dX10_taken_12 rfl ?_
    refine aI_iload_n X.1 dX10_taken_13 rfl ?_
    refine aI_iload_n X.1 dX10_taken_14 rfl ?_
    obtain ⟨r8, h7, e9, E⟩ := o_callE E
    refine cv_X10_takenIn X (c_X10_takenIn e9) ml_10_227 (by decide) (by decide) (Nat.le_of_ble_eq_true rfl) dX10_taken_15 ?_
    refine aI_goto (tgt := 23) X.1 dX10_taken_18 (by decide) ?_
    exact aI_iret E (hret _ _ dX10_taken_23)
theorem c_X10_taken {q : Nat → Nat} {p1 : Int32} {p2 : Int32}  {r : Int32} {h2 : hp_T} {h : hp_T} (E : f_X10_taken p1 p2 h = some (r, h2)) : cI 1 yX10_taken cX10_taken 3 .int 3 74 q [.ref (q 0), .int p1, .int p2] h r h2 := metI (own := RX10) (by decide) rfl (Nat.le_of_ble_eq_true rfl) rfl (fun Γ X N hret => w_X10_taken X N hret E)
set_option maxRecDepth 4000 in
theorem w_X10_frees {Γ : g_T} {q : Nat → Nat} {p1 : Int32} {p2 : Int32}  {r : Int32} {h2 : hp_T} {h : hp_T} (X : aC 1 Γ q RX10 cX10_frees 3 66) (N : ∀ k, k < 3 → aN Γ k) (hret : ∀ pc lv, decode cX10_frees pc = .ok (.ireturn, 1) → aA Γ pc lv [.int r] h2) (E : f_X10_frees p1 p2 h = some (r, h2)) : aA Γ 0 [some (.ref (q 0)), some (.int p1), some (.int p2)] [] h := by
  unfold f_X10_frees at E
  refine aI_aload_n X.1 dX10_frees_0 rfl ?_
  obtain ⟨h1, e2, E⟩ := o_cvE E
  refine cv_X10_orders X (c_X10_orders e2) ml_10_188 (by decide) (by decide) (Nat.le_of_ble_eq_true rfl) dX10_frees_1 ?_
  refine aI_iload_n X.1 dX10_frees_4 rfl ?_
  refine aI_iload_n X.1 dX10_frees_5 rfl ?_
  obtain ⟨r4, h3, e5, E⟩ := o_callE E
  refine cv_X10_isStretch X (c_X10_isStretch e5) ml_10_148 (by decide) (by decide) (Nat.le_of_ble_eq_true rfl) dX10_frees_6 ?_
  refine aI_if_eq (tgt := 21) X.1 dX10_frees_9 (by decide) (fun c6 => ?_) (fun c6 => ?_)
  · have E := o_pos c6 E
    refine aI_bipush (v := -2) X.1 dX10_frees_21 (by decide) ?_
    exact aI_iret E (hret _ _ dX10_frees_23)
  · have E := o_neg c6 E
    refine aI_aload_n X.1 dX10_frees_12 rfl ?_
    refine aI_iload_n X.1 dX10_frees_13 rfl ?_
    refine aI_iload_n X.1 dX10_frees_14 rfl ?_
    obtain ⟨r8, h7, e9, E⟩ := o_callE E
    refine cv_X10_parts X (c_X10_parts e9) ml_10_224 (by decide) (by decide) (Nat.le_of_ble_eq_true rfl) dX10_frees_15 ?_
    refine aI_goto (tgt := 23) X.1 dX10_frees_18 (by decide) ?_
    exact aI_iret E (hret _ _ dX10_frees_23)
theorem c_X10_frees {q : Nat → Nat} {p1 : Int32} {p2 : Int32}  {r : Int32} {h2 : hp_T} {h : hp_T} (E : f_X10_frees p1 p2 h = some (r, h2)) : cI 1 yX10_frees cX10_frees 3 .int 3 66 q [.ref (q 0), .int p1, .int p2] h r h2 := metI (own := RX10) (by decide) rfl (Nat.le_of_ble_eq_true rfl) rfl (fun Γ X N hret => w_X10_frees X N hret E)
set_option maxRecDepth 4000 in
theorem w_X10_freeBy {Γ : g_T} {q : Nat → Nat} {p1 : Int32} {p2 : Int32} {p3 : Int32} {p4 : Int32}  {r : Int32} {h2 : hp_T} {h : hp_T} (X : aC 1 Γ q RX10 cX10_freeBy 2 49) (N : ∀ k, k < 5 → aN Γ k) (hret : ∀ pc lv, decode cX10_freeBy pc = .ok (.ireturn, 1) → aA Γ pc lv [.int r] h2) (E : f_X10_freeBy p1 p2 p3 p4 h = some (r, h2)) : aA Γ 0 [some (.ref (q 0)), some (.int p1), some (.int p2), some (.int p3), some (.int p4)] [] h := by
  unfold f_X10_freeBy at E
  refine aI_iload_n X.1 dX10_freeBy_0 rfl ?_
  refine aI_aload_n X.1 dX10_freeBy_1 rfl ?_
  refine aI_iload_n X.1 dX10_freeBy_2 rfl ?_
  refine aI_iload_n X.1 dX10_freeBy_3 rfl ?_
  obtain ⟨r2, h1, e3, E⟩ := o_callE E
  refine cv_X10_parts X (c_X10_parts e3) ml_10_224 (by decide) (by decide) (Nat.le_of_ble_eq_true rfl) dX10_freeBy_4 ?_
  refine aI_icmp_lt (tgt := 15) X.1 dX10_freeBy_7 (by decide) (fun c4 => ?_) (fun c4 => ?_)
  · have E := o_pos c4 E
    refine aI_iload X.1 dX10_freeBy_15 rfl ?_
    refine aI_if_ne (tgt := 29) X.1 dX10_freeBy_17 (by decide) (fun c5 => ?_) (fun c5 => ?_)
    · have E := o_neg c5 E
      refine aI_aload_n X.1 dX10_freeBy_29 rfl ?_
      refine gf_10_86 X dX10_freeBy_30 ?_
      refine aI_iload_n X.1 dX10_freeBy_33 rfl ?_
      obtain ⟨g6, E⟩ := o_if E
      refine al1_26 X g6 dX10_freeBy_34 ?_
      exact aI_iret E (hret _ _ dX10_freeBy_35)
    · have E := o_pos c5 E
      refine aI_aload_n X.1 dX10_freeBy_20 rfl ?_
      refine gf_10_83 X dX10_freeBy_21 ?_
      refine aI_iload_n X.1 dX10_freeBy_24 rfl ?_
      obtain ⟨g7, E⟩ := o_if E
      refine al1_25 X g7 dX10_freeBy_25 ?_
      refine aI_goto (tgt := 35) X.1 dX10_freeBy_26 (by decide) ?_
      exact aI_iret E (hret _ _ dX10_freeBy_35)
  · have E := o_neg c4 E
    refine aI_ldc X.1 dX10_freeBy_10 kc_10_129 ?_
    refine aI_goto (tgt := 35) X.1 dX10_freeBy_12 (by decide) ?_
    exact aI_iret E (hret _ _ dX10_freeBy_35)
theorem c_X10_freeBy {q : Nat → Nat} {p1 : Int32} {p2 : Int32} {p3 : Int32} {p4 : Int32}  {r : Int32} {h2 : hp_T} {h : hp_T} (E : f_X10_freeBy p1 p2 p3 p4 h = some (r, h2)) : cI 1 yX10_freeBy cX10_freeBy 5 .int 2 49 q [.ref (q 0), .int p1, .int p2, .int p3, .int p4] h r h2 := metI (own := RX10) (by decide) rfl (Nat.le_of_ble_eq_true rfl) rfl (fun Γ X N hret => w_X10_freeBy X N hret E)
