set_option maxRecDepth 4000 in
theorem w_X9_isKey {Γ : g_T} {q : Nat → Nat} {p1 : Int32}  {r : Int32} {h2 : hp_T} {h : hp_T} (X : aC 0 Γ q RX9 cX9_isKey 0 0) (N : ∀ k, k < 1 → aN Γ k) (hret : ∀ pc lv, decode cX9_isKey pc = .ok (.ireturn, 1) → bz r = true → aA Γ pc lv [.int r] h2) (E : f_X9_isKey p1 h = some (r, h2)) : aA Γ 0 [some (.int p1)] [] h := by
  unfold f_X9_isKey at E
  refine aI_iload_n X.1 dX9_isKey_0 rfl ?_
  refine aI_if_lt (tgt := 14) X.1 dX9_isKey_1 (by decide) (fun c1 => ?_) (fun c1 => ?_)
  · have E := o_pos c1 E
    refine aI_iconst (v := 0) X.1 dX9_isKey_14 (by decide) ?_
    exact aI_zret (by decide) E (hret _ _ dX9_isKey_15)
  · have E := o_neg c1 E
    refine aI_iload_n X.1 dX9_isKey_4 rfl ?_
    refine aI_bipush (v := 48) X.1 dX9_isKey_5 (by decide) ?_
    refine aI_icmp_ge (tgt := 14) X.1 dX9_isKey_7 (by decide) (fun c2 => ?_) (fun c2 => ?_)
    · have E := o_pos c2 E
      refine aI_iconst (v := 0) X.1 dX9_isKey_14 (by decide) ?_
      exact aI_zret (by decide) E (hret _ _ dX9_isKey_15)
    · have E := o_neg c2 E
      refine aI_iconst (v := 1) X.1 dX9_isKey_10 (by decide) ?_
      refine aI_goto (tgt := 15) X.1 dX9_isKey_11 (by decide) ?_
      exact aI_zret (by decide) E (hret _ _ dX9_isKey_15)
theorem c_X9_isKey {q : Nat → Nat} {p1 : Int32}  {r : Int32} {h2 : hp_T} {h : hp_T} (E : f_X9_isKey p1 h = some (r, h2)) : cI 0 yX9_isKey cX9_isKey 1 .boolean 0 0 q [.int p1] h r h2 := metZ (own := RX9) (by decide) rfl (Nat.le_of_ble_eq_true rfl) rfl (fun Γ X N hret => w_X9_isKey X N hret E)
set_option maxRecDepth 4000 in
theorem w_X9_isStretch {Γ : g_T} {q : Nat → Nat} {p1 : Int32} {p2 : Int32}  {r : Int32} {h2 : hp_T} {h : hp_T} (X : aC 0 Γ q RX9 cX9_isStretch 0 0) (N : ∀ k, k < 2 → aN Γ k) (hret : ∀ pc lv, decode cX9_isStretch pc = .ok (.ireturn, 1) → bz r = true → aA Γ pc lv [.int r] h2) (E : f_X9_isStretch p1 p2 h = some (r, h2)) : aA Γ 0 [some (.int p1), some (.int p2)] [] h := by
  unfold f_X9_isStretch at E
  refine aI_iload_n X.1 dX9_isStretch_0 rfl ?_
  refine aI_ldcw X.1 dX9_isStretch_1 kc_9_375 ?_
  refine aI_icmp_lt (tgt := 22) X.1 dX9_isStretch_4 (by decide) (fun c1 => ?_) (fun c1 => ?_)
  · have E := o_pos c1 E
    refine aI_iconst (v := 0) X.1 dX9_isStretch_22 (by decide) ?_
    exact aI_zret (by decide) E (hret _ _ dX9_isStretch_23)
  · have E := o_neg c1 E
    refine aI_iload_n X.1 dX9_isStretch_7 rfl ?_
    refine aI_iload_n X.1 dX9_isStretch_8 rfl ?_
    refine aI_icmp_ge (tgt := 22) X.1 dX9_isStretch_9 (by decide) (fun c2 => ?_) (fun c2 => ?_)
    · have E := o_pos c2 E
      refine aI_iconst (v := 0) X.1 dX9_isStretch_22 (by decide) ?_
      exact aI_zret (by decide) E (hret _ _ dX9_isStretch_23)
    · have E := o_neg c2 E
      refine aI_iload_n X.1 dX9_isStretch_12 rfl ?_
      refine aI_ldc X.1 dX9_isStretch_13 kc_9_219 ?_
      refine aI_icmp_gt (tgt := 22) X.1 dX9_isStretch_15 (by decide) (fun c3 => ?_) (fun c3 => ?_)
      · have E := o_pos c3 E
        refine aI_iconst (v := 0) X.1 dX9_isStretch_22 (by decide) ?_
        exact aI_zret (by decide) E (hret _ _ dX9_isStretch_23)
      · have E := o_neg c3 E
        refine aI_iconst (v := 1) X.1 dX9_isStretch_18 (by decide) ?_
        refine aI_goto (tgt := 23) X.1 dX9_isStretch_19 (by decide) ?_
        exact aI_zret (by decide) E (hret _ _ dX9_isStretch_23)
theorem c_X9_isStretch {q : Nat → Nat} {p1 : Int32} {p2 : Int32}  {r : Int32} {h2 : hp_T} {h : hp_T} (E : f_X9_isStretch p1 p2 h = some (r, h2)) : cI 0 yX9_isStretch cX9_isStretch 2 .boolean 0 0 q [.int p1, .int p2] h r h2 := metZ (own := RX9) (by decide) rfl (Nat.le_of_ble_eq_true rfl) rfl (fun Γ X N hret => w_X9_isStretch X N hret E)
set_option maxRecDepth 4000 in
theorem w_X0_note {Γ : g_T} {q : Nat → Nat} {p1 : Int32}  {h2 : hp_T} {h : hp_T} (X : aC 0 Γ q RX0 cX0_note 1 21) (N : ∀ k, k < 3 → aN Γ k) (hret : ∀ pc lv, decode cX0_note pc = .ok (.return_, 1) → aA Γ pc lv [] h2) (E : f_X0_note p1 h = some h2) : aA Γ 0 [some (.ref (q 7)), some (.int p1), some (.ref (q 1))] [] h := by
  unfold f_X0_note at E
  refine aI_aload_n X.1 dX0_note_0 rfl ?_
  refine gf_0_9 X dX0_note_1 ?_
  refine aI_aload_n X.1 dX0_note_4 rfl ?_
  refine gf_0_25 X dX0_note_5 ?_
  refine aI_iload_n X.1 dX0_note_8 rfl ?_
  obtain ⟨g1, E⟩ := o_if E
  obtain ⟨h2, eh2, E⟩ := o_letE E
  refine as0_8 X g1 dX0_note_9 (aI_eqh eh2 ?_)
  refine aI_aload_n X.1 dX0_note_10 rfl ?_
  refine gf_0_15 X dX0_note_11 ?_
  refine aI_aload_n X.1 dX0_note_14 rfl ?_
  refine gf_0_25 X dX0_note_15 ?_
  refine aI_aload_n X.1 dX0_note_18 rfl ?_
  refine gf_0_32 X dX0_note_19 ?_
  refine aI_iload_n X.1 dX0_note_22 rfl ?_
  obtain ⟨g3, E⟩ := o_if E
  refine al0_4 X g3 dX0_note_23 ?_
  obtain ⟨g4, E⟩ := o_if E
  obtain ⟨g5, E⟩ := o_if E
  obtain ⟨h6, eh6, E⟩ := o_letE E
  refine as0_9 X g4 g5 dX0_note_24 (aI_eqh eh6 ?_)
  refine aI_aload_n X.1 dX0_note_25 rfl ?_
  refine gf_0_19 X dX0_note_26 ?_
  refine aI_aload_n X.1 dX0_note_29 rfl ?_
  refine gf_0_25 X dX0_note_30 ?_
  refine aI_aload_n X.1 dX0_note_33 rfl ?_
  refine gf_0_35 X dX0_note_34 ?_
  refine aI_iload_n X.1 dX0_note_37 rfl ?_
  obtain ⟨g7, E⟩ := o_if E
  refine al0_2 X g7 dX0_note_38 ?_
  obtain ⟨g8, E⟩ := o_if E
  obtain ⟨h9, eh9, E⟩ := o_letE E
  refine as0_10 X g8 dX0_note_39 (aI_eqh eh9 ?_)
  refine aI_aload_n X.1 dX0_note_40 rfl ?_
  refine gf_0_22 X dX0_note_41 ?_
  refine aI_aload_n X.1 dX0_note_44 rfl ?_
  refine gf_0_25 X dX0_note_45 ?_
  refine aI_aload_n X.1 dX0_note_48 rfl ?_
  refine gf_0_36 X dX0_note_49 ?_
  refine aI_iload_n X.1 dX0_note_52 rfl ?_
  obtain ⟨g10, E⟩ := o_if E
  refine al0_3 X g10 dX0_note_53 ?_
  obtain ⟨g11, E⟩ := o_if E
  obtain ⟨h12, eh12, E⟩ := o_letE E
  refine as0_11 X g11 dX0_note_54 (aI_eqh eh12 ?_)
  refine aI_aload_n X.1 dX0_note_55 rfl ?_
  refine aI_aload_n X.1 dX0_note_56 rfl ?_
  refine gf_0_25 X dX0_note_57 ?_
  refine aI_iconst (v := 1) X.1 dX0_note_60 (by decide) ?_
  refine aI_iadd X.1 dX0_note_61 ?_
  refine aI_bipush (v := 64) X.1 dX0_note_62 (by decide) ?_
  refine aI_icmp_ge (tgt := 76) X.1 dX0_note_64 (by decide) (fun c13 => ?_) (fun c13 => ?_)
  · have E := o_pos c13 E
    refine aI_iconst (v := 0) X.1 dX0_note_76 (by decide) ?_
    obtain ⟨h14, eh14, E⟩ := o_letE E
    refine pf_0_25 X dX0_note_77 (aI_eqh eh14 ?_)
    refine aI_aload_n X.1 dX0_note_80 rfl ?_
    refine aI_aload_n X.1 dX0_note_81 rfl ?_
    refine gf_0_29 X dX0_note_82 ?_
    refine aI_iconst (v := 1) X.1 dX0_note_85 (by decide) ?_
    refine aI_iadd X.1 dX0_note_86 ?_
    refine aI_bipush (v := 64) X.1 dX0_note_87 (by decide) ?_
    refine aI_min X.1 ml_0_37 ms_min mi_Math mc_min (by decide) (Nat.le_of_ble_eq_true rfl) dX0_note_89 ?_
    obtain ⟨h15, eh15, E⟩ := o_letE E
    refine pf_0_29 X dX0_note_92 (aI_eqh eh15 ?_)
    exact aI_vret E (hret _ _ dX0_note_95)
  · have E := o_neg c13 E
    refine aI_aload_n X.1 dX0_note_67 rfl ?_
    refine gf_0_25 X dX0_note_68 ?_
    refine aI_iconst (v := 1) X.1 dX0_note_71 (by decide) ?_
    refine aI_iadd X.1 dX0_note_72 ?_
    refine aI_goto (tgt := 77) X.1 dX0_note_73 (by decide) ?_
    obtain ⟨h16, eh16, E⟩ := o_letE E
    refine pf_0_25 X dX0_note_77 (aI_eqh eh16 ?_)
    refine aI_aload_n X.1 dX0_note_80 rfl ?_
    refine aI_aload_n X.1 dX0_note_81 rfl ?_
    refine gf_0_29 X dX0_note_82 ?_
    refine aI_iconst (v := 1) X.1 dX0_note_85 (by decide) ?_
    refine aI_iadd X.1 dX0_note_86 ?_
    refine aI_bipush (v := 64) X.1 dX0_note_87 (by decide) ?_
    refine aI_min X.1 ml_0_37 ms_min mi_Math mc_min (by decide) (Nat.le_of_ble_eq_true rfl) dX0_note_89 ?_
    obtain ⟨h17, eh17, E⟩ := o_letE E
    refine pf_0_29 X dX0_note_92 (aI_eqh eh17 ?_)
    exact aI_vret E (hret _ _ dX0_note_95)
theorem c_X0_note {q : Nat → Nat} {p1 : Int32}  {h2 : hp_T} {h : hp_T} (E : f_X0_note p1 h = some h2) : cV 0 yX0_note cX0_note 3 1 21 q [.ref (q 7), .int p1, .ref (q 1)] h h2 := metV (own := RX0) (by decide) rfl (Nat.le_of_ble_eq_true rfl) rfl (fun Γ X N hret => w_X0_note X N hret E)
set_option maxRecDepth 4000 in
theorem w_X7_setRank {Γ : g_T} {q : Nat → Nat} {p1 : Int32} {p2 : Int32}  {h2 : hp_T} {h : hp_T} (X : aC 0 Γ q RX7 cX7_setRank 0 0) (N : ∀ k, k < 3 → aN Γ k) (hret : ∀ pc lv, decode cX7_setRank pc = .ok (.return_, 1) → aA Γ pc lv [] h2) (E : f_X7_setRank p1 p2 h = some h2) : aA Γ 0 [some (.ref (q 1)), some (.int p1), some (.int p2)] [] h := by
  unfold f_X7_setRank at E
  refine aI_aload_n X.1 dX7_setRank_0 rfl ?_
  refine gf_7_22 X dX7_setRank_1 ?_
  refine aI_iload_n X.1 dX7_setRank_4 rfl ?_
  refine aI_iload_n X.1 dX7_setRank_5 rfl ?_
  obtain ⟨g1, E⟩ := o_if E
  obtain ⟨h2, eh2, E⟩ := o_letE E
  refine as0_5 X g1 dX7_setRank_6 (aI_eqh eh2 ?_)
  refine aI_aload_n X.1 dX7_setRank_7 rfl ?_
  refine gf_7_25 X dX7_setRank_8 ?_
  refine aI_iload_n X.1 dX7_setRank_11 rfl ?_
  refine aI_iload_n X.1 dX7_setRank_12 rfl ?_
  obtain ⟨g3, E⟩ := o_if E
  obtain ⟨h4, eh4, E⟩ := o_letE E
  refine as0_6 X g3 dX7_setRank_13 (aI_eqh eh4 ?_)
  exact aI_vret E (hret _ _ dX7_setRank_14)
theorem c_X7_setRank {q : Nat → Nat} {p1 : Int32} {p2 : Int32}  {h2 : hp_T} {h : hp_T} (E : f_X7_setRank p1 p2 h = some h2) : cV 0 yX7_setRank cX7_setRank 3 0 0 q [.ref (q 1), .int p1, .int p2] h h2 := metV (own := RX7) (by decide) rfl (Nat.le_of_ble_eq_true rfl) rfl (fun Γ X N hret => w_X7_setRank X N hret E)
set_option maxRecDepth 4000 in
theorem w_X7_remove_L1 {Γ : g_T} {q : Nat → Nat}    {h2 : hp_T} (X : aC 0 Γ q RX7 cX7_remove 1 22) (N : ∀ k, k < 3 → aN Γ k) (hret : ∀ pc lv, decode cX7_remove pc = .ok (.return_, 1) → aA Γ pc lv [] h2) {K : Int32 → hp_T → Option (hp_T)} (hk : ∀ v2 h, K v2 h = some h2 → aA Γ 51 [some (.ref (q 1)), none, some (.int v2)] [] h) : ∀ (n : Nat) (v2 : Int32) (h : hp_T), f_X7_remove_L1 K n v2 h = some h2 → aA Γ 24 [some (.ref (q 1)), none, some (.int v2)] [] h := by
  intro n
  induction n with
  | zero =>
    intro v2 h E
    cases E
  | succ n ih =>
    intro v2 h E
    rw [f_X7_remove_L1] at E
    refine aI_iload_n X.1 dX7_remove_24 rfl ?_
    refine aI_aload_n X.1 dX7_remove_25 rfl ?_
    refine gf_7_28 X dX7_remove_26 ?_
    refine aI_icmp_ge (tgt := 51) X.1 dX7_remove_29 (by decide) (fun c6 => ?_) (fun c6 => ?_)
    · have E := o_pos c6 E
      exact hk v2 h E
    · have E := o_neg c6 E
      refine aI_aload_n X.1 dX7_remove_32 rfl ?_
      refine aI_aload_n X.1 dX7_remove_33 rfl ?_
      refine gf_7_22 X dX7_remove_34 ?_
      refine aI_iload_n X.1 dX7_remove_37 rfl ?_
      refine aI_iconst (v := 1) X.1 dX7_remove_38 (by decide) ?_
      refine aI_iadd X.1 dX7_remove_39 ?_
      obtain ⟨g7, E⟩ := o_if E
      refine al0_5 X g7 dX7_remove_40 ?_
      refine aI_iload_n X.1 dX7_remove_41 rfl ?_
      obtain ⟨h8, e9, E⟩ := o_cvE E
      refine cv_X7_setRank X (c_X7_setRank e9) ml_7_36 (by decide) (by decide) (Nat.le_of_ble_eq_true rfl) dX7_remove_42 ?_
      obtain ⟨x10, ex10, E⟩ := o_letE E
      refine aI_iinc (v := 1) (lv2 := [some (.ref (q 1)), none, some (.int x10)]) X.1 dX7_remove_45 (N 2 (by decide)) rfl (by decide) (by rw [← ex10]; rfl) ?_
      refine aI_goto (tgt := 24) X.1 dX7_remove_48 (by decide) ?_
      exact ih x10 h8 E
set_option maxRecDepth 4000 in
theorem w_X7_remove {Γ : g_T} {q : Nat → Nat} {p1 : Int32}  {h2 : hp_T} {h : hp_T} (X : aC 0 Γ q RX7 cX7_remove 1 22) (N : ∀ k, k < 3 → aN Γ k) (hret : ∀ pc lv, decode cX7_remove pc = .ok (.return_, 1) → aA Γ pc lv [] h2) (E : f_X7_remove p1 h = some h2) : aA Γ 0 [some (.ref (q 1)), some (.int p1), none] [] h := by
  unfold f_X7_remove at E
  refine aI_aload_n X.1 dX7_remove_0 rfl ?_
  refine gf_7_18 X dX7_remove_1 ?_
  refine aI_iload_n X.1 dX7_remove_4 rfl ?_
  refine aI_iconst (v := 0) X.1 dX7_remove_5 (by decide) ?_
  obtain ⟨g1, E⟩ := o_if E
  obtain ⟨h2, eh2, E⟩ := o_letE E
  refine as0_4 X g1 (by decide) dX7_remove_6 (aI_eqh eh2 ?_)
  refine aI_aload_n X.1 dX7_remove_7 rfl ?_
  refine aI_dup X.1 dX7_remove_8 rfl ?_
  refine gf_7_28 X dX7_remove_9 ?_
  refine aI_iconst (v := 1) X.1 dX7_remove_12 (by decide) ?_
  refine aI_isub X.1 dX7_remove_13 ?_
  obtain ⟨h3, eh3, E⟩ := o_letE E
  refine pf_7_28 X dX7_remove_14 (aI_eqh eh3 ?_)
  refine aI_aload_n X.1 dX7_remove_17 rfl ?_
  refine gf_7_25 X dX7_remove_18 ?_
  refine aI_iload_n X.1 dX7_remove_21 rfl ?_
  obtain ⟨g4, E⟩ := o_if E
  refine al0_6 X g4 dX7_remove_22 ?_
  obtain ⟨x5, ex5, E⟩ := o_letE E
  refine aI_eqi ex5 ?_
  refine aI_istore_n (lv2 := [some (.ref (q 1)), some (.int p1), some (.int x5)]) X.1 dX7_remove_23 (N 2 (by decide)) rfl ?_
  refine aI_lv [true, false, true] (lv2 := [some (.ref (q 1)), none, some (.int x5)]) rfl ?_
  refine w_X7_remove_L1  X N hret ?_ 100 x5 h3 E
  intro x11 h12 E
  exact aI_vret E (hret _ _ dX7_remove_51)
theorem c_X7_remove {q : Nat → Nat} {p1 : Int32}  {h2 : hp_T} {h : hp_T} (E : f_X7_remove p1 h = some h2) : cV 0 yX7_remove cX7_remove 3 1 22 q [.ref (q 1), .int p1] h h2 := metV (own := RX7) (by decide) rfl (Nat.le_of_ble_eq_true rfl) rfl (fun Γ X N hret => w_X7_remove X N hret E)
set_option maxRecDepth 4000 in
theorem w_X7_isAhead {Γ : g_T} {q : Nat → Nat} {p1 : Int32} {p2 : Int32}  {r : Int32} {h2 : hp_T} {h : hp_T} (X : aC 0 Γ q RX7 cX7_isAhead 0 0) (N : ∀ k, k < 3 → aN Γ k) (hret : ∀ pc lv, decode cX7_isAhead pc = .ok (.ireturn, 1) → bz r = true → aA Γ pc lv [.int r] h2) (E : f_X7_isAhead p1 p2 h = some (r, h2)) : aA Γ 0 [some (.ref (q 1)), some (.int p1), some (.int p2)] [] h := by
  unfold f_X7_isAhead at E
  refine aI_aload_n X.1 dX7_isAhead_0 rfl ?_
  refine gf_7_9 X dX7_isAhead_1 ?_
  refine aI_iload_n X.1 dX7_isAhead_4 rfl ?_
  obtain ⟨g1, E⟩ := o_if E
  refine al0_2 X g1 dX7_isAhead_5 ?_
  refine aI_aload_n X.1 dX7_isAhead_6 rfl ?_
  refine gf_7_9 X dX7_isAhead_7 ?_
  refine aI_iload_n X.1 dX7_isAhead_10 rfl ?_
  obtain ⟨g2, E⟩ := o_if E
  refine al0_2 X g2 dX7_isAhead_11 ?_
  refine aI_icmp_eq (tgt := 36) X.1 dX7_isAhead_12 (by decide) (fun c3 => ?_) (fun c3 => ?_)
  · have E := o_pos c3 E
    refine aI_aload_n X.1 dX7_isAhead_36 rfl ?_
    refine gf_7_15 X dX7_isAhead_37 ?_
    refine aI_iload_n X.1 dX7_isAhead_40 rfl ?_
    obtain ⟨g4, E⟩ := o_if E
    refine al0_3 X g4 dX7_isAhead_41 ?_
    refine aI_aload_n X.1 dX7_isAhead_42 rfl ?_
    refine gf_7_15 X dX7_isAhead_43 ?_
    refine aI_iload_n X.1 dX7_isAhead_46 rfl ?_
    obtain ⟨g5, E⟩ := o_if E
    refine al0_3 X g5 dX7_isAhead_47 ?_
    refine aI_icmp_eq (tgt := 72) X.1 dX7_isAhead_48 (by decide) (fun c6 => ?_) (fun c6 => ?_)
    · have E := o_pos c6 E
      refine aI_iload_n X.1 dX7_isAhead_72 rfl ?_
      refine aI_iload_n X.1 dX7_isAhead_73 rfl ?_
      refine aI_icmp_ge (tgt := 81) X.1 dX7_isAhead_74 (by decide) (fun c7 => ?_) (fun c7 => ?_)
      · have E := o_pos c7 E
        refine aI_iconst (v := 0) X.1 dX7_isAhead_81 (by decide) ?_
        exact aI_zret (by decide) E (hret _ _ dX7_isAhead_82)
      · have E := o_neg c7 E
        refine aI_iconst (v := 1) X.1 dX7_isAhead_77 (by decide) ?_
        refine aI_goto (tgt := 82) X.1 dX7_isAhead_78 (by decide) ?_
        exact aI_zret (by decide) E (hret _ _ dX7_isAhead_82)
    · have E := o_neg c6 E
      refine aI_aload_n X.1 dX7_isAhead_51 rfl ?_
      refine gf_7_15 X dX7_isAhead_52 ?_
      refine aI_iload_n X.1 dX7_isAhead_55 rfl ?_
      obtain ⟨g8, E⟩ := o_if E
      refine al0_3 X g8 dX7_isAhead_56 ?_
      refine aI_aload_n X.1 dX7_isAhead_57 rfl ?_
      refine gf_7_15 X dX7_isAhead_58 ?_
      refine aI_iload_n X.1 dX7_isAhead_61 rfl ?_
      obtain ⟨g9, E⟩ := o_if E
      refine al0_3 X g9 dX7_isAhead_62 ?_
      refine aI_icmp_ge (tgt := 70) X.1 dX7_isAhead_63 (by decide) (fun c10 => ?_) (fun c10 => ?_)
      · have E := o_pos c10 E
        refine aI_iconst (v := 0) X.1 dX7_isAhead_70 (by decide) ?_
        exact aI_zret (by decide) E (hret _ _ dX7_isAhead_71)
      · have E := o_neg c10 E
        refine aI_iconst (v := 1) X.1 dX7_isAhead_66 (by decide) ?_
        refine aI_goto (tgt := 71) X.1 dX7_isAhead_67 (by decide) ?_
        exact aI_zret (by decide) E (hret _ _ dX7_isAhead_71)
  · have E := o_neg c3 E
    refine aI_aload_n X.1 dX7_isAhead_15 rfl ?_
    refine gf_7_9 X dX7_isAhead_16 ?_
    refine aI_iload_n X.1 dX7_isAhead_19 rfl ?_
    obtain ⟨g11, E⟩ := o_if E
    refine al0_2 X g11 dX7_isAhead_20 ?_
    refine aI_aload_n X.1 dX7_isAhead_21 rfl ?_
    refine gf_7_9 X dX7_isAhead_22 ?_
    refine aI_iload_n X.1 dX7_isAhead_25 rfl ?_
    obtain ⟨g12, E⟩ := o_if E
    refine al0_2 X g12 dX7_isAhead_26 ?_
    refine aI_icmp_ge (tgt := 34) X.1 dX7_isAhead_27 (by decide) (fun c13 => ?_) (fun c13 => ?_)
    · have E := o_pos c13 E
      refine aI_iconst (v := 0) X.1 dX7_isAhead_34 (by decide) ?_
      exact aI_zret (by decide) E (hret _ _ dX7_isAhead_35)
    · have E := o_neg c13 E
      refine aI_iconst (v := 1) X.1 dX7_isAhead_30 (by decide) ?_
      refine aI_goto (tgt := 35) X.1 dX7_isAhead_31 (by decide) ?_
      exact aI_zret (by decide) E (hret _ _ dX7_isAhead_35)
theorem c_X7_isAhead {q : Nat → Nat} {p1 : Int32} {p2 : Int32}  {r : Int32} {h2 : hp_T} {h : hp_T} (E : f_X7_isAhead p1 p2 h = some (r, h2)) : cI 0 yX7_isAhead cX7_isAhead 3 .boolean 0 0 q [.ref (q 1), .int p1, .int p2] h r h2 := metZ (own := RX7) (by decide) rfl (Nat.le_of_ble_eq_true rfl) rfl (fun Γ X N hret => w_X7_isAhead X N hret E)
set_option maxRecDepth 4000 in
theorem w_X7_add_L1 {Γ : g_T} {q : Nat → Nat}  {u1 : Int32}  {h2 : hp_T} (X : aC 0 Γ q RX7 cX7_add 1 22) (N : ∀ k, k < 5 → aN Γ k) (hret : ∀ pc lv, decode cX7_add pc = .ok (.return_, 1) → aA Γ pc lv [] h2) {K : Int32 → hp_T → Option (hp_T)} (hk : ∀ v4 h, K v4 h = some h2 → aA Γ 70 [some (.ref (q 1)), some (.int u1), none, none, some (.int v4)] [] h) : ∀ (n : Nat) (v4 : Int32) (h : hp_T), f_X7_add_L1 u1 K n v4 h = some h2 → aA Γ 27 [some (.ref (q 1)), some (.int u1), none, none, some (.int v4)] [] h := by
  intro n
  induction n with
  | zero =>
    intro v4 h E
    cases E
  | succ n ih =>
    intro v4 h E
    rw [f_X7_add_L1] at E
    refine aI_iload X.1 dX7_add_27 rfl ?_
    refine aI_if_le (tgt := 70) X.1 dX7_add_29 (by decide) (fun c8 => ?_) (fun c8 => ?_)
    · have E := o_pos c8 E
      exact hk v4 h E
    · have E := o_neg c8 E
      refine aI_aload_n X.1 dX7_add_32 rfl ?_
      refine aI_iload_n X.1 dX7_add_33 rfl ?_
      refine aI_aload_n X.1 dX7_add_34 rfl ?_
      refine gf_7_22 X dX7_add_35 ?_
      refine aI_iload X.1 dX7_add_38 rfl ?_
      refine aI_iconst (v := 1) X.1 dX7_add_40 (by decide) ?_
      refine aI_isub X.1 dX7_add_41 ?_
      obtain ⟨g9, E⟩ := o_if E
      refine al0_5 X g9 dX7_add_42 ?_
      obtain ⟨r11, h10, e12, E⟩ := o_callE E
      refine cv_X7_isAhead X (c_X7_isAhead e12) ml_7_32 (by decide) (by decide) (Nat.le_of_ble_eq_true rfl) dX7_add_43 ?_
      refine aI_if_eq (tgt := 70) X.1 dX7_add_46 (by decide) (fun c13 => ?_) (fun c13 => ?_)
      · have E := o_pos c13 E
        exact hk v4 h10 E
      · have E := o_neg c13 E
        refine aI_aload_n X.1 dX7_add_49 rfl ?_
        refine aI_aload_n X.1 dX7_add_50 rfl ?_
        refine gf_7_22 X dX7_add_51 ?_
        refine aI_iload X.1 dX7_add_54 rfl ?_
        refine aI_iconst (v := 1) X.1 dX7_add_56 (by decide) ?_
        refine aI_isub X.1 dX7_add_57 ?_
        obtain ⟨g14, E⟩ := o_if E
        refine al0_5 X g14 dX7_add_58 ?_
        refine aI_iload X.1 dX7_add_59 rfl ?_
        obtain ⟨h15, e16, E⟩ := o_cvE E
        refine cv_X7_setRank X (c_X7_setRank e16) ml_7_36 (by decide) (by decide) (Nat.le_of_ble_eq_true rfl) dX7_add_61 ?_
        obtain ⟨x17, ex17, E⟩ := o_letE E
        refine aI_iinc (v := -1) (lv2 := [some (.ref (q 1)), some (.int u1), none, none, some (.int x17)]) X.1 dX7_add_64 (N 4 (by decide)) rfl (by decide) (by rw [← ex17]; rfl) ?_
        refine aI_goto (tgt := 27) X.1 dX7_add_67 (by decide) ?_
        exact ih x17 h15 E
set_option maxRecDepth 4000 in
theorem w_X7_add {Γ : g_T} {q : Nat → Nat} {p1 : Int32} {p2 : Int32} {p3 : Int32}  {h2 : hp_T} {h : hp_T} (X : aC 0 Γ q RX7 cX7_add 1 22) (N : ∀ k, k < 5 → aN Γ k) (hret : ∀ pc lv, decode cX7_add pc = .ok (.return_, 1) → aA Γ pc lv [] h2) (E : f_X7_add p1 p2 p3 h = some h2) : aA Γ 0 [some (.ref (q 1)), some (.int p1), some (.int p2), some (.int p3), none] [] h := by
  unfold f_X7_add at E
  refine aI_aload_n X.1 dX7_add_0 rfl ?_
  refine gf_7_9 X dX7_add_1 ?_
  refine aI_iload_n X.1 dX7_add_4 rfl ?_
  refine aI_iload_n X.1 dX7_add_5 rfl ?_
  obtain ⟨g1, E⟩ := o_if E
  obtain ⟨h2, eh2, E⟩ := o_letE E
  refine as0_2 X g1 dX7_add_6 (aI_eqh eh2 ?_)
  refine aI_aload_n X.1 dX7_add_7 rfl ?_
  refine gf_7_15 X dX7_add_8 ?_
  refine aI_iload_n X.1 dX7_add_11 rfl ?_
  refine aI_iload_n X.1 dX7_add_12 rfl ?_
  obtain ⟨g3, E⟩ := o_if E
  obtain ⟨h4, eh4, E⟩ := o_letE E
  refine as0_3 X g3 dX7_add_13 (aI_eqh eh4 ?_)
  refine aI_aload_n X.1 dX7_add_14 rfl ?_
  refine gf_7_18 X dX7_add_15 ?_
  refine aI_iload_n X.1 dX7_add_18 rfl ?_
  refine aI_iconst (v := 1) X.1 dX7_add_19 (by decide) ?_
  obtain ⟨g5, E⟩ := o_if E
  obtain ⟨h6, eh6, E⟩ := o_letE E
  refine as0_4 X g5 (by decide) dX7_add_20 (aI_eqh eh6 ?_)
  refine aI_aload_n X.1 dX7_add_21 rfl ?_
  refine gf_7_28 X dX7_add_22 ?_
  obtain ⟨x7, ex7, E⟩ := o_letE E
  refine aI_eqi ex7 ?_
  refine aI_istore (lv2 := [some (.ref (q 1)), some (.int p1), some (.int p2), some (.int p3), some (.int x7)]) X.1 dX7_add_25 (N 4 (by decide)) rfl ?_
  refine aI_lv [true, true, false, false, true] (lv2 := [some (.ref (q 1)), some (.int p1), none, none, some (.int x7)]) rfl ?_
  refine w_X7_add_L1  X N hret ?_ 100 x7 h6 E
  intro x18 h19 E
  refine aI_aload_n X.1 dX7_add_70 rfl ?_
  refine aI_iload_n X.1 dX7_add_71 rfl ?_
  refine aI_iload X.1 dX7_add_72 rfl ?_
  obtain ⟨h20, e21, E⟩ := o_cvE E
  refine cv_X7_setRank X (c_X7_setRank e21) ml_7_36 (by decide) (by decide) (Nat.le_of_ble_eq_true rfl) dX7_add_74 ?_
  refine aI_aload_n X.1 dX7_add_77 rfl ?_
  refine aI_dup X.1 dX7_add_78 rfl ?_
  refine gf_7_28 X dX7_add_79 ?_
  refine aI_iconst (v := 1) X.1 dX7_add_82 (by decide) ?_
  refine aI_iadd X.1 dX7_add_83 ?_
  obtain ⟨h22, eh22, E⟩ := o_letE E
  refine pf_7_28 X dX7_add_84 (aI_eqh eh22 ?_)
  exact aI_vret E (hret _ _ dX7_add_87)
theorem c_X7_add {q : Nat → Nat} {p1 : Int32} {p2 : Int32} {p3 : Int32}  {h2 : hp_T} {h : hp_T} (E : f_X7_add p1 p2 p3 h = some h2) : cV 0 yX7_add cX7_add 5 1 22 q [.ref (q 1), .int p1, .int p2, .int p3] h h2 := metV (own := RX7) (by decide) rfl (Nat.le_of_ble_eq_true rfl) rfl (fun Γ X N hret => w_X7_add X N hret E)
set_option maxRecDepth 4000 in
theorem w_X9_setSpan {Γ : g_T} {q : Nat → Nat} {p1 : Int32} {p2 : Int32} {p3 : Int32} {p4 : Int32}  {h2 : hp_T} {h : hp_T} (X : aC 0 Γ q RX9 cX9_setSpan 2 46) (N : ∀ k, k < 5 → aN Γ k) (hret : ∀ pc lv, decode cX9_setSpan pc = .ok (.return_, 1) → aA Γ pc lv [] h2) (E : f_X9_setSpan p1 p2 p3 p4 h = some h2) : aA Γ 0 [some (.ref (q 0)), some (.int p1), some (.int p2), some (.int p3), some (.int p4)] [] h := by
  unfold f_X9_setSpan at E
  refine aI_aload_n X.1 dX9_setSpan_0 rfl ?_
  refine gf_9_12 X dX9_setSpan_1 ?_
  refine gf_9_88 X dX9_setSpan_4 ?_
  refine aI_iload_n X.1 dX9_setSpan_7 rfl ?_
  obtain ⟨g1, E⟩ := o_if E
  refine al0_4 X g1 dX9_setSpan_8 ?_
  refine aI_if_eq (tgt := 20) X.1 dX9_setSpan_9 (by decide) (fun c2 => ?_) (fun c2 => ?_)
  · have E := o_pos c2 E
    refine aI_iload_n X.1 dX9_setSpan_20 rfl ?_
    refine aI_if_eq (tgt := 35) X.1 dX9_setSpan_21 (by decide) (fun c3 => ?_) (fun c3 => ?_)
    · have E := o_pos c3 E
      refine aI_aload_n X.1 dX9_setSpan_35 rfl ?_
      refine aI_iconst (v := 1) X.1 dX9_setSpan_36 (by decide) ?_
      obtain ⟨h4, eh4, E⟩ := o_letE E
      refine pf_9_71 X (by decide) dX9_setSpan_37 (aI_eqh eh4 ?_)
      exact aI_vret E (hret _ _ dX9_setSpan_40)
    · have E := o_neg c3 E
      refine aI_aload_n X.1 dX9_setSpan_24 rfl ?_
      refine gf_9_12 X dX9_setSpan_25 ?_
      refine aI_iload_n X.1 dX9_setSpan_28 rfl ?_
      refine aI_iload_n X.1 dX9_setSpan_29 rfl ?_
      refine aI_iload X.1 dX9_setSpan_30 rfl ?_
      obtain ⟨h5, e6, E⟩ := o_cvE E
      refine cv_X7_add X (c_X7_add e6) ml_9_384 (by decide) (by decide) (Nat.le_of_ble_eq_true rfl) dX9_setSpan_32 ?_
      refine aI_aload_n X.1 dX9_setSpan_35 rfl ?_
      refine aI_iconst (v := 1) X.1 dX9_setSpan_36 (by decide) ?_
      obtain ⟨h7, eh7, E⟩ := o_letE E
      refine pf_9_71 X (by decide) dX9_setSpan_37 (aI_eqh eh7 ?_)
      exact aI_vret E (hret _ _ dX9_setSpan_40)
  · have E := o_neg c2 E
    refine aI_aload_n X.1 dX9_setSpan_12 rfl ?_
    refine gf_9_12 X dX9_setSpan_13 ?_
    refine aI_iload_n X.1 dX9_setSpan_16 rfl ?_
    obtain ⟨h8, e9, E⟩ := o_cvE E
    refine cv_X7_remove X (c_X7_remove e9) ml_9_380 (by decide) (by decide) (Nat.le_of_ble_eq_true rfl) dX9_setSpan_17 ?_
    refine aI_iload_n X.1 dX9_setSpan_20 rfl ?_
    refine aI_if_eq (tgt := 35) X.1 dX9_setSpan_21 (by decide) (fun c10 => ?_) (fun c10 => ?_)
    · have E := o_pos c10 E
      refine aI_aload_n X.1 dX9_setSpan_35 rfl ?_
      refine aI_iconst (v := 1) X.1 dX9_setSpan_36 (by decide) ?_
      obtain ⟨h11, eh11, E⟩ := o_letE E
      refine pf_9_71 X (by decide) dX9_setSpan_37 (aI_eqh eh11 ?_)
      exact aI_vret E (hret _ _ dX9_setSpan_40)
    · have E := o_neg c10 E
      refine aI_aload_n X.1 dX9_setSpan_24 rfl ?_
      refine gf_9_12 X dX9_setSpan_25 ?_
      refine aI_iload_n X.1 dX9_setSpan_28 rfl ?_
      refine aI_iload_n X.1 dX9_setSpan_29 rfl ?_
      refine aI_iload X.1 dX9_setSpan_30 rfl ?_
      obtain ⟨h12, e13, E⟩ := o_cvE E
      refine cv_X7_add X (c_X7_add e13) ml_9_384 (by decide) (by decide) (Nat.le_of_ble_eq_true rfl) dX9_setSpan_32 ?_
      refine aI_aload_n X.1 dX9_setSpan_35 rfl ?_
      refine aI_iconst (v := 1) X.1 dX9_setSpan_36 (by decide) ?_
      obtain ⟨h14, eh14, E⟩ := o_letE E
      refine pf_9_71 X (by decide) dX9_setSpan_37 (aI_eqh eh14 ?_)
      exact aI_vret E (hret _ _ dX9_setSpan_40)
theorem c_X9_setSpan {q : Nat → Nat} {p1 : Int32} {p2 : Int32} {p3 : Int32} {p4 : Int32}  {h2 : hp_T} {h : hp_T} (E : f_X9_setSpan p1 p2 p3 p4 h = some h2) : cV 0 yX9_setSpan cX9_setSpan 5 2 46 q [.ref (q 0), .int p1, .int p2, .int p3, .int p4] h h2 := metV (own := RX9) (by decide) rfl (Nat.le_of_ble_eq_true rfl) rfl (fun Γ X N hret => w_X9_setSpan X N hret E)
set_option maxRecDepth 4000 in
theorem w_X9_change {Γ : g_T} {q : Nat → Nat} {p1 : Int32} {p2 : Int32} {p3 : Int32} {p4 : Int32}  {h2 : hp_T} {h : hp_T} (X : aC 0 Γ q RX9 cX9_change 3 70) (N : ∀ k, k < 5 → aN Γ k) (hret : ∀ pc lv, decode cX9_change pc = .ok (.return_, 1) → aA Γ pc lv [] h2) (E : f_X9_change p1 p2 p3 p4 h = some h2) : aA Γ 0 [some (.ref (q 0)), some (.int p1), some (.int p2), some (.int p3), some (.int p4)] [] h := by
  unfold f_X9_change at E
  refine aI_aload_n X.1 dX9_change_0 rfl ?_
  refine gf_9_19 X dX9_change_1 ?_
  refine aI_iload_n X.1 dX9_change_4 rfl ?_
  refine aI_aload_n X.1 dX9_change_5 rfl ?_
  refine gf_9_12 X dX9_change_6 ?_
  obtain ⟨h1, e2, E⟩ := o_cvE E
  refine cv_X0_note X (c_X0_note e2) ml_9_376 (by decide) (by decide) (Nat.le_of_ble_eq_true rfl) dX9_change_9 ?_
  refine aI_aload_n X.1 dX9_change_12 rfl ?_
  refine aI_iload_n X.1 dX9_change_13 rfl ?_
  refine aI_iload_n X.1 dX9_change_14 rfl ?_
  refine aI_iload_n X.1 dX9_change_15 rfl ?_
  refine aI_iload X.1 dX9_change_16 rfl ?_
  obtain ⟨h3, e4, E⟩ := o_cvE E
  refine cv_X9_setSpan X (c_X9_setSpan e4) ml_9_121 (by decide) (by decide) (Nat.le_of_ble_eq_true rfl) dX9_change_18 ?_
  exact aI_vret E (hret _ _ dX9_change_21)
theorem c_X9_change {q : Nat → Nat} {p1 : Int32} {p2 : Int32} {p3 : Int32} {p4 : Int32}  {h2 : hp_T} {h : hp_T} (E : f_X9_change p1 p2 p3 p4 h = some h2) : cV 0 yX9_change cX9_change 5 3 70 q [.ref (q 0), .int p1, .int p2, .int p3, .int p4] h h2 := metV (own := RX9) (by decide) rfl (Nat.le_of_ble_eq_true rfl) rfl (fun Γ X N hret => w_X9_change X N hret E)
set_option maxRecDepth 4000 in
theorem w_X9_put {Γ : g_T} {q : Nat → Nat} {p1 : Int32} {p2 : Int32} {p3 : Int32}  {r : Int32} {h2 : hp_T} {h : hp_T} (X : aC 0 Γ q RX9 cX9_put 4 94) (N : ∀ k, k < 4 → aN Γ k) (hret : ∀ pc lv, decode cX9_put pc = .ok (.ireturn, 1) → aA Γ pc lv [.int r] h2) (E : f_X9_put p1 p2 p3 h = some (r, h2)) : aA Γ 0 [some (.ref (q 0)), some (.int p1), some (.int p2), some (.int p3)] [] h := by
  unfold f_X9_put at E
  refine aI_iload_n X.1 dX9_put_0 rfl ?_
  obtain ⟨r2, h1, e3, E⟩ := o_callE E
  refine cv_X9_isKey X (c_X9_isKey e3) ml_9_80 (by decide) (by decide) (Nat.le_of_ble_eq_true rfl) dX9_put_1 ?_
  refine aI_if_eq (tgt := 15) X.1 dX9_put_4 (by decide) (fun c4 => ?_) (fun c4 => ?_)
  · have E := o_pos c4 E
    refine aI_bipush (v := -2) X.1 dX9_put_15 (by decide) ?_
    exact aI_iret E (hret _ _ dX9_put_17)
  · have E := o_neg c4 E
    refine aI_iload_n X.1 dX9_put_7 rfl ?_
    refine aI_iload_n X.1 dX9_put_8 rfl ?_
    obtain ⟨r6, h5, e7, E⟩ := o_callE E
    refine cv_X9_isStretch X (c_X9_isStretch e7) ml_9_84 (by decide) (by decide) (Nat.le_of_ble_eq_true rfl) dX9_put_9 ?_
    refine aI_if_ne (tgt := 18) X.1 dX9_put_12 (by decide) (fun c8 => ?_) (fun c8 => ?_)
    · have E := o_neg c8 E
      refine aI_aload_n X.1 dX9_put_18 rfl ?_
      refine gf_9_12 X dX9_put_19 ?_
      refine gf_9_88 X dX9_put_22 ?_
      refine aI_iload_n X.1 dX9_put_25 rfl ?_
      obtain ⟨g9, E⟩ := o_if E
      refine al0_4 X g9 dX9_put_26 ?_
      refine aI_if_eq (tgt := 33) X.1 dX9_put_27 (by decide) (fun c10 => ?_) (fun c10 => ?_)
      · have E := o_pos c10 E
        refine aI_aload_n X.1 dX9_put_33 rfl ?_
        refine aI_iload_n X.1 dX9_put_34 rfl ?_
        refine aI_iconst (v := 1) X.1 dX9_put_35 (by decide) ?_
        refine aI_iload_n X.1 dX9_put_36 rfl ?_
        refine aI_iload_n X.1 dX9_put_37 rfl ?_
        obtain ⟨h11, e12, E⟩ := o_cvE E
        refine cv_X9_change X (c_X9_change e12) ml_9_92 (by decide) (by decide) (Nat.le_of_ble_eq_true rfl) dX9_put_38 ?_
        refine aI_aload_n X.1 dX9_put_41 rfl ?_
        refine gf_9_12 X dX9_put_42 ?_
        refine gf_9_96 X dX9_put_45 ?_
        exact aI_iret E (hret _ _ dX9_put_48)
      · have E := o_neg c10 E
        refine aI_bipush (v := -3) X.1 dX9_put_30 (by decide) ?_
        exact aI_iret E (hret _ _ dX9_put_32)
    · have E := o_pos c8 E
      refine aI_bipush (v := -2) X.1 dX9_put_15 (by decide) ?_
      exact aI_iret E (hret _ _ dX9_put_17)
theorem c_X9_put {q : Nat → Nat} {p1 : Int32} {p2 : Int32} {p3 : Int32}  {r : Int32} {h2 : hp_T} {h : hp_T} (E : f_X9_put p1 p2 p3 h = some (r, h2)) : cI 0 yX9_put cX9_put 4 .int 4 94 q [.ref (q 0), .int p1, .int p2, .int p3] h r h2 := metI (own := RX9) (by decide) rfl (Nat.le_of_ble_eq_true rfl) rfl (fun Γ X N hret => w_X9_put X N hret E)
set_option maxRecDepth 4000 in
theorem w_X9_drop {Γ : g_T} {q : Nat → Nat} {p1 : Int32}  {r : Int32} {h2 : hp_T} {h : hp_T} (X : aC 0 Γ q RX9 cX9_drop 4 94) (N : ∀ k, k < 2 → aN Γ k) (hret : ∀ pc lv, decode cX9_drop pc = .ok (.ireturn, 1) → aA Γ pc lv [.int r] h2) (E : f_X9_drop p1 h = some (r, h2)) : aA Γ 0 [some (.ref (q 0)), some (.int p1)] [] h := by
  unfold f_X9_drop at E
  refine aI_iload_n X.1 dX9_drop_0 rfl ?_
  obtain ⟨r2, h1, e3, E⟩ := o_callE E
  refine cv_X9_isKey X (c_X9_isKey e3) ml_9_80 (by decide) (by decide) (Nat.le_of_ble_eq_true rfl) dX9_drop_1 ?_
  refine aI_if_ne (tgt := 10) X.1 dX9_drop_4 (by decide) (fun c4 => ?_) (fun c4 => ?_)
  · have E := o_neg c4 E
    refine aI_aload_n X.1 dX9_drop_10 rfl ?_
    refine gf_9_12 X dX9_drop_11 ?_
    refine gf_9_88 X dX9_drop_14 ?_
    refine aI_iload_n X.1 dX9_drop_17 rfl ?_
    obtain ⟨g5, E⟩ := o_if E
    refine al0_4 X g5 dX9_drop_18 ?_
    refine aI_if_ne (tgt := 25) X.1 dX9_drop_19 (by decide) (fun c6 => ?_) (fun c6 => ?_)
    · have E := o_neg c6 E
      refine aI_aload_n X.1 dX9_drop_25 rfl ?_
      refine aI_iload_n X.1 dX9_drop_26 rfl ?_
      refine aI_iconst (v := 0) X.1 dX9_drop_27 (by decide) ?_
      refine aI_iconst (v := 0) X.1 dX9_drop_28 (by decide) ?_
      refine aI_iconst (v := 0) X.1 dX9_drop_29 (by decide) ?_
      obtain ⟨h7, e8, E⟩ := o_cvE E
      refine cv_X9_change X (c_X9_change e8) ml_9_92 (by decide) (by decide) (Nat.le_of_ble_eq_true rfl) dX9_drop_30 ?_
      refine aI_aload_n X.1 dX9_drop_33 rfl ?_
      refine gf_9_12 X dX9_drop_34 ?_
      refine gf_9_96 X dX9_drop_37 ?_
      exact aI_iret E (hret _ _ dX9_drop_40)
    · have E := o_pos c6 E
      refine aI_bipush (v := -3) X.1 dX9_drop_22 (by decide) ?_
      exact aI_iret E (hret _ _ dX9_drop_24)
  · have E := o_pos c4 E
    refine aI_bipush (v := -2) X.1 dX9_drop_7 (by decide) ?_
    exact aI_iret E (hret _ _ dX9_drop_9)
theorem c_X9_drop {q : Nat → Nat} {p1 : Int32}  {r : Int32} {h2 : hp_T} {h : hp_T} (E : f_X9_drop p1 h = some (r, h2)) : cI 0 yX9_drop cX9_drop 2 .int 4 94 q [.ref (q 0), .int p1] h r h2 := metI (own := RX9) (by decide) rfl (Nat.le_of_ble_eq_true rfl) rfl (fun Γ X N hret => w_X9_drop X N hret E)
set_option maxRecDepth 4000 in
theorem w_X9_move {Γ : g_T} {q : Nat → Nat} {p1 : Int32} {p2 : Int32}  {r : Int32} {h2 : hp_T} {h : hp_T} (X : aC 0 Γ q RX9 cX9_move 4 94) (N : ∀ k, k < 7 → aN Γ k) (hret : ∀ pc lv, decode cX9_move pc = .ok (.ireturn, 1) → aA Γ pc lv [.int r] h2) (E : f_X9_move p1 p2 h = some (r, h2)) : aA Γ 0 [some (.ref (q 0)), some (.int p1), some (.int p2), none, none, none, none] [] h := by
  unfold f_X9_move at E
  refine aI_iload_n X.1 dX9_move_0 rfl ?_
  obtain ⟨r2, h1, e3, E⟩ := o_callE E
  refine cv_X9_isKey X (c_X9_isKey e3) ml_9_80 (by decide) (by decide) (Nat.le_of_ble_eq_true rfl) dX9_move_1 ?_
  refine aI_if_ne (tgt := 10) X.1 dX9_move_4 (by decide) (fun c4 => ?_) (fun c4 => ?_)
  · have E := o_neg c4 E
    refine aI_aload_n X.1 dX9_move_10 rfl ?_
    refine gf_9_12 X dX9_move_11 ?_
    refine gf_9_88 X dX9_move_14 ?_
    refine aI_iload_n X.1 dX9_move_17 rfl ?_
    obtain ⟨g5, E⟩ := o_if E
    refine al0_4 X g5 dX9_move_18 ?_
    refine aI_if_ne (tgt := 25) X.1 dX9_move_19 (by decide) (fun c6 => ?_) (fun c6 => ?_)
    · have E := o_neg c6 E
      refine aI_aload_n X.1 dX9_move_25 rfl ?_
      refine gf_9_12 X dX9_move_26 ?_
      refine gf_9_99 X dX9_move_29 ?_
      refine aI_iload_n X.1 dX9_move_32 rfl ?_
      obtain ⟨g7, E⟩ := o_if E
      refine al0_2 X g7 dX9_move_33 ?_
      refine aI_i2l X.1 dX9_move_34 ?_
      refine aI_iload_n X.1 dX9_move_35 rfl ?_
      refine aI_i2l X.1 dX9_move_36 ?_
      refine aI_ladd X.1 dX9_move_37 ?_
      obtain ⟨x8, ex8, E⟩ := o_letE E
      refine aI_eql ex8 ?_
      refine aI_lstore_n (lv2 := [some (.ref (q 0)), some (.int p1), some (.int p2), some (.long x8), none, none, none]) X.1 dX9_move_38 (N 4 (by decide)) rfl ?_
      refine aI_aload_n X.1 dX9_move_39 rfl ?_
      refine gf_9_12 X dX9_move_40 ?_
      refine gf_9_103 X dX9_move_43 ?_
      refine aI_iload_n X.1 dX9_move_46 rfl ?_
      obtain ⟨g9, E⟩ := o_if E
      refine al0_3 X g9 dX9_move_47 ?_
      refine aI_i2l X.1 dX9_move_48 ?_
      refine aI_iload_n X.1 dX9_move_49 rfl ?_
      refine aI_i2l X.1 dX9_move_50 ?_
      refine aI_ladd X.1 dX9_move_51 ?_
      obtain ⟨x10, ex10, E⟩ := o_letE E
      refine aI_eql ex10 ?_
      refine aI_lstore (lv2 := [some (.ref (q 0)), some (.int p1), some (.int p2), some (.long x8), none, some (.long x10), none]) X.1 dX9_move_52 (N 6 (by decide)) rfl ?_
      refine aI_lload_n X.1 dX9_move_54 rfl ?_
      refine aI_ldc2 X.1 dX9_move_55 kl_9_106 ?_
      refine aI_lcmp X.1 dX9_move_58 ?_
      refine aI_if_lt (tgt := 71) X.1 dX9_move_59 (by decide) (fun c11 => ?_) (fun c11 => ?_)
      · have E := o_pos c11 E
        refine aI_bipush (v := -4) X.1 dX9_move_71 (by decide) ?_
        exact aI_iret E (hret _ _ dX9_move_73)
      · have E := o_neg c11 E
        refine aI_lload X.1 dX9_move_62 rfl ?_
        refine aI_ldc2 X.1 dX9_move_64 kl_9_108 ?_
        refine aI_lcmp X.1 dX9_move_67 ?_
        refine aI_if_le (tgt := 74) X.1 dX9_move_68 (by decide) (fun c12 => ?_) (fun c12 => ?_)
        · have E := o_pos c12 E
          refine aI_aload_n X.1 dX9_move_74 rfl ?_
          refine aI_iload_n X.1 dX9_move_75 rfl ?_
          refine aI_iconst (v := 1) X.1 dX9_move_76 (by decide) ?_
          refine aI_lload_n X.1 dX9_move_77 rfl ?_
          refine aI_l2i X.1 dX9_move_78 ?_
          refine aI_lload X.1 dX9_move_79 rfl ?_
          refine aI_l2i X.1 dX9_move_81 ?_
          obtain ⟨h13, e14, E⟩ := o_cvE E
          refine cv_X9_change X (c_X9_change e14) ml_9_92 (by decide) (by decide) (Nat.le_of_ble_eq_true rfl) dX9_move_82 ?_
          refine aI_iconst (v := 1) X.1 dX9_move_85 (by decide) ?_
          exact aI_iret E (hret _ _ dX9_move_86)
        · have E := o_neg c12 E
          refine aI_bipush (v := -4) X.1 dX9_move_71 (by decide) ?_
          exact aI_iret E (hret _ _ dX9_move_73)
    · have E := o_pos c6 E
      refine aI_bipush (v := -3) X.1 dX9_move_22 (by decide) ?_
      exact aI_iret E (hret _ _ dX9_move_24)
  · have E := o_pos c4 E
    refine aI_bipush (v := -2) X.1 dX9_move_7 (by decide) ?_
    exact aI_iret E (hret _ _ dX9_move_9)
theorem c_X9_move {q : Nat → Nat} {p1 : Int32} {p2 : Int32}  {r : Int32} {h2 : hp_T} {h : hp_T} (E : f_X9_move p1 p2 h = some (r, h2)) : cI 0 yX9_move cX9_move 7 .int 4 94 q [.ref (q 0), .int p1, .int p2] h r h2 := metI (own := RX9) (by decide) rfl (Nat.le_of_ble_eq_true rfl) rfl (fun Γ X N hret => w_X9_move X N hret E)
set_option maxRecDepth 4000 in
theorem w_X0_takeLast {Γ : g_T} {q : Nat → Nat}   {r : Int32} {h2 : hp_T} {h : hp_T} (X : aC 0 Γ q RX0 cX0_takeLast 0 0) (N : ∀ k, k < 1 → aN Γ k) (hret : ∀ pc lv, decode cX0_takeLast pc = .ok (.ireturn, 1) → aA Γ pc lv [.int r] h2) (E : f_X0_takeLast  h = some (r, h2)) : aA Γ 0 [some (.ref (q 7))] [] h := by
  unfold f_X0_takeLast at E
  refine aI_aload_n X.1 dX0_takeLast_0 rfl ?_
  refine aI_aload_n X.1 dX0_takeLast_1 rfl ?_
  refine gf_0_25 X dX0_takeLast_2 ?_
  refine aI_if_le (tgt := 17) X.1 dX0_takeLast_5 (by decide) (fun c1 => ?_) (fun c1 => ?_)
  · have E := o_pos c1 E
    refine aI_bipush (v := 63) X.1 dX0_takeLast_17 (by decide) ?_
    obtain ⟨h2, eh2, E⟩ := o_letE E
    refine pf_0_25 X dX0_takeLast_19 (aI_eqh eh2 ?_)
    refine aI_aload_n X.1 dX0_takeLast_22 rfl ?_
    refine aI_dup X.1 dX0_takeLast_23 rfl ?_
    refine gf_0_29 X dX0_takeLast_24 ?_
    refine aI_iconst (v := 1) X.1 dX0_takeLast_27 (by decide) ?_
    refine aI_isub X.1 dX0_takeLast_28 ?_
    obtain ⟨h3, eh3, E⟩ := o_letE E
    refine pf_0_29 X dX0_takeLast_29 (aI_eqh eh3 ?_)
    refine aI_aload_n X.1 dX0_takeLast_32 rfl ?_
    refine gf_0_25 X dX0_takeLast_33 ?_
    exact aI_iret E (hret _ _ dX0_takeLast_36)
  · have E := o_neg c1 E
    refine aI_aload_n X.1 dX0_takeLast_8 rfl ?_
    refine gf_0_25 X dX0_takeLast_9 ?_
    refine aI_iconst (v := 1) X.1 dX0_takeLast_12 (by decide) ?_
    refine aI_isub X.1 dX0_takeLast_13 ?_
    refine aI_goto (tgt := 19) X.1 dX0_takeLast_14 (by decide) ?_
    obtain ⟨h4, eh4, E⟩ := o_letE E
    refine pf_0_25 X dX0_takeLast_19 (aI_eqh eh4 ?_)
    refine aI_aload_n X.1 dX0_takeLast_22 rfl ?_
    refine aI_dup X.1 dX0_takeLast_23 rfl ?_
    refine gf_0_29 X dX0_takeLast_24 ?_
    refine aI_iconst (v := 1) X.1 dX0_takeLast_27 (by decide) ?_
    refine aI_isub X.1 dX0_takeLast_28 ?_
    obtain ⟨h5, eh5, E⟩ := o_letE E
    refine pf_0_29 X dX0_takeLast_29 (aI_eqh eh5 ?_)
    refine aI_aload_n X.1 dX0_takeLast_32 rfl ?_
    refine gf_0_25 X dX0_takeLast_33 ?_
    exact aI_iret E (hret _ _ dX0_takeLast_36)
theorem c_X0_takeLast {q : Nat → Nat}   {r : Int32} {h2 : hp_T} {h : hp_T} (E : f_X0_takeLast  h = some (r, h2)) : cI 0 yX0_takeLast cX0_takeLast 1 .int 0 0 q [.ref (q 7)] h r h2 := metI (own := RX0) (by decide) rfl (Nat.le_of_ble_eq_true rfl) rfl (fun Γ X N hret => w_X0_takeLast X N hret E)
set_option maxRecDepth 4000 in
theorem w_X9_undo {Γ : g_T} {q : Nat → Nat}   {r : Int32} {h2 : hp_T} {h : hp_T} (X : aC 0 Γ q RX9 cX9_undo 3 70) (N : ∀ k, k < 2 → aN Γ k) (hret : ∀ pc lv, decode cX9_undo pc = .ok (.ireturn, 1) → aA Γ pc lv [.int r] h2) (E : f_X9_undo  h = some (r, h2)) : aA Γ 0 [some (.ref (q 0)), none] [] h := by
  unfold f_X9_undo at E
  refine aI_aload_n X.1 dX9_undo_0 rfl ?_
  refine gf_9_19 X dX9_undo_1 ?_
  refine gf_9_110 X dX9_undo_4 ?_
  refine aI_if_ne (tgt := 13) X.1 dX9_undo_7 (by decide) (fun c1 => ?_) (fun c1 => ?_)
  · have E := o_neg c1 E
    refine aI_aload_n X.1 dX9_undo_13 rfl ?_
    refine gf_9_19 X dX9_undo_14 ?_
    obtain ⟨r3, h2, e4, E⟩ := o_callE E
    refine cv_X0_takeLast X (c_X0_takeLast e4) ml_9_111 (by decide) (by decide) (Nat.le_of_ble_eq_true rfl) dX9_undo_17 ?_
    refine aI_istore_n (lv2 := [some (.ref (q 0)), some (.int r3)]) X.1 dX9_undo_20 (N 1 (by decide)) rfl ?_
    refine aI_aload_n X.1 dX9_undo_21 rfl ?_
    refine aI_aload_n X.1 dX9_undo_22 rfl ?_
    refine gf_9_19 X dX9_undo_23 ?_
    refine gf_9_115 X dX9_undo_26 ?_
    refine aI_iload_n X.1 dX9_undo_29 rfl ?_
    obtain ⟨g5, E⟩ := o_if E
    refine al0_8 X g5 dX9_undo_30 ?_
    refine aI_aload_n X.1 dX9_undo_31 rfl ?_
    refine gf_9_19 X dX9_undo_32 ?_
    refine gf_9_118 X dX9_undo_35 ?_
    refine aI_iload_n X.1 dX9_undo_38 rfl ?_
    obtain ⟨g6, E⟩ := o_if E
    refine al0_9 X g6 dX9_undo_39 ?_
    refine aI_aload_n X.1 dX9_undo_40 rfl ?_
    refine gf_9_19 X dX9_undo_41 ?_
    refine gf_9_119 X dX9_undo_44 ?_
    refine aI_iload_n X.1 dX9_undo_47 rfl ?_
    obtain ⟨g7, E⟩ := o_if E
    refine al0_10 X g7 dX9_undo_48 ?_
    refine aI_aload_n X.1 dX9_undo_49 rfl ?_
    refine gf_9_19 X dX9_undo_50 ?_
    refine gf_9_120 X dX9_undo_53 ?_
    refine aI_iload_n X.1 dX9_undo_56 rfl ?_
    obtain ⟨g8, E⟩ := o_if E
    refine al0_11 X g8 dX9_undo_57 ?_
    obtain ⟨h9, e10, E⟩ := o_cvE E
    refine cv_X9_setSpan X (c_X9_setSpan e10) ml_9_121 (by decide) (by decide) (Nat.le_of_ble_eq_true rfl) dX9_undo_58 ?_
    refine aI_aload_n X.1 dX9_undo_61 rfl ?_
    refine gf_9_19 X dX9_undo_62 ?_
    refine gf_9_110 X dX9_undo_65 ?_
    exact aI_iret E (hret _ _ dX9_undo_68)
  · have E := o_pos c1 E
    refine aI_bipush (v := -3) X.1 dX9_undo_10 (by decide) ?_
    exact aI_iret E (hret _ _ dX9_undo_12)
theorem c_X9_undo {q : Nat → Nat}   {r : Int32} {h2 : hp_T} {h : hp_T} (E : f_X9_undo  h = some (r, h2)) : cI 0 yX9_undo cX9_undo 2 .int 3 70 q [.ref (q 0)] h r h2 := metI (own := RX9) (by decide) rfl (Nat.le_of_ble_eq_true rfl) rfl (fun Γ X N hret => w_X9_undo X N hret E)
set_option maxRecDepth 4000 in
theorem w_X9_isSheet {Γ : g_T} {q : Nat → Nat} {p1 : Int32}  {r : Int32} {h2 : hp_T} {h : hp_T} (X : aC 0 Γ q RX9 cX9_isSheet 0 0) (N : ∀ k, k < 1 → aN Γ k) (hret : ∀ pc lv, decode cX9_isSheet pc = .ok (.ireturn, 1) → bz r = true → aA Γ pc lv [.int r] h2) (E : f_X9_isSheet p1 h = some (r, h2)) : aA Γ 0 [some (.int p1)] [] h := by
  unfold f_X9_isSheet at E
  refine aI_iload_n X.1 dX9_isSheet_0 rfl ?_
  refine aI_if_lt (tgt := 13) X.1 dX9_isSheet_1 (by decide) (fun c1 => ?_) (fun c1 => ?_)
  · have E := o_pos c1 E
    refine aI_iconst (v := 0) X.1 dX9_isSheet_13 (by decide) ?_
    exact aI_zret (by decide) E (hret _ _ dX9_isSheet_14)
  · have E := o_neg c1 E
    refine aI_iload_n X.1 dX9_isSheet_4 rfl ?_
    refine aI_iconst (v := 4) X.1 dX9_isSheet_5 (by decide) ?_
    refine aI_icmp_ge (tgt := 13) X.1 dX9_isSheet_6 (by decide) (fun c2 => ?_) (fun c2 => ?_)
    · have E := o_pos c2 E
      refine aI_iconst (v := 0) X.1 dX9_isSheet_13 (by decide) ?_
      exact aI_zret (by decide) E (hret _ _ dX9_isSheet_14)
    · have E := o_neg c2 E
      refine aI_iconst (v := 1) X.1 dX9_isSheet_9 (by decide) ?_
      refine aI_goto (tgt := 14) X.1 dX9_isSheet_10 (by decide) ?_
      exact aI_zret (by decide) E (hret _ _ dX9_isSheet_14)
theorem c_X9_isSheet {q : Nat → Nat} {p1 : Int32}  {r : Int32} {h2 : hp_T} {h : hp_T} (E : f_X9_isSheet p1 h = some (r, h2)) : cI 0 yX9_isSheet cX9_isSheet 1 .boolean 0 0 q [.int p1] h r h2 := metZ (own := RX9) (by decide) rfl (Nat.le_of_ble_eq_true rfl) rfl (fun Γ X N hret => w_X9_isSheet X N hret E)
set_option maxRecDepth 4000 in
theorem w_X9_found {Γ : g_T} {q : Nat → Nat} {p1 : Int32}  {r : Int32} {h2 : hp_T} {h : hp_T} (X : aC 0 Γ q RX9 cX9_found 0 0) (N : ∀ k, k < 2 → aN Γ k) (hret : ∀ pc lv, decode cX9_found pc = .ok (.ireturn, 1) → aA Γ pc lv [.int r] h2) (E : f_X9_found p1 h = some (r, h2)) : aA Γ 0 [some (.ref (q 0)), some (.int p1)] [] h := by
  unfold f_X9_found at E
  refine aI_aload_n X.1 dX9_found_0 rfl ?_
  refine aI_iload_n X.1 dX9_found_1 rfl ?_
  obtain ⟨h1, eh1, E⟩ := o_letE E
  refine pf_9_75 X dX9_found_2 (aI_eqh eh1 ?_)
  refine aI_bipush (v := -10) X.1 dX9_found_5 (by decide) ?_
  refine aI_iload_n X.1 dX9_found_7 rfl ?_
  refine aI_isub X.1 dX9_found_8 ?_
  exact aI_iret E (hret _ _ dX9_found_9)
theorem c_X9_found {q : Nat → Nat} {p1 : Int32}  {r : Int32} {h2 : hp_T} {h : hp_T} (E : f_X9_found p1 h = some (r, h2)) : cI 0 yX9_found cX9_found 2 .int 0 0 q [.ref (q 0), .int p1] h r h2 := metI (own := RX9) (by decide) rfl (Nat.le_of_ble_eq_true rfl) rfl (fun Γ X N hret => w_X9_found X N hret E)
set_option maxRecDepth 4000 in
theorem w_X7_leastUnused_L1 {Γ : g_T} {q : Nat → Nat}    {r : Int32} {h2 : hp_T} (X : aC 0 Γ q RX7 cX7_leastUnused 0 0) (N : ∀ k, k < 2 → aN Γ k) (hret : ∀ pc lv, decode cX7_leastUnused pc = .ok (.ireturn, 1) → aA Γ pc lv [.int r] h2) {K : Int32 → hp_T → Option (Int32 × hp_T)} (hk : ∀ v1 h, K v1 h = some (r, h2) → aA Γ 25 [some (.ref (q 1)), some (.int v1)] [] h) : ∀ (n : Nat) (v1 : Int32) (h : hp_T), f_X7_leastUnused_L1 K n v1 h = some (r, h2) → aA Γ 2 [some (.ref (q 1)), some (.int v1)] [] h := by
  intro n
  induction n with
  | zero =>
    intro v1 h E
    cases E
  | succ n ih =>
    intro v1 h E
    rw [f_X7_leastUnused_L1] at E
    refine aI_iload_n X.1 dX7_leastUnused_2 rfl ?_
    refine aI_bipush (v := 48) X.1 dX7_leastUnused_3 (by decide) ?_
    refine aI_icmp_ge (tgt := 25) X.1 dX7_leastUnused_5 (by decide) (fun c1 => ?_) (fun c1 => ?_)
    · have E := o_pos c1 E
      exact hk v1 h E
    · have E := o_neg c1 E
      refine aI_aload_n X.1 dX7_leastUnused_8 rfl ?_
      refine gf_7_18 X dX7_leastUnused_9 ?_
      refine aI_iload_n X.1 dX7_leastUnused_12 rfl ?_
      obtain ⟨g2, E⟩ := o_if E
      refine al0_4 X g2 dX7_leastUnused_13 ?_
      refine aI_if_ne (tgt := 19) X.1 dX7_leastUnused_14 (by decide) (fun c3 => ?_) (fun c3 => ?_)
      · have E := o_neg c3 E
        obtain ⟨x4, ex4, E⟩ := o_letE E
        refine aI_iinc (v := 1) (lv2 := [some (.ref (q 1)), some (.int x4)]) X.1 dX7_leastUnused_19 (N 1 (by decide)) rfl (by decide) (by rw [← ex4]; rfl) ?_
        refine aI_goto (tgt := 2) X.1 dX7_leastUnused_22 (by decide) ?_
        exact ih x4 h E
      · have E := o_pos c3 E
        refine aI_iload_n X.1 dX7_leastUnused_17 rfl ?_
        exact aI_iret E (hret _ _ dX7_leastUnused_18)
set_option maxRecDepth 4000 in
theorem w_X7_leastUnused {Γ : g_T} {q : Nat → Nat}   {r : Int32} {h2 : hp_T} {h : hp_T} (X : aC 0 Γ q RX7 cX7_leastUnused 0 0) (N : ∀ k, k < 2 → aN Γ k) (hret : ∀ pc lv, decode cX7_leastUnused pc = .ok (.ireturn, 1) → aA Γ pc lv [.int r] h2) (E : f_X7_leastUnused  h = some (r, h2)) : aA Γ 0 [some (.ref (q 1)), none] [] h := by
  unfold f_X7_leastUnused at E
  refine aI_iconst (v := 0) X.1 dX7_leastUnused_0 (by decide) ?_
  refine aI_istore_n (lv2 := [some (.ref (q 1)), some (.int (0 : Int32))]) X.1 dX7_leastUnused_1 (N 1 (by decide)) rfl ?_
  refine w_X7_leastUnused_L1  X N hret ?_ 100 (0 : Int32) h E
  intro x5 h6 E
  refine aI_iconst (v := -1) X.1 dX7_leastUnused_25 (by decide) ?_
  exact aI_iret E (hret _ _ dX7_leastUnused_26)
theorem c_X7_leastUnused {q : Nat → Nat}   {r : Int32} {h2 : hp_T} {h : hp_T} (E : f_X7_leastUnused  h = some (r, h2)) : cI 0 yX7_leastUnused cX7_leastUnused 2 .int 0 0 q [.ref (q 1)] h r h2 := metI (own := RX7) (by decide) rfl (Nat.le_of_ble_eq_true rfl) rfl (fun Γ X N hret => w_X7_leastUnused X N hret E)
set_option maxRecDepth 4000 in
theorem w_X9_fill_L1 {Γ : g_T} {q : Nat → Nat} {j2 : Nat}  (hj2 : j2 < 4) {r : Int32} {h2 : hp_T} (X : aC 0 Γ q RX9 cX9_fill 4 94) (N : ∀ k, k < 6 → aN Γ k) (hret : ∀ pc lv, decode cX9_fill pc = .ok (.ireturn, 1) → aA Γ pc lv [.int r] h2) {K : Int32 → Int32 → hp_T → Option (Int32 × hp_T)} (hk : ∀ v3 v4 h, K v3 v4 h = some (r, h2) → aA Γ 118 [some (.ref (q 0)), none, some (.ref (q (38 + j2))), some (.int v3), some (.int v4), none] [] h) : ∀ (n : Nat) (v3 : Int32) (v4 : Int32) (h : hp_T), f_X9_fill_L1 j2 K n v3 v4 h = some (r, h2) → aA Γ 35 [some (.ref (q 0)), none, some (.ref (q (38 + j2))), some (.int v3), some (.int v4), none] [] h := by
  intro n
  induction n with
  | zero =>
    intro v3 v4 h E
    cases E
  | succ n ih =>
    intro v3 v4 h E
    rw [f_X9_fill_L1] at E
    refine aI_iload X.1 dX9_fill_35 rfl ?_
    refine aI_iconst (v := 1) X.1 dX9_fill_37 (by decide) ?_
    refine aI_iadd X.1 dX9_fill_38 ?_
    refine aI_aload_n X.1 dX9_fill_39 rfl ?_
    refine gf_9_134 j2 hj2 X dX9_fill_40 ?_
    refine aI_icmp_ge (tgt := 118) X.1 dX9_fill_43 (by decide) (fun c7 => ?_) (fun c7 => ?_)
    · have E := o_pos c7 E
      exact hk v3 v4 h E
    · have E := o_neg c7 E
      refine aI_aload_n X.1 dX9_fill_46 rfl ?_
      refine gf_9_12 X dX9_fill_47 ?_
      obtain ⟨r9, h8, e10, E⟩ := o_callE E
      refine cv_X7_leastUnused X (c_X7_leastUnused e10) ml_9_135 (by decide) (by decide) (Nat.le_of_ble_eq_true rfl) dX9_fill_50 ?_
      refine aI_istore (lv2 := [some (.ref (q 0)), none, some (.ref (q (38 + j2))), some (.int v3), some (.int v4), some (.int r9)]) X.1 dX9_fill_53 (N 5 (by decide)) rfl ?_
      refine aI_iload X.1 dX9_fill_55 rfl ?_
      refine aI_iconst (v := -1) X.1 dX9_fill_57 (by decide) ?_
      refine aI_icmp_eq (tgt := 118) X.1 dX9_fill_58 (by decide) (fun c11 => ?_) (fun c11 => ?_)
      · have E := o_pos c11 E
        refine aI_lv [true, false, true, true, true, false] (lv2 := [some (.ref (q 0)), none, some (.ref (q (38 + j2))), some (.int v3), some (.int v4), none]) rfl ?_
        exact hk v3 v4 h8 E
      · have E := o_neg c11 E
        refine aI_aload_n X.1 dX9_fill_61 rfl ?_
        refine gf_9_138 j2 hj2 X dX9_fill_62 ?_
        refine aI_iload X.1 dX9_fill_65 rfl ?_
        obtain ⟨g12, E⟩ := o_if E
        refine al0_s j2 hj2 X g12 dX9_fill_67 ?_
        refine aI_aload_n X.1 dX9_fill_68 rfl ?_
        refine gf_9_138 j2 hj2 X dX9_fill_69 ?_
        refine aI_iload X.1 dX9_fill_72 rfl ?_
        refine aI_iconst (v := 1) X.1 dX9_fill_74 (by decide) ?_
        refine aI_iadd X.1 dX9_fill_75 ?_
        obtain ⟨g13, E⟩ := o_if E
        refine al0_s j2 hj2 X g13 dX9_fill_76 ?_
        obtain ⟨r15, h14, e16, E⟩ := o_callE E
        refine cv_X9_isStretch X (c_X9_isStretch e16) ml_9_84 (by decide) (by decide) (Nat.le_of_ble_eq_true rfl) dX9_fill_77 ?_
        refine aI_if_ne (tgt := 86) X.1 dX9_fill_80 (by decide) (fun c17 => ?_) (fun c17 => ?_)
        · have E := o_neg c17 E
          refine aI_aload_n X.1 dX9_fill_86 rfl ?_
          refine aI_iload X.1 dX9_fill_87 rfl ?_
          refine aI_iconst (v := 1) X.1 dX9_fill_89 (by decide) ?_
          refine aI_aload_n X.1 dX9_fill_90 rfl ?_
          refine gf_9_138 j2 hj2 X dX9_fill_91 ?_
          refine aI_iload X.1 dX9_fill_94 rfl ?_
          obtain ⟨g18, E⟩ := o_if E
          refine al0_s j2 hj2 X g18 dX9_fill_96 ?_
          refine aI_aload_n X.1 dX9_fill_97 rfl ?_
          refine gf_9_138 j2 hj2 X dX9_fill_98 ?_
          refine aI_iload X.1 dX9_fill_101 rfl ?_
          refine aI_iconst (v := 1) X.1 dX9_fill_103 (by decide) ?_
          refine aI_iadd X.1 dX9_fill_104 ?_
          obtain ⟨g19, E⟩ := o_if E
          refine al0_s j2 hj2 X g19 dX9_fill_105 ?_
          obtain ⟨h20, e21, E⟩ := o_cvE E
          refine cv_X9_change X (c_X9_change e21) ml_9_92 (by decide) (by decide) (Nat.le_of_ble_eq_true rfl) dX9_fill_106 ?_
          obtain ⟨x22, ex22, E⟩ := o_letE E
          refine aI_iinc (v := 1) (lv2 := [some (.ref (q 0)), none, some (.ref (q (38 + j2))), some (.int x22), some (.int v4), some (.int r9)]) X.1 dX9_fill_109 (N 3 (by decide)) rfl (by decide) (by rw [← ex22]; rfl) ?_
          obtain ⟨x23, ex23, E⟩ := o_letE E
          refine aI_iinc (v := 2) (lv2 := [some (.ref (q 0)), none, some (.ref (q (38 + j2))), some (.int x22), some (.int x23), some (.int r9)]) X.1 dX9_fill_112 (N 4 (by decide)) rfl (by decide) (by rw [← ex23]; rfl) ?_
          refine aI_goto (tgt := 35) X.1 dX9_fill_115 (by decide) ?_
          refine aI_lv [true, false, true, true, true, false] (lv2 := [some (.ref (q 0)), none, some (.ref (q (38 + j2))), some (.int x22), some (.int x23), none]) rfl ?_
          exact ih x22 x23 h20 E
        · have E := o_pos c17 E
          refine aI_goto (tgt := 118) X.1 dX9_fill_83 (by decide) ?_
          refine aI_lv [true, false, true, true, true, false] (lv2 := [some (.ref (q 0)), none, some (.ref (q (38 + j2))), some (.int v3), some (.int v4), none]) rfl ?_
          exact hk v3 v4 h14 E
set_option maxRecDepth 4000 in
theorem w_X9_fill {Γ : g_T} {q : Nat → Nat} {p1 : Int32}  {r : Int32} {h2 : hp_T} {h : hp_T} (X : aC 0 Γ q RX9 cX9_fill 4 94) (N : ∀ k, k < 6 → aN Γ k) (hret : ∀ pc lv, decode cX9_fill pc = .ok (.ireturn, 1) → aA Γ pc lv [.int r] h2) (E : f_X9_fill p1 h = some (r, h2)) : aA Γ 0 [some (.ref (q 0)), some (.int p1), none, none, none, none] [] h := by
  unfold f_X9_fill at E
  refine aI_iload_n X.1 dX9_fill_0 rfl ?_
  obtain ⟨r2, h1, e3, E⟩ := o_callE E
  refine cv_X9_isSheet X (c_X9_isSheet e3) ml_9_124 (by decide) (by decide) (Nat.le_of_ble_eq_true rfl) dX9_fill_1 ?_
  refine aI_if_ne (tgt := 10) X.1 dX9_fill_4 (by decide) (fun c4 => ?_) (fun c4 => ?_)
  · have E := o_neg c4 E
    refine aI_aload_n X.1 dX9_fill_10 rfl ?_
    refine gf_9_67 X dX9_fill_11 ?_
    refine aI_iload_n X.1 dX9_fill_14 rfl ?_
    obtain ⟨g5, E⟩ := o_if E
    refine aK_aald X g5 dX9_fill_15 ?_
    refine aI_astore_n (lv2 := [some (.ref (q 0)), some (.int p1), some (.ref (q (38 + p1.toNatClampNeg))), none, none, none]) X.1 dX9_fill_16 (N 2 (by decide)) rfl ?_
    refine aI_aload_n X.1 dX9_fill_17 rfl ?_
    refine gf_9_127 (p1.toNatClampNeg) (ix_lt g5) X dX9_fill_18 ?_
    refine aI_if_eq (tgt := 30) X.1 dX9_fill_21 (by decide) (fun c6 => ?_) (fun c6 => ?_)
    · have E := o_pos c6 E
      refine aI_iconst (v := 0) X.1 dX9_fill_30 (by decide) ?_
      refine aI_istore_n (lv2 := [some (.ref (q 0)), some (.int p1), some (.ref (q (38 + p1.toNatClampNeg))), some (.int (0 : Int32)), none, none]) X.1 dX9_fill_31 (N 3 (by decide)) rfl ?_
      refine aI_iconst (v := 0) X.1 dX9_fill_32 (by decide) ?_
      refine aI_istore (lv2 := [some (.ref (q 0)), some (.int p1), some (.ref (q (38 + p1.toNatClampNeg))), some (.int (0 : Int32)), some (.int (0 : Int32)), none]) X.1 dX9_fill_33 (N 4 (by decide)) rfl ?_
      refine aI_lv [true, false, true, true, true, false] (lv2 := [some (.ref (q 0)), none, some (.ref (q (38 + p1.toNatClampNeg))), some (.int (0 : Int32)), some (.int (0 : Int32)), none]) rfl ?_
      refine w_X9_fill_L1 (ix_lt g5) X N hret ?_ 100 (0 : Int32) (0 : Int32) h1 E
      intro x24 x25 h26 E
      refine aI_iload_n X.1 dX9_fill_118 rfl ?_
      exact aI_iret E (hret _ _ dX9_fill_119)
    · have E := o_neg c6 E
      refine aI_aload_n X.1 dX9_fill_24 rfl ?_
      refine aI_iconst (v := 1) X.1 dX9_fill_25 (by decide) ?_
      obtain ⟨r28, h27, e29, E⟩ := o_callE E
      refine cv_X9_found X (c_X9_found e29) ml_9_130 (by decide) (by decide) (Nat.le_of_ble_eq_true rfl) dX9_fill_26 ?_
      exact aI_iret E (hret _ _ dX9_fill_29)
  · have E := o_pos c4 E
    refine aI_bipush (v := -2) X.1 dX9_fill_7 (by decide) ?_
    exact aI_iret E (hret _ _ dX9_fill_9)
theorem c_X9_fill {q : Nat → Nat} {p1 : Int32}  {r : Int32} {h2 : hp_T} {h : hp_T} (E : f_X9_fill p1 h = some (r, h2)) : cI 0 yX9_fill cX9_fill 6 .int 4 94 q [.ref (q 0), .int p1] h r h2 := metI (own := RX9) (by decide) rfl (Nat.le_of_ble_eq_true rfl) rfl (fun Γ X N hret => w_X9_fill X N hret E)
set_option maxRecDepth 4000 in
theorem w_X9_isThere {Γ : g_T} {q : Nat → Nat} {p1 : Int32}  {r : Int32} {h2 : hp_T} {h : hp_T} (X : aC 0 Γ q RX9 cX9_isThere 1 20) (N : ∀ k, k < 2 → aN Γ k) (hret : ∀ pc lv, decode cX9_isThere pc = .ok (.ireturn, 1) → bz r = true → aA Γ pc lv [.int r] h2) (E : f_X9_isThere p1 h = some (r, h2)) : aA Γ 0 [some (.ref (q 0)), some (.int p1)] [] h := by
  unfold f_X9_isThere at E
  refine aI_iload_n X.1 dX9_isThere_0 rfl ?_
  obtain ⟨r2, h1, e3, E⟩ := o_callE E
  refine cv_X9_isKey X (c_X9_isKey e3) ml_9_80 (by decide) (by decide) (Nat.le_of_ble_eq_true rfl) dX9_isThere_1 ?_
  refine aI_if_eq (tgt := 23) X.1 dX9_isThere_4 (by decide) (fun c4 => ?_) (fun c4 => ?_)
  · have E := o_pos c4 E
    refine aI_iconst (v := 0) X.1 dX9_isThere_23 (by decide) ?_
    exact aI_zret (by decide) E (hret _ _ dX9_isThere_24)
  · have E := o_neg c4 E
    refine aI_aload_n X.1 dX9_isThere_7 rfl ?_
    refine gf_9_12 X dX9_isThere_8 ?_
    refine gf_9_88 X dX9_isThere_11 ?_
    refine aI_iload_n X.1 dX9_isThere_14 rfl ?_
    obtain ⟨g5, E⟩ := o_if E
    refine al0_4 X g5 dX9_isThere_15 ?_
    refine aI_if_eq (tgt := 23) X.1 dX9_isThere_16 (by decide) (fun c6 => ?_) (fun c6 => ?_)
    · have E := o_pos c6 E
      refine aI_iconst (v := 0) X.1 dX9_isThere_23 (by decide) ?_
      exact aI_zret (by decide) E (hret _ _ dX9_isThere_24)
    · have E := o_neg c6 E
      refine aI_iconst (v := 1) X.1 dX9_isThere_19 (by decide) ?_
      refine aI_goto (tgt := 24) X.1 dX9_isThere_20 (by decide) ?_
      exact aI_zret (by decide) E (hret _ _ dX9_isThere_24)
theorem c_X9_isThere {q : Nat → Nat} {p1 : Int32}  {r : Int32} {h2 : hp_T} {h : hp_T} (E : f_X9_isThere p1 h = some (r, h2)) : cI 0 yX9_isThere cX9_isThere 2 .boolean 1 20 q [.ref (q 0), .int p1] h r h2 := metZ (own := RX9) (by decide) rfl (Nat.le_of_ble_eq_true rfl) rfl (fun Γ X N hret => w_X9_isThere X N hret E)
set_option maxRecDepth 4000 in
theorem w_X9_span {Γ : g_T} {q : Nat → Nat} {p1 : Int32} {p2 : Int32}  {r : Int32} {h2 : hp_T} {h : hp_T} (X : aC 0 Γ q RX9 cX9_span 2 41) (N : ∀ k, k < 3 → aN Γ k) (hret : ∀ pc lv, decode cX9_span pc = .ok (.ireturn, 1) → aA Γ pc lv [.int r] h2) (E : f_X9_span p1 p2 h = some (r, h2)) : aA Γ 0 [some (.ref (q 0)), some (.int p1), some (.int p2)] [] h := by
  unfold f_X9_span at E
  refine aI_aload_n X.1 dX9_span_0 rfl ?_
  refine aI_iload_n X.1 dX9_span_1 rfl ?_
  obtain ⟨r2, h1, e3, E⟩ := o_callE E
  refine cv_X9_isThere X (c_X9_isThere e3) ml_9_141 (by decide) (by decide) (Nat.le_of_ble_eq_true rfl) dX9_span_2 ?_
  refine aI_if_eq (tgt := 17) X.1 dX9_span_5 (by decide) (fun c4 => ?_) (fun c4 => ?_)
  · have E := o_pos c4 E
    refine aI_ldc X.1 dX9_span_17 kc_9_144 ?_
    exact aI_iret E (hret _ _ dX9_span_19)
  · have E := o_neg c4 E
    refine aI_iload_n X.1 dX9_span_8 rfl ?_
    refine aI_if_lt (tgt := 17) X.1 dX9_span_9 (by decide) (fun c5 => ?_) (fun c5 => ?_)
    · have E := o_pos c5 E
      refine aI_ldc X.1 dX9_span_17 kc_9_144 ?_
      exact aI_iret E (hret _ _ dX9_span_19)
    · have E := o_neg c5 E
      refine aI_iload_n X.1 dX9_span_12 rfl ?_
      refine aI_iconst (v := 1) X.1 dX9_span_13 (by decide) ?_
      refine aI_icmp_le (tgt := 20) X.1 dX9_span_14 (by decide) (fun c6 => ?_) (fun c6 => ?_)
      · have E := o_pos c6 E
        refine aI_iload_n X.1 dX9_span_20 rfl ?_
        refine aI_if_ne (tgt := 36) X.1 dX9_span_21 (by decide) (fun c7 => ?_) (fun c7 => ?_)
        · have E := o_neg c7 E
          refine aI_aload_n X.1 dX9_span_36 rfl ?_
          refine gf_9_12 X dX9_span_37 ?_
          refine gf_9_103 X dX9_span_40 ?_
          refine aI_iload_n X.1 dX9_span_43 rfl ?_
          obtain ⟨g8, E⟩ := o_if E
          refine al0_3 X g8 dX9_span_44 ?_
          exact aI_iret E (hret _ _ dX9_span_45)
        · have E := o_pos c7 E
          refine aI_aload_n X.1 dX9_span_24 rfl ?_
          refine gf_9_12 X dX9_span_25 ?_
          refine gf_9_99 X dX9_span_28 ?_
          refine aI_iload_n X.1 dX9_span_31 rfl ?_
          obtain ⟨g9, E⟩ := o_if E
          refine al0_2 X g9 dX9_span_32 ?_
          refine aI_goto (tgt := 45) X.1 dX9_span_33 (by decide) ?_
          exact aI_iret E (hret _ _ dX9_span_45)
      · have E := o_neg c6 E
        refine aI_ldc X.1 dX9_span_17 kc_9_144 ?_
        exact aI_iret E (hret _ _ dX9_span_19)
theorem c_X9_span {q : Nat → Nat} {p1 : Int32} {p2 : Int32}  {r : Int32} {h2 : hp_T} {h : hp_T} (E : f_X9_span p1 p2 h = some (r, h2)) : cI 0 yX9_span cX9_span 3 .int 2 41 q [.ref (q 0), .int p1, .int p2] h r h2 := metI (own := RX9) (by decide) rfl (Nat.le_of_ble_eq_true rfl) rfl (fun Γ X N hret => w_X9_span X N hret E)
set_option maxRecDepth 4000 in
theorem w_X9_rank {Γ : g_T} {q : Nat → Nat} {p1 : Int32}  {r : Int32} {h2 : hp_T} {h : hp_T} (X : aC 0 Γ q RX9 cX9_rank 1 20) (N : ∀ k, k < 2 → aN Γ k) (hret : ∀ pc lv, decode cX9_rank pc = .ok (.ireturn, 1) → aA Γ pc lv [.int r] h2) (E : f_X9_rank p1 h = some (r, h2)) : aA Γ 0 [some (.ref (q 0)), some (.int p1)] [] h := by
  unfold f_X9_rank at E
  refine aI_iload_n X.1 dX9_rank_0 rfl ?_
  obtain ⟨r2, h1, e3, E⟩ := o_callE E
  refine cv_X9_isKey X (c_X9_isKey e3) ml_9_80 (by decide) (by decide) (Nat.le_of_ble_eq_true rfl) dX9_rank_1 ?_
  refine aI_if_ne (tgt := 10) X.1 dX9_rank_4 (by decide) (fun c4 => ?_) (fun c4 => ?_)
  · have E := o_neg c4 E
    refine aI_aload_n X.1 dX9_rank_10 rfl ?_
    refine gf_9_12 X dX9_rank_11 ?_
    refine gf_9_88 X dX9_rank_14 ?_
    refine aI_iload_n X.1 dX9_rank_17 rfl ?_
    obtain ⟨g5, E⟩ := o_if E
    refine al0_4 X g5 dX9_rank_18 ?_
    refine aI_if_eq (tgt := 34) X.1 dX9_rank_19 (by decide) (fun c6 => ?_) (fun c6 => ?_)
    · have E := o_pos c6 E
      refine aI_bipush (v := -3) X.1 dX9_rank_34 (by decide) ?_
      exact aI_iret E (hret _ _ dX9_rank_36)
    · have E := o_neg c6 E
      refine aI_aload_n X.1 dX9_rank_22 rfl ?_
      refine gf_9_12 X dX9_rank_23 ?_
      refine gf_9_145 X dX9_rank_26 ?_
      refine aI_iload_n X.1 dX9_rank_29 rfl ?_
      obtain ⟨g7, E⟩ := o_if E
      refine al0_6 X g7 dX9_rank_30 ?_
      refine aI_goto (tgt := 36) X.1 dX9_rank_31 (by decide) ?_
      exact aI_iret E (hret _ _ dX9_rank_36)
  · have E := o_pos c4 E
    refine aI_bipush (v := -2) X.1 dX9_rank_7 (by decide) ?_
    exact aI_iret E (hret _ _ dX9_rank_9)
theorem c_X9_rank {q : Nat → Nat} {p1 : Int32}  {r : Int32} {h2 : hp_T} {h : hp_T} (E : f_X9_rank p1 h = some (r, h2)) : cI 0 yX9_rank cX9_rank 2 .int 1 20 q [.ref (q 0), .int p1] h r h2 := metI (own := RX9) (by decide) rfl (Nat.le_of_ble_eq_true rfl) rfl (fun Γ X N hret => w_X9_rank X N hret E)
set_option maxRecDepth 4000 in
theorem w_X9_ranked {Γ : g_T} {q : Nat → Nat} {p1 : Int32}  {r : Int32} {h2 : hp_T} {h : hp_T} (X : aC 0 Γ q RX9 cX9_ranked 1 20) (N : ∀ k, k < 2 → aN Γ k) (hret : ∀ pc lv, decode cX9_ranked pc = .ok (.ireturn, 1) → aA Γ pc lv [.int r] h2) (E : f_X9_ranked p1 h = some (r, h2)) : aA Γ 0 [some (.ref (q 0)), some (.int p1)] [] h := by
  unfold f_X9_ranked at E
  refine aI_iload_n X.1 dX9_ranked_0 rfl ?_
  obtain ⟨r2, h1, e3, E⟩ := o_callE E
  refine cv_X9_isKey X (c_X9_isKey e3) ml_9_80 (by decide) (by decide) (Nat.le_of_ble_eq_true rfl) dX9_ranked_1 ?_
  refine aI_if_ne (tgt := 10) X.1 dX9_ranked_4 (by decide) (fun c4 => ?_) (fun c4 => ?_)
  · have E := o_neg c4 E
    refine aI_iload_n X.1 dX9_ranked_10 rfl ?_
    refine aI_aload_n X.1 dX9_ranked_11 rfl ?_
    refine gf_9_12 X dX9_ranked_12 ?_
    refine gf_9_96 X dX9_ranked_15 ?_
    refine aI_icmp_ge (tgt := 33) X.1 dX9_ranked_18 (by decide) (fun c5 => ?_) (fun c5 => ?_)
    · have E := o_pos c5 E
      refine aI_iconst (v := -1) X.1 dX9_ranked_33 (by decide) ?_
      exact aI_iret E (hret _ _ dX9_ranked_34)
    · have E := o_neg c5 E
      refine aI_aload_n X.1 dX9_ranked_21 rfl ?_
      refine gf_9_12 X dX9_ranked_22 ?_
      refine gf_9_148 X dX9_ranked_25 ?_
      refine aI_iload_n X.1 dX9_ranked_28 rfl ?_
      obtain ⟨g6, E⟩ := o_if E
      refine al0_5 X g6 dX9_ranked_29 ?_
      refine aI_goto (tgt := 34) X.1 dX9_ranked_30 (by decide) ?_
      exact aI_iret E (hret _ _ dX9_ranked_34)
  · have E := o_pos c4 E
    refine aI_bipush (v := -2) X.1 dX9_ranked_7 (by decide) ?_
    exact aI_iret E (hret _ _ dX9_ranked_9)
theorem c_X9_ranked {q : Nat → Nat} {p1 : Int32}  {r : Int32} {h2 : hp_T} {h : hp_T} (E : f_X9_ranked p1 h = some (r, h2)) : cI 0 yX9_ranked cX9_ranked 2 .int 1 20 q [.ref (q 0), .int p1] h r h2 := metI (own := RX9) (by decide) rfl (Nat.le_of_ble_eq_true rfl) rfl (fun Γ X N hret => w_X9_ranked X N hret E)
set_option maxRecDepth 4000 in
theorem w_X8_hang_L1 {Γ : g_T} {q : Nat → Nat}  {u1 : Int32}  {h2 : hp_T} (X : aC 0 Γ q RX8 cX8_hang 0 0) (N : ∀ k, k < 6 → aN Γ k) (hret : ∀ pc lv, decode cX8_hang pc = .ok (.return_, 1) → aA Γ pc lv [] h2) {K : Int32 → Int32 → Int32 → hp_T → Option (hp_T)} (hk : ∀ v3 v4 v5 h, K v3 v4 v5 h = some h2 → aA Γ 65 [some (.ref (q 12)), some (.int u1), some (.ref (q 1)), some (.int v3), some (.int v4), some (.int v5)] [] h) : ∀ (n : Nat) (v3 : Int32) (v4 : Int32) (v5 : Int32) (h : hp_T), f_X8_hang_L1 u1 K n v3 v4 v5 h = some h2 → aA Γ 11 [some (.ref (q 12)), some (.int u1), some (.ref (q 1)), some (.int v3), some (.int v4), some (.int v5)] [] h := by
  intro n
  induction n with
  | zero =>
    intro v3 v4 v5 h E
    cases E
  | succ n ih =>
    intro v3 v4 v5 h E
    rw [f_X8_hang_L1] at E
    refine aI_iload X.1 dX8_hang_11 rfl ?_
    refine aI_iconst (v := -1) X.1 dX8_hang_13 (by decide) ?_
    refine aI_icmp_eq (tgt := 65) X.1 dX8_hang_14 (by decide) (fun c2 => ?_) (fun c2 => ?_)
    · have E := o_pos c2 E
      exact hk v3 v4 v5 h E
    · have E := o_neg c2 E
      refine aI_iload X.1 dX8_hang_17 rfl ?_
      refine aI_bipush (v := 48) X.1 dX8_hang_19 (by decide) ?_
      refine aI_icmp_ge (tgt := 65) X.1 dX8_hang_21 (by decide) (fun c3 => ?_) (fun c3 => ?_)
      · have E := o_pos c3 E
        exact hk v3 v4 v5 h E
      · have E := o_neg c3 E
        refine aI_iload X.1 dX8_hang_24 rfl ?_
        refine aI_istore_n (lv2 := [some (.ref (q 12)), some (.int u1), some (.ref (q 1)), some (.int v4), some (.int v4), some (.int v5)]) X.1 dX8_hang_26 (N 3 (by decide)) rfl ?_
        refine aI_aload_n X.1 dX8_hang_27 rfl ?_
        refine gf_8_63 X dX8_hang_28 ?_
        refine aI_iload_n X.1 dX8_hang_31 rfl ?_
        obtain ⟨g4, E⟩ := o_if E
        refine al0_6 X g4 dX8_hang_32 ?_
        refine aI_aload_n X.1 dX8_hang_33 rfl ?_
        refine gf_8_63 X dX8_hang_34 ?_
        refine aI_iload_n X.1 dX8_hang_37 rfl ?_
        obtain ⟨g5, E⟩ := o_if E
        refine al0_6 X g5 dX8_hang_38 ?_
        refine aI_icmp_ge (tgt := 51) X.1 dX8_hang_39 (by decide) (fun c6 => ?_) (fun c6 => ?_)
        · have E := o_pos c6 E
          refine aI_aload_n X.1 dX8_hang_51 rfl ?_
          refine gf_8_21 X dX8_hang_52 ?_
          refine aI_iload_n X.1 dX8_hang_55 rfl ?_
          obtain ⟨g7, E⟩ := o_if E
          refine al0_16 X g7 dX8_hang_56 ?_
          obtain ⟨x8, ex8, E⟩ := o_letE E
          refine aI_eqi ex8 ?_
          refine aI_istore (lv2 := [some (.ref (q 12)), some (.int u1), some (.ref (q 1)), some (.int v4), some (.int x8), some (.int v5)]) X.1 dX8_hang_57 (N 4 (by decide)) rfl ?_
          obtain ⟨x9, ex9, E⟩ := o_letE E
          refine aI_iinc (v := 1) (lv2 := [some (.ref (q 12)), some (.int u1), some (.ref (q 1)), some (.int v4), some (.int x8), some (.int x9)]) X.1 dX8_hang_59 (N 5 (by decide)) rfl (by decide) (by rw [← ex9]; rfl) ?_
          refine aI_goto (tgt := 11) X.1 dX8_hang_62 (by decide) ?_
          exact ih v4 x8 x9 h E
        · have E := o_neg c6 E
          refine aI_aload_n X.1 dX8_hang_42 rfl ?_
          refine gf_8_18 X dX8_hang_43 ?_
          refine aI_iload_n X.1 dX8_hang_46 rfl ?_
          obtain ⟨g10, E⟩ := o_if E
          refine al0_15 X g10 dX8_hang_47 ?_
          refine aI_goto (tgt := 57) X.1 dX8_hang_48 (by decide) ?_
          obtain ⟨x11, ex11, E⟩ := o_letE E
          refine aI_eqi ex11 ?_
          refine aI_istore (lv2 := [some (.ref (q 12)), some (.int u1), some (.ref (q 1)), some (.int v4), some (.int x11), some (.int v5)]) X.1 dX8_hang_57 (N 4 (by decide)) rfl ?_
          obtain ⟨x12, ex12, E⟩ := o_letE E
          refine aI_iinc (v := 1) (lv2 := [some (.ref (q 12)), some (.int u1), some (.ref (q 1)), some (.int v4), some (.int x11), some (.int x12)]) X.1 dX8_hang_59 (N 5 (by decide)) rfl (by decide) (by rw [← ex12]; rfl) ?_
          refine aI_goto (tgt := 11) X.1 dX8_hang_62 (by decide) ?_
          exact ih v4 x11 x12 h E
set_option maxRecDepth 4000 in
theorem w_X8_hang {Γ : g_T} {q : Nat → Nat} {p1 : Int32}  {h2 : hp_T} {h : hp_T} (X : aC 0 Γ q RX8 cX8_hang 0 0) (N : ∀ k, k < 6 → aN Γ k) (hret : ∀ pc lv, decode cX8_hang pc = .ok (.return_, 1) → aA Γ pc lv [] h2) (E : f_X8_hang p1 h = some h2) : aA Γ 0 [some (.ref (q 12)), some (.int p1), some (.ref (q 1)), none, none, none] [] h := by
  unfold f_X8_hang at E
  refine aI_iconst (v := -1) X.1 dX8_hang_0 (by decide) ?_
  refine aI_istore_n (lv2 := [some (.ref (q 12)), some (.int p1), some (.ref (q 1)), some (.int (-1 : Int32)), none, none]) X.1 dX8_hang_1 (N 3 (by decide)) rfl ?_
  refine aI_aload_n X.1 dX8_hang_2 rfl ?_
  refine gf_8_40 X dX8_hang_3 ?_
  obtain ⟨x1, ex1, E⟩ := o_letE E
  refine aI_eqi ex1 ?_
  refine aI_istore (lv2 := [some (.ref (q 12)), some (.int p1), some (.ref (q 1)), some (.int (-1 : Int32)), some (.int x1), none]) X.1 dX8_hang_6 (N 4 (by decide)) rfl ?_
  refine aI_iconst (v := 0) X.1 dX8_hang_8 (by decide) ?_
  refine aI_istore (lv2 := [some (.ref (q 12)), some (.int p1), some (.ref (q 1)), some (.int (-1 : Int32)), some (.int x1), some (.int (0 : Int32))]) X.1 dX8_hang_9 (N 5 (by decide)) rfl ?_
  refine w_X8_hang_L1  X N hret ?_ 100 (-1 : Int32) x1 (0 : Int32) h E
  intro x13 x14 x15 h16 E
  refine aI_aload_n X.1 dX8_hang_65 rfl ?_
  refine gf_8_15 X dX8_hang_66 ?_
  refine aI_iload_n X.1 dX8_hang_69 rfl ?_
  refine aI_iload_n X.1 dX8_hang_70 rfl ?_
  obtain ⟨g17, E⟩ := o_if E
  obtain ⟨h18, eh18, E⟩ := o_letE E
  refine as0_14 X g17 dX8_hang_71 (aI_eqh eh18 ?_)
  refine aI_aload_n X.1 dX8_hang_72 rfl ?_
  refine gf_8_18 X dX8_hang_73 ?_
  refine aI_iload_n X.1 dX8_hang_76 rfl ?_
  refine aI_iconst (v := -1) X.1 dX8_hang_77 (by decide) ?_
  obtain ⟨g19, E⟩ := o_if E
  obtain ⟨h20, eh20, E⟩ := o_letE E
  refine as0_15 X g19 dX8_hang_78 (aI_eqh eh20 ?_)
  refine aI_aload_n X.1 dX8_hang_79 rfl ?_
  refine gf_8_21 X dX8_hang_80 ?_
  refine aI_iload_n X.1 dX8_hang_83 rfl ?_
  refine aI_iconst (v := -1) X.1 dX8_hang_84 (by decide) ?_
  obtain ⟨g21, E⟩ := o_if E
  obtain ⟨h22, eh22, E⟩ := o_letE E
  refine as0_16 X g21 dX8_hang_85 (aI_eqh eh22 ?_)
  refine aI_aload_n X.1 dX8_hang_86 rfl ?_
  refine gf_8_24 X dX8_hang_87 ?_
  refine aI_iload_n X.1 dX8_hang_90 rfl ?_
  refine aI_iload X.1 dX8_hang_91 rfl ?_
  obtain ⟨g23, E⟩ := o_if E
  obtain ⟨h24, eh24, E⟩ := o_letE E
  refine as0_17 X g23 dX8_hang_93 (aI_eqh eh24 ?_)
  refine aI_aload_n X.1 dX8_hang_94 rfl ?_
  refine gf_8_27 X dX8_hang_95 ?_
  refine aI_iload_n X.1 dX8_hang_98 rfl ?_
  refine aI_iconst (v := 1) X.1 dX8_hang_99 (by decide) ?_
  obtain ⟨g25, E⟩ := o_if E
  obtain ⟨h26, eh26, E⟩ := o_letE E
  refine as0_18 X g25 dX8_hang_100 (aI_eqh eh26 ?_)
  refine aI_aload_n X.1 dX8_hang_101 rfl ?_
  refine gf_8_30 X dX8_hang_102 ?_
  refine aI_iload_n X.1 dX8_hang_105 rfl ?_
  refine aI_iconst (v := 1) X.1 dX8_hang_106 (by decide) ?_
  obtain ⟨g27, E⟩ := o_if E
  obtain ⟨h28, eh28, E⟩ := o_letE E
  refine as0_19 X g27 dX8_hang_107 (aI_eqh eh28 ?_)
  refine aI_aload_n X.1 dX8_hang_108 rfl ?_
  refine gf_8_33 X dX8_hang_109 ?_
  refine aI_iload_n X.1 dX8_hang_112 rfl ?_
  refine aI_aload_n X.1 dX8_hang_113 rfl ?_
  refine gf_8_66 X dX8_hang_114 ?_
  refine aI_iload_n X.1 dX8_hang_117 rfl ?_
  obtain ⟨g29, E⟩ := o_if E
  refine al0_3 X g29 dX8_hang_118 ?_
  obtain ⟨g30, E⟩ := o_if E
  obtain ⟨h31, eh31, E⟩ := o_letE E
  refine as0_20 X g30 dX8_hang_119 (aI_eqh eh31 ?_)
  refine aI_iload_n X.1 dX8_hang_120 rfl ?_
  refine aI_iconst (v := -1) X.1 dX8_hang_121 (by decide) ?_
  refine aI_icmp_ne (tgt := 133) X.1 dX8_hang_122 (by decide) (fun c32 => ?_) (fun c32 => ?_)
  · have E := o_neg c32 E
    refine aI_aload_n X.1 dX8_hang_133 rfl ?_
    refine gf_8_63 X dX8_hang_134 ?_
    refine aI_iload_n X.1 dX8_hang_137 rfl ?_
    obtain ⟨g33, E⟩ := o_if E
    refine al0_6 X g33 dX8_hang_138 ?_
    refine aI_aload_n X.1 dX8_hang_139 rfl ?_
    refine gf_8_63 X dX8_hang_140 ?_
    refine aI_iload_n X.1 dX8_hang_143 rfl ?_
    obtain ⟨g34, E⟩ := o_if E
    refine al0_6 X g34 dX8_hang_144 ?_
    refine aI_icmp_ge (tgt := 158) X.1 dX8_hang_145 (by decide) (fun c35 => ?_) (fun c35 => ?_)
    · have E := o_pos c35 E
      refine aI_aload_n X.1 dX8_hang_158 rfl ?_
      refine gf_8_21 X dX8_hang_159 ?_
      refine aI_iload_n X.1 dX8_hang_162 rfl ?_
      refine aI_iload_n X.1 dX8_hang_163 rfl ?_
      obtain ⟨g36, E⟩ := o_if E
      obtain ⟨h37, eh37, E⟩ := o_letE E
      refine as0_16 X g36 dX8_hang_164 (aI_eqh eh37 ?_)
      exact aI_vret E (hret _ _ dX8_hang_165)
    · have E := o_neg c35 E
      refine aI_aload_n X.1 dX8_hang_148 rfl ?_
      refine gf_8_18 X dX8_hang_149 ?_
      refine aI_iload_n X.1 dX8_hang_152 rfl ?_
      refine aI_iload_n X.1 dX8_hang_153 rfl ?_
      obtain ⟨g38, E⟩ := o_if E
      obtain ⟨h39, eh39, E⟩ := o_letE E
      refine as0_15 X g38 dX8_hang_154 (aI_eqh eh39 ?_)
      refine aI_goto (tgt := 165) X.1 dX8_hang_155 (by decide) ?_
      exact aI_vret E (hret _ _ dX8_hang_165)
  · have E := o_pos c32 E
    refine aI_aload_n X.1 dX8_hang_125 rfl ?_
    refine aI_iload_n X.1 dX8_hang_126 rfl ?_
    obtain ⟨h40, eh40, E⟩ := o_letE E
    refine pf_8_40 X dX8_hang_127 (aI_eqh eh40 ?_)
    refine aI_goto (tgt := 165) X.1 dX8_hang_130 (by decide) ?_
    exact aI_vret E (hret _ _ dX8_hang_165)
theorem c_X8_hang {q : Nat → Nat} {p1 : Int32}  {h2 : hp_T} {h : hp_T} (E : f_X8_hang p1 h = some h2) : cV 0 yX8_hang cX8_hang 6 0 0 q [.ref (q 12), .int p1, .ref (q 1)] h h2 := metV (own := RX8) (by decide) rfl (Nat.le_of_ble_eq_true rfl) rfl (fun Γ X N hret => w_X8_hang X N hret E)
set_option maxRecDepth 4000 in
theorem w_X8_tellAbove {Γ : g_T} {q : Nat → Nat} {p1 : Int32} {p2 : Int32}  {h2 : hp_T} {h : hp_T} (X : aC 0 Γ q RX8 cX8_tellAbove 1 21) (N : ∀ k, k < 3 → aN Γ k) (hret : ∀ pc lv, decode cX8_tellAbove pc = .ok (.return_, 1) → aA Γ pc lv [] h2) (E : f_X8_tellAbove p1 p2 h = some h2) : aA Γ 0 [some (.ref (q 12)), some (.int p1), some (.int p2)] [] h := by
  unfold f_X8_tellAbove at E
  refine aI_aload_n X.1 dX8_tellAbove_0 rfl ?_
  refine gf_8_27 X dX8_tellAbove_1 ?_
  refine aI_iload_n X.1 dX8_tellAbove_4 rfl ?_
  refine aI_dup2 X.1 dX8_tellAbove_5 rfl rfl ?_
  obtain ⟨g1, E⟩ := o_if E
  refine al0_18 X g1 dX8_tellAbove_6 ?_
  refine aI_aload_n X.1 dX8_tellAbove_7 rfl ?_
  refine gf_8_27 X dX8_tellAbove_8 ?_
  refine aI_iload_n X.1 dX8_tellAbove_11 rfl ?_
  obtain ⟨g2, E⟩ := o_if E
  refine al0_18 X g2 dX8_tellAbove_12 ?_
  refine aI_iadd X.1 dX8_tellAbove_13 ?_
  obtain ⟨g3, E⟩ := o_if E
  obtain ⟨h4, eh4, E⟩ := o_letE E
  refine as0_18 X g3 dX8_tellAbove_14 (aI_eqh eh4 ?_)
  refine aI_aload_n X.1 dX8_tellAbove_15 rfl ?_
  refine gf_8_30 X dX8_tellAbove_16 ?_
  refine aI_iload_n X.1 dX8_tellAbove_19 rfl ?_
  refine aI_aload_n X.1 dX8_tellAbove_20 rfl ?_
  refine gf_8_30 X dX8_tellAbove_21 ?_
  refine aI_iload_n X.1 dX8_tellAbove_24 rfl ?_
  obtain ⟨g5, E⟩ := o_if E
  refine al0_19 X g5 dX8_tellAbove_25 ?_
  refine aI_aload_n X.1 dX8_tellAbove_26 rfl ?_
  refine gf_8_30 X dX8_tellAbove_27 ?_
  refine aI_iload_n X.1 dX8_tellAbove_30 rfl ?_
  obtain ⟨g6, E⟩ := o_if E
  refine al0_19 X g6 dX8_tellAbove_31 ?_
  refine aI_iconst (v := 1) X.1 dX8_tellAbove_32 (by decide) ?_
  refine aI_iadd X.1 dX8_tellAbove_33 ?_
  refine aI_max X.1 ml_8_69 ms_max mi_Math mc_max (by decide) (Nat.le_of_ble_eq_true rfl) dX8_tellAbove_34 ?_
  obtain ⟨g7, E⟩ := o_if E
  obtain ⟨h8, eh8, E⟩ := o_letE E
  refine as0_19 X g7 dX8_tellAbove_37 (aI_eqh eh8 ?_)
  refine aI_aload_n X.1 dX8_tellAbove_38 rfl ?_
  refine gf_8_33 X dX8_tellAbove_39 ?_
  refine aI_iload_n X.1 dX8_tellAbove_42 rfl ?_
  refine aI_aload_n X.1 dX8_tellAbove_43 rfl ?_
  refine gf_8_33 X dX8_tellAbove_44 ?_
  refine aI_iload_n X.1 dX8_tellAbove_47 rfl ?_
  obtain ⟨g9, E⟩ := o_if E
  refine al0_20 X g9 dX8_tellAbove_48 ?_
  refine aI_aload_n X.1 dX8_tellAbove_49 rfl ?_
  refine gf_8_33 X dX8_tellAbove_50 ?_
  refine aI_iload_n X.1 dX8_tellAbove_53 rfl ?_
  obtain ⟨g10, E⟩ := o_if E
  refine al0_20 X g10 dX8_tellAbove_54 ?_
  refine aI_max X.1 ml_8_69 ms_max mi_Math mc_max (by decide) (Nat.le_of_ble_eq_true rfl) dX8_tellAbove_55 ?_
  obtain ⟨g11, E⟩ := o_if E
  obtain ⟨h12, eh12, E⟩ := o_letE E
  refine as0_20 X g11 dX8_tellAbove_58 (aI_eqh eh12 ?_)
  exact aI_vret E (hret _ _ dX8_tellAbove_59)
theorem c_X8_tellAbove {q : Nat → Nat} {p1 : Int32} {p2 : Int32}  {h2 : hp_T} {h : hp_T} (E : f_X8_tellAbove p1 p2 h = some h2) : cV 0 yX8_tellAbove cX8_tellAbove 3 1 21 q [.ref (q 12), .int p1, .int p2] h h2 := metV (own := RX8) (by decide) rfl (Nat.le_of_ble_eq_true rfl) rfl (fun Γ X N hret => w_X8_tellAbove X N hret E)
set_option maxRecDepth 4000 in
theorem w_X8_build_L1 {Γ : g_T} {q : Nat → Nat}    {h2 : hp_T} (X : aC 0 Γ q RX8 cX8_build 2 43) (N : ∀ k, k < 4 → aN Γ k) (hret : ∀ pc lv, decode cX8_build pc = .ok (.return_, 1) → aA Γ pc lv [] h2) {K : Int32 → hp_T → Option (hp_T)} (hk : ∀ v2 h, K v2 h = some h2 → aA Γ 44 [some (.ref (q 12)), some (.ref (q 1)), some (.int v2), none] [] h) : ∀ (n : Nat) (v2 : Int32) (h : hp_T), f_X8_build_L1 K n v2 h = some h2 → aA Γ 7 [some (.ref (q 12)), some (.ref (q 1)), some (.int v2), none] [] h := by
  intro n
  induction n with
  | zero =>
    intro v2 h E
    cases E
  | succ n ih =>
    intro v2 h E
    rw [f_X8_build_L1] at E
    refine aI_iload_n X.1 dX8_build_7 rfl ?_
    refine aI_bipush (v := 48) X.1 dX8_build_8 (by decide) ?_
    refine aI_icmp_ge (tgt := 44) X.1 dX8_build_10 (by decide) (fun c2 => ?_) (fun c2 => ?_)
    · have E := o_pos c2 E
      exact hk v2 h E
    · have E := o_neg c2 E
      refine aI_aload_n X.1 dX8_build_13 rfl ?_
      refine gf_8_50 X dX8_build_14 ?_
      refine aI_aload_n X.1 dX8_build_17 rfl ?_
      refine gf_8_9 X dX8_build_18 ?_
      refine aI_iload_n X.1 dX8_build_21 rfl ?_
      obtain ⟨g3, E⟩ := o_if E
      refine al0_13 X g3 dX8_build_22 ?_
      obtain ⟨g4, E⟩ := o_if E
      refine al0_4 X g4 dX8_build_23 ?_
      refine aI_if_eq (tgt := 38) X.1 dX8_build_24 (by decide) (fun c5 => ?_) (fun c5 => ?_)
      · have E := o_pos c5 E
        obtain ⟨x6, ex6, E⟩ := o_letE E
        refine aI_iinc (v := 1) (lv2 := [some (.ref (q 12)), some (.ref (q 1)), some (.int x6), none]) X.1 dX8_build_38 (N 2 (by decide)) rfl (by decide) (by rw [← ex6]; rfl) ?_
        refine aI_goto (tgt := 7) X.1 dX8_build_41 (by decide) ?_
        exact ih x6 h E
      · have E := o_neg c5 E
        refine aI_aload_n X.1 dX8_build_27 rfl ?_
        refine aI_aload_n X.1 dX8_build_28 rfl ?_
        refine gf_8_9 X dX8_build_29 ?_
        refine aI_iload_n X.1 dX8_build_32 rfl ?_
        obtain ⟨g7, E⟩ := o_if E
        refine al0_13 X g7 dX8_build_33 ?_
        refine aI_aload_n X.1 dX8_build_34 rfl ?_
        obtain ⟨h8, e9, E⟩ := o_cvE E
        refine cv_X8_hang X (c_X8_hang e9) ml_8_55 (by decide) (by decide) (Nat.le_of_ble_eq_true rfl) dX8_build_35 ?_
        obtain ⟨x10, ex10, E⟩ := o_letE E
        refine aI_iinc (v := 1) (lv2 := [some (.ref (q 12)), some (.ref (q 1)), some (.int x10), none]) X.1 dX8_build_38 (N 2 (by decide)) rfl (by decide) (by rw [← ex10]; rfl) ?_
        refine aI_goto (tgt := 7) X.1 dX8_build_41 (by decide) ?_
        exact ih x10 h8 E
set_option maxRecDepth 4000 in
theorem w_X8_build_L2 {Γ : g_T} {q : Nat → Nat}    {h2 : hp_T} (X : aC 0 Γ q RX8 cX8_build 2 43) (N : ∀ k, k < 4 → aN Γ k) (hret : ∀ pc lv, decode cX8_build pc = .ok (.return_, 1) → aA Γ pc lv [] h2) {K : Int32 → hp_T → Option (hp_T)} (hk : ∀ v2 h, K v2 h = some h2 → aA Γ 94 [some (.ref (q 12)), some (.ref (q 1)), some (.int v2), none] [] h) : ∀ (n : Nat) (v2 : Int32) (h : hp_T), f_X8_build_L2 K n v2 h = some h2 → aA Γ 47 [some (.ref (q 12)), some (.ref (q 1)), some (.int v2), none] [] h := by
  intro n
  induction n with
  | zero =>
    intro v2 h E
    cases E
  | succ n ih =>
    intro v2 h E
    rw [f_X8_build_L2] at E
    refine aI_iload_n X.1 dX8_build_47 rfl ?_
    refine aI_if_lt (tgt := 94) X.1 dX8_build_48 (by decide) (fun c13 => ?_) (fun c13 => ?_)
    · have E := o_pos c13 E
      exact hk v2 h E
    · have E := o_neg c13 E
      refine aI_aload_n X.1 dX8_build_51 rfl ?_
      refine gf_8_9 X dX8_build_52 ?_
      refine aI_iload_n X.1 dX8_build_55 rfl ?_
      obtain ⟨g14, E⟩ := o_if E
      refine al0_13 X g14 dX8_build_56 ?_
      obtain ⟨x15, ex15, E⟩ := o_letE E
      refine aI_eqi ex15 ?_
      refine aI_istore_n (lv2 := [some (.ref (q 12)), some (.ref (q 1)), some (.int v2), some (.int x15)]) X.1 dX8_build_57 (N 3 (by decide)) rfl ?_
      refine aI_aload_n X.1 dX8_build_58 rfl ?_
      refine gf_8_50 X dX8_build_59 ?_
      refine aI_iload_n X.1 dX8_build_62 rfl ?_
      obtain ⟨g16, E⟩ := o_if E
      refine al0_4 X g16 dX8_build_63 ?_
      refine aI_if_eq (tgt := 88) X.1 dX8_build_64 (by decide) (fun c17 => ?_) (fun c17 => ?_)
      · have E := o_pos c17 E
        obtain ⟨x18, ex18, E⟩ := o_letE E
        refine aI_iinc (v := -1) (lv2 := [some (.ref (q 12)), some (.ref (q 1)), some (.int x18), some (.int x15)]) X.1 dX8_build_88 (N 2 (by decide)) rfl (by decide) (by rw [← ex18]; rfl) ?_
        refine aI_goto (tgt := 47) X.1 dX8_build_91 (by decide) ?_
        refine aI_lv [true, true, true, false] (lv2 := [some (.ref (q 12)), some (.ref (q 1)), some (.int x18), none]) rfl ?_
        exact ih x18 h E
      · have E := o_neg c17 E
        refine aI_aload_n X.1 dX8_build_67 rfl ?_
        refine gf_8_15 X dX8_build_68 ?_
        refine aI_iload_n X.1 dX8_build_71 rfl ?_
        obtain ⟨g19, E⟩ := o_if E
        refine al0_14 X g19 dX8_build_72 ?_
        refine aI_iconst (v := -1) X.1 dX8_build_73 (by decide) ?_
        refine aI_icmp_eq (tgt := 88) X.1 dX8_build_74 (by decide) (fun c20 => ?_) (fun c20 => ?_)
        · have E := o_pos c20 E
          obtain ⟨x21, ex21, E⟩ := o_letE E
          refine aI_iinc (v := -1) (lv2 := [some (.ref (q 12)), some (.ref (q 1)), some (.int x21), some (.int x15)]) X.1 dX8_build_88 (N 2 (by decide)) rfl (by decide) (by rw [← ex21]; rfl) ?_
          refine aI_goto (tgt := 47) X.1 dX8_build_91 (by decide) ?_
          refine aI_lv [true, true, true, false] (lv2 := [some (.ref (q 12)), some (.ref (q 1)), some (.int x21), none]) rfl ?_
          exact ih x21 h E
        · have E := o_neg c20 E
          refine aI_aload_n X.1 dX8_build_77 rfl ?_
          refine aI_iload_n X.1 dX8_build_78 rfl ?_
          refine aI_aload_n X.1 dX8_build_79 rfl ?_
          refine gf_8_15 X dX8_build_80 ?_
          refine aI_iload_n X.1 dX8_build_83 rfl ?_
          obtain ⟨g22, E⟩ := o_if E
          refine al0_14 X g22 dX8_build_84 ?_
          obtain ⟨h23, e24, E⟩ := o_cvE E
          refine cv_X8_tellAbove X (c_X8_tellAbove e24) ml_8_59 (by decide) (by decide) (Nat.le_of_ble_eq_true rfl) dX8_build_85 ?_
          obtain ⟨x25, ex25, E⟩ := o_letE E
          refine aI_iinc (v := -1) (lv2 := [some (.ref (q 12)), some (.ref (q 1)), some (.int x25), some (.int x15)]) X.1 dX8_build_88 (N 2 (by decide)) rfl (by decide) (by rw [← ex25]; rfl) ?_
          refine aI_goto (tgt := 47) X.1 dX8_build_91 (by decide) ?_
          refine aI_lv [true, true, true, false] (lv2 := [some (.ref (q 12)), some (.ref (q 1)), some (.int x25), none]) rfl ?_
          exact ih x25 h23 E
set_option maxRecDepth 4000 in
theorem w_X8_build {Γ : g_T} {q : Nat → Nat}   {h2 : hp_T} {h : hp_T} (X : aC 0 Γ q RX8 cX8_build 2 43) (N : ∀ k, k < 4 → aN Γ k) (hret : ∀ pc lv, decode cX8_build pc = .ok (.return_, 1) → aA Γ pc lv [] h2) (E : f_X8_build  h = some h2) : aA Γ 0 [some (.ref (q 12)), some (.ref (q 1)), none, none] [] h := by
  unfold f_X8_build at E
  refine aI_aload_n X.1 dX8_build_0 rfl ?_
  refine aI_iconst (v := -1) X.1 dX8_build_1 (by decide) ?_
  obtain ⟨h1, eh1, E⟩ := o_letE E
  refine pf_8_40 X dX8_build_2 (aI_eqh eh1 ?_)
  refine aI_iconst (v := 0) X.1 dX8_build_5 (by decide) ?_
  refine aI_istore_n (lv2 := [some (.ref (q 12)), some (.ref (q 1)), some (.int (0 : Int32)), none]) X.1 dX8_build_6 (N 2 (by decide)) rfl ?_
  refine w_X8_build_L1  X N hret ?_ 100 (0 : Int32) h1 E
  intro x11 h12 E
  refine aI_bipush (v := 47) X.1 dX8_build_44 (by decide) ?_
  refine aI_istore_n (lv2 := [some (.ref (q 12)), some (.ref (q 1)), some (.int (47 : Int32)), none]) X.1 dX8_build_46 (N 2 (by decide)) rfl ?_
  refine w_X8_build_L2  X N hret ?_ 100 (47 : Int32) h12 E
  intro x26 h27 E
  exact aI_vret E (hret _ _ dX8_build_94)
theorem c_X8_build {q : Nat → Nat}   {h2 : hp_T} {h : hp_T} (E : f_X8_build  h = some h2) : cV 0 yX8_build cX8_build 4 2 43 q [.ref (q 12), .ref (q 1)] h h2 := metV (own := RX8) (by decide) rfl (Nat.le_of_ble_eq_true rfl) rfl (fun Γ X N hret => w_X8_build X N hret E)
set_option maxRecDepth 4000 in
theorem w_X1_addPart {Γ : g_T} {q : Nat → Nat} {p1 : Int32} {p2 : Int32}  {h2 : hp_T} {h : hp_T} (X : aC 0 Γ q RX1 cX1_addPart 0 0) (N : ∀ k, k < 3 → aN Γ k) (hret : ∀ pc lv, decode cX1_addPart pc = .ok (.return_, 1) → aA Γ pc lv [] h2) (E : f_X1_addPart p1 p2 h = some h2) : aA Γ 0 [some (.ref (q 22)), some (.int p1), some (.int p2)] [] h := by
  unfold f_X1_addPart at E
  refine aI_iload_n X.1 dX1_addPart_0 rfl ?_
  refine aI_iload_n X.1 dX1_addPart_1 rfl ?_
  refine aI_icmp_ge (tgt := 44) X.1 dX1_addPart_2 (by decide) (fun c1 => ?_) (fun c1 => ?_)
  · have E := o_pos c1 E
    exact aI_vret E (hret _ _ dX1_addPart_44)
  · have E := o_neg c1 E
    refine aI_aload_n X.1 dX1_addPart_5 rfl ?_
    refine gf_1_18 X dX1_addPart_6 ?_
    refine aI_bipush (v := 48) X.1 dX1_addPart_9 (by decide) ?_
    refine aI_icmp_gt (tgt := 44) X.1 dX1_addPart_11 (by decide) (fun c2 => ?_) (fun c2 => ?_)
    · have E := o_pos c2 E
      exact aI_vret E (hret _ _ dX1_addPart_44)
    · have E := o_neg c2 E
      refine aI_aload_n X.1 dX1_addPart_14 rfl ?_
      refine gf_1_9 X dX1_addPart_15 ?_
      refine aI_aload_n X.1 dX1_addPart_18 rfl ?_
      refine gf_1_18 X dX1_addPart_19 ?_
      refine aI_iload_n X.1 dX1_addPart_22 rfl ?_
      obtain ⟨g3, E⟩ := o_if E
      obtain ⟨h4, eh4, E⟩ := o_letE E
      refine as0_23 X g3 dX1_addPart_23 (aI_eqh eh4 ?_)
      refine aI_aload_n X.1 dX1_addPart_24 rfl ?_
      refine gf_1_15 X dX1_addPart_25 ?_
      refine aI_aload_n X.1 dX1_addPart_28 rfl ?_
      refine gf_1_18 X dX1_addPart_29 ?_
      refine aI_iload_n X.1 dX1_addPart_32 rfl ?_
      obtain ⟨g5, E⟩ := o_if E
      obtain ⟨h6, eh6, E⟩ := o_letE E
      refine as0_24 X g5 dX1_addPart_33 (aI_eqh eh6 ?_)
      refine aI_aload_n X.1 dX1_addPart_34 rfl ?_
      refine aI_dup X.1 dX1_addPart_35 rfl ?_
      refine gf_1_18 X dX1_addPart_36 ?_
      refine aI_iconst (v := 1) X.1 dX1_addPart_39 (by decide) ?_
      refine aI_iadd X.1 dX1_addPart_40 ?_
      obtain ⟨h7, eh7, E⟩ := o_letE E
      refine pf_1_18 X dX1_addPart_41 (aI_eqh eh7 ?_)
      exact aI_vret E (hret _ _ dX1_addPart_44)
theorem c_X1_addPart {q : Nat → Nat} {p1 : Int32} {p2 : Int32}  {h2 : hp_T} {h : hp_T} (E : f_X1_addPart p1 p2 h = some h2) : cV 0 yX1_addPart cX1_addPart 3 0 0 q [.ref (q 22), .int p1, .int p2] h h2 := metV (own := RX1) (by decide) rfl (Nat.le_of_ble_eq_true rfl) rfl (fun Γ X N hret => w_X1_addPart X N hret E)
set_option maxRecDepth 4000 in
theorem w_X1_build_L1 {Γ : g_T} {q : Nat → Nat}    {h2 : hp_T} (X : aC 0 Γ q RX1 cX1_build 1 22) (N : ∀ k, k < 5 → aN Γ k) (hret : ∀ pc lv, decode cX1_build pc = .ok (.return_, 1) → aA Γ pc lv [] h2) {K : Int32 → Int32 → hp_T → Option (hp_T)} (hk : ∀ v2 v3 h, K v2 v3 h = some h2 → aA Γ 56 [some (.ref (q 22)), some (.ref (q 1)), some (.int v2), some (.int v3), none] [] h) : ∀ (n : Nat) (v2 : Int32) (v3 : Int32) (h : hp_T), f_X1_build_L1 K n v2 v3 h = some h2 → aA Γ 10 [some (.ref (q 22)), some (.ref (q 1)), some (.int v2), some (.int v3), none] [] h := by
  intro n
  induction n with
  | zero =>
    intro v2 v3 h E
    cases E
  | succ n ih =>
    intro v2 v3 h E
    rw [f_X1_build_L1] at E
    refine aI_iload_n X.1 dX1_build_10 rfl ?_
    refine aI_aload_n X.1 dX1_build_11 rfl ?_
    refine gf_1_23 X dX1_build_12 ?_
    refine aI_icmp_ge (tgt := 56) X.1 dX1_build_15 (by decide) (fun c2 => ?_) (fun c2 => ?_)
    · have E := o_pos c2 E
      exact hk v2 v3 h E
    · have E := o_neg c2 E
      refine aI_aload_n X.1 dX1_build_18 rfl ?_
      refine gf_1_26 X dX1_build_19 ?_
      refine aI_iload_n X.1 dX1_build_22 rfl ?_
      obtain ⟨g3, E⟩ := o_if E
      refine al0_5 X g3 dX1_build_23 ?_
      obtain ⟨x4, ex4, E⟩ := o_letE E
      refine aI_eqi ex4 ?_
      refine aI_istore (lv2 := [some (.ref (q 22)), some (.ref (q 1)), some (.int v2), some (.int v3), some (.int x4)]) X.1 dX1_build_24 (N 4 (by decide)) rfl ?_
      refine aI_aload_n X.1 dX1_build_26 rfl ?_
      refine aI_iload_n X.1 dX1_build_27 rfl ?_
      refine aI_aload_n X.1 dX1_build_28 rfl ?_
      refine gf_1_29 X dX1_build_29 ?_
      refine aI_iload X.1 dX1_build_32 rfl ?_
      obtain ⟨g5, E⟩ := o_if E
      refine al0_2 X g5 dX1_build_34 ?_
      obtain ⟨h6, e7, E⟩ := o_cvE E
      refine cv_X1_addPart X (c_X1_addPart e7) ml_1_32 (by decide) (by decide) (Nat.le_of_ble_eq_true rfl) dX1_build_35 ?_
      refine aI_iload_n X.1 dX1_build_38 rfl ?_
      refine aI_aload_n X.1 dX1_build_39 rfl ?_
      refine gf_1_36 X dX1_build_40 ?_
      refine aI_iload X.1 dX1_build_43 rfl ?_
      obtain ⟨g8, E⟩ := o_if E
      refine al0_3 X g8 dX1_build_45 ?_
      refine aI_max X.1 ml_1_39 ms_max mi_Math mc_max (by decide) (Nat.le_of_ble_eq_true rfl) dX1_build_46 ?_
      obtain ⟨x9, ex9, E⟩ := o_letE E
      refine aI_eqi ex9 ?_
      refine aI_istore_n (lv2 := [some (.ref (q 22)), some (.ref (q 1)), some (.int x9), some (.int v3), some (.int x4)]) X.1 dX1_build_49 (N 2 (by decide)) rfl ?_
      obtain ⟨x10, ex10, E⟩ := o_letE E
      refine aI_iinc (v := 1) (lv2 := [some (.ref (q 22)), some (.ref (q 1)), some (.int x9), some (.int x10), some (.int x4)]) X.1 dX1_build_50 (N 3 (by decide)) rfl (by decide) (by rw [← ex10]; rfl) ?_
      refine aI_goto (tgt := 10) X.1 dX1_build_53 (by decide) ?_
      refine aI_lv [true, true, true, true, false] (lv2 := [some (.ref (q 22)), some (.ref (q 1)), some (.int x9), some (.int x10), none]) rfl ?_
      exact ih x9 x10 h6 E
set_option maxRecDepth 4000 in
theorem w_X1_build {Γ : g_T} {q : Nat → Nat}   {h2 : hp_T} {h : hp_T} (X : aC 0 Γ q RX1 cX1_build 1 22) (N : ∀ k, k < 5 → aN Γ k) (hret : ∀ pc lv, decode cX1_build pc = .ok (.return_, 1) → aA Γ pc lv [] h2) (E : f_X1_build  h = some h2) : aA Γ 0 [some (.ref (q 22)), some (.ref (q 1)), none, none, none] [] h := by
  unfold f_X1_build at E
  refine aI_aload_n X.1 dX1_build_0 rfl ?_
  refine aI_iconst (v := 0) X.1 dX1_build_1 (by decide) ?_
  obtain ⟨h1, eh1, E⟩ := o_letE E
  refine pf_1_18 X dX1_build_2 (aI_eqh eh1 ?_)
  refine aI_ldc X.1 dX1_build_5 kc_1_22 ?_
  refine aI_istore_n (lv2 := [some (.ref (q 22)), some (.ref (q 1)), some (.int (-1000000000 : Int32)), none, none]) X.1 dX1_build_7 (N 2 (by decide)) rfl ?_
  refine aI_iconst (v := 0) X.1 dX1_build_8 (by decide) ?_
  refine aI_istore_n (lv2 := [some (.ref (q 22)), some (.ref (q 1)), some (.int (-1000000000 : Int32)), some (.int (0 : Int32)), none]) X.1 dX1_build_9 (N 3 (by decide)) rfl ?_
  refine w_X1_build_L1  X N hret ?_ 100 (-1000000000 : Int32) (0 : Int32) h1 E
  intro x11 x12 h13 E
  refine aI_aload_n X.1 dX1_build_56 rfl ?_
  refine aI_iload_n X.1 dX1_build_57 rfl ?_
  refine aI_ldc X.1 dX1_build_58 kc_1_45 ?_
  obtain ⟨h14, e15, E⟩ := o_cvE E
  refine cv_X1_addPart X (c_X1_addPart e15) ml_1_32 (by decide) (by decide) (Nat.le_of_ble_eq_true rfl) dX1_build_60 ?_
  exact aI_vret E (hret _ _ dX1_build_63)
theorem c_X1_build {q : Nat → Nat}   {h2 : hp_T} {h : hp_T} (E : f_X1_build  h = some h2) : cV 0 yX1_build cX1_build 5 1 22 q [.ref (q 22), .ref (q 1)] h h2 := metV (own := RX1) (by decide) rfl (Nat.le_of_ble_eq_true rfl) rfl (fun Γ X N hret => w_X1_build X N hret E)
