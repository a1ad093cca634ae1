set_option maxRecDepth 4000 in
theorem w_X5_giveRoom_L1 {Γ : g_T} {q : Nat → Nat}  {u1 : Int32} {u2 : Int32} {u3 : Int32}  {h2 : hp_T} (X : aC 0 Γ q RX5 cX5_giveRoom 1 21) (N : ∀ k, k < 5 → aN Γ k) (hret : ∀ pc lv, decode cX5_giveRoom pc = .ok (.return_, 1) → aA Γ pc lv [] h2) {K : Int32 → hp_T → Option (hp_T)} (hk : ∀ v4 h, K v4 h = some h2 → aA Γ 29 [some (.ref (q 25)), some (.int u1), some (.int u2), some (.int u3), some (.int v4)] [] h) : ∀ (n : Nat) (v4 : Int32) (h : hp_T), f_X5_giveRoom_L1 u2 K n v4 h = some h2 → aA Γ 3 [some (.ref (q 25)), some (.int u1), some (.int u2), some (.int u3), some (.int v4)] [] h := by
  intro n
  induction n with
  | zero =>
    intro v4 h E
    cases E
  | succ n ih =>
    intro v4 h E
    rw [f_X5_giveRoom_L1] at E
    refine aI_iload X.1 dX5_giveRoom_3 rfl ?_
    refine aI_aload_n X.1 dX5_giveRoom_5 rfl ?_
    refine gf_5_18 X dX5_giveRoom_6 ?_
    refine aI_icmp_ge (tgt := 29) X.1 dX5_giveRoom_9 (by decide) (fun c1 => ?_) (fun c1 => ?_)
    · have E := o_pos c1 E
      exact hk v4 h E
    · have E := o_neg c1 E
      refine aI_aload_n X.1 dX5_giveRoom_12 rfl ?_
      refine gf_5_15 X dX5_giveRoom_13 ?_
      refine aI_iload X.1 dX5_giveRoom_16 rfl ?_
      obtain ⟨g2, E⟩ := o_if E
      refine al0_27 X g2 dX5_giveRoom_18 ?_
      refine aI_iload_n X.1 dX5_giveRoom_19 rfl ?_
      refine aI_icmp_le (tgt := 29) X.1 dX5_giveRoom_20 (by decide) (fun c3 => ?_) (fun c3 => ?_)
      · have E := o_pos c3 E
        exact hk v4 h E
      · have E := o_neg c3 E
        obtain ⟨x4, ex4, E⟩ := o_letE E
        refine aI_iinc (v := 1) (lv2 := [some (.ref (q 25)), some (.int u1), some (.int u2), some (.int u3), some (.int x4)]) X.1 dX5_giveRoom_23 (N 4 (by decide)) rfl (by decide) (by rw [← ex4]; rfl) ?_
        refine aI_goto (tgt := 3) X.1 dX5_giveRoom_26 (by decide) ?_
        exact ih x4 h E
set_option maxRecDepth 4000 in
theorem w_X5_giveRoom {Γ : g_T} {q : Nat → Nat} {p1 : Int32} {p2 : Int32} {p3 : Int32}  {h2 : hp_T} {h : hp_T} (X : aC 0 Γ q RX5 cX5_giveRoom 1 21) (N : ∀ k, k < 5 → aN Γ k) (hret : ∀ pc lv, decode cX5_giveRoom pc = .ok (.return_, 1) → aA Γ pc lv [] h2) (E : f_X5_giveRoom p1 p2 p3 h = some h2) : aA Γ 0 [some (.ref (q 25)), some (.int p1), some (.int p2), some (.int p3), none] [] h := by
  unfold f_X5_giveRoom at E
  refine aI_iconst (v := 0) X.1 dX5_giveRoom_0 (by decide) ?_
  refine aI_istore (lv2 := [some (.ref (q 25)), some (.int p1), some (.int p2), some (.int p3), some (.int (0 : Int32))]) X.1 dX5_giveRoom_1 (N 4 (by decide)) rfl ?_
  refine w_X5_giveRoom_L1  X N hret ?_ 100 (0 : Int32) h E
  intro x5 h6 E
  refine aI_aload_n X.1 dX5_giveRoom_29 rfl ?_
  refine gf_5_9 X dX5_giveRoom_30 ?_
  refine aI_iload_n X.1 dX5_giveRoom_33 rfl ?_
  refine aI_iload X.1 dX5_giveRoom_34 rfl ?_
  obtain ⟨g7, E⟩ := o_if E
  obtain ⟨h8, eh8, E⟩ := o_letE E
  refine as0_26 X g7 dX5_giveRoom_36 (aI_eqh eh8 ?_)
  refine aI_aload_n X.1 dX5_giveRoom_37 rfl ?_
  refine gf_5_15 X dX5_giveRoom_38 ?_
  refine aI_iload X.1 dX5_giveRoom_41 rfl ?_
  refine aI_iload_n X.1 dX5_giveRoom_43 rfl ?_
  obtain ⟨g9, E⟩ := o_if E
  obtain ⟨h10, eh10, E⟩ := o_letE E
  refine as0_27 X g9 dX5_giveRoom_44 (aI_eqh eh10 ?_)
  refine aI_aload_n X.1 dX5_giveRoom_45 rfl ?_
  refine aI_aload_n X.1 dX5_giveRoom_46 rfl ?_
  refine gf_5_18 X dX5_giveRoom_47 ?_
  refine aI_iload X.1 dX5_giveRoom_50 rfl ?_
  refine aI_iconst (v := 1) X.1 dX5_giveRoom_52 (by decide) ?_
  refine aI_iadd X.1 dX5_giveRoom_53 ?_
  refine aI_max X.1 ml_5_49 ms_max mi_Math mc_max (by decide) (Nat.le_of_ble_eq_true rfl) dX5_giveRoom_54 ?_
  obtain ⟨h11, eh11, E⟩ := o_letE E
  refine pf_5_18 X dX5_giveRoom_57 (aI_eqh eh11 ?_)
  exact aI_vret E (hret _ _ dX5_giveRoom_60)
theorem c_X5_giveRoom {q : Nat → Nat} {p1 : Int32} {p2 : Int32} {p3 : Int32}  {h2 : hp_T} {h : hp_T} (E : f_X5_giveRoom p1 p2 p3 h = some h2) : cV 0 yX5_giveRoom cX5_giveRoom 5 1 21 q [.ref (q 25), .int p1, .int p2, .int p3] h h2 := metV (own := RX5) (by decide) rfl (Nat.le_of_ble_eq_true rfl) rfl (fun Γ X N hret => w_X5_giveRoom X N hret E)
set_option maxRecDepth 4000 in
theorem w_X5_seeDepth_L1 {Γ : g_T} {q : Nat → Nat}  {u1 : Int32}  {h2 : hp_T} (X : aC 0 Γ q RX5 cX5_seeDepth 0 0) (N : ∀ k, k < 4 → aN Γ k) (hret : ∀ pc lv, decode cX5_seeDepth pc = .ok (.return_, 1) → aA Γ pc lv [] h2) {K : Int32 → Int32 → hp_T → Option (hp_T)} (hk : ∀ v2 v3 h, K v2 v3 h = some h2 → aA Γ 36 [some (.ref (q 25)), some (.int u1), some (.int v2), some (.int v3)] [] h) : ∀ (n : Nat) (v2 : Int32) (v3 : Int32) (h : hp_T), f_X5_seeDepth_L1 u1 K n v2 v3 h = some h2 → aA Γ 4 [some (.ref (q 25)), some (.int u1), some (.int v2), some (.int v3)] [] h := by
  intro n
  induction n with
  | zero =>
    intro v2 v3 h E
    cases E
  | succ n ih =>
    intro v2 v3 h E
    rw [f_X5_seeDepth_L1] at E
    refine aI_iload_n X.1 dX5_seeDepth_4 rfl ?_
    refine aI_aload_n X.1 dX5_seeDepth_5 rfl ?_
    refine gf_5_18 X dX5_seeDepth_6 ?_
    refine aI_icmp_ge (tgt := 36) X.1 dX5_seeDepth_9 (by decide) (fun c1 => ?_) (fun c1 => ?_)
    · have E := o_pos c1 E
      exact hk v2 v3 h E
    · have E := o_neg c1 E
      refine aI_iload_n X.1 dX5_seeDepth_12 rfl ?_
      refine aI_aload_n X.1 dX5_seeDepth_13 rfl ?_
      refine gf_5_15 X dX5_seeDepth_14 ?_
      refine aI_iload_n X.1 dX5_seeDepth_17 rfl ?_
      obtain ⟨g2, E⟩ := o_if E
      refine al0_27 X g2 dX5_seeDepth_18 ?_
      refine aI_iload_n X.1 dX5_seeDepth_19 rfl ?_
      refine aI_icmp_le (tgt := 27) X.1 dX5_seeDepth_20 (by decide) (fun c3 => ?_) (fun c3 => ?_)
      · have E := o_pos c3 E
        refine aI_iconst (v := 0) X.1 dX5_seeDepth_27 (by decide) ?_
        refine aI_iadd X.1 dX5_seeDepth_28 ?_
        obtain ⟨x4, ex4, E⟩ := o_letE E
        refine aI_eqi ex4 ?_
        refine aI_istore_n (lv2 := [some (.ref (q 25)), some (.int u1), some (.int x4), some (.int v3)]) X.1 dX5_seeDepth_29 (N 2 (by decide)) rfl ?_
        obtain ⟨x5, ex5, E⟩ := o_letE E
        refine aI_iinc (v := 1) (lv2 := [some (.ref (q 25)), some (.int u1), some (.int x4), some (.int x5)]) X.1 dX5_seeDepth_30 (N 3 (by decide)) rfl (by decide) (by rw [← ex5]; rfl) ?_
        refine aI_goto (tgt := 4) X.1 dX5_seeDepth_33 (by decide) ?_
        exact ih x4 x5 h E
      · have E := o_neg c3 E
        refine aI_iconst (v := 1) X.1 dX5_seeDepth_23 (by decide) ?_
        refine aI_goto (tgt := 28) X.1 dX5_seeDepth_24 (by decide) ?_
        refine aI_iadd X.1 dX5_seeDepth_28 ?_
        obtain ⟨x6, ex6, E⟩ := o_letE E
        refine aI_eqi ex6 ?_
        refine aI_istore_n (lv2 := [some (.ref (q 25)), some (.int u1), some (.int x6), some (.int v3)]) X.1 dX5_seeDepth_29 (N 2 (by decide)) rfl ?_
        obtain ⟨x7, ex7, E⟩ := o_letE E
        refine aI_iinc (v := 1) (lv2 := [some (.ref (q 25)), some (.int u1), some (.int x6), some (.int x7)]) X.1 dX5_seeDepth_30 (N 3 (by decide)) rfl (by decide) (by rw [← ex7]; rfl) ?_
        refine aI_goto (tgt := 4) X.1 dX5_seeDepth_33 (by decide) ?_
        exact ih x6 x7 h E
set_option maxRecDepth 4000 in
theorem w_X5_seeDepth {Γ : g_T} {q : Nat → Nat} {p1 : Int32}  {h2 : hp_T} {h : hp_T} (X : aC 0 Γ q RX5 cX5_seeDepth 0 0) (N : ∀ k, k < 4 → aN Γ k) (hret : ∀ pc lv, decode cX5_seeDepth pc = .ok (.return_, 1) → aA Γ pc lv [] h2) (E : f_X5_seeDepth p1 h = some h2) : aA Γ 0 [some (.ref (q 25)), some (.int p1), none, none] [] h := by
  unfold f_X5_seeDepth at E
  refine aI_iconst (v := 0) X.1 dX5_seeDepth_0 (by decide) ?_
  refine aI_istore_n (lv2 := [some (.ref (q 25)), some (.int p1), some (.int (0 : Int32)), none]) X.1 dX5_seeDepth_1 (N 2 (by decide)) rfl ?_
  refine aI_iconst (v := 0) X.1 dX5_seeDepth_2 (by decide) ?_
  refine aI_istore_n (lv2 := [some (.ref (q 25)), some (.int p1), some (.int (0 : Int32)), some (.int (0 : Int32))]) X.1 dX5_seeDepth_3 (N 3 (by decide)) rfl ?_
  refine w_X5_seeDepth_L1  X N hret ?_ 100 (0 : Int32) (0 : Int32) h E
  intro x8 x9 h10 E
  refine aI_iload_n X.1 dX5_seeDepth_36 rfl ?_
  refine aI_aload_n X.1 dX5_seeDepth_37 rfl ?_
  refine gf_5_22 X dX5_seeDepth_38 ?_
  refine aI_icmp_le (tgt := 54) X.1 dX5_seeDepth_41 (by decide) (fun c11 => ?_) (fun c11 => ?_)
  · have E := o_pos c11 E
    exact aI_vret E (hret _ _ dX5_seeDepth_54)
  · have E := o_neg c11 E
    refine aI_aload_n X.1 dX5_seeDepth_44 rfl ?_
    refine aI_iload_n X.1 dX5_seeDepth_45 rfl ?_
    obtain ⟨h12, eh12, E⟩ := o_letE E
    refine pf_5_22 X dX5_seeDepth_46 (aI_eqh eh12 ?_)
    refine aI_aload_n X.1 dX5_seeDepth_49 rfl ?_
    refine aI_iload_n X.1 dX5_seeDepth_50 rfl ?_
    obtain ⟨h13, eh13, E⟩ := o_letE E
    refine pf_5_26 X dX5_seeDepth_51 (aI_eqh eh13 ?_)
    exact aI_vret E (hret _ _ dX5_seeDepth_54)
theorem c_X5_seeDepth {q : Nat → Nat} {p1 : Int32}  {h2 : hp_T} {h : hp_T} (E : f_X5_seeDepth p1 h = some h2) : cV 0 yX5_seeDepth cX5_seeDepth 4 0 0 q [.ref (q 25), .int p1] h h2 := metV (own := RX5) (by decide) rfl (Nat.le_of_ble_eq_true rfl) rfl (fun Γ X N hret => w_X5_seeDepth X N hret E)
set_option maxRecDepth 4000 in
theorem w_X5_build_L1 {Γ : g_T} {q : Nat → Nat}    {h2 : hp_T} (X : aC 0 Γ q RX5 cX5_build 2 45) (N : ∀ k, k < 4 → aN Γ k) (hret : ∀ pc lv, decode cX5_build pc = .ok (.return_, 1) → aA Γ pc lv [] h2) {K : Int32 → hp_T → Option (hp_T)} (hk : ∀ v2 h, K v2 h = some h2 → aA Γ 66 [some (.ref (q 25)), some (.ref (q 1)), some (.int v2), none] [] h) : ∀ (n : Nat) (v2 : Int32) (h : hp_T), f_X5_build_L1 K n v2 h = some h2 → aA Γ 18 [some (.ref (q 25)), some (.ref (q 1)), some (.int v2), none] [] h := by
  intro n
  induction n with
  | zero =>
    intro v2 h E
    cases E
  | succ n ih =>
    intro v2 h E
    rw [f_X5_build_L1] at E
    refine aI_iload_n X.1 dX5_build_18 rfl ?_
    refine aI_aload_n X.1 dX5_build_19 rfl ?_
    refine gf_5_29 X dX5_build_20 ?_
    refine aI_icmp_ge (tgt := 66) X.1 dX5_build_23 (by decide) (fun c4 => ?_) (fun c4 => ?_)
    · have E := o_pos c4 E
      exact hk v2 h E
    · have E := o_neg c4 E
      refine aI_aload_n X.1 dX5_build_26 rfl ?_
      refine gf_5_32 X dX5_build_27 ?_
      refine aI_iload_n X.1 dX5_build_30 rfl ?_
      obtain ⟨g5, E⟩ := o_if E
      refine al0_5 X g5 dX5_build_31 ?_
      obtain ⟨x6, ex6, E⟩ := o_letE E
      refine aI_eqi ex6 ?_
      refine aI_istore_n (lv2 := [some (.ref (q 25)), some (.ref (q 1)), some (.int v2), some (.int x6)]) X.1 dX5_build_32 (N 3 (by decide)) rfl ?_
      refine aI_aload_n X.1 dX5_build_33 rfl ?_
      refine aI_iload_n X.1 dX5_build_34 rfl ?_
      refine aI_aload_n X.1 dX5_build_35 rfl ?_
      refine gf_5_35 X dX5_build_36 ?_
      refine aI_iload_n X.1 dX5_build_39 rfl ?_
      obtain ⟨g7, E⟩ := o_if E
      refine al0_2 X g7 dX5_build_40 ?_
      refine aI_aload_n X.1 dX5_build_41 rfl ?_
      refine gf_5_38 X dX5_build_42 ?_
      refine aI_iload_n X.1 dX5_build_45 rfl ?_
      obtain ⟨g8, E⟩ := o_if E
      refine al0_3 X g8 dX5_build_46 ?_
      obtain ⟨h9, e10, E⟩ := o_cvE E
      refine cv_X5_giveRoom X (c_X5_giveRoom e10) ml_5_41 (by decide) (by decide) (Nat.le_of_ble_eq_true rfl) dX5_build_47 ?_
      refine aI_aload_n X.1 dX5_build_50 rfl ?_
      refine aI_aload_n X.1 dX5_build_51 rfl ?_
      refine gf_5_35 X dX5_build_52 ?_
      refine aI_iload_n X.1 dX5_build_55 rfl ?_
      obtain ⟨g11, E⟩ := o_if E
      refine al0_2 X g11 dX5_build_56 ?_
      obtain ⟨h12, e13, E⟩ := o_cvE E
      refine cv_X5_seeDepth X (c_X5_seeDepth e13) ml_5_45 (by decide) (by decide) (Nat.le_of_ble_eq_true rfl) dX5_build_57 ?_
      obtain ⟨x14, ex14, E⟩ := o_letE E
      refine aI_iinc (v := 1) (lv2 := [some (.ref (q 25)), some (.ref (q 1)), some (.int x14), some (.int x6)]) X.1 dX5_build_60 (N 2 (by decide)) rfl (by decide) (by rw [← ex14]; rfl) ?_
      refine aI_goto (tgt := 18) X.1 dX5_build_63 (by decide) ?_
      refine aI_lv [true, true, true, false] (lv2 := [some (.ref (q 25)), some (.ref (q 1)), some (.int x14), none]) rfl ?_
      exact ih x14 h12 E
set_option maxRecDepth 4000 in
theorem w_X5_build {Γ : g_T} {q : Nat → Nat}   {h2 : hp_T} {h : hp_T} (X : aC 0 Γ q RX5 cX5_build 2 45) (N : ∀ k, k < 4 → aN Γ k) (hret : ∀ pc lv, decode cX5_build pc = .ok (.return_, 1) → aA Γ pc lv [] h2) (E : f_X5_build  h = some h2) : aA Γ 0 [some (.ref (q 25)), some (.ref (q 1)), none, none] [] h := by
  unfold f_X5_build at E
  refine aI_aload_n X.1 dX5_build_0 rfl ?_
  refine aI_iconst (v := 0) X.1 dX5_build_1 (by decide) ?_
  obtain ⟨h1, eh1, E⟩ := o_letE E
  refine pf_5_18 X dX5_build_2 (aI_eqh eh1 ?_)
  refine aI_aload_n X.1 dX5_build_5 rfl ?_
  refine aI_iconst (v := 0) X.1 dX5_build_6 (by decide) ?_
  obtain ⟨h2, eh2, E⟩ := o_letE E
  refine pf_5_22 X dX5_build_7 (aI_eqh eh2 ?_)
  refine aI_aload_n X.1 dX5_build_10 rfl ?_
  refine aI_ldc X.1 dX5_build_11 kc_5_25 ?_
  obtain ⟨h3, eh3, E⟩ := o_letE E
  refine pf_5_26 X dX5_build_13 (aI_eqh eh3 ?_)
  refine aI_iconst (v := 0) X.1 dX5_build_16 (by decide) ?_
  refine aI_istore_n (lv2 := [some (.ref (q 25)), some (.ref (q 1)), some (.int (0 : Int32)), none]) X.1 dX5_build_17 (N 2 (by decide)) rfl ?_
  refine w_X5_build_L1  X N hret ?_ 100 (0 : Int32) h3 E
  intro x15 h16 E
  exact aI_vret E (hret _ _ dX5_build_66)
theorem c_X5_build {q : Nat → Nat}   {h2 : hp_T} {h : hp_T} (E : f_X5_build  h = some h2) : cV 0 yX5_build cX5_build 4 2 45 q [.ref (q 25), .ref (q 1)] h h2 := metV (own := RX5) (by decide) rfl (Nat.le_of_ble_eq_true rfl) rfl (fun Γ X N hret => w_X5_build X N hret E)
set_option maxRecDepth 4000 in
theorem w_X3_sortByTo_L2 {Γ : g_T} {q : Nat → Nat}  {u2 : Int32} {u3 : Int32}  {h2 : hp_T} (X : aC 0 Γ q RX3 cX3_sortByTo 0 0) (N : ∀ k, k < 5 → aN Γ k) (hret : ∀ pc lv, decode cX3_sortByTo pc = .ok (.return_, 1) → aA Γ pc lv [] h2) {K : Int32 → hp_T → Option (hp_T)} (hk : ∀ v4 h, K v4 h = some h2 → aA Γ 70 [some (.ref (q 28)), some (.ref (q 1)), some (.int u2), some (.int u3), some (.int v4)] [] h) : ∀ (n : Nat) (v4 : Int32) (h : hp_T), f_X3_sortByTo_L2 u3 K n v4 h = some h2 → aA Γ 20 [some (.ref (q 28)), some (.ref (q 1)), some (.int u2), some (.int u3), some (.int v4)] [] h := by
  intro n
  induction n with
  | zero =>
    intro v4 h E
    cases E
  | succ n ih =>
    intro v4 h E
    rw [f_X3_sortByTo_L2] at E
    refine aI_iload X.1 dX3_sortByTo_20 rfl ?_
    refine aI_if_le (tgt := 70) X.1 dX3_sortByTo_22 (by decide) (fun c4 => ?_) (fun c4 => ?_)
    · have E := o_pos c4 E
      exact hk v4 h E
    · have E := o_neg c4 E
      refine aI_aload_n X.1 dX3_sortByTo_25 rfl ?_
      refine gf_3_33 X dX3_sortByTo_26 ?_
      refine aI_aload_n X.1 dX3_sortByTo_29 rfl ?_
      refine gf_3_9 X dX3_sortByTo_30 ?_
      refine aI_iload X.1 dX3_sortByTo_33 rfl ?_
      refine aI_iconst (v := 1) X.1 dX3_sortByTo_35 (by decide) ?_
      refine aI_isub X.1 dX3_sortByTo_36 ?_
      obtain ⟨g5, E⟩ := o_if E
      refine al0_29 X g5 dX3_sortByTo_37 ?_
      obtain ⟨g6, E⟩ := o_if E
      refine al0_3 X g6 dX3_sortByTo_38 ?_
      refine aI_aload_n X.1 dX3_sortByTo_39 rfl ?_
      refine gf_3_33 X dX3_sortByTo_40 ?_
      refine aI_iload_n X.1 dX3_sortByTo_43 rfl ?_
      obtain ⟨g7, E⟩ := o_if E
      refine al0_3 X g7 dX3_sortByTo_44 ?_
      refine aI_icmp_le (tgt := 70) X.1 dX3_sortByTo_45 (by decide) (fun c8 => ?_) (fun c8 => ?_)
      · have E := o_pos c8 E
        exact hk v4 h E
      · have E := o_neg c8 E
        refine aI_aload_n X.1 dX3_sortByTo_48 rfl ?_
        refine gf_3_9 X dX3_sortByTo_49 ?_
        refine aI_iload X.1 dX3_sortByTo_52 rfl ?_
        refine aI_aload_n X.1 dX3_sortByTo_54 rfl ?_
        refine gf_3_9 X dX3_sortByTo_55 ?_
        refine aI_iload X.1 dX3_sortByTo_58 rfl ?_
        refine aI_iconst (v := 1) X.1 dX3_sortByTo_60 (by decide) ?_
        refine aI_isub X.1 dX3_sortByTo_61 ?_
        obtain ⟨g9, E⟩ := o_if E
        refine al0_29 X g9 dX3_sortByTo_62 ?_
        obtain ⟨g10, E⟩ := o_if E
        obtain ⟨h11, eh11, E⟩ := o_letE E
        refine as0_29 X g10 dX3_sortByTo_63 (aI_eqh eh11 ?_)
        obtain ⟨x12, ex12, E⟩ := o_letE E
        refine aI_iinc (v := -1) (lv2 := [some (.ref (q 28)), some (.ref (q 1)), some (.int u2), some (.int u3), some (.int x12)]) X.1 dX3_sortByTo_64 (N 4 (by decide)) rfl (by decide) (by rw [← ex12]; rfl) ?_
        refine aI_goto (tgt := 20) X.1 dX3_sortByTo_67 (by decide) ?_
        exact ih x12 h11 E
set_option maxRecDepth 4000 in
theorem w_X3_sortByTo_L1 {Γ : g_T} {q : Nat → Nat}    {h2 : hp_T} (X : aC 0 Γ q RX3 cX3_sortByTo 0 0) (N : ∀ k, k < 5 → aN Γ k) (hret : ∀ pc lv, decode cX3_sortByTo pc = .ok (.return_, 1) → aA Γ pc lv [] h2) {K : Int32 → hp_T → Option (hp_T)} (hk : ∀ v2 h, K v2 h = some h2 → aA Γ 84 [some (.ref (q 28)), some (.ref (q 1)), some (.int v2), none, none] [] h) : ∀ (n : Nat) (v2 : Int32) (h : hp_T), f_X3_sortByTo_L1 K n v2 h = some h2 → aA Γ 2 [some (.ref (q 28)), some (.ref (q 1)), some (.int v2), none, none] [] h := by
  intro n
  induction n with
  | zero =>
    intro v2 h E
    cases E
  | succ n ih =>
    intro v2 h E
    rw [f_X3_sortByTo_L1] at E
    refine aI_iload_n X.1 dX3_sortByTo_2 rfl ?_
    refine aI_aload_n X.1 dX3_sortByTo_3 rfl ?_
    refine gf_3_27 X dX3_sortByTo_4 ?_
    refine aI_icmp_ge (tgt := 84) X.1 dX3_sortByTo_7 (by decide) (fun c1 => ?_) (fun c1 => ?_)
    · have E := o_pos c1 E
      exact hk v2 h E
    · have E := o_neg c1 E
      refine aI_aload_n X.1 dX3_sortByTo_10 rfl ?_
      refine gf_3_36 X dX3_sortByTo_11 ?_
      refine aI_iload_n X.1 dX3_sortByTo_14 rfl ?_
      obtain ⟨g2, E⟩ := o_if E
      refine al0_5 X g2 dX3_sortByTo_15 ?_
      obtain ⟨x3, ex3, E⟩ := o_letE E
      refine aI_eqi ex3 ?_
      refine aI_istore_n (lv2 := [some (.ref (q 28)), some (.ref (q 1)), some (.int v2), some (.int x3), none]) X.1 dX3_sortByTo_16 (N 3 (by decide)) rfl ?_
      refine aI_iload_n X.1 dX3_sortByTo_17 rfl ?_
      refine aI_istore (lv2 := [some (.ref (q 28)), some (.ref (q 1)), some (.int v2), some (.int x3), some (.int v2)]) X.1 dX3_sortByTo_18 (N 4 (by decide)) rfl ?_
      refine w_X3_sortByTo_L2  X N hret ?_ 100 v2 h E
      intro x13 h14 E
      refine aI_aload_n X.1 dX3_sortByTo_70 rfl ?_
      refine gf_3_9 X dX3_sortByTo_71 ?_
      refine aI_iload X.1 dX3_sortByTo_74 rfl ?_
      refine aI_iload_n X.1 dX3_sortByTo_76 rfl ?_
      obtain ⟨g15, E⟩ := o_if E
      obtain ⟨h16, eh16, E⟩ := o_letE E
      refine as0_29 X g15 dX3_sortByTo_77 (aI_eqh eh16 ?_)
      obtain ⟨x17, ex17, E⟩ := o_letE E
      refine aI_iinc (v := 1) (lv2 := [some (.ref (q 28)), some (.ref (q 1)), some (.int x17), some (.int x3), some (.int x13)]) X.1 dX3_sortByTo_78 (N 2 (by decide)) rfl (by decide) (by rw [← ex17]; rfl) ?_
      refine aI_goto (tgt := 2) X.1 dX3_sortByTo_81 (by decide) ?_
      refine aI_lv [true, true, true, false, false] (lv2 := [some (.ref (q 28)), some (.ref (q 1)), some (.int x17), none, none]) rfl ?_
      exact ih x17 h16 E
set_option maxRecDepth 4000 in
theorem w_X3_sortByTo {Γ : g_T} {q : Nat → Nat}   {h2 : hp_T} {h : hp_T} (X : aC 0 Γ q RX3 cX3_sortByTo 0 0) (N : ∀ k, k < 5 → aN Γ k) (hret : ∀ pc lv, decode cX3_sortByTo pc = .ok (.return_, 1) → aA Γ pc lv [] h2) (E : f_X3_sortByTo  h = some h2) : aA Γ 0 [some (.ref (q 28)), some (.ref (q 1)), none, none, none] [] h := by
  unfold f_X3_sortByTo at E
  refine aI_iconst (v := 0) X.1 dX3_sortByTo_0 (by decide) ?_
  refine aI_istore_n (lv2 := [some (.ref (q 28)), some (.ref (q 1)), some (.int (0 : Int32)), none, none]) X.1 dX3_sortByTo_1 (N 2 (by decide)) rfl ?_
  refine w_X3_sortByTo_L1  X N hret ?_ 100 (0 : Int32) h E
  intro x18 h19 E
  exact aI_vret E (hret _ _ dX3_sortByTo_84)
theorem c_X3_sortByTo {q : Nat → Nat}   {h2 : hp_T} {h : hp_T} (E : f_X3_sortByTo  h = some h2) : cV 0 yX3_sortByTo cX3_sortByTo 5 0 0 q [.ref (q 28), .ref (q 1)] h h2 := metV (own := RX3) (by decide) rfl (Nat.le_of_ble_eq_true rfl) rfl (fun Γ X N hret => w_X3_sortByTo X N hret E)
set_option maxRecDepth 4000 in
theorem w_X3_build_L1 {Γ : g_T} {q : Nat → Nat}    {h2 : hp_T} (X : aC 0 Γ q RX3 cX3_build 1 24) (N : ∀ k, k < 5 → aN Γ k) (hret : ∀ pc lv, decode cX3_build pc = .ok (.return_, 1) → aA Γ pc lv [] h2) {K : Int32 → Int32 → hp_T → Option (hp_T)} (hk : ∀ v2 v3 h, K v2 v3 h = some h2 → aA Γ 77 [some (.ref (q 28)), some (.ref (q 1)), some (.int v2), some (.int v3), none] [] h) : ∀ (n : Nat) (v2 : Int32) (v3 : Int32) (h : hp_T), f_X3_build_L1 K n v2 v3 h = some h2 → aA Γ 15 [some (.ref (q 28)), some (.ref (q 1)), some (.int v2), some (.int v3), none] [] h := by
  intro n
  induction n with
  | zero =>
    intro v2 v3 h E
    cases E
  | succ n ih =>
    intro v2 v3 h E
    rw [f_X3_build_L1] at E
    refine aI_iload_n X.1 dX3_build_15 rfl ?_
    refine aI_aload_n X.1 dX3_build_16 rfl ?_
    refine gf_3_27 X dX3_build_17 ?_
    refine aI_icmp_ge (tgt := 77) X.1 dX3_build_20 (by decide) (fun c4 => ?_) (fun c4 => ?_)
    · have E := o_pos c4 E
      exact hk v2 v3 h E
    · have E := o_neg c4 E
      refine aI_aload_n X.1 dX3_build_23 rfl ?_
      refine gf_3_9 X dX3_build_24 ?_
      refine aI_iload_n X.1 dX3_build_27 rfl ?_
      obtain ⟨g5, E⟩ := o_if E
      refine al0_29 X g5 dX3_build_28 ?_
      obtain ⟨x6, ex6, E⟩ := o_letE E
      refine aI_eqi ex6 ?_
      refine aI_istore (lv2 := [some (.ref (q 28)), some (.ref (q 1)), some (.int v2), some (.int v3), some (.int x6)]) X.1 dX3_build_29 (N 4 (by decide)) rfl ?_
      refine aI_aload_n X.1 dX3_build_31 rfl ?_
      refine gf_3_30 X dX3_build_32 ?_
      refine aI_iload X.1 dX3_build_35 rfl ?_
      obtain ⟨g7, E⟩ := o_if E
      refine al0_2 X g7 dX3_build_37 ?_
      refine aI_iload_n X.1 dX3_build_38 rfl ?_
      refine aI_icmp_lt (tgt := 71) X.1 dX3_build_39 (by decide) (fun c8 => ?_) (fun c8 => ?_)
      · have E := o_pos c8 E
        obtain ⟨x9, ex9, E⟩ := o_letE E
        refine aI_iinc (v := 1) (lv2 := [some (.ref (q 28)), some (.ref (q 1)), some (.int v2), some (.int x9), some (.int x6)]) X.1 dX3_build_71 (N 3 (by decide)) rfl (by decide) (by rw [← ex9]; rfl) ?_
        refine aI_goto (tgt := 15) X.1 dX3_build_74 (by decide) ?_
        refine aI_lv [true, true, true, true, false] (lv2 := [some (.ref (q 28)), some (.ref (q 1)), some (.int v2), some (.int x9), none]) rfl ?_
        exact ih v2 x9 h E
      · have E := o_neg c8 E
        refine aI_aload_n X.1 dX3_build_42 rfl ?_
        refine gf_3_15 X dX3_build_43 ?_
        refine aI_aload_n X.1 dX3_build_46 rfl ?_
        refine gf_3_18 X dX3_build_47 ?_
        refine aI_iload X.1 dX3_build_50 rfl ?_
        obtain ⟨g10, E⟩ := o_if E
        obtain ⟨h11, eh11, E⟩ := o_letE E
        refine as0_30 X g10 dX3_build_52 (aI_eqh eh11 ?_)
        refine aI_aload_n X.1 dX3_build_53 rfl ?_
        refine aI_dup X.1 dX3_build_54 rfl ?_
        refine gf_3_18 X dX3_build_55 ?_
        refine aI_iconst (v := 1) X.1 dX3_build_58 (by decide) ?_
        refine aI_iadd X.1 dX3_build_59 ?_
        obtain ⟨h12, eh12, E⟩ := o_letE E
        refine pf_3_18 X dX3_build_60 (aI_eqh eh12 ?_)
        refine aI_aload_n X.1 dX3_build_63 rfl ?_
        refine gf_3_33 X dX3_build_64 ?_
        refine aI_iload X.1 dX3_build_67 rfl ?_
        obtain ⟨g13, E⟩ := o_if E
        refine al0_3 X g13 dX3_build_69 ?_
        obtain ⟨x14, ex14, E⟩ := o_letE E
        refine aI_eqi ex14 ?_
        refine aI_istore_n (lv2 := [some (.ref (q 28)), some (.ref (q 1)), some (.int x14), some (.int v3), some (.int x6)]) X.1 dX3_build_70 (N 2 (by decide)) rfl ?_
        obtain ⟨x15, ex15, E⟩ := o_letE E
        refine aI_iinc (v := 1) (lv2 := [some (.ref (q 28)), some (.ref (q 1)), some (.int x14), some (.int x15), some (.int x6)]) X.1 dX3_build_71 (N 3 (by decide)) rfl (by decide) (by rw [← ex15]; rfl) ?_
        refine aI_goto (tgt := 15) X.1 dX3_build_74 (by decide) ?_
        refine aI_lv [true, true, true, true, false] (lv2 := [some (.ref (q 28)), some (.ref (q 1)), some (.int x14), some (.int x15), none]) rfl ?_
        exact ih x14 x15 h12 E
set_option maxRecDepth 4000 in
theorem w_X3_build {Γ : g_T} {q : Nat → Nat}   {h2 : hp_T} {h : hp_T} (X : aC 0 Γ q RX3 cX3_build 1 24) (N : ∀ k, k < 5 → aN Γ k) (hret : ∀ pc lv, decode cX3_build pc = .ok (.return_, 1) → aA Γ pc lv [] h2) (E : f_X3_build  h = some h2) : aA Γ 0 [some (.ref (q 28)), some (.ref (q 1)), none, none, none] [] h := by
  unfold f_X3_build at E
  refine aI_aload_n X.1 dX3_build_0 rfl ?_
  refine aI_aload_n X.1 dX3_build_1 rfl ?_
  obtain ⟨h1, e2, E⟩ := o_cvE E
  refine cv_X3_sortByTo X (c_X3_sortByTo e2) ml_3_22 (by decide) (by decide) (Nat.le_of_ble_eq_true rfl) dX3_build_2 ?_
  refine aI_aload_n X.1 dX3_build_5 rfl ?_
  refine aI_iconst (v := 0) X.1 dX3_build_6 (by decide) ?_
  obtain ⟨h3, eh3, E⟩ := o_letE E
  refine pf_3_18 X dX3_build_7 (aI_eqh eh3 ?_)
  refine aI_ldc X.1 dX3_build_10 kc_3_26 ?_
  refine aI_istore_n (lv2 := [some (.ref (q 28)), some (.ref (q 1)), some (.int (-1000000000 : Int32)), none, none]) X.1 dX3_build_12 (N 2 (by decide)) rfl ?_
  refine aI_iconst (v := 0) X.1 dX3_build_13 (by decide) ?_
  refine aI_istore_n (lv2 := [some (.ref (q 28)), some (.ref (q 1)), some (.int (-1000000000 : Int32)), some (.int (0 : Int32)), none]) X.1 dX3_build_14 (N 3 (by decide)) rfl ?_
  refine w_X3_build_L1  X N hret ?_ 100 (-1000000000 : Int32) (0 : Int32) h3 E
  intro x16 x17 h18 E
  exact aI_vret E (hret _ _ dX3_build_77)
theorem c_X3_build {q : Nat → Nat}   {h2 : hp_T} {h : hp_T} (E : f_X3_build  h = some h2) : cV 0 yX3_build cX3_build 5 1 24 q [.ref (q 28), .ref (q 1)] h h2 := metV (own := RX3) (by decide) rfl (Nat.le_of_ble_eq_true rfl) rfl (fun Γ X N hret => w_X3_build X N hret E)
set_option maxRecDepth 4000 in
theorem w_X4_build_L2 {Γ : g_T} {q : Nat → Nat}  {u2 : Int32} {u3 : Int32}  {h2 : hp_T} (X : aC 0 Γ q RX4 cX4_build 0 0) (N : ∀ k, k < 5 → aN Γ k) (hret : ∀ pc lv, decode cX4_build pc = .ok (.return_, 1) → aA Γ pc lv [] h2) {K : Int32 → hp_T → Option (hp_T)} (hk : ∀ v4 h, K v4 h = some h2 → aA Γ 73 [some (.ref (q 31)), some (.ref (q 1)), some (.int u2), some (.int u3), some (.int v4)] [] h) : ∀ (n : Nat) (v4 : Int32) (h : hp_T), f_X4_build_L2 u3 K n v4 h = some h2 → aA Γ 42 [some (.ref (q 31)), some (.ref (q 1)), some (.int u2), some (.int u3), some (.int v4)] [] h := by
  intro n
  induction n with
  | zero =>
    intro v4 h E
    cases E
  | succ n ih =>
    intro v4 h E
    rw [f_X4_build_L2] at E
    refine aI_iload X.1 dX4_build_42 rfl ?_
    refine aI_aload_n X.1 dX4_build_44 rfl ?_
    refine gf_4_19 X dX4_build_45 ?_
    refine aI_icmp_ge (tgt := 73) X.1 dX4_build_48 (by decide) (fun c9 => ?_) (fun c9 => ?_)
    · have E := o_pos c9 E
      exact hk v4 h E
    · have E := o_neg c9 E
      refine aI_aload_n X.1 dX4_build_51 rfl ?_
      refine gf_4_28 X dX4_build_52 ?_
      refine aI_aload_n X.1 dX4_build_55 rfl ?_
      refine gf_4_25 X dX4_build_56 ?_
      refine aI_iload X.1 dX4_build_59 rfl ?_
      obtain ⟨g10, E⟩ := o_if E
      refine al0_5 X g10 dX4_build_61 ?_
      obtain ⟨g11, E⟩ := o_if E
      refine al0_2 X g11 dX4_build_62 ?_
      refine aI_iload_n X.1 dX4_build_63 rfl ?_
      refine aI_icmp_ge (tgt := 73) X.1 dX4_build_64 (by decide) (fun c12 => ?_) (fun c12 => ?_)
      · have E := o_pos c12 E
        exact hk v4 h E
      · have E := o_neg c12 E
        obtain ⟨x13, ex13, E⟩ := o_letE E
        refine aI_iinc (v := 1) (lv2 := [some (.ref (q 31)), some (.ref (q 1)), some (.int u2), some (.int u3), some (.int x13)]) X.1 dX4_build_67 (N 4 (by decide)) rfl (by decide) (by rw [← ex13]; rfl) ?_
        refine aI_goto (tgt := 42) X.1 dX4_build_70 (by decide) ?_
        exact ih x13 h E
set_option maxRecDepth 4000 in
theorem w_X4_build_L1 {Γ : g_T} {q : Nat → Nat}    {h2 : hp_T} (X : aC 0 Γ q RX4 cX4_build 0 0) (N : ∀ k, k < 5 → aN Γ k) (hret : ∀ pc lv, decode cX4_build pc = .ok (.return_, 1) → aA Γ pc lv [] h2) {K : Int32 → hp_T → Option (hp_T)} (hk : ∀ v2 h, K v2 h = some h2 → aA Γ 94 [some (.ref (q 31)), some (.ref (q 1)), some (.int v2), none, none] [] h) : ∀ (n : Nat) (v2 : Int32) (h : hp_T), f_X4_build_L1 K n v2 h = some h2 → aA Γ 7 [some (.ref (q 31)), some (.ref (q 1)), some (.int v2), none, none] [] h := by
  intro n
  induction n with
  | zero =>
    intro v2 h E
    cases E
  | succ n ih =>
    intro v2 h E
    rw [f_X4_build_L1] at E
    refine aI_iload_n X.1 dX4_build_7 rfl ?_
    refine aI_aload_n X.1 dX4_build_8 rfl ?_
    refine gf_4_19 X dX4_build_9 ?_
    refine aI_icmp_ge (tgt := 94) X.1 dX4_build_12 (by decide) (fun c2 => ?_) (fun c2 => ?_)
    · have E := o_pos c2 E
      exact hk v2 h E
    · have E := o_neg c2 E
      refine aI_aload_n X.1 dX4_build_15 rfl ?_
      refine gf_4_9 X dX4_build_16 ?_
      refine aI_iload_n X.1 dX4_build_19 rfl ?_
      refine aI_aload_n X.1 dX4_build_20 rfl ?_
      refine gf_4_15 X dX4_build_21 ?_
      obtain ⟨g3, E⟩ := o_if E
      obtain ⟨h4, eh4, E⟩ := o_letE E
      refine as0_32 X g3 dX4_build_24 (aI_eqh eh4 ?_)
      refine aI_aload_n X.1 dX4_build_25 rfl ?_
      refine gf_4_22 X dX4_build_26 ?_
      refine aI_aload_n X.1 dX4_build_29 rfl ?_
      refine gf_4_25 X dX4_build_30 ?_
      refine aI_iload_n X.1 dX4_build_33 rfl ?_
      obtain ⟨g5, E⟩ := o_if E
      refine al0_5 X g5 dX4_build_34 ?_
      obtain ⟨g6, E⟩ := o_if E
      refine al0_3 X g6 dX4_build_35 ?_
      obtain ⟨x7, ex7, E⟩ := o_letE E
      refine aI_eqi ex7 ?_
      refine aI_istore_n (lv2 := [some (.ref (q 31)), some (.ref (q 1)), some (.int v2), some (.int x7), none]) X.1 dX4_build_36 (N 3 (by decide)) rfl ?_
      refine aI_iload_n X.1 dX4_build_37 rfl ?_
      refine aI_iconst (v := 1) X.1 dX4_build_38 (by decide) ?_
      refine aI_iadd X.1 dX4_build_39 ?_
      obtain ⟨x8, ex8, E⟩ := o_letE E
      refine aI_eqi ex8 ?_
      refine aI_istore (lv2 := [some (.ref (q 31)), some (.ref (q 1)), some (.int v2), some (.int x7), some (.int x8)]) X.1 dX4_build_40 (N 4 (by decide)) rfl ?_
      refine w_X4_build_L2  X N hret ?_ 100 x8 h4 E
      intro x14 h15 E
      refine aI_aload_n X.1 dX4_build_73 rfl ?_
      refine aI_dup X.1 dX4_build_74 rfl ?_
      refine gf_4_15 X dX4_build_75 ?_
      refine aI_iload X.1 dX4_build_78 rfl ?_
      refine aI_iload_n X.1 dX4_build_80 rfl ?_
      refine aI_isub X.1 dX4_build_81 ?_
      refine aI_iconst (v := 1) X.1 dX4_build_82 (by decide) ?_
      refine aI_isub X.1 dX4_build_83 ?_
      refine aI_iadd X.1 dX4_build_84 ?_
      obtain ⟨h16, eh16, E⟩ := o_letE E
      refine pf_4_15 X dX4_build_85 (aI_eqh eh16 ?_)
      obtain ⟨x17, ex17, E⟩ := o_letE E
      refine aI_iinc (v := 1) (lv2 := [some (.ref (q 31)), some (.ref (q 1)), some (.int x17), some (.int x7), some (.int x14)]) X.1 dX4_build_88 (N 2 (by decide)) rfl (by decide) (by rw [← ex17]; rfl) ?_
      refine aI_goto (tgt := 7) X.1 dX4_build_91 (by decide) ?_
      refine aI_lv [true, true, true, false, false] (lv2 := [some (.ref (q 31)), some (.ref (q 1)), some (.int x17), none, none]) rfl ?_
      exact ih x17 h16 E
set_option maxRecDepth 4000 in
theorem w_X4_build {Γ : g_T} {q : Nat → Nat}   {h2 : hp_T} {h : hp_T} (X : aC 0 Γ q RX4 cX4_build 0 0) (N : ∀ k, k < 5 → aN Γ k) (hret : ∀ pc lv, decode cX4_build pc = .ok (.return_, 1) → aA Γ pc lv [] h2) (E : f_X4_build  h = some h2) : aA Γ 0 [some (.ref (q 31)), some (.ref (q 1)), none, none, none] [] h := by
  unfold f_X4_build at E
  refine aI_aload_n X.1 dX4_build_0 rfl ?_
  refine aI_iconst (v := 0) X.1 dX4_build_1 (by decide) ?_
  obtain ⟨h1, eh1, E⟩ := o_letE E
  refine pf_4_15 X dX4_build_2 (aI_eqh eh1 ?_)
  refine aI_iconst (v := 0) X.1 dX4_build_5 (by decide) ?_
  refine aI_istore_n (lv2 := [some (.ref (q 31)), some (.ref (q 1)), some (.int (0 : Int32)), none, none]) X.1 dX4_build_6 (N 2 (by decide)) rfl ?_
  refine w_X4_build_L1  X N hret ?_ 100 (0 : Int32) h1 E
  intro x18 h19 E
  exact aI_vret E (hret _ _ dX4_build_94)
theorem c_X4_build {q : Nat → Nat}   {h2 : hp_T} {h : hp_T} (E : f_X4_build  h = some h2) : cV 0 yX4_build cX4_build 5 0 0 q [.ref (q 31), .ref (q 1)] h h2 := metV (own := RX4) (by decide) rfl (Nat.le_of_ble_eq_true rfl) rfl (fun Γ X N hret => w_X4_build X N hret E)
set_option maxRecDepth 4000 in
theorem w_X2_addMember {Γ : g_T} {q : Nat → Nat} {p1 : Int32} {p2 : Int32}  {h2 : hp_T} {h : hp_T} (X : aC 0 Γ q RX2 cX2_addMember 1 21) (N : ∀ k, k < 3 → aN Γ k) (hret : ∀ pc lv, decode cX2_addMember pc = .ok (.return_, 1) → aA Γ pc lv [] h2) (E : f_X2_addMember p1 p2 h = some h2) : aA Γ 0 [some (.ref (q 33)), some (.int p1), some (.int p2)] [] h := by
  unfold f_X2_addMember at E
  refine aI_aload_n X.1 dX2_addMember_0 rfl ?_
  refine gf_2_9 X dX2_addMember_1 ?_
  refine aI_iload_n X.1 dX2_addMember_4 rfl ?_
  refine aI_iload_n X.1 dX2_addMember_5 rfl ?_
  obtain ⟨g1, E⟩ := o_if E
  obtain ⟨h2, eh2, E⟩ := o_letE E
  refine as0_34 X g1 dX2_addMember_6 (aI_eqh eh2 ?_)
  refine aI_aload_n X.1 dX2_addMember_7 rfl ?_
  refine gf_2_15 X dX2_addMember_8 ?_
  refine aI_iload_n X.1 dX2_addMember_11 rfl ?_
  refine aI_aload_n X.1 dX2_addMember_12 rfl ?_
  refine gf_2_15 X dX2_addMember_13 ?_
  refine aI_iload_n X.1 dX2_addMember_16 rfl ?_
  obtain ⟨g3, E⟩ := o_if E
  refine al0_35 X g3 dX2_addMember_17 ?_
  refine aI_iload_n X.1 dX2_addMember_18 rfl ?_
  refine aI_min X.1 ml_2_56 ms_min mi_Math mc_min (by decide) (Nat.le_of_ble_eq_true rfl) dX2_addMember_19 ?_
  obtain ⟨g4, E⟩ := o_if E
  obtain ⟨h5, eh5, E⟩ := o_letE E
  refine as0_35 X g4 dX2_addMember_22 (aI_eqh eh5 ?_)
  refine aI_aload_n X.1 dX2_addMember_23 rfl ?_
  refine gf_2_18 X dX2_addMember_24 ?_
  refine aI_iload_n X.1 dX2_addMember_27 rfl ?_
  refine aI_dup2 X.1 dX2_addMember_28 rfl rfl ?_
  obtain ⟨g6, E⟩ := o_if E
  refine al0_36 X g6 dX2_addMember_29 ?_
  refine aI_iconst (v := 1) X.1 dX2_addMember_30 (by decide) ?_
  refine aI_iadd X.1 dX2_addMember_31 ?_
  obtain ⟨g7, E⟩ := o_if E
  obtain ⟨h8, eh8, E⟩ := o_letE E
  refine as0_36 X g7 dX2_addMember_32 (aI_eqh eh8 ?_)
  exact aI_vret E (hret _ _ dX2_addMember_33)
theorem c_X2_addMember {q : Nat → Nat} {p1 : Int32} {p2 : Int32}  {h2 : hp_T} {h : hp_T} (E : f_X2_addMember p1 p2 h = some h2) : cV 0 yX2_addMember cX2_addMember 3 1 21 q [.ref (q 33), .int p1, .int p2] h h2 := metV (own := RX2) (by decide) rfl (Nat.le_of_ble_eq_true rfl) rfl (fun Γ X N hret => w_X2_addMember X N hret E)
set_option maxRecDepth 4000 in
theorem w_X2_seeAlone_L1 {Γ : g_T} {q : Nat → Nat}    {h2 : hp_T} (X : aC 0 Γ q RX2 cX2_seeAlone 0 0) (N : ∀ k, k < 3 → aN Γ k) (hret : ∀ pc lv, decode cX2_seeAlone pc = .ok (.return_, 1) → aA Γ pc lv [] h2) {K : Int32 → hp_T → Option (hp_T)} (hk : ∀ v2 h, K v2 h = some h2 → aA Γ 55 [some (.ref (q 33)), some (.ref (q 1)), some (.int v2)] [] h) : ∀ (n : Nat) (v2 : Int32) (h : hp_T), f_X2_seeAlone_L1 K n v2 h = some h2 → aA Γ 7 [some (.ref (q 33)), some (.ref (q 1)), some (.int v2)] [] h := by
  intro n
  induction n with
  | zero =>
    intro v2 h E
    cases E
  | succ n ih =>
    intro v2 h E
    rw [f_X2_seeAlone_L1] at E
    refine aI_iload_n X.1 dX2_seeAlone_7 rfl ?_
    refine aI_bipush (v := 48) X.1 dX2_seeAlone_8 (by decide) ?_
    refine aI_icmp_ge (tgt := 55) X.1 dX2_seeAlone_10 (by decide) (fun c2 => ?_) (fun c2 => ?_)
    · have E := o_pos c2 E
      exact hk v2 h E
    · have E := o_neg c2 E
      refine aI_aload_n X.1 dX2_seeAlone_13 rfl ?_
      refine gf_2_59 X dX2_seeAlone_14 ?_
      refine aI_iload_n X.1 dX2_seeAlone_17 rfl ?_
      obtain ⟨g3, E⟩ := o_if E
      refine al0_4 X g3 dX2_seeAlone_18 ?_
      refine aI_if_eq (tgt := 49) X.1 dX2_seeAlone_19 (by decide) (fun c4 => ?_) (fun c4 => ?_)
      · have E := o_pos c4 E
        obtain ⟨x5, ex5, E⟩ := o_letE E
        refine aI_iinc (v := 1) (lv2 := [some (.ref (q 33)), some (.ref (q 1)), some (.int x5)]) X.1 dX2_seeAlone_49 (N 2 (by decide)) rfl (by decide) (by rw [← ex5]; rfl) ?_
        refine aI_goto (tgt := 7) X.1 dX2_seeAlone_52 (by decide) ?_
        exact ih x5 h E
      · have E := o_neg c4 E
        refine aI_aload_n X.1 dX2_seeAlone_22 rfl ?_
        refine gf_2_18 X dX2_seeAlone_23 ?_
        refine aI_aload_n X.1 dX2_seeAlone_26 rfl ?_
        refine gf_2_9 X dX2_seeAlone_27 ?_
        refine aI_iload_n X.1 dX2_seeAlone_30 rfl ?_
        obtain ⟨g6, E⟩ := o_if E
        refine al0_34 X g6 dX2_seeAlone_31 ?_
        obtain ⟨g7, E⟩ := o_if E
        refine al0_36 X g7 dX2_seeAlone_32 ?_
        refine aI_iconst (v := 1) X.1 dX2_seeAlone_33 (by decide) ?_
        refine aI_icmp_ne (tgt := 49) X.1 dX2_seeAlone_34 (by decide) (fun c8 => ?_) (fun c8 => ?_)
        · have E := o_neg c8 E
          obtain ⟨x9, ex9, E⟩ := o_letE E
          refine aI_iinc (v := 1) (lv2 := [some (.ref (q 33)), some (.ref (q 1)), some (.int x9)]) X.1 dX2_seeAlone_49 (N 2 (by decide)) rfl (by decide) (by rw [← ex9]; rfl) ?_
          refine aI_goto (tgt := 7) X.1 dX2_seeAlone_52 (by decide) ?_
          exact ih x9 h E
        · have E := o_pos c8 E
          refine aI_aload_n X.1 dX2_seeAlone_37 rfl ?_
          refine aI_dup X.1 dX2_seeAlone_38 rfl ?_
          refine gf_2_25 X dX2_seeAlone_39 ?_
          refine aI_lconst (v := 1) X.1 dX2_seeAlone_42 (by decide) ?_
          refine aI_iload_n X.1 dX2_seeAlone_43 rfl ?_
          refine aI_lshl X.1 dX2_seeAlone_44 ?_
          refine aI_lor X.1 dX2_seeAlone_45 ?_
          obtain ⟨h10, eh10, E⟩ := o_letE E
          refine pf_2_25 X dX2_seeAlone_46 (aI_eqh eh10 ?_)
          obtain ⟨x11, ex11, E⟩ := o_letE E
          refine aI_iinc (v := 1) (lv2 := [some (.ref (q 33)), some (.ref (q 1)), some (.int x11)]) X.1 dX2_seeAlone_49 (N 2 (by decide)) rfl (by decide) (by rw [← ex11]; rfl) ?_
          refine aI_goto (tgt := 7) X.1 dX2_seeAlone_52 (by decide) ?_
          exact ih x11 h10 E
set_option maxRecDepth 4000 in
theorem w_X2_seeAlone {Γ : g_T} {q : Nat → Nat}   {h2 : hp_T} {h : hp_T} (X : aC 0 Γ q RX2 cX2_seeAlone 0 0) (N : ∀ k, k < 3 → aN Γ k) (hret : ∀ pc lv, decode cX2_seeAlone pc = .ok (.return_, 1) → aA Γ pc lv [] h2) (E : f_X2_seeAlone  h = some h2) : aA Γ 0 [some (.ref (q 33)), some (.ref (q 1)), none] [] h := by
  unfold f_X2_seeAlone at E
  refine aI_aload_n X.1 dX2_seeAlone_0 rfl ?_
  refine aI_lconst (v := 0) X.1 dX2_seeAlone_1 (by decide) ?_
  obtain ⟨h1, eh1, E⟩ := o_letE E
  refine pf_2_25 X dX2_seeAlone_2 (aI_eqh eh1 ?_)
  refine aI_iconst (v := 0) X.1 dX2_seeAlone_5 (by decide) ?_
  refine aI_istore_n (lv2 := [some (.ref (q 33)), some (.ref (q 1)), some (.int (0 : Int32))]) X.1 dX2_seeAlone_6 (N 2 (by decide)) rfl ?_
  refine w_X2_seeAlone_L1  X N hret ?_ 100 (0 : Int32) h1 E
  intro x12 h13 E
  exact aI_vret E (hret _ _ dX2_seeAlone_55)
theorem c_X2_seeAlone {q : Nat → Nat}   {h2 : hp_T} {h : hp_T} (E : f_X2_seeAlone  h = some h2) : cV 0 yX2_seeAlone cX2_seeAlone 3 0 0 q [.ref (q 33), .ref (q 1)] h h2 := metV (own := RX2) (by decide) rfl (Nat.le_of_ble_eq_true rfl) rfl (fun Γ X N hret => w_X2_seeAlone X N hret E)
set_option maxRecDepth 4000 in
theorem w_X2_build_L1 {Γ : g_T} {q : Nat → Nat}    {h2 : hp_T} (X : aC 0 Γ q RX2 cX2_build 2 43) (N : ∀ k, k < 5 → aN Γ k) (hret : ∀ pc lv, decode cX2_build pc = .ok (.return_, 1) → aA Γ pc lv [] h2) {K : Int32 → Int32 → hp_T → Option (hp_T)} (hk : ∀ v2 v3 h, K v2 v3 h = some h2 → aA Γ 98 [some (.ref (q 33)), some (.ref (q 1)), some (.int v2), some (.int v3), none] [] h) : ∀ (n : Nat) (v2 : Int32) (v3 : Int32) (h : hp_T), f_X2_build_L1 K n v2 v3 h = some h2 → aA Γ 10 [some (.ref (q 33)), some (.ref (q 1)), some (.int v2), some (.int v3), none] [] h := by
  intro n
  induction n with
  | zero =>
    intro v2 v3 h E
    cases E
  | succ n ih =>
    intro v2 v3 h E
    rw [f_X2_build_L1] at E
    refine aI_iload_n X.1 dX2_build_10 rfl ?_
    refine aI_aload_n X.1 dX2_build_11 rfl ?_
    refine gf_2_30 X dX2_build_12 ?_
    refine aI_icmp_ge (tgt := 98) X.1 dX2_build_15 (by decide) (fun c2 => ?_) (fun c2 => ?_)
    · have E := o_pos c2 E
      exact hk v2 v3 h E
    · have E := o_neg c2 E
      refine aI_aload_n X.1 dX2_build_18 rfl ?_
      refine gf_2_33 X dX2_build_19 ?_
      refine aI_iload_n X.1 dX2_build_22 rfl ?_
      obtain ⟨g3, E⟩ := o_if E
      refine al0_5 X g3 dX2_build_23 ?_
      obtain ⟨x4, ex4, E⟩ := o_letE E
      refine aI_eqi ex4 ?_
      refine aI_istore (lv2 := [some (.ref (q 33)), some (.ref (q 1)), some (.int v2), some (.int v3), some (.int x4)]) X.1 dX2_build_24 (N 4 (by decide)) rfl ?_
      refine aI_aload_n X.1 dX2_build_26 rfl ?_
      refine gf_2_36 X dX2_build_27 ?_
      refine aI_iload X.1 dX2_build_30 rfl ?_
      obtain ⟨g5, E⟩ := o_if E
      refine al0_2 X g5 dX2_build_32 ?_
      refine aI_iload_n X.1 dX2_build_33 rfl ?_
      refine aI_icmp_lt (tgt := 68) X.1 dX2_build_34 (by decide) (fun c6 => ?_) (fun c6 => ?_)
      · have E := o_pos c6 E
        refine aI_aload_n X.1 dX2_build_68 rfl ?_
        refine aI_iload X.1 dX2_build_69 rfl ?_
        refine aI_aload_n X.1 dX2_build_71 rfl ?_
        refine gf_2_21 X dX2_build_72 ?_
        refine aI_iconst (v := 1) X.1 dX2_build_75 (by decide) ?_
        refine aI_isub X.1 dX2_build_76 ?_
        obtain ⟨h7, e8, E⟩ := o_cvE E
        refine cv_X2_addMember X (c_X2_addMember e8) ml_2_39 (by decide) (by decide) (Nat.le_of_ble_eq_true rfl) dX2_build_77 ?_
        refine aI_iload_n X.1 dX2_build_80 rfl ?_
        refine aI_aload_n X.1 dX2_build_81 rfl ?_
        refine gf_2_43 X dX2_build_82 ?_
        refine aI_iload X.1 dX2_build_85 rfl ?_
        obtain ⟨g9, E⟩ := o_if E
        refine al0_3 X g9 dX2_build_87 ?_
        refine aI_max X.1 ml_2_46 ms_max mi_Math mc_max (by decide) (Nat.le_of_ble_eq_true rfl) dX2_build_88 ?_
        obtain ⟨x10, ex10, E⟩ := o_letE E
        refine aI_eqi ex10 ?_
        refine aI_istore_n (lv2 := [some (.ref (q 33)), some (.ref (q 1)), some (.int x10), some (.int v3), some (.int x4)]) X.1 dX2_build_91 (N 2 (by decide)) rfl ?_
        obtain ⟨x11, ex11, E⟩ := o_letE E
        refine aI_iinc (v := 1) (lv2 := [some (.ref (q 33)), some (.ref (q 1)), some (.int x10), some (.int x11), some (.int x4)]) X.1 dX2_build_92 (N 3 (by decide)) rfl (by decide) (by rw [← ex11]; rfl) ?_
        refine aI_goto (tgt := 10) X.1 dX2_build_95 (by decide) ?_
        refine aI_lv [true, true, true, true, false] (lv2 := [some (.ref (q 33)), some (.ref (q 1)), some (.int x10), some (.int x11), none]) rfl ?_
        exact ih x10 x11 h7 E
      · have E := o_neg c6 E
        refine aI_aload_n X.1 dX2_build_37 rfl ?_
        refine gf_2_15 X dX2_build_38 ?_
        refine aI_aload_n X.1 dX2_build_41 rfl ?_
        refine gf_2_21 X dX2_build_42 ?_
        refine aI_iload X.1 dX2_build_45 rfl ?_
        obtain ⟨g12, E⟩ := o_if E
        obtain ⟨h13, eh13, E⟩ := o_letE E
        refine as0_35 X g12 dX2_build_47 (aI_eqh eh13 ?_)
        refine aI_aload_n X.1 dX2_build_48 rfl ?_
        refine gf_2_18 X dX2_build_49 ?_
        refine aI_aload_n X.1 dX2_build_52 rfl ?_
        refine gf_2_21 X dX2_build_53 ?_
        refine aI_iconst (v := 0) X.1 dX2_build_56 (by decide) ?_
        obtain ⟨g14, E⟩ := o_if E
        obtain ⟨h15, eh15, E⟩ := o_letE E
        refine as0_36 X g14 dX2_build_57 (aI_eqh eh15 ?_)
        refine aI_aload_n X.1 dX2_build_58 rfl ?_
        refine aI_dup X.1 dX2_build_59 rfl ?_
        refine gf_2_21 X dX2_build_60 ?_
        refine aI_iconst (v := 1) X.1 dX2_build_63 (by decide) ?_
        refine aI_iadd X.1 dX2_build_64 ?_
        obtain ⟨h16, eh16, E⟩ := o_letE E
        refine pf_2_21 X dX2_build_65 (aI_eqh eh16 ?_)
        refine aI_aload_n X.1 dX2_build_68 rfl ?_
        refine aI_iload X.1 dX2_build_69 rfl ?_
        refine aI_aload_n X.1 dX2_build_71 rfl ?_
        refine gf_2_21 X dX2_build_72 ?_
        refine aI_iconst (v := 1) X.1 dX2_build_75 (by decide) ?_
        refine aI_isub X.1 dX2_build_76 ?_
        obtain ⟨h17, e18, E⟩ := o_cvE E
        refine cv_X2_addMember X (c_X2_addMember e18) ml_2_39 (by decide) (by decide) (Nat.le_of_ble_eq_true rfl) dX2_build_77 ?_
        refine aI_iload_n X.1 dX2_build_80 rfl ?_
        refine aI_aload_n X.1 dX2_build_81 rfl ?_
        refine gf_2_43 X dX2_build_82 ?_
        refine aI_iload X.1 dX2_build_85 rfl ?_
        obtain ⟨g19, E⟩ := o_if E
        refine al0_3 X g19 dX2_build_87 ?_
        refine aI_max X.1 ml_2_46 ms_max mi_Math mc_max (by decide) (Nat.le_of_ble_eq_true rfl) dX2_build_88 ?_
        obtain ⟨x20, ex20, E⟩ := o_letE E
        refine aI_eqi ex20 ?_
        refine aI_istore_n (lv2 := [some (.ref (q 33)), some (.ref (q 1)), some (.int x20), some (.int v3), some (.int x4)]) X.1 dX2_build_91 (N 2 (by decide)) rfl ?_
        obtain ⟨x21, ex21, E⟩ := o_letE E
        refine aI_iinc (v := 1) (lv2 := [some (.ref (q 33)), some (.ref (q 1)), some (.int x20), some (.int x21), some (.int x4)]) X.1 dX2_build_92 (N 3 (by decide)) rfl (by decide) (by rw [← ex21]; rfl) ?_
        refine aI_goto (tgt := 10) X.1 dX2_build_95 (by decide) ?_
        refine aI_lv [true, true, true, true, false] (lv2 := [some (.ref (q 33)), some (.ref (q 1)), some (.int x20), some (.int x21), none]) rfl ?_
        exact ih x20 x21 h17 E
set_option maxRecDepth 4000 in
theorem w_X2_build {Γ : g_T} {q : Nat → Nat}   {h2 : hp_T} {h : hp_T} (X : aC 0 Γ q RX2 cX2_build 2 43) (N : ∀ k, k < 5 → aN Γ k) (hret : ∀ pc lv, decode cX2_build pc = .ok (.return_, 1) → aA Γ pc lv [] h2) (E : f_X2_build  h = some h2) : aA Γ 0 [some (.ref (q 33)), some (.ref (q 1)), none, none, none] [] h := by
  unfold f_X2_build at E
  refine aI_aload_n X.1 dX2_build_0 rfl ?_
  refine aI_iconst (v := 0) X.1 dX2_build_1 (by decide) ?_
  obtain ⟨h1, eh1, E⟩ := o_letE E
  refine pf_2_21 X dX2_build_2 (aI_eqh eh1 ?_)
  refine aI_ldc X.1 dX2_build_5 kc_2_29 ?_
  refine aI_istore_n (lv2 := [some (.ref (q 33)), some (.ref (q 1)), some (.int (-1000000000 : Int32)), none, none]) X.1 dX2_build_7 (N 2 (by decide)) rfl ?_
  refine aI_iconst (v := 0) X.1 dX2_build_8 (by decide) ?_
  refine aI_istore_n (lv2 := [some (.ref (q 33)), some (.ref (q 1)), some (.int (-1000000000 : Int32)), some (.int (0 : Int32)), none]) X.1 dX2_build_9 (N 3 (by decide)) rfl ?_
  refine w_X2_build_L1  X N hret ?_ 100 (-1000000000 : Int32) (0 : Int32) h1 E
  intro x22 x23 h24 E
  refine aI_aload_n X.1 dX2_build_98 rfl ?_
  refine aI_aload_n X.1 dX2_build_99 rfl ?_
  obtain ⟨h25, e26, E⟩ := o_cvE E
  refine cv_X2_seeAlone X (c_X2_seeAlone e26) ml_2_52 (by decide) (by decide) (Nat.le_of_ble_eq_true rfl) dX2_build_100 ?_
  exact aI_vret E (hret _ _ dX2_build_103)
theorem c_X2_build {q : Nat → Nat}   {h2 : hp_T} {h : hp_T} (E : f_X2_build  h = some h2) : cV 0 yX2_build cX2_build 5 2 43 q [.ref (q 33), .ref (q 1)] h h2 := metV (own := RX2) (by decide) rfl (Nat.le_of_ble_eq_true rfl) rfl (fun Γ X N hret => w_X2_build X N hret E)
set_option maxRecDepth 4000 in
theorem w_X9_settle {Γ : g_T} {q : Nat → Nat}   {h2 : hp_T} {h : hp_T} (X : aC 0 Γ q RX9 cX9_settle 3 68) (N : ∀ k, k < 1 → aN Γ k) (hret : ∀ pc lv, decode cX9_settle pc = .ok (.return_, 1) → aA Γ pc lv [] h2) (E : f_X9_settle  h = some h2) : aA Γ 0 [some (.ref (q 0))] [] h := by
  unfold f_X9_settle at E
  refine aI_aload_n X.1 dX9_settle_0 rfl ?_
  refine gf_9_71 X dX9_settle_1 ?_
  refine aI_if_ne (tgt := 8) X.1 dX9_settle_4 (by decide) (fun c1 => ?_) (fun c1 => ?_)
  · have E := o_neg c1 E
    refine aI_aload_n X.1 dX9_settle_8 rfl ?_
    refine gf_9_26 X dX9_settle_9 ?_
    refine aI_aload_n X.1 dX9_settle_12 rfl ?_
    refine gf_9_12 X dX9_settle_13 ?_
    obtain ⟨h2, e3, E⟩ := o_cvE E
    refine cv_X8_build X (c_X8_build e3) ml_9_388 (by decide) (by decide) (Nat.le_of_ble_eq_true rfl) dX9_settle_16 ?_
    refine aI_aload_n X.1 dX9_settle_19 rfl ?_
    refine gf_9_33 X dX9_settle_20 ?_
    refine aI_aload_n X.1 dX9_settle_23 rfl ?_
    refine gf_9_12 X dX9_settle_24 ?_
    obtain ⟨h4, e5, E⟩ := o_cvE E
    refine cv_X1_build X (c_X1_build e5) ml_9_392 (by decide) (by decide) (Nat.le_of_ble_eq_true rfl) dX9_settle_27 ?_
    refine aI_aload_n X.1 dX9_settle_30 rfl ?_
    refine gf_9_40 X dX9_settle_31 ?_
    refine aI_aload_n X.1 dX9_settle_34 rfl ?_
    refine gf_9_12 X dX9_settle_35 ?_
    obtain ⟨h6, e7, E⟩ := o_cvE E
    refine cv_X5_build X (c_X5_build e7) ml_9_393 (by decide) (by decide) (Nat.le_of_ble_eq_true rfl) dX9_settle_38 ?_
    refine aI_aload_n X.1 dX9_settle_41 rfl ?_
    refine gf_9_47 X dX9_settle_42 ?_
    refine aI_aload_n X.1 dX9_settle_45 rfl ?_
    refine gf_9_12 X dX9_settle_46 ?_
    obtain ⟨h8, e9, E⟩ := o_cvE E
    refine cv_X3_build X (c_X3_build e9) ml_9_394 (by decide) (by decide) (Nat.le_of_ble_eq_true rfl) dX9_settle_49 ?_
    refine aI_aload_n X.1 dX9_settle_52 rfl ?_
    refine gf_9_54 X dX9_settle_53 ?_
    refine aI_aload_n X.1 dX9_settle_56 rfl ?_
    refine gf_9_12 X dX9_settle_57 ?_
    obtain ⟨h10, e11, E⟩ := o_cvE E
    refine cv_X4_build X (c_X4_build e11) ml_9_395 (by decide) (by decide) (Nat.le_of_ble_eq_true rfl) dX9_settle_60 ?_
    refine aI_aload_n X.1 dX9_settle_63 rfl ?_
    refine gf_9_61 X dX9_settle_64 ?_
    refine aI_aload_n X.1 dX9_settle_67 rfl ?_
    refine gf_9_12 X dX9_settle_68 ?_
    obtain ⟨h12, e13, E⟩ := o_cvE E
    refine cv_X2_build X (c_X2_build e13) ml_9_396 (by decide) (by decide) (Nat.le_of_ble_eq_true rfl) dX9_settle_71 ?_
    refine aI_aload_n X.1 dX9_settle_74 rfl ?_
    refine aI_iconst (v := 0) X.1 dX9_settle_75 (by decide) ?_
    obtain ⟨h14, eh14, E⟩ := o_letE E
    refine pf_9_71 X (by decide) dX9_settle_76 (aI_eqh eh14 ?_)
    exact aI_vret E (hret _ _ dX9_settle_79)
  · have E := o_pos c1 E
    exact aI_vret E (hret _ _ dX9_settle_7)
theorem c_X9_settle {q : Nat → Nat}   {h2 : hp_T} {h : hp_T} (E : f_X9_settle  h = some h2) : cV 0 yX9_settle cX9_settle 1 3 68 q [.ref (q 0)] h h2 := metV (own := RX9) (by decide) rfl (Nat.le_of_ble_eq_true rfl) rfl (fun Γ X N hret => w_X9_settle X N hret E)
set_option maxRecDepth 4000 in
theorem w_X9_root {Γ : g_T} {q : Nat → Nat}   {r : Int32} {h2 : hp_T} {h : hp_T} (X : aC 0 Γ q RX9 cX9_root 4 88) (N : ∀ k, k < 1 → aN Γ k) (hret : ∀ pc lv, decode cX9_root pc = .ok (.ireturn, 1) → aA Γ pc lv [.int r] h2) (E : f_X9_root  h = some (r, h2)) : aA Γ 0 [some (.ref (q 0))] [] h := by
  unfold f_X9_root at E
  refine aI_aload_n X.1 dX9_root_0 rfl ?_
  obtain ⟨h1, e2, E⟩ := o_cvE E
  refine cv_X9_settle X (c_X9_settle e2) ml_9_151 (by decide) (by decide) (Nat.le_of_ble_eq_true rfl) dX9_root_1 ?_
  refine aI_aload_n X.1 dX9_root_4 rfl ?_
  refine gf_9_26 X dX9_root_5 ?_
  refine gf_9_154 X dX9_root_8 ?_
  exact aI_iret E (hret _ _ dX9_root_11)
theorem c_X9_root {q : Nat → Nat}   {r : Int32} {h2 : hp_T} {h : hp_T} (E : f_X9_root  h = some (r, h2)) : cI 0 yX9_root cX9_root 1 .int 4 88 q [.ref (q 0)] h r h2 := metI (own := RX9) (by decide) rfl (Nat.le_of_ble_eq_true rfl) rfl (fun Γ X N hret => w_X9_root X N hret E)
set_option maxRecDepth 4000 in
theorem w_X9_tree {Γ : g_T} {q : Nat → Nat} {p1 : Int32} {p2 : Int32}  {r : Int32} {h2 : hp_T} {h : hp_T} (X : aC 0 Γ q RX9 cX9_tree 4 88) (N : ∀ k, k < 3 → aN Γ k) (hret : ∀ pc lv, decode cX9_tree pc = .ok (.ireturn, 1) → aA Γ pc lv [.int r] h2) (E : f_X9_tree p1 p2 h = some (r, h2)) : aA Γ 0 [some (.ref (q 0)), some (.int p1), some (.int p2)] [] h := by
  unfold f_X9_tree at E
  refine aI_iload_n X.1 dX9_tree_0 rfl ?_
  obtain ⟨r2, h1, e3, E⟩ := o_callE E
  refine cv_X9_isKey X (c_X9_isKey e3) ml_9_80 (by decide) (by decide) (Nat.le_of_ble_eq_true rfl) dX9_tree_1 ?_
  refine aI_if_eq (tgt := 16) X.1 dX9_tree_4 (by decide) (fun c4 => ?_) (fun c4 => ?_)
  · have E := o_pos c4 E
    refine aI_bipush (v := -2) X.1 dX9_tree_16 (by decide) ?_
    exact aI_iret E (hret _ _ dX9_tree_18)
  · have E := o_neg c4 E
    refine aI_iload_n X.1 dX9_tree_7 rfl ?_
    refine aI_if_lt (tgt := 16) X.1 dX9_tree_8 (by decide) (fun c5 => ?_) (fun c5 => ?_)
    · have E := o_pos c5 E
      refine aI_bipush (v := -2) X.1 dX9_tree_16 (by decide) ?_
      exact aI_iret E (hret _ _ dX9_tree_18)
    · have E := o_neg c5 E
      refine aI_iload_n X.1 dX9_tree_11 rfl ?_
      refine aI_iconst (v := 5) X.1 dX9_tree_12 (by decide) ?_
      refine aI_icmp_le (tgt := 19) X.1 dX9_tree_13 (by decide) (fun c6 => ?_) (fun c6 => ?_)
      · have E := o_pos c6 E
        refine aI_aload_n X.1 dX9_tree_19 rfl ?_
        refine gf_9_12 X dX9_tree_20 ?_
        refine gf_9_88 X dX9_tree_23 ?_
        refine aI_iload_n X.1 dX9_tree_26 rfl ?_
        obtain ⟨g7, E⟩ := o_if E
        refine al0_4 X g7 dX9_tree_27 ?_
        refine aI_if_ne (tgt := 34) X.1 dX9_tree_28 (by decide) (fun c8 => ?_) (fun c8 => ?_)
        · have E := o_neg c8 E
          refine aI_aload_n X.1 dX9_tree_34 rfl ?_
          obtain ⟨h9, e10, E⟩ := o_cvE E
          refine cv_X9_settle X (c_X9_settle e10) ml_9_151 (by decide) (by decide) (Nat.le_of_ble_eq_true rfl) dX9_tree_35 ?_
          refine aI_iload_n X.1 dX9_tree_38 rfl ?_
          by_cases c17 : p2 = (0 : Int32)
          · have E := o_pos c17 E
            refine aI_tableIn (tgt := 72) (0 : Int32) X.1 dX9_tree_39 c17 (by decide) (by decide) rfl (by decide) ?_
            refine aI_aload_n X.1 dX9_tree_72 rfl ?_
            refine gf_9_26 X dX9_tree_73 ?_
            refine gf_9_157 X dX9_tree_76 ?_
            refine aI_iload_n X.1 dX9_tree_79 rfl ?_
            obtain ⟨g11, E⟩ := o_if E
            refine al0_14 X g11 dX9_tree_80 ?_
            exact aI_iret E (hret _ _ dX9_tree_81)
          have E := o_neg c17 E
          by_cases c18 : p2 = (1 : Int32)
          · have E := o_pos c18 E
            refine aI_tableIn (tgt := 82) (1 : Int32) X.1 dX9_tree_39 c18 (by decide) (by decide) rfl (by decide) ?_
            refine aI_aload_n X.1 dX9_tree_82 rfl ?_
            refine gf_9_26 X dX9_tree_83 ?_
            refine gf_9_160 X dX9_tree_86 ?_
            refine aI_iload_n X.1 dX9_tree_89 rfl ?_
            obtain ⟨g12, E⟩ := o_if E
            refine al0_15 X g12 dX9_tree_90 ?_
            exact aI_iret E (hret _ _ dX9_tree_91)
          have E := o_neg c18 E
          by_cases c19 : p2 = (2 : Int32)
          · have E := o_pos c19 E
            refine aI_tableIn (tgt := 92) (2 : Int32) X.1 dX9_tree_39 c19 (by decide) (by decide) rfl (by decide) ?_
            refine aI_aload_n X.1 dX9_tree_92 rfl ?_
            refine gf_9_26 X dX9_tree_93 ?_
            refine gf_9_163 X dX9_tree_96 ?_
            refine aI_iload_n X.1 dX9_tree_99 rfl ?_
            obtain ⟨g13, E⟩ := o_if E
            refine al0_16 X g13 dX9_tree_100 ?_
            exact aI_iret E (hret _ _ dX9_tree_101)
          have E := o_neg c19 E
          by_cases c20 : p2 = (3 : Int32)
          · have E := o_pos c20 E
            refine aI_tableIn (tgt := 102) (3 : Int32) X.1 dX9_tree_39 c20 (by decide) (by decide) rfl (by decide) ?_
            refine aI_aload_n X.1 dX9_tree_102 rfl ?_
            refine gf_9_26 X dX9_tree_103 ?_
            refine gf_9_166 X dX9_tree_106 ?_
            refine aI_iload_n X.1 dX9_tree_109 rfl ?_
            obtain ⟨g14, E⟩ := o_if E
            refine al0_17 X g14 dX9_tree_110 ?_
            exact aI_iret E (hret _ _ dX9_tree_111)
          have E := o_neg c20 E
          by_cases c21 : p2 = (4 : Int32)
          · have E := o_pos c21 E
            refine aI_tableIn (tgt := 112) (4 : Int32) X.1 dX9_tree_39 c21 (by decide) (by decide) rfl (by decide) ?_
            refine aI_aload_n X.1 dX9_tree_112 rfl ?_
            refine gf_9_26 X dX9_tree_113 ?_
            refine gf_9_169 X dX9_tree_116 ?_
            refine aI_iload_n X.1 dX9_tree_119 rfl ?_
            obtain ⟨g15, E⟩ := o_if E
            refine al0_18 X g15 dX9_tree_120 ?_
            exact aI_iret E (hret _ _ dX9_tree_121)
          have E := o_neg c21 E
          refine aI_tableOut (tgt := 122) X.1 dX9_tree_39 (by have ac17 := i32_ne 0 (by decide) c17; have ac18 := i32_ne 1 (by decide) c18; have ac19 := i32_ne 2 (by decide) c19; have ac20 := i32_ne 3 (by decide) c20; have ac21 := i32_ne 4 (by decide) c21; omega) (by decide) ?_
          refine aI_aload_n X.1 dX9_tree_122 rfl ?_
          refine gf_9_26 X dX9_tree_123 ?_
          refine gf_9_172 X dX9_tree_126 ?_
          refine aI_iload_n X.1 dX9_tree_129 rfl ?_
          obtain ⟨g16, E⟩ := o_if E
          refine al0_19 X g16 dX9_tree_130 ?_
          exact aI_iret E (hret _ _ dX9_tree_131)
        · have E := o_pos c8 E
          refine aI_bipush (v := -3) X.1 dX9_tree_31 (by decide) ?_
          exact aI_iret E (hret _ _ dX9_tree_33)
      · have E := o_neg c6 E
        refine aI_bipush (v := -2) X.1 dX9_tree_16 (by decide) ?_
        exact aI_iret E (hret _ _ dX9_tree_18)
theorem c_X9_tree {q : Nat → Nat} {p1 : Int32} {p2 : Int32}  {r : Int32} {h2 : hp_T} {h : hp_T} (E : f_X9_tree p1 p2 h = some (r, h2)) : cI 0 yX9_tree cX9_tree 3 .int 4 88 q [.ref (q 0), .int p1, .int p2] h r h2 := metI (own := RX9) (by decide) rfl (Nat.le_of_ble_eq_true rfl) rfl (fun Γ X N hret => w_X9_tree X N hret E)
set_option maxRecDepth 4000 in
theorem w_X9_end {Γ : g_T} {q : Nat → Nat} {p1 : Int32}  {r : Int32} {h2 : hp_T} {h : hp_T} (X : aC 0 Γ q RX9 cX9_end 4 88) (N : ∀ k, k < 2 → aN Γ k) (hret : ∀ pc lv, decode cX9_end pc = .ok (.ireturn, 1) → aA Γ pc lv [.int r] h2) (E : f_X9_end p1 h = some (r, h2)) : aA Γ 0 [some (.ref (q 0)), some (.int p1)] [] h := by
  unfold f_X9_end at E
  refine aI_aload_n X.1 dX9_end_0 rfl ?_
  refine aI_iload_n X.1 dX9_end_1 rfl ?_
  obtain ⟨r2, h1, e3, E⟩ := o_callE E
  refine cv_X9_isThere X (c_X9_isThere e3) ml_9_141 (by decide) (by decide) (Nat.le_of_ble_eq_true rfl) dX9_end_2 ?_
  refine aI_if_ne (tgt := 11) X.1 dX9_end_5 (by decide) (fun c4 => ?_) (fun c4 => ?_)
  · have E := o_neg c4 E
    refine aI_aload_n X.1 dX9_end_11 rfl ?_
    obtain ⟨h5, e6, E⟩ := o_cvE E
    refine cv_X9_settle X (c_X9_settle e6) ml_9_151 (by decide) (by decide) (Nat.le_of_ble_eq_true rfl) dX9_end_12 ?_
    refine aI_aload_n X.1 dX9_end_15 rfl ?_
    refine gf_9_26 X dX9_end_16 ?_
    refine gf_9_175 X dX9_end_19 ?_
    refine aI_iload_n X.1 dX9_end_22 rfl ?_
    obtain ⟨g7, E⟩ := o_if E
    refine al0_20 X g7 dX9_end_23 ?_
    exact aI_iret E (hret _ _ dX9_end_24)
  · have E := o_pos c4 E
    refine aI_ldc X.1 dX9_end_8 kc_9_144 ?_
    exact aI_iret E (hret _ _ dX9_end_10)
theorem c_X9_end {q : Nat → Nat} {p1 : Int32}  {r : Int32} {h2 : hp_T} {h : hp_T} (E : f_X9_end p1 h = some (r, h2)) : cI 0 yX9_end cX9_end 2 .int 4 88 q [.ref (q 0), .int p1] h r h2 := metI (own := RX9) (by decide) rfl (Nat.le_of_ble_eq_true rfl) rfl (fun Γ X N hret => w_X9_end X N hret E)
set_option maxRecDepth 4000 in
theorem w_X8_looksAt {Γ : g_T} {q : Nat → Nat} {p1 : Int32} {p3 : Int32} {p4 : Int32}  {r : Int32} {h2 : hp_T} {h : hp_T} (X : aC 0 Γ q RX8 cX8_looksAt 0 0) (N : ∀ k, k < 6 → aN Γ k) (hret : ∀ pc lv, decode cX8_looksAt pc = .ok (.ireturn, 1) → bz r = true → aA Γ pc lv [.int r] h2) (E : f_X8_looksAt p1 p3 p4 h = some (r, h2)) : aA Γ 0 [some (.ref (q 12)), some (.int p1), some (.ref (q 1)), some (.int p3), some (.int p4), none] [] h := by
  unfold f_X8_looksAt at E
  refine aI_aload_n X.1 dX8_looksAt_0 rfl ?_
  refine gf_8_15 X dX8_looksAt_1 ?_
  refine aI_iload_n X.1 dX8_looksAt_4 rfl ?_
  obtain ⟨g1, E⟩ := o_if E
  refine al0_14 X g1 dX8_looksAt_5 ?_
  obtain ⟨x2, ex2, E⟩ := o_letE E
  refine aI_eqi ex2 ?_
  refine aI_istore (lv2 := [some (.ref (q 12)), some (.int p1), some (.ref (q 1)), some (.int p3), some (.int p4), some (.int x2)]) X.1 dX8_looksAt_6 (N 5 (by decide)) rfl ?_
  refine aI_iload X.1 dX8_looksAt_8 rfl ?_
  refine aI_iconst (v := -1) X.1 dX8_looksAt_10 (by decide) ?_
  refine aI_icmp_ne (tgt := 16) X.1 dX8_looksAt_11 (by decide) (fun c3 => ?_) (fun c3 => ?_)
  · have E := o_neg c3 E
    refine aI_aload_n X.1 dX8_looksAt_16 rfl ?_
    refine gf_8_36 X dX8_looksAt_17 ?_
    refine aI_iload X.1 dX8_looksAt_20 rfl ?_
    obtain ⟨g4, E⟩ := o_if E
    refine al0_21 X g4 dX8_looksAt_22 ?_
    refine aI_if_eq (tgt := 36) X.1 dX8_looksAt_23 (by decide) (fun c5 => ?_) (fun c5 => ?_)
    · have E := o_pos c5 E
      refine aI_iconst (v := 0) X.1 dX8_looksAt_36 (by decide) ?_
      exact aI_zret (by decide) E (hret _ _ dX8_looksAt_37)
    · have E := o_neg c5 E
      refine aI_aload_n X.1 dX8_looksAt_26 rfl ?_
      refine gf_8_33 X dX8_looksAt_27 ?_
      refine aI_iload_n X.1 dX8_looksAt_30 rfl ?_
      obtain ⟨g6, E⟩ := o_if E
      refine al0_20 X g6 dX8_looksAt_31 ?_
      refine aI_iload_n X.1 dX8_looksAt_32 rfl ?_
      refine aI_icmp_gt (tgt := 38) X.1 dX8_looksAt_33 (by decide) (fun c7 => ?_) (fun c7 => ?_)
      · have E := o_pos c7 E
        refine aI_aload_n X.1 dX8_looksAt_38 rfl ?_
        refine gf_8_18 X dX8_looksAt_39 ?_
        refine aI_iload X.1 dX8_looksAt_42 rfl ?_
        obtain ⟨g8, E⟩ := o_if E
        refine al0_15 X g8 dX8_looksAt_44 ?_
        refine aI_iload_n X.1 dX8_looksAt_45 rfl ?_
        refine aI_icmp_eq (tgt := 61) X.1 dX8_looksAt_46 (by decide) (fun c9 => ?_) (fun c9 => ?_)
        · have E := o_pos c9 E
          refine aI_iconst (v := 1) X.1 dX8_looksAt_61 (by decide) ?_
          refine aI_goto (tgt := 66) X.1 dX8_looksAt_62 (by decide) ?_
          exact aI_zret (by decide) E (hret _ _ dX8_looksAt_66)
        · have E := o_neg c9 E
          refine aI_aload_n X.1 dX8_looksAt_49 rfl ?_
          refine gf_8_79 X dX8_looksAt_50 ?_
          refine aI_iload X.1 dX8_looksAt_53 rfl ?_
          obtain ⟨g10, E⟩ := o_if E
          refine al0_2 X g10 dX8_looksAt_55 ?_
          refine aI_iload X.1 dX8_looksAt_56 rfl ?_
          refine aI_icmp_ge (tgt := 65) X.1 dX8_looksAt_58 (by decide) (fun c11 => ?_) (fun c11 => ?_)
          · have E := o_pos c11 E
            refine aI_iconst (v := 0) X.1 dX8_looksAt_65 (by decide) ?_
            exact aI_zret (by decide) E (hret _ _ dX8_looksAt_66)
          · have E := o_neg c11 E
            refine aI_iconst (v := 1) X.1 dX8_looksAt_61 (by decide) ?_
            refine aI_goto (tgt := 66) X.1 dX8_looksAt_62 (by decide) ?_
            exact aI_zret (by decide) E (hret _ _ dX8_looksAt_66)
      · have E := o_neg c7 E
        refine aI_iconst (v := 0) X.1 dX8_looksAt_36 (by decide) ?_
        exact aI_zret (by decide) E (hret _ _ dX8_looksAt_37)
  · have E := o_pos c3 E
    refine aI_iconst (v := 1) X.1 dX8_looksAt_14 (by decide) ?_
    exact aI_zret (by decide) E (hret _ _ dX8_looksAt_15)
theorem c_X8_looksAt {q : Nat → Nat} {p1 : Int32} {p3 : Int32} {p4 : Int32}  {r : Int32} {h2 : hp_T} {h : hp_T} (E : f_X8_looksAt p1 p3 p4 h = some (r, h2)) : cI 0 yX8_looksAt cX8_looksAt 6 .boolean 0 0 q [.ref (q 12), .int p1, .ref (q 1), .int p3, .int p4] h r h2 := metZ (own := RX8) (by decide) rfl (Nat.le_of_ble_eq_true rfl) rfl (fun Γ X N hret => w_X8_looksAt X N hret E)
set_option maxRecDepth 4000 in
theorem w_X8_lookedAt_L1 {Γ : g_T} {q : Nat → Nat}  {u2 : Int32} {u3 : Int32}  {r : Int32} {h2 : hp_T} (X : aC 0 Γ q RX8 cX8_lookedAt 1 25) (N : ∀ k, k < 7 → aN Γ k) (hret : ∀ pc lv, decode cX8_lookedAt pc = .ok (.ireturn, 1) → aA Γ pc lv [.int r] h2) {K : Int32 → Int32 → hp_T → Option (Int32 × hp_T)} (hk : ∀ v4 v5 h, K v4 v5 h = some (r, h2) → aA Γ 74 [some (.ref (q 12)), some (.ref (q 1)), some (.int u2), some (.int u3), some (.int v4), some (.int v5), none] [] h) : ∀ (n : Nat) (v4 : Int32) (v5 : Int32) (h : hp_T), f_X8_lookedAt_L1 u2 u3 K n v4 v5 h = some (r, h2) → aA Γ 6 [some (.ref (q 12)), some (.ref (q 1)), some (.int u2), some (.int u3), some (.int v4), some (.int v5), none] [] h := by
  intro n
  induction n with
  | zero =>
    intro v4 v5 h E
    cases E
  | succ n ih =>
    intro v4 v5 h E
    rw [f_X8_lookedAt_L1] at E
    refine aI_iload X.1 dX8_lookedAt_6 rfl ?_
    refine aI_bipush (v := 48) X.1 dX8_lookedAt_8 (by decide) ?_
    refine aI_icmp_ge (tgt := 74) X.1 dX8_lookedAt_10 (by decide) (fun c1 => ?_) (fun c1 => ?_)
    · have E := o_pos c1 E
      exact hk v4 v5 h E
    · have E := o_neg c1 E
      refine aI_aload_n X.1 dX8_lookedAt_13 rfl ?_
      refine gf_8_9 X dX8_lookedAt_14 ?_
      refine aI_iload X.1 dX8_lookedAt_17 rfl ?_
      obtain ⟨g2, E⟩ := o_if E
      refine al0_13 X g2 dX8_lookedAt_19 ?_
      obtain ⟨x3, ex3, E⟩ := o_letE E
      refine aI_eqi ex3 ?_
      refine aI_istore (lv2 := [some (.ref (q 12)), some (.ref (q 1)), some (.int u2), some (.int u3), some (.int v4), some (.int v5), some (.int x3)]) X.1 dX8_lookedAt_20 (N 6 (by decide)) rfl ?_
      refine aI_aload_n X.1 dX8_lookedAt_22 rfl ?_
      refine gf_8_50 X dX8_lookedAt_23 ?_
      refine aI_iload X.1 dX8_lookedAt_26 rfl ?_
      obtain ⟨g4, E⟩ := o_if E
      refine al0_4 X g4 dX8_lookedAt_28 ?_
      refine aI_if_eq (tgt := 68) X.1 dX8_lookedAt_29 (by decide) (fun c5 => ?_) (fun c5 => ?_)
      · have E := o_pos c5 E
        obtain ⟨x6, ex6, E⟩ := o_letE E
        refine aI_iinc (v := 1) (lv2 := [some (.ref (q 12)), some (.ref (q 1)), some (.int u2), some (.int u3), some (.int v4), some (.int x6), some (.int x3)]) X.1 dX8_lookedAt_68 (N 5 (by decide)) rfl (by decide) (by rw [← ex6]; rfl) ?_
        refine aI_goto (tgt := 6) X.1 dX8_lookedAt_71 (by decide) ?_
        refine aI_lv [true, true, true, true, true, true, false] (lv2 := [some (.ref (q 12)), some (.ref (q 1)), some (.int u2), some (.int u3), some (.int v4), some (.int x6), none]) rfl ?_
        exact ih v4 x6 h E
      · have E := o_neg c5 E
        refine aI_aload_n X.1 dX8_lookedAt_32 rfl ?_
        refine gf_8_36 X dX8_lookedAt_33 ?_
        refine aI_iload X.1 dX8_lookedAt_36 rfl ?_
        refine aI_aload_n X.1 dX8_lookedAt_38 rfl ?_
        refine aI_iload X.1 dX8_lookedAt_39 rfl ?_
        refine aI_aload_n X.1 dX8_lookedAt_41 rfl ?_
        refine aI_iload_n X.1 dX8_lookedAt_42 rfl ?_
        refine aI_iload_n X.1 dX8_lookedAt_43 rfl ?_
        obtain ⟨r8, h7, e9, E⟩ := o_callE E
        refine cv_X8_looksAt X (c_X8_looksAt e9) ml_8_75 (by decide) (by decide) (Nat.le_of_ble_eq_true rfl) dX8_lookedAt_44 ?_
        obtain ⟨g10, E⟩ := o_if E
        obtain ⟨g11, E⟩ := o_if E
        obtain ⟨h12, eh12, E⟩ := o_letE E
        refine as0_21 X g10 g11 dX8_lookedAt_47 (aI_eqh eh12 ?_)
        refine aI_iload X.1 dX8_lookedAt_48 rfl ?_
        refine aI_aload_n X.1 dX8_lookedAt_50 rfl ?_
        refine gf_8_36 X dX8_lookedAt_51 ?_
        refine aI_iload X.1 dX8_lookedAt_54 rfl ?_
        obtain ⟨g13, E⟩ := o_if E
        refine al0_21 X g13 dX8_lookedAt_56 ?_
        refine aI_if_eq (tgt := 64) X.1 dX8_lookedAt_57 (by decide) (fun c14 => ?_) (fun c14 => ?_)
        · have E := o_pos c14 E
          refine aI_iconst (v := 0) X.1 dX8_lookedAt_64 (by decide) ?_
          refine aI_iadd X.1 dX8_lookedAt_65 ?_
          obtain ⟨x15, ex15, E⟩ := o_letE E
          refine aI_eqi ex15 ?_
          refine aI_istore (lv2 := [some (.ref (q 12)), some (.ref (q 1)), some (.int u2), some (.int u3), some (.int x15), some (.int v5), some (.int x3)]) X.1 dX8_lookedAt_66 (N 4 (by decide)) rfl ?_
          obtain ⟨x16, ex16, E⟩ := o_letE E
          refine aI_iinc (v := 1) (lv2 := [some (.ref (q 12)), some (.ref (q 1)), some (.int u2), some (.int u3), some (.int x15), some (.int x16), some (.int x3)]) X.1 dX8_lookedAt_68 (N 5 (by decide)) rfl (by decide) (by rw [← ex16]; rfl) ?_
          refine aI_goto (tgt := 6) X.1 dX8_lookedAt_71 (by decide) ?_
          refine aI_lv [true, true, true, true, true, true, false] (lv2 := [some (.ref (q 12)), some (.ref (q 1)), some (.int u2), some (.int u3), some (.int x15), some (.int x16), none]) rfl ?_
          exact ih x15 x16 h12 E
        · have E := o_neg c14 E
          refine aI_iconst (v := 1) X.1 dX8_lookedAt_60 (by decide) ?_
          refine aI_goto (tgt := 65) X.1 dX8_lookedAt_61 (by decide) ?_
          refine aI_iadd X.1 dX8_lookedAt_65 ?_
          obtain ⟨x17, ex17, E⟩ := o_letE E
          refine aI_eqi ex17 ?_
          refine aI_istore (lv2 := [some (.ref (q 12)), some (.ref (q 1)), some (.int u2), some (.int u3), some (.int x17), some (.int v5), some (.int x3)]) X.1 dX8_lookedAt_66 (N 4 (by decide)) rfl ?_
          obtain ⟨x18, ex18, E⟩ := o_letE E
          refine aI_iinc (v := 1) (lv2 := [some (.ref (q 12)), some (.ref (q 1)), some (.int u2), some (.int u3), some (.int x17), some (.int x18), some (.int x3)]) X.1 dX8_lookedAt_68 (N 5 (by decide)) rfl (by decide) (by rw [← ex18]; rfl) ?_
          refine aI_goto (tgt := 6) X.1 dX8_lookedAt_71 (by decide) ?_
          refine aI_lv [true, true, true, true, true, true, false] (lv2 := [some (.ref (q 12)), some (.ref (q 1)), some (.int u2), some (.int u3), some (.int x17), some (.int x18), none]) rfl ?_
          exact ih x17 x18 h12 E
set_option maxRecDepth 4000 in
theorem w_X8_lookedAt {Γ : g_T} {q : Nat → Nat} {p2 : Int32} {p3 : Int32}  {r : Int32} {h2 : hp_T} {h : hp_T} (X : aC 0 Γ q RX8 cX8_lookedAt 1 25) (N : ∀ k, k < 7 → aN Γ k) (hret : ∀ pc lv, decode cX8_lookedAt pc = .ok (.ireturn, 1) → aA Γ pc lv [.int r] h2) (E : f_X8_lookedAt p2 p3 h = some (r, h2)) : aA Γ 0 [some (.ref (q 12)), some (.ref (q 1)), some (.int p2), some (.int p3), none, none, none] [] h := by
  unfold f_X8_lookedAt at E
  refine aI_iconst (v := 0) X.1 dX8_lookedAt_0 (by decide) ?_
  refine aI_istore (lv2 := [some (.ref (q 12)), some (.ref (q 1)), some (.int p2), some (.int p3), some (.int (0 : Int32)), none, none]) X.1 dX8_lookedAt_1 (N 4 (by decide)) rfl ?_
  refine aI_iconst (v := 0) X.1 dX8_lookedAt_3 (by decide) ?_
  refine aI_istore (lv2 := [some (.ref (q 12)), some (.ref (q 1)), some (.int p2), some (.int p3), some (.int (0 : Int32)), some (.int (0 : Int32)), none]) X.1 dX8_lookedAt_4 (N 5 (by decide)) rfl ?_
  refine w_X8_lookedAt_L1  X N hret ?_ 100 (0 : Int32) (0 : Int32) h E
  intro x19 x20 h21 E
  refine aI_iload X.1 dX8_lookedAt_74 rfl ?_
  exact aI_iret E (hret _ _ dX8_lookedAt_76)
theorem c_X8_lookedAt {q : Nat → Nat} {p2 : Int32} {p3 : Int32}  {r : Int32} {h2 : hp_T} {h : hp_T} (E : f_X8_lookedAt p2 p3 h = some (r, h2)) : cI 0 yX8_lookedAt cX8_lookedAt 7 .int 1 25 q [.ref (q 12), .ref (q 1), .int p2, .int p3] h r h2 := metI (own := RX8) (by decide) rfl (Nat.le_of_ble_eq_true rfl) rfl (fun Γ X N hret => w_X8_lookedAt X N hret E)
set_option maxRecDepth 4000 in
theorem w_X9_looks {Γ : g_T} {q : Nat → Nat} {p1 : Int32} {p2 : Int32}  {r : Int32} {h2 : hp_T} {h : hp_T} (X : aC 0 Γ q RX9 cX9_looks 4 88) (N : ∀ k, k < 3 → aN Γ k) (hret : ∀ pc lv, decode cX9_looks pc = .ok (.ireturn, 1) → aA Γ pc lv [.int r] h2) (E : f_X9_looks p1 p2 h = some (r, h2)) : aA Γ 0 [some (.ref (q 0)), some (.int p1), some (.int p2)] [] h := by
  unfold f_X9_looks at E
  refine aI_iload_n X.1 dX9_looks_0 rfl ?_
  refine aI_iload_n X.1 dX9_looks_1 rfl ?_
  obtain ⟨r2, h1, e3, E⟩ := o_callE E
  refine cv_X9_isStretch X (c_X9_isStretch e3) ml_9_84 (by decide) (by decide) (Nat.le_of_ble_eq_true rfl) dX9_looks_2 ?_
  refine aI_if_ne (tgt := 11) X.1 dX9_looks_5 (by decide) (fun c4 => ?_) (fun c4 => ?_)
  · have E := o_neg c4 E
    refine aI_aload_n X.1 dX9_looks_11 rfl ?_
    obtain ⟨h5, e6, E⟩ := o_cvE E
    refine cv_X9_settle X (c_X9_settle e6) ml_9_151 (by decide) (by decide) (Nat.le_of_ble_eq_true rfl) dX9_looks_12 ?_
    refine aI_aload_n X.1 dX9_looks_15 rfl ?_
    refine gf_9_26 X dX9_looks_16 ?_
    refine aI_aload_n X.1 dX9_looks_19 rfl ?_
    refine gf_9_12 X dX9_looks_20 ?_
    refine aI_iload_n X.1 dX9_looks_23 rfl ?_
    refine aI_iload_n X.1 dX9_looks_24 rfl ?_
    obtain ⟨r8, h7, e9, E⟩ := o_callE E
    refine cv_X8_lookedAt X (c_X8_lookedAt e9) ml_9_178 (by decide) (by decide) (Nat.le_of_ble_eq_true rfl) dX9_looks_25 ?_
    exact aI_iret E (hret _ _ dX9_looks_28)
  · have E := o_pos c4 E
    refine aI_bipush (v := -2) X.1 dX9_looks_8 (by decide) ?_
    exact aI_iret E (hret _ _ dX9_looks_10)
theorem c_X9_looks {q : Nat → Nat} {p1 : Int32} {p2 : Int32}  {r : Int32} {h2 : hp_T} {h : hp_T} (E : f_X9_looks p1 p2 h = some (r, h2)) : cI 0 yX9_looks cX9_looks 3 .int 4 88 q [.ref (q 0), .int p1, .int p2] h r h2 := metI (own := RX9) (by decide) rfl (Nat.le_of_ble_eq_true rfl) rfl (fun Γ X N hret => w_X9_looks X N hret E)
set_option maxRecDepth 4000 in
theorem w_X9_isKeyOrNone {Γ : g_T} {q : Nat → Nat} {p1 : Int32}  {r : Int32} {h2 : hp_T} {h : hp_T} (X : aC 0 Γ q RX9 cX9_isKeyOrNone 1 20) (N : ∀ k, k < 1 → aN Γ k) (hret : ∀ pc lv, decode cX9_isKeyOrNone pc = .ok (.ireturn, 1) → bz r = true → aA Γ pc lv [.int r] h2) (E : f_X9_isKeyOrNone p1 h = some (r, h2)) : aA Γ 0 [some (.int p1)] [] h := by
  unfold f_X9_isKeyOrNone at E
  refine aI_iload_n X.1 dX9_isKeyOrNone_0 rfl ?_
  refine aI_iconst (v := -1) X.1 dX9_isKeyOrNone_1 (by decide) ?_
  refine aI_icmp_eq (tgt := 12) X.1 dX9_isKeyOrNone_2 (by decide) (fun c1 => ?_) (fun c1 => ?_)
  · have E := o_pos c1 E
    refine aI_iconst (v := 1) X.1 dX9_isKeyOrNone_12 (by decide) ?_
    refine aI_goto (tgt := 17) X.1 dX9_isKeyOrNone_13 (by decide) ?_
    exact aI_zret (by decide) E (hret _ _ dX9_isKeyOrNone_17)
  · have E := o_neg c1 E
    refine aI_iload_n X.1 dX9_isKeyOrNone_5 rfl ?_
    obtain ⟨r3, h2, e4, E⟩ := o_callE E
    refine cv_X9_isKey X (c_X9_isKey e4) ml_9_80 (by decide) (by decide) (Nat.le_of_ble_eq_true rfl) dX9_isKeyOrNone_6 ?_
    refine aI_if_eq (tgt := 16) X.1 dX9_isKeyOrNone_9 (by decide) (fun c5 => ?_) (fun c5 => ?_)
    · have E := o_pos c5 E
      refine aI_iconst (v := 0) X.1 dX9_isKeyOrNone_16 (by decide) ?_
      exact aI_zret (by decide) E (hret _ _ dX9_isKeyOrNone_17)
    · have E := o_neg c5 E
      refine aI_iconst (v := 1) X.1 dX9_isKeyOrNone_12 (by decide) ?_
      refine aI_goto (tgt := 17) X.1 dX9_isKeyOrNone_13 (by decide) ?_
      exact aI_zret (by decide) E (hret _ _ dX9_isKeyOrNone_17)
theorem c_X9_isKeyOrNone {q : Nat → Nat} {p1 : Int32}  {r : Int32} {h2 : hp_T} {h : hp_T} (E : f_X9_isKeyOrNone p1 h = some (r, h2)) : cI 0 yX9_isKeyOrNone cX9_isKeyOrNone 1 .boolean 1 20 q [.int p1] h r h2 := metZ (own := RX9) (by decide) rfl (Nat.le_of_ble_eq_true rfl) rfl (fun Γ X N hret => w_X9_isKeyOrNone X N hret E)
set_option maxRecDepth 4000 in
theorem w_X7_meetsStretch {Γ : g_T} {q : Nat → Nat} {p1 : Int32} {p2 : Int32} {p3 : Int32}  {r : Int32} {h2 : hp_T} {h : hp_T} (X : aC 0 Γ q RX7 cX7_meetsStretch 0 0) (N : ∀ k, k < 4 → aN Γ k) (hret : ∀ pc lv, decode cX7_meetsStretch pc = .ok (.ireturn, 1) → bz r = true → aA Γ pc lv [.int r] h2) (E : f_X7_meetsStretch p1 p2 p3 h = some (r, h2)) : aA Γ 0 [some (.ref (q 1)), some (.int p1), some (.int p2), some (.int p3)] [] h := by
  unfold f_X7_meetsStretch at E
  refine aI_aload_n X.1 dX7_meetsStretch_0 rfl ?_
  refine gf_7_9 X dX7_meetsStretch_1 ?_
  refine aI_iload_n X.1 dX7_meetsStretch_4 rfl ?_
  obtain ⟨g1, E⟩ := o_if E
  refine al0_2 X g1 dX7_meetsStretch_5 ?_
  refine aI_iload_n X.1 dX7_meetsStretch_6 rfl ?_
  refine aI_icmp_ge (tgt := 24) X.1 dX7_meetsStretch_7 (by decide) (fun c2 => ?_) (fun c2 => ?_)
  · have E := o_pos c2 E
    refine aI_iconst (v := 0) X.1 dX7_meetsStretch_24 (by decide) ?_
    exact aI_zret (by decide) E (hret _ _ dX7_meetsStretch_25)
  · have E := o_neg c2 E
    refine aI_aload_n X.1 dX7_meetsStretch_10 rfl ?_
    refine gf_7_15 X dX7_meetsStretch_11 ?_
    refine aI_iload_n X.1 dX7_meetsStretch_14 rfl ?_
    obtain ⟨g3, E⟩ := o_if E
    refine al0_3 X g3 dX7_meetsStretch_15 ?_
    refine aI_iload_n X.1 dX7_meetsStretch_16 rfl ?_
    refine aI_icmp_le (tgt := 24) X.1 dX7_meetsStretch_17 (by decide) (fun c4 => ?_) (fun c4 => ?_)
    · have E := o_pos c4 E
      refine aI_iconst (v := 0) X.1 dX7_meetsStretch_24 (by decide) ?_
      exact aI_zret (by decide) E (hret _ _ dX7_meetsStretch_25)
    · have E := o_neg c4 E
      refine aI_iconst (v := 1) X.1 dX7_meetsStretch_20 (by decide) ?_
      refine aI_goto (tgt := 25) X.1 dX7_meetsStretch_21 (by decide) ?_
      exact aI_zret (by decide) E (hret _ _ dX7_meetsStretch_25)
theorem c_X7_meetsStretch {q : Nat → Nat} {p1 : Int32} {p2 : Int32} {p3 : Int32}  {r : Int32} {h2 : hp_T} {h : hp_T} (E : f_X7_meetsStretch p1 p2 p3 h = some (r, h2)) : cI 0 yX7_meetsStretch cX7_meetsStretch 4 .boolean 0 0 q [.ref (q 1), .int p1, .int p2, .int p3] h r h2 := metZ (own := RX7) (by decide) rfl (Nat.le_of_ble_eq_true rfl) rfl (fun Γ X N hret => w_X7_meetsStretch X N hret E)
set_option maxRecDepth 4000 in
theorem w_X7_meeting_L1 {Γ : g_T} {q : Nat → Nat}  {u1 : Int32} {u2 : Int32}  {r : Int32} {h2 : hp_T} (X : aC 0 Γ q RX7 cX7_meeting 1 23) (N : ∀ k, k < 5 → aN Γ k) (hret : ∀ pc lv, decode cX7_meeting pc = .ok (.ireturn, 1) → aA Γ pc lv [.int r] h2) {K : Int32 → Int32 → hp_T → Option (Int32 × hp_T)} (hk : ∀ v3 v4 h, K v3 v4 h = some (r, h2) → aA Γ 39 [some (.ref (q 1)), some (.int u1), some (.int u2), some (.int v3), some (.int v4)] [] h) : ∀ (n : Nat) (v3 : Int32) (v4 : Int32) (h : hp_T), f_X7_meeting_L1 u1 u2 K n v3 v4 h = some (r, h2) → aA Γ 5 [some (.ref (q 1)), some (.int u1), some (.int u2), some (.int v3), some (.int v4)] [] h := by
  intro n
  induction n with
  | zero =>
    intro v3 v4 h E
    cases E
  | succ n ih =>
    intro v3 v4 h E
    rw [f_X7_meeting_L1] at E
    refine aI_iload X.1 dX7_meeting_5 rfl ?_
    refine aI_aload_n X.1 dX7_meeting_7 rfl ?_
    refine gf_7_28 X dX7_meeting_8 ?_
    refine aI_icmp_ge (tgt := 39) X.1 dX7_meeting_11 (by decide) (fun c1 => ?_) (fun c1 => ?_)
    · have E := o_pos c1 E
      exact hk v3 v4 h E
    · have E := o_neg c1 E
      refine aI_aload_n X.1 dX7_meeting_14 rfl ?_
      refine aI_aload_n X.1 dX7_meeting_15 rfl ?_
      refine gf_7_22 X dX7_meeting_16 ?_
      refine aI_iload X.1 dX7_meeting_19 rfl ?_
      obtain ⟨g2, E⟩ := o_if E
      refine al0_5 X g2 dX7_meeting_21 ?_
      refine aI_iload_n X.1 dX7_meeting_22 rfl ?_
      refine aI_iload_n X.1 dX7_meeting_23 rfl ?_
      obtain ⟨r4, h3, e5, E⟩ := o_callE E
      refine cv_X7_meetsStretch X (c_X7_meetsStretch e5) ml_7_40 (by decide) (by decide) (Nat.le_of_ble_eq_true rfl) dX7_meeting_24 ?_
      refine aI_if_eq (tgt := 33) X.1 dX7_meeting_27 (by decide) (fun c6 => ?_) (fun c6 => ?_)
      · have E := o_pos c6 E
        obtain ⟨x7, ex7, E⟩ := o_letE E
        refine aI_iinc (v := 1) (lv2 := [some (.ref (q 1)), some (.int u1), some (.int u2), some (.int v3), some (.int x7)]) X.1 dX7_meeting_33 (N 4 (by decide)) rfl (by decide) (by rw [← ex7]; rfl) ?_
        refine aI_goto (tgt := 5) X.1 dX7_meeting_36 (by decide) ?_
        exact ih v3 x7 h3 E
      · have E := o_neg c6 E
        obtain ⟨x8, ex8, E⟩ := o_letE E
        refine aI_iinc (v := 1) (lv2 := [some (.ref (q 1)), some (.int u1), some (.int u2), some (.int x8), some (.int v4)]) X.1 dX7_meeting_30 (N 3 (by decide)) rfl (by decide) (by rw [← ex8]; rfl) ?_
        obtain ⟨x9, ex9, E⟩ := o_letE E
        refine aI_iinc (v := 1) (lv2 := [some (.ref (q 1)), some (.int u1), some (.int u2), some (.int x8), some (.int x9)]) X.1 dX7_meeting_33 (N 4 (by decide)) rfl (by decide) (by rw [← ex9]; rfl) ?_
        refine aI_goto (tgt := 5) X.1 dX7_meeting_36 (by decide) ?_
        exact ih x8 x9 h3 E
set_option maxRecDepth 4000 in
theorem w_X7_meeting {Γ : g_T} {q : Nat → Nat} {p1 : Int32} {p2 : Int32}  {r : Int32} {h2 : hp_T} {h : hp_T} (X : aC 0 Γ q RX7 cX7_meeting 1 23) (N : ∀ k, k < 5 → aN Γ k) (hret : ∀ pc lv, decode cX7_meeting pc = .ok (.ireturn, 1) → aA Γ pc lv [.int r] h2) (E : f_X7_meeting p1 p2 h = some (r, h2)) : aA Γ 0 [some (.ref (q 1)), some (.int p1), some (.int p2), none, none] [] h := by
  unfold f_X7_meeting at E
  refine aI_iconst (v := 0) X.1 dX7_meeting_0 (by decide) ?_
  refine aI_istore_n (lv2 := [some (.ref (q 1)), some (.int p1), some (.int p2), some (.int (0 : Int32)), none]) X.1 dX7_meeting_1 (N 3 (by decide)) rfl ?_
  refine aI_iconst (v := 0) X.1 dX7_meeting_2 (by decide) ?_
  refine aI_istore (lv2 := [some (.ref (q 1)), some (.int p1), some (.int p2), some (.int (0 : Int32)), some (.int (0 : Int32))]) X.1 dX7_meeting_3 (N 4 (by decide)) rfl ?_
  refine w_X7_meeting_L1  X N hret ?_ 100 (0 : Int32) (0 : Int32) h E
  intro x10 x11 h12 E
  refine aI_iload_n X.1 dX7_meeting_39 rfl ?_
  exact aI_iret E (hret _ _ dX7_meeting_40)
theorem c_X7_meeting {q : Nat → Nat} {p1 : Int32} {p2 : Int32}  {r : Int32} {h2 : hp_T} {h : hp_T} (E : f_X7_meeting p1 p2 h = some (r, h2)) : cI 0 yX7_meeting cX7_meeting 5 .int 1 23 q [.ref (q 1), .int p1, .int p2] h r h2 := metI (own := RX7) (by decide) rfl (Nat.le_of_ble_eq_true rfl) rfl (fun Γ X N hret => w_X7_meeting X N hret E)
set_option maxRecDepth 4000 in
theorem w_X7_meetingAt_L1 {Γ : g_T} {q : Nat → Nat}  {u1 : Int32} {u2 : Int32} {u3 : Int32}  {r : Int32} {h2 : hp_T} (X : aC 0 Γ q RX7 cX7_meetingAt 1 23) (N : ∀ k, k < 6 → aN Γ k) (hret : ∀ pc lv, decode cX7_meetingAt pc = .ok (.ireturn, 1) → aA Γ pc lv [.int r] h2) {K : Int32 → Int32 → hp_T → Option (Int32 × hp_T)} (hk : ∀ v4 v5 h, K v4 v5 h = some (r, h2) → aA Γ 54 [some (.ref (q 1)), some (.int u1), some (.int u2), some (.int u3), some (.int v4), some (.int v5)] [] h) : ∀ (n : Nat) (v4 : Int32) (v5 : Int32) (h : hp_T), f_X7_meetingAt_L1 u1 u2 u3 K n v4 v5 h = some (r, h2) → aA Γ 6 [some (.ref (q 1)), some (.int u1), some (.int u2), some (.int u3), some (.int v4), some (.int v5)] [] h := by
  intro n
  induction n with
  | zero =>
    intro v4 v5 h E
    cases E
  | succ n ih =>
    intro v4 v5 h E
    rw [f_X7_meetingAt_L1] at E
    refine aI_iload X.1 dX7_meetingAt_6 rfl ?_
    refine aI_aload_n X.1 dX7_meetingAt_8 rfl ?_
    refine gf_7_28 X dX7_meetingAt_9 ?_
    refine aI_icmp_ge (tgt := 54) X.1 dX7_meetingAt_12 (by decide) (fun c1 => ?_) (fun c1 => ?_)
    · have E := o_pos c1 E
      exact hk v4 v5 h E
    · have E := o_neg c1 E
      refine aI_aload_n X.1 dX7_meetingAt_15 rfl ?_
      refine aI_aload_n X.1 dX7_meetingAt_16 rfl ?_
      refine gf_7_22 X dX7_meetingAt_17 ?_
      refine aI_iload X.1 dX7_meetingAt_20 rfl ?_
      obtain ⟨g2, E⟩ := o_if E
      refine al0_5 X g2 dX7_meetingAt_22 ?_
      refine aI_iload_n X.1 dX7_meetingAt_23 rfl ?_
      refine aI_iload_n X.1 dX7_meetingAt_24 rfl ?_
      obtain ⟨r4, h3, e5, E⟩ := o_callE E
      refine cv_X7_meetsStretch X (c_X7_meetsStretch e5) ml_7_40 (by decide) (by decide) (Nat.le_of_ble_eq_true rfl) dX7_meetingAt_25 ?_
      refine aI_if_eq (tgt := 48) X.1 dX7_meetingAt_28 (by decide) (fun c6 => ?_) (fun c6 => ?_)
      · have E := o_pos c6 E
        obtain ⟨x7, ex7, E⟩ := o_letE E
        refine aI_iinc (v := 1) (lv2 := [some (.ref (q 1)), some (.int u1), some (.int u2), some (.int u3), some (.int v4), some (.int x7)]) X.1 dX7_meetingAt_48 (N 5 (by decide)) rfl (by decide) (by rw [← ex7]; rfl) ?_
        refine aI_goto (tgt := 6) X.1 dX7_meetingAt_51 (by decide) ?_
        exact ih v4 x7 h3 E
      · have E := o_neg c6 E
        refine aI_iload X.1 dX7_meetingAt_31 rfl ?_
        refine aI_iload_n X.1 dX7_meetingAt_33 rfl ?_
        refine aI_icmp_ne (tgt := 45) X.1 dX7_meetingAt_34 (by decide) (fun c8 => ?_) (fun c8 => ?_)
        · have E := o_neg c8 E
          obtain ⟨x9, ex9, E⟩ := o_letE E
          refine aI_iinc (v := 1) (lv2 := [some (.ref (q 1)), some (.int u1), some (.int u2), some (.int u3), some (.int x9), some (.int v5)]) X.1 dX7_meetingAt_45 (N 4 (by decide)) rfl (by decide) (by rw [← ex9]; rfl) ?_
          obtain ⟨x10, ex10, E⟩ := o_letE E
          refine aI_iinc (v := 1) (lv2 := [some (.ref (q 1)), some (.int u1), some (.int u2), some (.int u3), some (.int x9), some (.int x10)]) X.1 dX7_meetingAt_48 (N 5 (by decide)) rfl (by decide) (by rw [← ex10]; rfl) ?_
          refine aI_goto (tgt := 6) X.1 dX7_meetingAt_51 (by decide) ?_
          exact ih x9 x10 h3 E
        · have E := o_pos c8 E
          refine aI_aload_n X.1 dX7_meetingAt_37 rfl ?_
          refine gf_7_22 X dX7_meetingAt_38 ?_
          refine aI_iload X.1 dX7_meetingAt_41 rfl ?_
          obtain ⟨g11, E⟩ := o_if E
          refine al0_5 X g11 dX7_meetingAt_43 ?_
          exact aI_iret E (hret _ _ dX7_meetingAt_44)
set_option maxRecDepth 4000 in
theorem w_X7_meetingAt {Γ : g_T} {q : Nat → Nat} {p1 : Int32} {p2 : Int32} {p3 : Int32}  {r : Int32} {h2 : hp_T} {h : hp_T} (X : aC 0 Γ q RX7 cX7_meetingAt 1 23) (N : ∀ k, k < 6 → aN Γ k) (hret : ∀ pc lv, decode cX7_meetingAt pc = .ok (.ireturn, 1) → aA Γ pc lv [.int r] h2) (E : f_X7_meetingAt p1 p2 p3 h = some (r, h2)) : aA Γ 0 [some (.ref (q 1)), some (.int p1), some (.int p2), some (.int p3), none, none] [] h := by
  unfold f_X7_meetingAt at E
  refine aI_iconst (v := 0) X.1 dX7_meetingAt_0 (by decide) ?_
  refine aI_istore (lv2 := [some (.ref (q 1)), some (.int p1), some (.int p2), some (.int p3), some (.int (0 : Int32)), none]) X.1 dX7_meetingAt_1 (N 4 (by decide)) rfl ?_
  refine aI_iconst (v := 0) X.1 dX7_meetingAt_3 (by decide) ?_
  refine aI_istore (lv2 := [some (.ref (q 1)), some (.int p1), some (.int p2), some (.int p3), some (.int (0 : Int32)), some (.int (0 : Int32))]) X.1 dX7_meetingAt_4 (N 5 (by decide)) rfl ?_
  refine w_X7_meetingAt_L1  X N hret ?_ 100 (0 : Int32) (0 : Int32) h E
  intro x12 x13 h14 E
  refine aI_iconst (v := -1) X.1 dX7_meetingAt_54 (by decide) ?_
  exact aI_iret E (hret _ _ dX7_meetingAt_55)
theorem c_X7_meetingAt {q : Nat → Nat} {p1 : Int32} {p2 : Int32} {p3 : Int32}  {r : Int32} {h2 : hp_T} {h : hp_T} (E : f_X7_meetingAt p1 p2 p3 h = some (r, h2)) : cI 0 yX7_meetingAt cX7_meetingAt 6 .int 1 23 q [.ref (q 1), .int p1, .int p2, .int p3] h r h2 := metI (own := RX7) (by decide) rfl (Nat.le_of_ble_eq_true rfl) rfl (fun Γ X N hret => w_X7_meetingAt X N hret E)
set_option maxRecDepth 4000 in
theorem w_X9_meets {Γ : g_T} {q : Nat → Nat} {p1 : Int32} {p2 : Int32} {p3 : Int32}  {r : Int32} {h2 : hp_T} {h : hp_T} (X : aC 0 Γ q RX9 cX9_meets 2 48) (N : ∀ k, k < 4 → aN Γ k) (hret : ∀ pc lv, decode cX9_meets pc = .ok (.ireturn, 1) → aA Γ pc lv [.int r] h2) (E : f_X9_meets p1 p2 p3 h = some (r, h2)) : aA Γ 0 [some (.ref (q 0)), some (.int p1), some (.int p2), some (.int p3)] [] h := by
  unfold f_X9_meets at E
  refine aI_iload_n X.1 dX9_meets_0 rfl ?_
  refine aI_iload_n X.1 dX9_meets_1 rfl ?_
  obtain ⟨r2, h1, e3, E⟩ := o_callE E
  refine cv_X9_isStretch X (c_X9_isStretch e3) ml_9_84 (by decide) (by decide) (Nat.le_of_ble_eq_true rfl) dX9_meets_2 ?_
  refine aI_if_eq (tgt := 15) X.1 dX9_meets_5 (by decide) (fun c4 => ?_) (fun c4 => ?_)
  · have E := o_pos c4 E
    refine aI_bipush (v := -2) X.1 dX9_meets_15 (by decide) ?_
    exact aI_iret E (hret _ _ dX9_meets_17)
  · have E := o_neg c4 E
    refine aI_iload_n X.1 dX9_meets_8 rfl ?_
    obtain ⟨r6, h5, e7, E⟩ := o_callE E
    refine cv_X9_isKeyOrNone X (c_X9_isKeyOrNone e7) ml_9_182 (by decide) (by decide) (Nat.le_of_ble_eq_true rfl) dX9_meets_9 ?_
    refine aI_if_ne (tgt := 18) X.1 dX9_meets_12 (by decide) (fun c8 => ?_) (fun c8 => ?_)
    · have E := o_neg c8 E
      refine aI_iload_n X.1 dX9_meets_18 rfl ?_
      refine aI_iconst (v := -1) X.1 dX9_meets_19 (by decide) ?_
      refine aI_icmp_ne (tgt := 35) X.1 dX9_meets_20 (by decide) (fun c9 => ?_) (fun c9 => ?_)
      · have E := o_neg c9 E
        refine aI_aload_n X.1 dX9_meets_35 rfl ?_
        refine gf_9_12 X dX9_meets_36 ?_
        refine aI_iload_n X.1 dX9_meets_39 rfl ?_
        refine aI_iload_n X.1 dX9_meets_40 rfl ?_
        refine aI_iload_n X.1 dX9_meets_41 rfl ?_
        obtain ⟨r11, h10, e12, E⟩ := o_callE E
        refine cv_X7_meetingAt X (c_X7_meetingAt e12) ml_9_189 (by decide) (by decide) (Nat.le_of_ble_eq_true rfl) dX9_meets_42 ?_
        exact aI_iret E (hret _ _ dX9_meets_45)
      · have E := o_pos c9 E
        refine aI_aload_n X.1 dX9_meets_23 rfl ?_
        refine gf_9_12 X dX9_meets_24 ?_
        refine aI_iload_n X.1 dX9_meets_27 rfl ?_
        refine aI_iload_n X.1 dX9_meets_28 rfl ?_
        obtain ⟨r14, h13, e15, E⟩ := o_callE E
        refine cv_X7_meeting X (c_X7_meeting e15) ml_9_185 (by decide) (by decide) (Nat.le_of_ble_eq_true rfl) dX9_meets_29 ?_
        refine aI_goto (tgt := 45) X.1 dX9_meets_32 (by decide) ?_
        exact aI_iret E (hret _ _ dX9_meets_45)
    · have E := o_pos c8 E
      refine aI_bipush (v := -2) X.1 dX9_meets_15 (by decide) ?_
      exact aI_iret E (hret _ _ dX9_meets_17)
theorem c_X9_meets {q : Nat → Nat} {p1 : Int32} {p2 : Int32} {p3 : Int32}  {r : Int32} {h2 : hp_T} {h : hp_T} (E : f_X9_meets p1 p2 p3 h = some (r, h2)) : cI 0 yX9_meets cX9_meets 4 .int 2 48 q [.ref (q 0), .int p1, .int p2, .int p3] h r h2 := metI (own := RX9) (by decide) rfl (Nat.le_of_ble_eq_true rfl) rfl (fun Γ X N hret => w_X9_meets X N hret E)
set_option maxRecDepth 4000 in
theorem w_X9_isPoint {Γ : g_T} {q : Nat → Nat} {p1 : Int32}  {r : Int32} {h2 : hp_T} {h : hp_T} (X : aC 0 Γ q RX9 cX9_isPoint 0 0) (N : ∀ k, k < 1 → aN Γ k) (hret : ∀ pc lv, decode cX9_isPoint pc = .ok (.ireturn, 1) → bz r = true → aA Γ pc lv [.int r] h2) (E : f_X9_isPoint p1 h = some (r, h2)) : aA Γ 0 [some (.int p1)] [] h := by
  unfold f_X9_isPoint at E
  refine aI_iload_n X.1 dX9_isPoint_0 rfl ?_
  refine aI_ldcw X.1 dX9_isPoint_1 kc_9_375 ?_
  refine aI_icmp_lt (tgt := 17) X.1 dX9_isPoint_4 (by decide) (fun c1 => ?_) (fun c1 => ?_)
  · have E := o_pos c1 E
    refine aI_iconst (v := 0) X.1 dX9_isPoint_17 (by decide) ?_
    exact aI_zret (by decide) E (hret _ _ dX9_isPoint_18)
  · have E := o_neg c1 E
    refine aI_iload_n X.1 dX9_isPoint_7 rfl ?_
    refine aI_ldc X.1 dX9_isPoint_8 kc_9_219 ?_
    refine aI_icmp_gt (tgt := 17) X.1 dX9_isPoint_10 (by decide) (fun c2 => ?_) (fun c2 => ?_)
    · have E := o_pos c2 E
      refine aI_iconst (v := 0) X.1 dX9_isPoint_17 (by decide) ?_
      exact aI_zret (by decide) E (hret _ _ dX9_isPoint_18)
    · have E := o_neg c2 E
      refine aI_iconst (v := 1) X.1 dX9_isPoint_13 (by decide) ?_
      refine aI_goto (tgt := 18) X.1 dX9_isPoint_14 (by decide) ?_
      exact aI_zret (by decide) E (hret _ _ dX9_isPoint_18)
theorem c_X9_isPoint {q : Nat → Nat} {p1 : Int32}  {r : Int32} {h2 : hp_T} {h : hp_T} (E : f_X9_isPoint p1 h = some (r, h2)) : cI 0 yX9_isPoint cX9_isPoint 1 .boolean 0 0 q [.int p1] h r h2 := metZ (own := RX9) (by decide) rfl (Nat.le_of_ble_eq_true rfl) rfl (fun Γ X N hret => w_X9_isPoint X N hret E)
set_option maxRecDepth 4000 in
theorem w_X9_holds {Γ : g_T} {q : Nat → Nat} {p1 : Int32} {p2 : Int32}  {r : Int32} {h2 : hp_T} {h : hp_T} (X : aC 0 Γ q RX9 cX9_holds 2 48) (N : ∀ k, k < 3 → aN Γ k) (hret : ∀ pc lv, decode cX9_holds pc = .ok (.ireturn, 1) → aA Γ pc lv [.int r] h2) (E : f_X9_holds p1 p2 h = some (r, h2)) : aA Γ 0 [some (.ref (q 0)), some (.int p1), some (.int p2)] [] h := by
  unfold f_X9_holds at E
  refine aI_iload_n X.1 dX9_holds_0 rfl ?_
  obtain ⟨r2, h1, e3, E⟩ := o_callE E
  refine cv_X9_isPoint X (c_X9_isPoint e3) ml_9_193 (by decide) (by decide) (Nat.le_of_ble_eq_true rfl) dX9_holds_1 ?_
  refine aI_if_eq (tgt := 14) X.1 dX9_holds_4 (by decide) (fun c4 => ?_) (fun c4 => ?_)
  · have E := o_pos c4 E
    refine aI_bipush (v := -2) X.1 dX9_holds_14 (by decide) ?_
    exact aI_iret E (hret _ _ dX9_holds_16)
  · have E := o_neg c4 E
    refine aI_iload_n X.1 dX9_holds_7 rfl ?_
    obtain ⟨r6, h5, e7, E⟩ := o_callE E
    refine cv_X9_isKeyOrNone X (c_X9_isKeyOrNone e7) ml_9_182 (by decide) (by decide) (Nat.le_of_ble_eq_true rfl) dX9_holds_8 ?_
    refine aI_if_ne (tgt := 17) X.1 dX9_holds_11 (by decide) (fun c8 => ?_) (fun c8 => ?_)
    · have E := o_neg c8 E
      refine aI_iload_n X.1 dX9_holds_17 rfl ?_
      refine aI_iconst (v := -1) X.1 dX9_holds_18 (by decide) ?_
      refine aI_icmp_ne (tgt := 36) X.1 dX9_holds_19 (by decide) (fun c9 => ?_) (fun c9 => ?_)
      · have E := o_neg c9 E
        refine aI_aload_n X.1 dX9_holds_36 rfl ?_
        refine gf_9_12 X dX9_holds_37 ?_
        refine aI_iload_n X.1 dX9_holds_40 rfl ?_
        refine aI_iload_n X.1 dX9_holds_41 rfl ?_
        refine aI_iconst (v := 1) X.1 dX9_holds_42 (by decide) ?_
        refine aI_iadd X.1 dX9_holds_43 ?_
        refine aI_iload_n X.1 dX9_holds_44 rfl ?_
        obtain ⟨r11, h10, e12, E⟩ := o_callE E
        refine cv_X7_meetingAt X (c_X7_meetingAt e12) ml_9_189 (by decide) (by decide) (Nat.le_of_ble_eq_true rfl) dX9_holds_45 ?_
        exact aI_iret E (hret _ _ dX9_holds_48)
      · have E := o_pos c9 E
        refine aI_aload_n X.1 dX9_holds_22 rfl ?_
        refine gf_9_12 X dX9_holds_23 ?_
        refine aI_iload_n X.1 dX9_holds_26 rfl ?_
        refine aI_iload_n X.1 dX9_holds_27 rfl ?_
        refine aI_iconst (v := 1) X.1 dX9_holds_28 (by decide) ?_
        refine aI_iadd X.1 dX9_holds_29 ?_
        obtain ⟨r14, h13, e15, E⟩ := o_callE E
        refine cv_X7_meeting X (c_X7_meeting e15) ml_9_185 (by decide) (by decide) (Nat.le_of_ble_eq_true rfl) dX9_holds_30 ?_
        refine aI_goto (tgt := 48) X.1 dX9_holds_33 (by decide) ?_
        exact aI_iret E (hret _ _ dX9_holds_48)
    · have E := o_pos c8 E
      refine aI_bipush (v := -2) X.1 dX9_holds_14 (by decide) ?_
      exact aI_iret E (hret _ _ dX9_holds_16)
theorem c_X9_holds {q : Nat → Nat} {p1 : Int32} {p2 : Int32}  {r : Int32} {h2 : hp_T} {h : hp_T} (E : f_X9_holds p1 p2 h = some (r, h2)) : cI 0 yX9_holds cX9_holds 3 .int 2 48 q [.ref (q 0), .int p1, .int p2] h r h2 := metI (own := RX9) (by decide) rfl (Nat.le_of_ble_eq_true rfl) rfl (fun Γ X N hret => w_X9_holds X N hret E)
