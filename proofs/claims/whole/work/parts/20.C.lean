def T_cX5_cOfL : List (Nat × Instr × Nat) := [(0, .iload_n 0, 1), (1, .bipush 31, 2), (3, .iand, 1), (4, .bipush 9, 2), (6, .isub, 1), (7, .ireturn, 1)]
theorem T_cX5_cOf : tabOK cX5_cOf T_cX5_cOfL = true := by decide +kernel
def P_Laws_cOf (post : Int32 → Mem → Prop) (x0 : Int32) (M : Mem) : Prop :=
  post ((x0 &&& (31 : Int32)) - (9 : Int32)) M
theorem k_Laws_cOf {X : FX} {g : GT} {ext : List CD} {A : Nat → Prop} {Z : State → Prop} {post : Int32 → Mem → Prop} (C : Cx X g (layC ++ ext) A cX5_cOf 1 RX5 0) (hr : 0 ≤ X.2.2.2.1.cells ∧ 0 ≤ X.2.2.2.1.slots) (hR : RetI X g (layC ++ ext) A cX5_cOf 1 0 0 Z post) (x0 : Int32) (M : Mem) (h : P_Laws_cOf post x0 M) : At X g (layC ++ ext) A 1 0 0 Z 0 [(0, .int x0)] [] M := by
  refine a_iload_n C (tk T_cX5_cOf 0 rfl) rfl ?_
  refine a_bipush C (31 : Int32) (tk T_cX5_cOf 1 rfl) kB_31 ?_
  refine a_iand C (tk T_cX5_cOf 2 rfl) ?_
  refine a_bipush C (9 : Int32) (tk T_cX5_cOf 3 rfl) kB_9 ?_
  refine a_isub C (tk T_cX5_cOf 4 rfl) ?_
  exact hR _ _ _ _ (tk T_cX5_cOf 5 rfl) h
theorem ct_Laws_cOf {l : Launch} {g : GT} {ext : List CD} {post : Int32 → Mem → Prop} {x0 : Int32} {M : Mem} (h : P_Laws_cOf post x0 M) : CI l g (layC ++ ext) yX5_cOf cX5_cOf 1 (some .int) 0 [.int x0] M post :=
  ci_of (plainFor_of_name (by decide +kernel)) (Nat.le_of_ble_eq_true rfl) rfl (fun X A Z hl C hr hR => by subst hl; exact k_Laws_cOf C hr hR x0 M h)
def T_cX5_heightL : List (Nat × Instr × Nat) := [(0, .sipush 10000, 3), (3, .iload_n 0, 1), (4, .invokestatic 89, 3), (7, .imul, 1), (8, .sipush 1000, 3), (11, .iload_n 0, 1), (12, .invokestatic 93, 3), (15, .imul, 1), (16, .iload_n 0, 1), (17, .invokestatic 154, 3), (20, .iload_n 1, 1), (21, .imul, 1), (22, .iadd, 1), (23, .iload_n 1, 1), (24, .imul, 1), (25, .iadd, 1), (26, .ireturn, 1)]
theorem T_cX5_height : tabOK cX5_height T_cX5_heightL = true := by decide +kernel
def P_Laws_height (post : Int32 → Mem → Prop) (x0 x1 : Int32) (M : Mem) : Prop :=
  P_Laws_aOf (fun r1 M1 =>
  P_Laws_bOf (fun r2 M2 =>
  P_Laws_cOf (fun r3 M3 =>
  ∀ v4, v4 = (((10000 : Int32) * r1) + ((((1000 : Int32) * r2) + (r3 * x1)) * x1)) → post v4 M3) x0 M2) x0 M1) x0 M
theorem k_Laws_height {X : FX} {g : GT} {ext : List CD} {A : Nat → Prop} {Z : State → Prop} {post : Int32 → Mem → Prop} (C : Cx X g (layC ++ ext) A cX5_height 2 RX5 1) (hr : 0 ≤ X.2.2.2.1.cells ∧ 0 ≤ X.2.2.2.1.slots) (hR : RetI X g (layC ++ ext) A cX5_height 2 0 0 Z post) (x0 x1 : Int32) (M : Mem) (h : P_Laws_height post x0 x1 M) : At X g (layC ++ ext) A 2 0 0 Z 0 [(0, .int x0), (1, .int x1)] [] M := by
  refine a_sipush C (10000 : Int32) (tk T_cX5_height 0 rfl) kS_10000 ?_
  refine a_iload_n C (tk T_cX5_height 1 rfl) rfl ?_
  refine a_statI C [.int x0] me_yX5_aOf lk_RX5_89 (ct_Laws_aOf h) (by decide) rfl rfl (Nat.le_of_ble_eq_true rfl) (tk T_cX5_height 2 rfl) hr (fun r1 M1 h => ?_)
  refine a_imul C (tk T_cX5_height 3 rfl) ?_
  refine a_sipush C (1000 : Int32) (tk T_cX5_height 4 rfl) kS_1000 ?_
  refine a_iload_n C (tk T_cX5_height 5 rfl) rfl ?_
  refine a_statI C [.int x0] me_yX5_bOf lk_RX5_93 (ct_Laws_bOf h) (by decide) rfl rfl (Nat.le_of_ble_eq_true rfl) (tk T_cX5_height 6 rfl) hr (fun r2 M2 h => ?_)
  refine a_imul C (tk T_cX5_height 7 rfl) ?_
  refine a_iload_n C (tk T_cX5_height 8 rfl) rfl ?_
  refine a_statI C [.int x0] me_yX5_cOf lk_RX5_154 (ct_Laws_cOf h) (by decide) rfl rfl (Nat.le_of_ble_eq_true rfl) (tk T_cX5_height 9 rfl) hr (fun r3 M3 h => ?_)
  refine a_iload_n C (tk T_cX5_height 10 rfl) rfl ?_
  refine a_imul C (tk T_cX5_height 11 rfl) ?_
  refine a_iadd C (tk T_cX5_height 12 rfl) ?_
  refine a_iload_n C (tk T_cX5_height 13 rfl) rfl ?_
  refine a_imul C (tk T_cX5_height 14 rfl) ?_
  refine a_iadd C (tk T_cX5_height 15 rfl) ?_
  refine a_top (fun v4 e_v4 => ?_)
  have h := h v4 e_v4
  exact hR _ _ _ _ (tk T_cX5_height 16 rfl) h
theorem ct_Laws_height {l : Launch} {g : GT} {ext : List CD} {post : Int32 → Mem → Prop} {x0 x1 : Int32} {M : Mem} (h : P_Laws_height post x0 x1 M) : CI l g (layC ++ ext) yX5_height cX5_height 2 (some .int) 1 [.int x0, .int x1] M post :=
  ci_of (plainFor_of_name (by decide +kernel)) (Nat.le_of_ble_eq_true rfl) rfl (fun X A Z hl C hr hR => by subst hl; exact k_Laws_height C hr hR x0 x1 M h)
def T_cX5_measureL : List (Nat × Instr × Nat) := [(0, .ldc 149, 2), (2, .istore_n 3, 1), (3, .iconst 0, 1), (4, .istore 4, 2), (6, .iload 4, 2), (8, .aload_n 0, 1), (9, .getfield 50, 3), (12, .if_icmp .ge 25, 3), (15, .iload_n 3, 1), (16, .aload_n 0, 1), (17, .getfield 15, 3), (20, .iload 4, 2), (22, .iaload, 1), (23, .iload_n 1, 1), (24, .invokestatic 150, 3), (27, .invokestatic 142, 3), (30, .istore_n 3, 1), (31, .iinc 4 1, 3), (34, .goto (-28), 3), (37, .ldc 153, 2), (39, .istore 4, 2), (41, .iconst 0, 1), (42, .istore 5, 2), (44, .iload 5, 2), (46, .aload_n 0, 1), (47, .getfield 53, 3), (50, .if_icmp .ge 27, 3), (53, .iload 4, 2), (55, .aload_n 0, 1), (56, .getfield 18, 3), (59, .iload 5, 2), (61, .iaload, 1), (62, .iload_n 1, 1), (63, .invokestatic 150, 3), (66, .invokestatic 139, 3), (69, .istore 4, 2), (71, .iinc 5 1, 3), (74, .goto (-30), 3), (77, .aload_n 0, 1), (78, .getfield 21, 3), (81, .iload_n 2, 1), (82, .iload_n 3, 1), (83, .sipush 10000, 3), (86, .invokestatic 127, 3), (89, .aload_n 0, 1), (90, .getfield 27, 3), (93, .getfield 96, 3), (96, .getfield 136, 3), (99, .isub, 1), (100, .iastore, 1), (101, .aload_n 0, 1), (102, .getfield 24, 3), (105, .iload_n 2, 1), (106, .iload 4, 2), (108, .sipush 10000, 3), (111, .invokestatic 127, 3), (114, .aload_n 0, 1), (115, .getfield 27, 3), (118, .getfield 96, 3), (121, .getfield 136, 3), (124, .iadd, 1), (125, .iastore, 1), (126, .return_, 1)]
theorem T_cX5_measure : tabOK cX5_measure T_cX5_measureL = true := by decide +kernel
def P_Laws_measure_44 (post : Mem → Prop) : Nat → Int32 → Int32 → Int32 → Int32 → Int32 → Mem → Prop
  | 0, _, _, _, _, _, _ => False
  | n + 1, x1, x2, x3, x4, x5, M =>
    ((M 63 7) ≤ x5 → (P_Math_floorDiv (fun r1 M1 =>
  vp_in x2 1087 ∧ ∀ M2, M2 = ms M1 67 x2.toNatClampNeg (r1 - (M1 8 5)) → P_Math_floorDiv (fun r3 M3 =>
  vp_in x2 1087 ∧ ∀ M4, M4 = ms M3 68 x2.toNatClampNeg (r3 + (M3 8 5)) → post M4) x4 (10000 : Int32) M2) x3 (10000 : Int32) M)) ∧
  (¬ (M 63 7) ≤ x5 → (vp_in x5 1710 ∧ P_Laws_height (fun r5 M5 =>
  P_Math_max (fun r6 M6 =>
  P_Laws_measure_44 post n x1 x2 x3 r6 (x5 + (1 : Int32)) M6) x4 r5 M5) (M 66 x5.toNatClampNeg) x1 M))
theorem k_Laws_measure_44 {X : FX} {g : GT} {ext : List CD} {A : Nat → Prop} {Z : State → Prop} {post : Mem → Prop} (C : Cx X g (layC ++ ext) A cX5_measure 6 RX5 2) (hr : 0 ≤ X.2.2.2.1.cells ∧ 0 ≤ X.2.2.2.1.slots) (hR : RetV X g (layC ++ ext) A cX5_measure 6 0 0 Z post) : ∀ (n : Nat) (x1 x2 x3 x4 x5 : Int32) (M : Mem), P_Laws_measure_44 post n x1 x2 x3 x4 x5 M → At X g (layC ++ ext) A 6 0 0 Z 44 [(0, .ref (ad g 63)), (1, .int x1), (2, .int x2), (3, .int x3), (4, .int x4), (5, .int x5)] [] M := by
  intro n
  induction n with
  | zero =>
    intro x1 x2 x3 x4 x5 M h
    exact h.elim
  | succ n ih =>
    intro x1 x2 x3 x4 x5 M h
    refine a_iload C (tk T_cX5_measure 23 rfl) rfl ?_
    refine a_aload_n C (tk T_cX5_measure 24 rfl) rfl ?_
    refine a_getI C f_RX5_53 (tk T_cX5_measure 25 rfl) lc63 rfl ?_
    refine a_icmp_ge C 77 (tk T_cX5_measure 26 rfl) rfl (fun c => ?_) (fun c => ?_)
    · have h := h.1 c
      refine a_aload_n C (tk T_cX5_measure 38 rfl) rfl ?_
      refine a_getR C f_RX5_21 (tk T_cX5_measure 39 rfl) lc63 rfl ?_
      refine a_iload_n C (tk T_cX5_measure 40 rfl) rfl ?_
      refine a_iload_n C (tk T_cX5_measure 41 rfl) rfl ?_
      refine a_sipush C (10000 : Int32) (tk T_cX5_measure 42 rfl) kS_10000 ?_
      refine a_statI C [.int x3, .int (10000 : Int32)] me_yJ9_floorDiv_7cf53 lk_RX5_127 (ct_Math_floorDiv h) (by decide) rfl rfl (Nat.le_of_ble_eq_true rfl) (tk T_cX5_measure 43 rfl) hr (fun r1 M1 h => ?_)
      refine a_aload_n C (tk T_cX5_measure 44 rfl) rfl ?_
      refine a_getR C f_RX5_27 (tk T_cX5_measure 45 rfl) lc63 rfl ?_
      refine a_getR C f_RX5_96 (tk T_cX5_measure 46 rfl) lc1 rfl ?_
      refine a_getI C f_RX5_136 (tk T_cX5_measure 47 rfl) lc8 rfl ?_
      refine a_isub C (tk T_cX5_measure 48 rfl) ?_
      obtain ⟨hb, h⟩ := h
      refine a_iast C (tk T_cX5_measure 49 rfl) lc67 hb ?_
      refine a_mem (fun M2 e_M2 => ?_)
      have h := h M2 e_M2
      refine a_aload_n C (tk T_cX5_measure 50 rfl) rfl ?_
      refine a_getR C f_RX5_24 (tk T_cX5_measure 51 rfl) lc63 rfl ?_
      refine a_iload_n C (tk T_cX5_measure 52 rfl) rfl ?_
      refine a_iload C (tk T_cX5_measure 53 rfl) rfl ?_
      refine a_sipush C (10000 : Int32) (tk T_cX5_measure 54 rfl) kS_10000 ?_
      refine a_statI C [.int x4, .int (10000 : Int32)] me_yJ9_floorDiv_7cf53 lk_RX5_127 (ct_Math_floorDiv h) (by decide) rfl rfl (Nat.le_of_ble_eq_true rfl) (tk T_cX5_measure 55 rfl) hr (fun r3 M3 h => ?_)
      refine a_aload_n C (tk T_cX5_measure 56 rfl) rfl ?_
      refine a_getR C f_RX5_27 (tk T_cX5_measure 57 rfl) lc63 rfl ?_
      refine a_getR C f_RX5_96 (tk T_cX5_measure 58 rfl) lc1 rfl ?_
      refine a_getI C f_RX5_136 (tk T_cX5_measure 59 rfl) lc8 rfl ?_
      refine a_iadd C (tk T_cX5_measure 60 rfl) ?_
      obtain ⟨hb, h⟩ := h
      refine a_iast C (tk T_cX5_measure 61 rfl) lc68 hb ?_
      refine a_mem (fun M4 e_M4 => ?_)
      have h := h M4 e_M4
      exact hR _ _ _ (tk T_cX5_measure 62 rfl) h
    · have h := h.2 c
      refine a_iload C (tk T_cX5_measure 27 rfl) rfl ?_
      refine a_aload_n C (tk T_cX5_measure 28 rfl) rfl ?_
      refine a_getR C f_RX5_18 (tk T_cX5_measure 29 rfl) lc63 rfl ?_
      refine a_iload C (tk T_cX5_measure 30 rfl) rfl ?_
      obtain ⟨hb, h⟩ := h
      refine a_iald C (tk T_cX5_measure 31 rfl) lc66 hb ?_
      refine a_iload_n C (tk T_cX5_measure 32 rfl) rfl ?_
      refine a_statI C [.int (M 66 x5.toNatClampNeg), .int x1] me_yX5_height lk_RX5_150 (ct_Laws_height h) (by decide) rfl rfl (Nat.le_of_ble_eq_true rfl) (tk T_cX5_measure 33 rfl) hr (fun r5 M5 h => ?_)
      refine a_statI C [.int x4, .int r5] me_yJ9_max_7cf53 lk_RX5_139 (ct_Math_max h) (by decide) rfl rfl (Nat.le_of_ble_eq_true rfl) (tk T_cX5_measure 34 rfl) hr (fun r6 M6 h => ?_)
      refine a_istore C (tk T_cX5_measure 35 rfl) (by decide) ?_
      refine a_iinc C (1 : Int32) (tk T_cX5_measure 36 rfl) rfl kI_1 (by decide) ?_
      refine a_goto C 44 (tk T_cX5_measure 37 rfl) rfl ?_
      exact a_to (ih x1 x2 x3 r6 (x5 + (1 : Int32)) M6 h) rfl
def P_Laws_measure_6 (post : Mem → Prop) : Nat → Int32 → Int32 → Int32 → Int32 → Mem → Prop
  | 0, _, _, _, _, _ => False
  | n + 1, x1, x2, x3, x4, M =>
    ((M 63 6) ≤ x4 → (∃ j44, P_Laws_measure_44 post j44 x1 x2 x3 (-1000000000 : Int32) (0 : Int32) M)) ∧
  (¬ (M 63 6) ≤ x4 → (vp_in x4 1710 ∧ P_Laws_height (fun r1 M1 =>
  P_Math_min (fun r2 M2 =>
  P_Laws_measure_6 post n x1 x2 r2 (x4 + (1 : Int32)) M2) x3 r1 M1) (M 65 x4.toNatClampNeg) x1 M))
theorem k_Laws_measure_6 {X : FX} {g : GT} {ext : List CD} {A : Nat → Prop} {Z : State → Prop} {post : Mem → Prop} (C : Cx X g (layC ++ ext) A cX5_measure 6 RX5 2) (hr : 0 ≤ X.2.2.2.1.cells ∧ 0 ≤ X.2.2.2.1.slots) (hR : RetV X g (layC ++ ext) A cX5_measure 6 0 0 Z post) : ∀ (n : Nat) (x1 x2 x3 x4 : Int32) (M : Mem), P_Laws_measure_6 post n x1 x2 x3 x4 M → At X g (layC ++ ext) A 6 0 0 Z 6 [(0, .ref (ad g 63)), (1, .int x1), (2, .int x2), (3, .int x3), (4, .int x4)] [] M := by
  intro n
  induction n with
  | zero =>
    intro x1 x2 x3 x4 M h
    exact h.elim
  | succ n ih =>
    intro x1 x2 x3 x4 M h
    refine a_iload C (tk T_cX5_measure 4 rfl) rfl ?_
    refine a_aload_n C (tk T_cX5_measure 5 rfl) rfl ?_
    refine a_getI C f_RX5_50 (tk T_cX5_measure 6 rfl) lc63 rfl ?_
    refine a_icmp_ge C 37 (tk T_cX5_measure 7 rfl) rfl (fun c => ?_) (fun c => ?_)
    · have h := h.1 c
      refine a_ldc C c_RX5_153 (tk T_cX5_measure 19 rfl) ?_
      refine a_istore C (tk T_cX5_measure 20 rfl) (by decide) ?_
      refine a_iconst C (0 : Int32) (tk T_cX5_measure 21 rfl) kI_0 ?_
      refine a_istore C (tk T_cX5_measure 22 rfl) (by decide) ?_
      obtain ⟨n1, h⟩ := h
      exact a_to (k_Laws_measure_44 C hr hR n1 x1 x2 x3 (-1000000000 : Int32) (0 : Int32) M h) rfl
    · have h := h.2 c
      refine a_iload_n C (tk T_cX5_measure 8 rfl) rfl ?_
      refine a_aload_n C (tk T_cX5_measure 9 rfl) rfl ?_
      refine a_getR C f_RX5_15 (tk T_cX5_measure 10 rfl) lc63 rfl ?_
      refine a_iload C (tk T_cX5_measure 11 rfl) rfl ?_
      obtain ⟨hb, h⟩ := h
      refine a_iald C (tk T_cX5_measure 12 rfl) lc65 hb ?_
      refine a_iload_n C (tk T_cX5_measure 13 rfl) rfl ?_
      refine a_statI C [.int (M 65 x4.toNatClampNeg), .int x1] me_yX5_height lk_RX5_150 (ct_Laws_height h) (by decide) rfl rfl (Nat.le_of_ble_eq_true rfl) (tk T_cX5_measure 14 rfl) hr (fun r1 M1 h => ?_)
      refine a_statI C [.int x3, .int r1] me_yJ9_min_7cf53 lk_RX5_142 (ct_Math_min h) (by decide) rfl rfl (Nat.le_of_ble_eq_true rfl) (tk T_cX5_measure 15 rfl) hr (fun r2 M2 h => ?_)
      refine a_istore_n C (tk T_cX5_measure 16 rfl) (by decide) ?_
      refine a_iinc C (1 : Int32) (tk T_cX5_measure 17 rfl) rfl kI_1 (by decide) ?_
      refine a_goto C 6 (tk T_cX5_measure 18 rfl) rfl ?_
      exact a_to (ih x1 x2 r2 (x4 + (1 : Int32)) M2 h) rfl
def P_Laws_measure (post : Mem → Prop) (x1 x2 : Int32) (M : Mem) : Prop :=
  ∃ j6, P_Laws_measure_6 post j6 x1 x2 (1000000000 : Int32) (0 : Int32) M
theorem k_Laws_measure {X : FX} {g : GT} {ext : List CD} {A : Nat → Prop} {Z : State → Prop} {post : Mem → Prop} (C : Cx X g (layC ++ ext) A cX5_measure 6 RX5 2) (hr : 0 ≤ X.2.2.2.1.cells ∧ 0 ≤ X.2.2.2.1.slots) (hR : RetV X g (layC ++ ext) A cX5_measure 6 0 0 Z post) (x1 x2 : Int32) (M : Mem) (h : P_Laws_measure post x1 x2 M) : At X g (layC ++ ext) A 6 0 0 Z 0 [(0, .ref (ad g 63)), (1, .int x1), (2, .int x2)] [] M := by
  refine a_ldc C c_RX5_149 (tk T_cX5_measure 0 rfl) ?_
  refine a_istore_n C (tk T_cX5_measure 1 rfl) (by decide) ?_
  refine a_iconst C (0 : Int32) (tk T_cX5_measure 2 rfl) kI_0 ?_
  refine a_istore C (tk T_cX5_measure 3 rfl) (by decide) ?_
  obtain ⟨n1, h⟩ := h
  exact a_to (k_Laws_measure_6 C hr hR n1 x1 x2 (1000000000 : Int32) (0 : Int32) M h) rfl
theorem ct_Laws_measure {l : Launch} {g : GT} {ext : List CD} {post : Mem → Prop} {x1 x2 : Int32} {M : Mem} (h : P_Laws_measure post x1 x2 M) : CV l g (layC ++ ext) yX5_measure cX5_measure 6 none 2 [.ref (ad g 63), .int x1, .int x2] M post :=
  cv_of (plainFor_of_name (by decide +kernel)) (Nat.le_of_ble_eq_true rfl) rfl (fun X A Z hl C hr hR => by subst hl; exact k_Laws_measure C hr hR x1 x2 M h)
def T_cX5_slotOfL : List (Nat × Instr × Nat) := [(0, .iload_n 1, 1), (1, .bipush (-39), 2), (3, .isub, 1), (4, .istore_n 2, 1), (5, .aload_n 0, 1), (6, .getfield 46, 3), (9, .ifCond .eq 16, 3), (12, .iload_n 2, 1), (13, .ifCond .lt 12, 3), (16, .iload_n 2, 1), (17, .aload_n 0, 1), (18, .getfield 21, 3), (21, .arraylength, 1), (22, .if_icmp .lt 5, 3), (25, .iconst (-1), 1), (26, .ireturn, 1), (27, .aload_n 0, 1), (28, .getfield 21, 3), (31, .iload_n 2, 1), (32, .iaload, 1), (33, .ldc 35, 2), (35, .if_icmp .ne 9, 3), (38, .aload_n 0, 1), (39, .iload_n 1, 1), (40, .iload_n 2, 1), (41, .invokevirtual 145, 3), (44, .iload_n 2, 1), (45, .ireturn, 1)]
theorem T_cX5_slotOf : tabOK cX5_slotOf T_cX5_slotOfL = true := by decide +kernel
def P_Laws_slotOf_44 (post : Int32 → Mem → Prop) (x2 : Int32) (M : Mem) : Prop :=
  post x2 M
theorem k_Laws_slotOf_44 {X : FX} {g : GT} {ext : List CD} {A : Nat → Prop} {Z : State → Prop} {post : Int32 → Mem → Prop} (C : Cx X g (layC ++ ext) A cX5_slotOf 3 RX5 3) (hr : 0 ≤ X.2.2.2.1.cells ∧ 0 ≤ X.2.2.2.1.slots) (hR : RetI X g (layC ++ ext) A cX5_slotOf 3 0 0 Z post) (x2 : Int32) (M : Mem) (h : P_Laws_slotOf_44 post x2 M) : At X g (layC ++ ext) A 3 0 0 Z 44 [(2, .int x2)] [] M := by
  refine a_iload_n C (tk T_cX5_slotOf 26 rfl) rfl ?_
  exact hR _ _ _ _ (tk T_cX5_slotOf 27 rfl) h
def P_Laws_slotOf_25 (post : Int32 → Mem → Prop) (M : Mem) : Prop :=
  post (-1 : Int32) M
theorem k_Laws_slotOf_25 {X : FX} {g : GT} {ext : List CD} {A : Nat → Prop} {Z : State → Prop} {post : Int32 → Mem → Prop} (C : Cx X g (layC ++ ext) A cX5_slotOf 3 RX5 3) (hr : 0 ≤ X.2.2.2.1.cells ∧ 0 ≤ X.2.2.2.1.slots) (hR : RetI X g (layC ++ ext) A cX5_slotOf 3 0 0 Z post)  (M : Mem) (h : P_Laws_slotOf_25 post M) : At X g (layC ++ ext) A 3 0 0 Z 25 [] [] M := by
  refine a_iconst C (-1 : Int32) (tk T_cX5_slotOf 14 rfl) kI_m1 ?_
  exact hR _ _ _ _ (tk T_cX5_slotOf 15 rfl) h
def P_Laws_slotOf (post : Int32 → Mem → Prop) (x1 : Int32) (M : Mem) : Prop :=
  ∀ x2_1, x2_1 = (x1 - (-39 : Int32)) → ((M 63 8) = 0 → (P_Laws_slotOf_25 post M)) ∧
  (¬ (M 63 8) = 0 → ((x2_1 < 0 → (P_Laws_slotOf_25 post M)) ∧
  (¬ x2_1 < 0 → ((x2_1 < (1087 : Int32) → (vp_in x2_1 1087 ∧ (¬ (M 67 x2_1.toNatClampNeg) = (-1000000 : Int32) → (P_Laws_slotOf_44 post x2_1 M)) ∧
  ((M 67 x2_1.toNatClampNeg) = (-1000000 : Int32) → (P_Laws_measure (fun M2 =>
  P_Laws_slotOf_44 post x2_1 M2) x1 x2_1 M)))) ∧
  (¬ x2_1 < (1087 : Int32) → (P_Laws_slotOf_25 post M))))))
theorem k_Laws_slotOf {X : FX} {g : GT} {ext : List CD} {A : Nat → Prop} {Z : State → Prop} {post : Int32 → Mem → Prop} (C : Cx X g (layC ++ ext) A cX5_slotOf 3 RX5 3) (hr : 0 ≤ X.2.2.2.1.cells ∧ 0 ≤ X.2.2.2.1.slots) (hR : RetI X g (layC ++ ext) A cX5_slotOf 3 0 0 Z post) (x1 : Int32) (M : Mem) (h : P_Laws_slotOf post x1 M) : At X g (layC ++ ext) A 3 0 0 Z 0 [(0, .ref (ad g 63)), (1, .int x1)] [] M := by
  refine a_iload_n C (tk T_cX5_slotOf 0 rfl) rfl ?_
  refine a_bipush C (-39 : Int32) (tk T_cX5_slotOf 1 rfl) kB_m39 ?_
  refine a_isub C (tk T_cX5_slotOf 2 rfl) ?_
  refine a_top (fun x2_1 e_x2_1 => ?_)
  have h := h x2_1 e_x2_1
  refine a_istore_n C (tk T_cX5_slotOf 3 rfl) (by decide) ?_
  refine a_aload_n C (tk T_cX5_slotOf 4 rfl) rfl ?_
  refine a_getI C f_RX5_46 (tk T_cX5_slotOf 5 rfl) lc63 rfl ?_
  refine a_if_eq C 25 (tk T_cX5_slotOf 6 rfl) rfl (fun c => ?_) (fun c => ?_)
  · have h := h.1 c
    exact a_to (k_Laws_slotOf_25 C hr hR M h) rfl
  · have h := h.2 c
    refine a_iload_n C (tk T_cX5_slotOf 7 rfl) rfl ?_
    refine a_if_lt C 25 (tk T_cX5_slotOf 8 rfl) rfl (fun c => ?_) (fun c => ?_)
    · have h := h.1 c
      exact a_to (k_Laws_slotOf_25 C hr hR M h) rfl
    · have h := h.2 c
      refine a_iload_n C (tk T_cX5_slotOf 9 rfl) rfl ?_
      refine a_aload_n C (tk T_cX5_slotOf 10 rfl) rfl ?_
      refine a_getR C f_RX5_21 (tk T_cX5_slotOf 11 rfl) lc63 rfl ?_
      refine a_alen0 C (tk T_cX5_slotOf 12 rfl) lc67 rfl ?_
      refine a_icmp_lt C 27 (tk T_cX5_slotOf 13 rfl) rfl (fun c => ?_) (fun c => ?_)
      · have h := h.1 c
        refine a_aload_n C (tk T_cX5_slotOf 16 rfl) rfl ?_
        refine a_getR C f_RX5_21 (tk T_cX5_slotOf 17 rfl) lc63 rfl ?_
        refine a_iload_n C (tk T_cX5_slotOf 18 rfl) rfl ?_
        obtain ⟨hb, h⟩ := h
        refine a_iald C (tk T_cX5_slotOf 19 rfl) lc67 hb ?_
        refine a_ldc C c_RX5_35 (tk T_cX5_slotOf 20 rfl) ?_
        refine a_icmp_ne C 44 (tk T_cX5_slotOf 21 rfl) rfl (fun c => ?_) (fun c => ?_)
        · have h := h.1 c
          exact a_to (k_Laws_slotOf_44 C hr hR x2_1 M h) rfl
        · have h := h.2 c
          refine a_aload_n C (tk T_cX5_slotOf 22 rfl) rfl ?_
          refine a_iload_n C (tk T_cX5_slotOf 23 rfl) rfl ?_
          refine a_iload_n C (tk T_cX5_slotOf 24 rfl) rfl ?_
          refine a_callV C [.int x1, .int x2_1] me_yX5_measure lk_RX5_145 (ct_Laws_measure h) (by decide) lc63 rfl rfl rfl (Nat.le_of_ble_eq_true rfl) (tk T_cX5_slotOf 25 rfl) hr (fun M2 h => ?_)
          exact a_to (k_Laws_slotOf_44 C hr hR x2_1 M2 h) rfl
      · have h := h.2 c
        exact a_to (k_Laws_slotOf_25 C hr hR M h) rfl
theorem ct_Laws_slotOf {l : Launch} {g : GT} {ext : List CD} {post : Int32 → Mem → Prop} {x1 : Int32} {M : Mem} (h : P_Laws_slotOf post x1 M) : CI l g (layC ++ ext) yX5_slotOf cX5_slotOf 3 (some .int) 3 [.ref (ad g 63), .int x1] M post :=
  ci_of (plainFor_of_name (by decide +kernel)) (Nat.le_of_ble_eq_true rfl) rfl (fun X A Z hl C hr hR => by subst hl; exact k_Laws_slotOf C hr hR x1 M h)
def T_cX3_putNoSpanL : List (Nat × Instr × Nat) := [(0, .aload_n 0, 1), (1, .getfield 9, 3), (4, .iload_n 1, 1), (5, .iconst 1, 1), (6, .iastore, 1), (7, .aload_n 0, 1), (8, .getfield 15, 3), (11, .iload_n 1, 1), (12, .iconst 0, 1), (13, .iastore, 1), (14, .return_, 1)]
theorem T_cX3_putNoSpan : tabOK cX3_putNoSpan T_cX3_putNoSpanL = true := by decide +kernel
def P_Judge_putNoSpan (post : Mem → Prop) (x1 : Int32) (M : Mem) : Prop :=
  vp_in x1 24 ∧ ∀ M1, M1 = ms M 70 x1.toNatClampNeg (1 : Int32) → vp_in x1 24 ∧ ∀ M2, M2 = ms M1 71 x1.toNatClampNeg (0 : Int32) → post M2
theorem k_Judge_putNoSpan {X : FX} {g : GT} {ext : List CD} {A : Nat → Prop} {Z : State → Prop} {post : Mem → Prop} (C : Cx X g (layC ++ ext) A cX3_putNoSpan 2 RX3 0) (hr : 0 ≤ X.2.2.2.1.cells ∧ 0 ≤ X.2.2.2.1.slots) (hR : RetV X g (layC ++ ext) A cX3_putNoSpan 2 0 0 Z post) (x1 : Int32) (M : Mem) (h : P_Judge_putNoSpan post x1 M) : At X g (layC ++ ext) A 2 0 0 Z 0 [(0, .ref (ad g 69)), (1, .int x1)] [] M := by
  refine a_aload_n C (tk T_cX3_putNoSpan 0 rfl) rfl ?_
  refine a_getR C f_RX3_9 (tk T_cX3_putNoSpan 1 rfl) lc69 rfl ?_
  refine a_iload_n C (tk T_cX3_putNoSpan 2 rfl) rfl ?_
  refine a_iconst C (1 : Int32) (tk T_cX3_putNoSpan 3 rfl) kI_1 ?_
  obtain ⟨hb, h⟩ := h
  refine a_iast C (tk T_cX3_putNoSpan 4 rfl) lc70 hb ?_
  refine a_mem (fun M1 e_M1 => ?_)
  have h := h M1 e_M1
  refine a_aload_n C (tk T_cX3_putNoSpan 5 rfl) rfl ?_
  refine a_getR C f_RX3_15 (tk T_cX3_putNoSpan 6 rfl) lc69 rfl ?_
  refine a_iload_n C (tk T_cX3_putNoSpan 7 rfl) rfl ?_
  refine a_iconst C (0 : Int32) (tk T_cX3_putNoSpan 8 rfl) kI_0 ?_
  obtain ⟨hb, h⟩ := h
  refine a_iast C (tk T_cX3_putNoSpan 9 rfl) lc71 hb ?_
  refine a_mem (fun M2 e_M2 => ?_)
  have h := h M2 e_M2
  exact hR _ _ _ (tk T_cX3_putNoSpan 10 rfl) h
theorem ct_Judge_putNoSpan {l : Launch} {g : GT} {ext : List CD} {post : Mem → Prop} {x1 : Int32} {M : Mem} (h : P_Judge_putNoSpan post x1 M) : CV l g (layC ++ ext) yX3_putNoSpan cX3_putNoSpan 2 none 0 [.ref (ad g 69), .int x1] M post :=
  cv_of (plainFor_of_name (by decide +kernel)) (Nat.le_of_ble_eq_true rfl) rfl (fun X A Z hl C hr hR => by subst hl; exact k_Judge_putNoSpan C hr hR x1 M h)
def T_cX3_putSpanL : List (Nat × Instr × Nat) := [(0, .aload_n 0, 1), (1, .getfield 42, 3), (4, .aload_n 0, 1), (5, .getfield 38, 3), (8, .getfield 86, 3), (11, .aload_n 0, 1), (12, .getfield 38, 3), (15, .getfield 61, 3), (18, .getfield 90, 3), (21, .iload_n 1, 1), (22, .iaload, 1), (23, .aload_n 0, 1), (24, .getfield 38, 3), (27, .getfield 61, 3), (30, .getfield 93, 3), (33, .iload_n 1, 1), (34, .baload, 1), (35, .invokevirtual 97, 3), (38, .iload_n 2, 1), (39, .iadd, 1), (40, .invokevirtual 103, 3), (43, .istore_n 3, 1), (44, .iload_n 3, 1), (45, .iconst (-1), 1), (46, .if_icmp .ne 9, 3), (49, .aload_n 0, 1), (50, .iload_n 1, 1), (51, .invokevirtual 72, 3), (54, .return_, 1), (55, .aload_n 0, 1), (56, .getfield 9, 3), (59, .iload_n 1, 1), (60, .aload_n 0, 1), (61, .getfield 42, 3), (64, .getfield 107, 3), (67, .iload_n 3, 1), (68, .iaload, 1), (69, .iastore, 1), (70, .aload_n 0, 1), (71, .getfield 15, 3), (74, .iload_n 1, 1), (75, .aload_n 0, 1), (76, .getfield 42, 3), (79, .getfield 110, 3), (82, .iload_n 3, 1), (83, .iaload, 1), (84, .iastore, 1), (85, .return_, 1)]
theorem T_cX3_putSpan : tabOK cX3_putSpan T_cX3_putSpanL = true := by decide +kernel
def P_Judge_putSpan (post : Mem → Prop) (x1 x2 : Int32) (M : Mem) : Prop :=
  vp_in x1 24 ∧ vp_in x1 24 ∧ P_Screw_truePlace (fun r1 M1 =>
  P_Laws_slotOf (fun r2 M2 =>
  (¬ r2 = (-1 : Int32) → (vp_in r2 1087 ∧ vp_in x1 24 ∧ ∀ M3, M3 = ms M2 70 x1.toNatClampNeg (M2 67 r2.toNatClampNeg) → vp_in r2 1087 ∧ vp_in x1 24 ∧ ∀ M4, M4 = ms M3 71 x1.toNatClampNeg (M3 68 r2.toNatClampNeg) → post M4)) ∧
  (r2 = (-1 : Int32) → (P_Judge_putNoSpan (fun M5 =>
  post M5) x1 M2))) (r1 + x2) M1) (M 25 x1.toNatClampNeg) (M 26 x1.toNatClampNeg) M
theorem k_Judge_putSpan {X : FX} {g : GT} {ext : List CD} {A : Nat → Prop} {Z : State → Prop} {post : Mem → Prop} (C : Cx X g (layC ++ ext) A cX3_putSpan 4 RX3 4) (hr : 0 ≤ X.2.2.2.1.cells ∧ 0 ≤ X.2.2.2.1.slots) (hR : RetV X g (layC ++ ext) A cX3_putSpan 4 0 0 Z post) (x1 x2 : Int32) (M : Mem) (h : P_Judge_putSpan post x1 x2 M) : At X g (layC ++ ext) A 4 0 0 Z 0 [(0, .ref (ad g 69)), (1, .int x1), (2, .int x2)] [] M := by
  refine a_aload_n C (tk T_cX3_putSpan 0 rfl) rfl ?_
  refine a_getR C f_RX3_42 (tk T_cX3_putSpan 1 rfl) lc69 rfl ?_
  refine a_aload_n C (tk T_cX3_putSpan 2 rfl) rfl ?_
  refine a_getR C f_RX3_38 (tk T_cX3_putSpan 3 rfl) lc69 rfl ?_
  refine a_getR C f_RX3_86 (tk T_cX3_putSpan 4 rfl) lc1 rfl ?_
  refine a_aload_n C (tk T_cX3_putSpan 5 rfl) rfl ?_
  refine a_getR C f_RX3_38 (tk T_cX3_putSpan 6 rfl) lc69 rfl ?_
  refine a_getR C f_RX3_61 (tk T_cX3_putSpan 7 rfl) lc1 rfl ?_
  refine a_getR C f_RX3_90 (tk T_cX3_putSpan 8 rfl) lc18 rfl ?_
  refine a_iload_n C (tk T_cX3_putSpan 9 rfl) rfl ?_
  obtain ⟨hb, h⟩ := h
  refine a_iald C (tk T_cX3_putSpan 10 rfl) lc25 hb ?_
  refine a_aload_n C (tk T_cX3_putSpan 11 rfl) rfl ?_
  refine a_getR C f_RX3_38 (tk T_cX3_putSpan 12 rfl) lc69 rfl ?_
  refine a_getR C f_RX3_61 (tk T_cX3_putSpan 13 rfl) lc1 rfl ?_
  refine a_getR C f_RX3_93 (tk T_cX3_putSpan 14 rfl) lc18 rfl ?_
  refine a_iload_n C (tk T_cX3_putSpan 15 rfl) rfl ?_
  obtain ⟨hb, h⟩ := h
  refine a_zald C (tk T_cX3_putSpan 16 rfl) lc26 hb ?_
  refine a_callI C [.int (M 25 x1.toNatClampNeg), .int (M 26 x1.toNatClampNeg)] me_yX8_truePlace lk_RX3_97 (ct_Screw_truePlace h) (by decide) lc2 rfl rfl rfl (Nat.le_of_ble_eq_true rfl) (tk T_cX3_putSpan 17 rfl) hr (fun r1 M1 h => ?_)
  refine a_iload_n C (tk T_cX3_putSpan 18 rfl) rfl ?_
  refine a_iadd C (tk T_cX3_putSpan 19 rfl) ?_
  refine a_callI C [.int (r1 + x2)] me_yX5_slotOf lk_RX3_103 (ct_Laws_slotOf h) (by decide) lc63 rfl rfl rfl (Nat.le_of_ble_eq_true rfl) (tk T_cX3_putSpan 20 rfl) hr (fun r2 M2 h => ?_)
  refine a_istore_n C (tk T_cX3_putSpan 21 rfl) (by decide) ?_
  refine a_iload_n C (tk T_cX3_putSpan 22 rfl) rfl ?_
  refine a_iconst C (-1 : Int32) (tk T_cX3_putSpan 23 rfl) kI_m1 ?_
  refine a_icmp_ne C 55 (tk T_cX3_putSpan 24 rfl) rfl (fun c => ?_) (fun c => ?_)
  · have h := h.1 c
    refine a_aload_n C (tk T_cX3_putSpan 29 rfl) rfl ?_
    refine a_getR C f_RX3_9 (tk T_cX3_putSpan 30 rfl) lc69 rfl ?_
    refine a_iload_n C (tk T_cX3_putSpan 31 rfl) rfl ?_
    refine a_aload_n C (tk T_cX3_putSpan 32 rfl) rfl ?_
    refine a_getR C f_RX3_42 (tk T_cX3_putSpan 33 rfl) lc69 rfl ?_
    refine a_getR C f_RX3_107 (tk T_cX3_putSpan 34 rfl) lc63 rfl ?_
    refine a_iload_n C (tk T_cX3_putSpan 35 rfl) rfl ?_
    obtain ⟨hb, h⟩ := h
    refine a_iald C (tk T_cX3_putSpan 36 rfl) lc67 hb ?_
    obtain ⟨hb, h⟩ := h
    refine a_iast C (tk T_cX3_putSpan 37 rfl) lc70 hb ?_
    refine a_mem (fun M3 e_M3 => ?_)
    have h := h M3 e_M3
    refine a_aload_n C (tk T_cX3_putSpan 38 rfl) rfl ?_
    refine a_getR C f_RX3_15 (tk T_cX3_putSpan 39 rfl) lc69 rfl ?_
    refine a_iload_n C (tk T_cX3_putSpan 40 rfl) rfl ?_
    refine a_aload_n C (tk T_cX3_putSpan 41 rfl) rfl ?_
    refine a_getR C f_RX3_42 (tk T_cX3_putSpan 42 rfl) lc69 rfl ?_
    refine a_getR C f_RX3_110 (tk T_cX3_putSpan 43 rfl) lc63 rfl ?_
    refine a_iload_n C (tk T_cX3_putSpan 44 rfl) rfl ?_
    obtain ⟨hb, h⟩ := h
    refine a_iald C (tk T_cX3_putSpan 45 rfl) lc68 hb ?_
    obtain ⟨hb, h⟩ := h
    refine a_iast C (tk T_cX3_putSpan 46 rfl) lc71 hb ?_
    refine a_mem (fun M4 e_M4 => ?_)
    have h := h M4 e_M4
    exact hR _ _ _ (tk T_cX3_putSpan 47 rfl) h
  · have h := h.2 c
    refine a_aload_n C (tk T_cX3_putSpan 25 rfl) rfl ?_
    refine a_iload_n C (tk T_cX3_putSpan 26 rfl) rfl ?_
    refine a_callV C [.int x1] me_yX3_putNoSpan lk_RX3_72 (ct_Judge_putNoSpan h) (by decide) lc69 rfl rfl rfl (Nat.le_of_ble_eq_true rfl) (tk T_cX3_putSpan 27 rfl) hr (fun M5 h => ?_)
    exact hR _ _ _ (tk T_cX3_putSpan 28 rfl) h
theorem ct_Judge_putSpan {l : Launch} {g : GT} {ext : List CD} {post : Mem → Prop} {x1 x2 : Int32} {M : Mem} (h : P_Judge_putSpan post x1 x2 M) : CV l g (layC ++ ext) yX3_putSpan cX3_putSpan 4 none 4 [.ref (ad g 69), .int x1, .int x2] M post :=
  cv_of (plainFor_of_name (by decide +kernel)) (Nat.le_of_ble_eq_true rfl) rfl (fun X A Z hl C hr hR => by subst hl; exact k_Judge_putSpan C hr hR x1 x2 M h)
def T_cX3_linesInsideL : List (Nat × Instr × Nat) := [(0, .iconst 0, 1), (1, .istore_n 3, 1), (2, .iconst 0, 1), (3, .istore 4, 2), (5, .iload 4, 2), (7, .aload_n 0, 1), (8, .getfield 38, 3), (11, .getfield 123, 3), (14, .getfield 127, 3), (17, .if_icmp .ge 85, 3), (20, .iconst 0, 1), (21, .istore 5, 2), (23, .iload_n 1, 1), (24, .iload 4, 2), (26, .invokestatic 132, 3), (29, .ifCond .eq 67, 3), (32, .iload 5, 2), (34, .aload_n 0, 1), (35, .getfield 38, 3), (38, .getfield 123, 3), (41, .getfield 136, 3), (44, .iload 4, 2), (46, .iaload, 1), (47, .if_icmp .ge 49, 3), (50, .aload_n 0, 1), (51, .getfield 38, 3), (54, .getfield 123, 3), (57, .getfield 162, 3), (60, .iload 4, 2), (62, .bipush 6, 2), (64, .imul, 1), (65, .iload 5, 2), (67, .iadd, 1), (68, .iaload, 1), (69, .aload_n 0, 1), (70, .getfield 9, 3), (73, .iload_n 2, 1), (74, .iaload, 1), (75, .aload_n 0, 1), (76, .getfield 15, 3), (79, .iload_n 2, 1), (80, .iaload, 1), (81, .invokestatic 113, 3), (84, .ifCond .eq 6, 3), (87, .iinc 3 1, 3), (90, .iinc 5 1, 3), (93, .goto (-70), 3), (96, .iinc 4 1, 3), (99, .goto (-94), 3), (102, .iload_n 3, 1), (103, .ireturn, 1)]
theorem T_cX3_linesInside : tabOK cX3_linesInside T_cX3_linesInsideL = true := by decide +kernel
def P_Judge_linesInside_96 (post : Int32 → Mem → Prop) (R5 : Int32 → Int32 → Int32 → Int32 → Mem → Prop) (x1 x2 x3 x4 : Int32) (M : Mem) : Prop :=
  R5 x1 x2 x3 (x4 + (1 : Int32)) M
theorem k_Judge_linesInside_96 {X : FX} {g : GT} {ext : List CD} {A : Nat → Prop} {Z : State → Prop} {post : Int32 → Mem → Prop} {R5 : Int32 → Int32 → Int32 → Int32 → Mem → Prop} (C : Cx X g (layC ++ ext) A cX3_linesInside 6 RX3 1) (hr : 0 ≤ X.2.2.2.1.cells ∧ 0 ≤ X.2.2.2.1.slots) (hR : RetI X g (layC ++ ext) A cX3_linesInside 6 0 0 Z post) (k5 : ∀ (y1 y2 y3 y4 : Int32) (M : Mem), R5 y1 y2 y3 y4 M → At X g (layC ++ ext) A 6 0 0 Z 5 [(0, .ref (ad g 69)), (1, .int y1), (2, .int y2), (3, .int y3), (4, .int y4)] [] M) (x1 x2 x3 x4 : Int32) (M : Mem) (h : P_Judge_linesInside_96 post R5 x1 x2 x3 x4 M) : At X g (layC ++ ext) A 6 0 0 Z 96 [(0, .ref (ad g 69)), (1, .int x1), (2, .int x2), (3, .int x3), (4, .int x4)] [] M := by
  refine a_iinc C (1 : Int32) (tk T_cX3_linesInside 47 rfl) rfl kI_1 (by decide) ?_
  refine a_goto C 5 (tk T_cX3_linesInside 48 rfl) rfl ?_
  exact a_to (k5 x1 x2 x3 (x4 + (1 : Int32)) M h) rfl
def P_Judge_linesInside_90 (post : Int32 → Mem → Prop) (R5 : Int32 → Int32 → Int32 → Int32 → Mem → Prop) (R23 : Int32 → Int32 → Int32 → Int32 → Int32 → Mem → Prop) (x1 x2 x3 x4 x5 : Int32) (M : Mem) : Prop :=
  R23 x1 x2 x3 x4 (x5 + (1 : Int32)) M
theorem k_Judge_linesInside_90 {X : FX} {g : GT} {ext : List CD} {A : Nat → Prop} {Z : State → Prop} {post : Int32 → Mem → Prop} {R5 : Int32 → Int32 → Int32 → Int32 → Mem → Prop} {R23 : Int32 → Int32 → Int32 → Int32 → Int32 → Mem → Prop} (C : Cx X g (layC ++ ext) A cX3_linesInside 6 RX3 1) (hr : 0 ≤ X.2.2.2.1.cells ∧ 0 ≤ X.2.2.2.1.slots) (hR : RetI X g (layC ++ ext) A cX3_linesInside 6 0 0 Z post) (k5 : ∀ (y1 y2 y3 y4 : Int32) (M : Mem), R5 y1 y2 y3 y4 M → At X g (layC ++ ext) A 6 0 0 Z 5 [(0, .ref (ad g 69)), (1, .int y1), (2, .int y2), (3, .int y3), (4, .int y4)] [] M) (k23 : ∀ (y1 y2 y3 y4 y5 : Int32) (M : Mem), R23 y1 y2 y3 y4 y5 M → At X g (layC ++ ext) A 6 0 0 Z 23 [(0, .ref (ad g 69)), (1, .int y1), (2, .int y2), (3, .int y3), (4, .int y4), (5, .int y5)] [] M) (x1 x2 x3 x4 x5 : Int32) (M : Mem) (h : P_Judge_linesInside_90 post R5 R23 x1 x2 x3 x4 x5 M) : At X g (layC ++ ext) A 6 0 0 Z 90 [(0, .ref (ad g 69)), (1, .int x1), (2, .int x2), (3, .int x3), (4, .int x4), (5, .int x5)] [] M := by
  refine a_iinc C (1 : Int32) (tk T_cX3_linesInside 45 rfl) rfl kI_1 (by decide) ?_
  refine a_goto C 23 (tk T_cX3_linesInside 46 rfl) rfl ?_
  exact a_to (k23 x1 x2 x3 x4 (x5 + (1 : Int32)) M h) rfl
def P_Judge_linesInside_23 (post : Int32 → Mem → Prop) (R5 : Int32 → Int32 → Int32 → Int32 → Mem → Prop) : Nat → Int32 → Int32 → Int32 → Int32 → Int32 → Mem → Prop
  | 0, _, _, _, _, _, _ => False
  | n + 1, x1, x2, x3, x4, x5, M =>
    P_R_has (fun r1 M1 =>
  (r1 = 0 → (P_Judge_linesInside_96 post R5 x1 x2 x3 x4 M1)) ∧
  (¬ r1 = 0 → (vp_in x4 6 ∧ ((M1 15 x4.toNatClampNeg) ≤ x5 → (P_Judge_linesInside_96 post R5 x1 x2 x3 x4 M1)) ∧
  (¬ (M1 15 x4.toNatClampNeg) ≤ x5 → (vp_in ((x4 * (6 : Int32)) + x5) 36 ∧ vp_in x2 24 ∧ vp_in x2 24 ∧ P_R_within (fun r2 M2 =>
  (r2 = 0 → (P_Judge_linesInside_90 post R5 (P_Judge_linesInside_23 post R5 n) x1 x2 x3 x4 x5 M2)) ∧
  (¬ r2 = 0 → (P_Judge_linesInside_90 post R5 (P_Judge_linesInside_23 post R5 n) x1 x2 (x3 + (1 : Int32)) x4 x5 M2))) (M1 16 ((x4 * (6 : Int32)) + x5).toNatClampNeg) (M1 70 x2.toNatClampNeg) (M1 71 x2.toNatClampNeg) M1))))) x1 x4 M
theorem k_Judge_linesInside_23 {X : FX} {g : GT} {ext : List CD} {A : Nat → Prop} {Z : State → Prop} {post : Int32 → Mem → Prop} {R5 : Int32 → Int32 → Int32 → Int32 → Mem → Prop} (C : Cx X g (layC ++ ext) A cX3_linesInside 6 RX3 1) (hr : 0 ≤ X.2.2.2.1.cells ∧ 0 ≤ X.2.2.2.1.slots) (hR : RetI X g (layC ++ ext) A cX3_linesInside 6 0 0 Z post) (k5 : ∀ (y1 y2 y3 y4 : Int32) (M : Mem), R5 y1 y2 y3 y4 M → At X g (layC ++ ext) A 6 0 0 Z 5 [(0, .ref (ad g 69)), (1, .int y1), (2, .int y2), (3, .int y3), (4, .int y4)] [] M) : ∀ (n : Nat) (x1 x2 x3 x4 x5 : Int32) (M : Mem), P_Judge_linesInside_23 post R5 n x1 x2 x3 x4 x5 M → At X g (layC ++ ext) A 6 0 0 Z 23 [(0, .ref (ad g 69)), (1, .int x1), (2, .int x2), (3, .int x3), (4, .int x4), (5, .int x5)] [] M := by
  intro n
  induction n with
  | zero =>
    intro x1 x2 x3 x4 x5 M h
    exact h.elim
  | succ n ih =>
    intro x1 x2 x3 x4 x5 M h
    refine a_iload_n C (tk T_cX3_linesInside 12 rfl) rfl ?_
    refine a_iload C (tk T_cX3_linesInside 13 rfl) rfl ?_
    refine a_nestI C [.int x1, .int x4] me_yX11_has lk_RX3_132 (ct_R_has h) (by decide) rfl rfl (Nat.le_of_ble_eq_true rfl) (tk T_cX3_linesInside 14 rfl) hr (fun r1 M1 h => ?_)
    refine a_if_eq C 96 (tk T_cX3_linesInside 15 rfl) rfl (fun c => ?_) (fun c => ?_)
    · have h := h.1 c
      exact a_to (k_Judge_linesInside_96 C hr hR k5 x1 x2 x3 x4 M1 h) rfl
    · have h := h.2 c
      refine a_iload C (tk T_cX3_linesInside 16 rfl) rfl ?_
      refine a_aload_n C (tk T_cX3_linesInside 17 rfl) rfl ?_
      refine a_getR C f_RX3_38 (tk T_cX3_linesInside 18 rfl) lc69 rfl ?_
      refine a_getR C f_RX3_123 (tk T_cX3_linesInside 19 rfl) lc1 rfl ?_
      refine a_getR C f_RX3_136 (tk T_cX3_linesInside 20 rfl) lc13 rfl ?_
      refine a_iload C (tk T_cX3_linesInside 21 rfl) rfl ?_
      obtain ⟨hb, h⟩ := h
      refine a_iald C (tk T_cX3_linesInside 22 rfl) lc15 hb ?_
      refine a_icmp_ge C 96 (tk T_cX3_linesInside 23 rfl) rfl (fun c => ?_) (fun c => ?_)
      · have h := h.1 c
        exact a_to (k_Judge_linesInside_96 C hr hR k5 x1 x2 x3 x4 M1 h) rfl
      · have h := h.2 c
        refine a_aload_n C (tk T_cX3_linesInside 24 rfl) rfl ?_
        refine a_getR C f_RX3_38 (tk T_cX3_linesInside 25 rfl) lc69 rfl ?_
        refine a_getR C f_RX3_123 (tk T_cX3_linesInside 26 rfl) lc1 rfl ?_
        refine a_getR C f_RX3_162 (tk T_cX3_linesInside 27 rfl) lc13 rfl ?_
        refine a_iload C (tk T_cX3_linesInside 28 rfl) rfl ?_
        refine a_bipush C (6 : Int32) (tk T_cX3_linesInside 29 rfl) kB_6 ?_
        refine a_imul C (tk T_cX3_linesInside 30 rfl) ?_
        refine a_iload C (tk T_cX3_linesInside 31 rfl) rfl ?_
        refine a_iadd C (tk T_cX3_linesInside 32 rfl) ?_
        obtain ⟨hb, h⟩ := h
        refine a_iald C (tk T_cX3_linesInside 33 rfl) lc16 hb ?_
        refine a_aload_n C (tk T_cX3_linesInside 34 rfl) rfl ?_
        refine a_getR C f_RX3_9 (tk T_cX3_linesInside 35 rfl) lc69 rfl ?_
        refine a_iload_n C (tk T_cX3_linesInside 36 rfl) rfl ?_
        obtain ⟨hb, h⟩ := h
        refine a_iald C (tk T_cX3_linesInside 37 rfl) lc70 hb ?_
        refine a_aload_n C (tk T_cX3_linesInside 38 rfl) rfl ?_
        refine a_getR C f_RX3_15 (tk T_cX3_linesInside 39 rfl) lc69 rfl ?_
        refine a_iload_n C (tk T_cX3_linesInside 40 rfl) rfl ?_
        obtain ⟨hb, h⟩ := h
        refine a_iald C (tk T_cX3_linesInside 41 rfl) lc71 hb ?_
        refine a_nestI C [.int (M1 16 ((x4 * (6 : Int32)) + x5).toNatClampNeg), .int (M1 70 x2.toNatClampNeg), .int (M1 71 x2.toNatClampNeg)] me_yX11_within lk_RX3_113 (ct_R_within h) (by decide) rfl rfl (Nat.le_of_ble_eq_true rfl) (tk T_cX3_linesInside 42 rfl) hr (fun r2 M2 h => ?_)
        refine a_if_eq C 90 (tk T_cX3_linesInside 43 rfl) rfl (fun c => ?_) (fun c => ?_)
        · have h := h.1 c
          exact a_to (k_Judge_linesInside_90 C hr hR k5 ih x1 x2 x3 x4 x5 M2 h) rfl
        · have h := h.2 c
          refine a_iinc C (1 : Int32) (tk T_cX3_linesInside 44 rfl) rfl kI_1 (by decide) ?_
          exact a_to (k_Judge_linesInside_90 C hr hR k5 ih x1 x2 (x3 + (1 : Int32)) x4 x5 M2 h) rfl
def P_Judge_linesInside_5 (post : Int32 → Mem → Prop) : Nat → Int32 → Int32 → Int32 → Int32 → Mem → Prop
  | 0, _, _, _, _, _ => False
  | n + 1, x1, x2, x3, x4, M =>
    ((M 13 4) ≤ x4 → (post x3 M)) ∧
  (¬ (M 13 4) ≤ x4 → (∃ j23, P_Judge_linesInside_23 post (P_Judge_linesInside_5 post n) j23 x1 x2 x3 x4 (0 : Int32) M))
theorem k_Judge_linesInside_5 {X : FX} {g : GT} {ext : List CD} {A : Nat → Prop} {Z : State → Prop} {post : Int32 → Mem → Prop} (C : Cx X g (layC ++ ext) A cX3_linesInside 6 RX3 1) (hr : 0 ≤ X.2.2.2.1.cells ∧ 0 ≤ X.2.2.2.1.slots) (hR : RetI X g (layC ++ ext) A cX3_linesInside 6 0 0 Z post) : ∀ (n : Nat) (x1 x2 x3 x4 : Int32) (M : Mem), P_Judge_linesInside_5 post n x1 x2 x3 x4 M → At X g (layC ++ ext) A 6 0 0 Z 5 [(0, .ref (ad g 69)), (1, .int x1), (2, .int x2), (3, .int x3), (4, .int x4)] [] M := by
  intro n
  induction n with
  | zero =>
    intro x1 x2 x3 x4 M h
    exact h.elim
  | succ n ih =>
    intro x1 x2 x3 x4 M h
    refine a_iload C (tk T_cX3_linesInside 4 rfl) rfl ?_
    refine a_aload_n C (tk T_cX3_linesInside 5 rfl) rfl ?_
    refine a_getR C f_RX3_38 (tk T_cX3_linesInside 6 rfl) lc69 rfl ?_
    refine a_getR C f_RX3_123 (tk T_cX3_linesInside 7 rfl) lc1 rfl ?_
    refine a_getI C f_RX3_127 (tk T_cX3_linesInside 8 rfl) lc13 rfl ?_
    refine a_icmp_ge C 102 (tk T_cX3_linesInside 9 rfl) rfl (fun c => ?_) (fun c => ?_)
    · have h := h.1 c
      refine a_iload_n C (tk T_cX3_linesInside 49 rfl) rfl ?_
      exact hR _ _ _ _ (tk T_cX3_linesInside 50 rfl) h
    · have h := h.2 c
      refine a_iconst C (0 : Int32) (tk T_cX3_linesInside 10 rfl) kI_0 ?_
      refine a_istore C (tk T_cX3_linesInside 11 rfl) (by decide) ?_
      obtain ⟨n1, h⟩ := h
      exact a_to (k_Judge_linesInside_23 C hr hR ih n1 x1 x2 x3 x4 (0 : Int32) M h) rfl
def P_Judge_linesInside (post : Int32 → Mem → Prop) (x1 x2 : Int32) (M : Mem) : Prop :=
  ∃ j5, P_Judge_linesInside_5 post j5 x1 x2 (0 : Int32) (0 : Int32) M
theorem k_Judge_linesInside {X : FX} {g : GT} {ext : List CD} {A : Nat → Prop} {Z : State → Prop} {post : Int32 → Mem → Prop} (C : Cx X g (layC ++ ext) A cX3_linesInside 6 RX3 1) (hr : 0 ≤ X.2.2.2.1.cells ∧ 0 ≤ X.2.2.2.1.slots) (hR : RetI X g (layC ++ ext) A cX3_linesInside 6 0 0 Z post) (x1 x2 : Int32) (M : Mem) (h : P_Judge_linesInside post x1 x2 M) : At X g (layC ++ ext) A 6 0 0 Z 0 [(0, .ref (ad g 69)), (1, .int x1), (2, .int x2)] [] M := by
  refine a_iconst C (0 : Int32) (tk T_cX3_linesInside 0 rfl) kI_0 ?_
  refine a_istore_n C (tk T_cX3_linesInside 1 rfl) (by decide) ?_
  refine a_iconst C (0 : Int32) (tk T_cX3_linesInside 2 rfl) kI_0 ?_
  refine a_istore C (tk T_cX3_linesInside 3 rfl) (by decide) ?_
  obtain ⟨n1, h⟩ := h
  exact a_to (k_Judge_linesInside_5 C hr hR n1 x1 x2 (0 : Int32) (0 : Int32) M h) rfl
theorem ct_Judge_linesInside {l : Launch} {g : GT} {ext : List CD} {post : Int32 → Mem → Prop} {x1 x2 : Int32} {M : Mem} (h : P_Judge_linesInside post x1 x2 M) : CI l g (layC ++ ext) yX3_linesInside cX3_linesInside 6 (some .int) 1 [.ref (ad g 69), .int x1, .int x2] M post :=
  ci_of (plainFor_of_name (by decide +kernel)) (Nat.le_of_ble_eq_true rfl) rfl (fun X A Z hl C hr hR => by subst hl; exact k_Judge_linesInside C hr hR x1 x2 M h)
def T_cX3_isExplainedAdriftL : List (Nat × Instr × Nat) := [(0, .aload_n 0, 1), (1, .getfield 38, 3), (4, .getfield 123, 3), (7, .iload_n 1, 1), (8, .invokevirtual 152, 3), (11, .istore_n 3, 1), (12, .iconst 0, 1), (13, .istore 4, 2), (15, .iload 4, 2), (17, .aload_n 0, 1), (18, .getfield 38, 3), (21, .getfield 61, 3), (24, .getfield 67, 3), (27, .if_icmp .ge 52, 3), (30, .aload_n 0, 1), (31, .getfield 55, 3), (34, .iload 4, 2), (36, .invokestatic 132, 3), (39, .ifCond .eq 34, 3), (42, .aload_n 0, 1), (43, .iload 4, 2), (45, .iload_n 2, 1), (46, .invokevirtual 82, 3), (49, .aload_n 0, 1), (50, .getfield 58, 3), (53, .iload 4, 2), (55, .invokestatic 132, 3), (58, .ifCond .ne 15, 3), (61, .aload_n 0, 1), (62, .iload_n 3, 1), (63, .iload 4, 2), (65, .invokevirtual 158, 3), (68, .ifCond .ne 5, 3), (71, .iconst 0, 1), (72, .ireturn, 1), (73, .iinc 4 1, 3), (76, .goto (-61), 3), (79, .aload_n 0, 1), (80, .iload_n 3, 1), (81, .iconst 0, 1), (82, .invokevirtual 155, 3), (85, .aload_n 0, 1), (86, .getfield 120, 3), (89, .ifCond .ne 7, 3), (92, .iconst 1, 1), (93, .goto 4, 3), (96, .iconst 0, 1), (97, .ireturn, 1)]
theorem T_cX3_isExplainedAdrift : tabOK cX3_isExplainedAdrift T_cX3_isExplainedAdriftL = true := by decide +kernel
def P_Judge_isExplainedAdrift_97 (post : Int32 → Mem → Prop) (s0 : Int32) (M : Mem) : Prop :=
  (s0 = 0 ∨ s0 = 1) ∧ post s0 M
theorem k_Judge_isExplainedAdrift_97 {X : FX} {g : GT} {ext : List CD} {A : Nat → Prop} {Z : State → Prop} {post : Int32 → Mem → Prop} (C : Cx X g (layC ++ ext) A cX3_isExplainedAdrift 5 RX3 5) (hr : 0 ≤ X.2.2.2.1.cells ∧ 0 ≤ X.2.2.2.1.slots) (hR : RetZ X g (layC ++ ext) A cX3_isExplainedAdrift 5 0 0 Z post) (s0 : Int32) (M : Mem) (h : P_Judge_isExplainedAdrift_97 post s0 M) : At X g (layC ++ ext) A 5 0 0 Z 97 [] [.int s0] M := by
  exact hR _ _ _ _ (tk T_cX3_isExplainedAdrift 47 rfl) h
def P_Judge_isExplainedAdrift_73 (post : Int32 → Mem → Prop) (R15 : Int32 → Int32 → Int32 → Mem → Prop) (x2 x3 x4 : Int32) (M : Mem) : Prop :=
  R15 x2 x3 (x4 + (1 : Int32)) M
theorem k_Judge_isExplainedAdrift_73 {X : FX} {g : GT} {ext : List CD} {A : Nat → Prop} {Z : State → Prop} {post : Int32 → Mem → Prop} {R15 : Int32 → Int32 → Int32 → Mem → Prop} (C : Cx X g (layC ++ ext) A cX3_isExplainedAdrift 5 RX3 5) (hr : 0 ≤ X.2.2.2.1.cells ∧ 0 ≤ X.2.2.2.1.slots) (hR : RetZ X g (layC ++ ext) A cX3_isExplainedAdrift 5 0 0 Z post) (k15 : ∀ (y2 y3 y4 : Int32) (M : Mem), R15 y2 y3 y4 M → At X g (layC ++ ext) A 5 0 0 Z 15 [(0, .ref (ad g 69)), (2, .int y2), (3, .int y3), (4, .int y4)] [] M) (x2 x3 x4 : Int32) (M : Mem) (h : P_Judge_isExplainedAdrift_73 post R15 x2 x3 x4 M) : At X g (layC ++ ext) A 5 0 0 Z 73 [(0, .ref (ad g 69)), (2, .int x2), (3, .int x3), (4, .int x4)] [] M := by
  refine a_iinc C (1 : Int32) (tk T_cX3_isExplainedAdrift 35 rfl) rfl kI_1 (by decide) ?_
  refine a_goto C 15 (tk T_cX3_isExplainedAdrift 36 rfl) rfl ?_
  exact a_to (k15 x2 x3 (x4 + (1 : Int32)) M h) rfl
def P_Judge_isExplainedAdrift_15 (post : Int32 → Mem → Prop) : Nat → Int32 → Int32 → Int32 → Mem → Prop
  | 0, _, _, _, _ => False
  | n + 1, x2, x3, x4, M =>
    ((M 18 11) ≤ x4 → (P_Judge_survey (fun M1 =>
  (¬ (M1 69 14) = 0 → (P_Judge_isExplainedAdrift_97 post (0 : Int32) M1)) ∧
  ((M1 69 14) = 0 → (P_Judge_isExplainedAdrift_97 post (1 : Int32) M1))) x3 (0 : Int32) M)) ∧
  (¬ (M 18 11) ≤ x4 → (P_R_has (fun r2 M2 =>
  (r2 = 0 → (P_Judge_isExplainedAdrift_73 post (P_Judge_isExplainedAdrift_15 post n) x2 x3 x4 M2)) ∧
  (¬ r2 = 0 → (P_Judge_putSpan (fun M3 =>
  P_R_has (fun r4 M4 =>
  (¬ r4 = 0 → (P_Judge_isExplainedAdrift_73 post (P_Judge_isExplainedAdrift_15 post n) x2 x3 x4 M4)) ∧
  (r4 = 0 → (P_Judge_linesInside (fun r5 M5 =>
  (¬ r5 = 0 → (P_Judge_isExplainedAdrift_73 post (P_Judge_isExplainedAdrift_15 post n) x2 x3 x4 M5)) ∧
  (r5 = 0 → (post (0 : Int32) M5))) x3 x4 M4))) (M3 69 12) x4 M3) x4 x2 M2))) (M 69 11) x4 M))
theorem k_Judge_isExplainedAdrift_15 {X : FX} {g : GT} {ext : List CD} {A : Nat → Prop} {Z : State → Prop} {post : Int32 → Mem → Prop} (C : Cx X g (layC ++ ext) A cX3_isExplainedAdrift 5 RX3 5) (hr : 0 ≤ X.2.2.2.1.cells ∧ 0 ≤ X.2.2.2.1.slots) (hR : RetZ X g (layC ++ ext) A cX3_isExplainedAdrift 5 0 0 Z post) : ∀ (n : Nat) (x2 x3 x4 : Int32) (M : Mem), P_Judge_isExplainedAdrift_15 post n x2 x3 x4 M → At X g (layC ++ ext) A 5 0 0 Z 15 [(0, .ref (ad g 69)), (2, .int x2), (3, .int x3), (4, .int x4)] [] M := by
  intro n
  induction n with
  | zero =>
    intro x2 x3 x4 M h
    exact h.elim
  | succ n ih =>
    intro x2 x3 x4 M h
    refine a_iload C (tk T_cX3_isExplainedAdrift 8 rfl) rfl ?_
    refine a_aload_n C (tk T_cX3_isExplainedAdrift 9 rfl) rfl ?_
    refine a_getR C f_RX3_38 (tk T_cX3_isExplainedAdrift 10 rfl) lc69 rfl ?_
    refine a_getR C f_RX3_61 (tk T_cX3_isExplainedAdrift 11 rfl) lc1 rfl ?_
    refine a_getI C f_RX3_67 (tk T_cX3_isExplainedAdrift 12 rfl) lc18 rfl ?_
    refine a_icmp_ge C 79 (tk T_cX3_isExplainedAdrift 13 rfl) rfl (fun c => ?_) (fun c => ?_)
    · have h := h.1 c
      refine a_aload_n C (tk T_cX3_isExplainedAdrift 37 rfl) rfl ?_
      refine a_iload_n C (tk T_cX3_isExplainedAdrift 38 rfl) rfl ?_
      refine a_iconst C (0 : Int32) (tk T_cX3_isExplainedAdrift 39 rfl) kI_0 ?_
      refine a_callV C [.int x3, .int (0 : Int32)] me_yX3_survey lk_RX3_155 (ct_Judge_survey h) (by decide) lc69 rfl rfl rfl (Nat.le_of_ble_eq_true rfl) (tk T_cX3_isExplainedAdrift 40 rfl) hr (fun M1 h => ?_)
      refine a_aload_n C (tk T_cX3_isExplainedAdrift 41 rfl) rfl ?_
      refine a_getI C f_RX3_120 (tk T_cX3_isExplainedAdrift 42 rfl) lc69 rfl ?_
      refine a_if_ne C 96 (tk T_cX3_isExplainedAdrift 43 rfl) rfl (fun c => ?_) (fun c => ?_)
      · have h := h.1 c
        refine a_iconst C (0 : Int32) (tk T_cX3_isExplainedAdrift 46 rfl) kI_0 ?_
        exact a_to (k_Judge_isExplainedAdrift_97 C hr hR (0 : Int32) M1 h) rfl
      · have h := h.2 c
        refine a_iconst C (1 : Int32) (tk T_cX3_isExplainedAdrift 44 rfl) kI_1 ?_
        refine a_goto C 97 (tk T_cX3_isExplainedAdrift 45 rfl) rfl ?_
        exact a_to (k_Judge_isExplainedAdrift_97 C hr hR (1 : Int32) M1 h) rfl
    · have h := h.2 c
      refine a_aload_n C (tk T_cX3_isExplainedAdrift 14 rfl) rfl ?_
      refine a_getI C f_RX3_55 (tk T_cX3_isExplainedAdrift 15 rfl) lc69 rfl ?_
      refine a_iload C (tk T_cX3_isExplainedAdrift 16 rfl) rfl ?_
      refine a_nestI C [.int (M 69 11), .int x4] me_yX11_has lk_RX3_132 (ct_R_has h) (by decide) rfl rfl (Nat.le_of_ble_eq_true rfl) (tk T_cX3_isExplainedAdrift 17 rfl) hr (fun r2 M2 h => ?_)
      refine a_if_eq C 73 (tk T_cX3_isExplainedAdrift 18 rfl) rfl (fun c => ?_) (fun c => ?_)
      · have h := h.1 c
        exact a_to (k_Judge_isExplainedAdrift_73 C hr hR ih x2 x3 x4 M2 h) rfl
      · have h := h.2 c
        refine a_aload_n C (tk T_cX3_isExplainedAdrift 19 rfl) rfl ?_
        refine a_iload C (tk T_cX3_isExplainedAdrift 20 rfl) rfl ?_
        refine a_iload_n C (tk T_cX3_isExplainedAdrift 21 rfl) rfl ?_
        refine a_callV C [.int x4, .int x2] me_yX3_putSpan lk_RX3_82 (ct_Judge_putSpan h) (by decide) lc69 rfl rfl rfl (Nat.le_of_ble_eq_true rfl) (tk T_cX3_isExplainedAdrift 22 rfl) hr (fun M3 h => ?_)
        refine a_aload_n C (tk T_cX3_isExplainedAdrift 23 rfl) rfl ?_
        refine a_getI C f_RX3_58 (tk T_cX3_isExplainedAdrift 24 rfl) lc69 rfl ?_
        refine a_iload C (tk T_cX3_isExplainedAdrift 25 rfl) rfl ?_
        refine a_nestI C [.int (M3 69 12), .int x4] me_yX11_has lk_RX3_132 (ct_R_has h) (by decide) rfl rfl (Nat.le_of_ble_eq_true rfl) (tk T_cX3_isExplainedAdrift 26 rfl) hr (fun r4 M4 h => ?_)
        refine a_if_ne C 73 (tk T_cX3_isExplainedAdrift 27 rfl) rfl (fun c => ?_) (fun c => ?_)
        · have h := h.1 c
          exact a_to (k_Judge_isExplainedAdrift_73 C hr hR ih x2 x3 x4 M4 h) rfl
        · have h := h.2 c
          refine a_aload_n C (tk T_cX3_isExplainedAdrift 28 rfl) rfl ?_
          refine a_iload_n C (tk T_cX3_isExplainedAdrift 29 rfl) rfl ?_
          refine a_iload C (tk T_cX3_isExplainedAdrift 30 rfl) rfl ?_
          refine a_callI C [.int x3, .int x4] me_yX3_linesInside lk_RX3_158 (ct_Judge_linesInside h) (by decide) lc69 rfl rfl rfl (Nat.le_of_ble_eq_true rfl) (tk T_cX3_isExplainedAdrift 31 rfl) hr (fun r5 M5 h => ?_)
          refine a_if_ne C 73 (tk T_cX3_isExplainedAdrift 32 rfl) rfl (fun c => ?_) (fun c => ?_)
          · have h := h.1 c
            exact a_to (k_Judge_isExplainedAdrift_73 C hr hR ih x2 x3 x4 M5 h) rfl
          · have h := h.2 c
            refine a_iconst C (0 : Int32) (tk T_cX3_isExplainedAdrift 33 rfl) kI_0 ?_
            exact hR _ _ _ _ (tk T_cX3_isExplainedAdrift 34 rfl) ⟨Or.inl rfl, h⟩
def P_Judge_isExplainedAdrift (post : Int32 → Mem → Prop) (x1 x2 : Int32) (M : Mem) : Prop :=
  P_Table_withAir (fun r1 M1 =>
  ∃ j15, P_Judge_isExplainedAdrift_15 post j15 x2 r1 (0 : Int32) M1) x1 M
theorem k_Judge_isExplainedAdrift {X : FX} {g : GT} {ext : List CD} {A : Nat → Prop} {Z : State → Prop} {post : Int32 → Mem → Prop} (C : Cx X g (layC ++ ext) A cX3_isExplainedAdrift 5 RX3 5) (hr : 0 ≤ X.2.2.2.1.cells ∧ 0 ≤ X.2.2.2.1.slots) (hR : RetZ X g (layC ++ ext) A cX3_isExplainedAdrift 5 0 0 Z post) (x1 x2 : Int32) (M : Mem) (h : P_Judge_isExplainedAdrift post x1 x2 M) : At X g (layC ++ ext) A 5 0 0 Z 0 [(0, .ref (ad g 69)), (1, .int x1), (2, .int x2)] [] M := by
  refine a_aload_n C (tk T_cX3_isExplainedAdrift 0 rfl) rfl ?_
  refine a_getR C f_RX3_38 (tk T_cX3_isExplainedAdrift 1 rfl) lc69 rfl ?_
  refine a_getR C f_RX3_123 (tk T_cX3_isExplainedAdrift 2 rfl) lc1 rfl ?_
  refine a_iload_n C (tk T_cX3_isExplainedAdrift 3 rfl) rfl ?_
  refine a_callI C [.int x1] me_yX10_withAir lk_RX3_152 (ct_Table_withAir h) (by decide) lc13 rfl rfl rfl (Nat.le_of_ble_eq_true rfl) (tk T_cX3_isExplainedAdrift 4 rfl) hr (fun r1 M1 h => ?_)
  refine a_istore_n C (tk T_cX3_isExplainedAdrift 5 rfl) (by decide) ?_
  refine a_iconst C (0 : Int32) (tk T_cX3_isExplainedAdrift 6 rfl) kI_0 ?_
  refine a_istore C (tk T_cX3_isExplainedAdrift 7 rfl) (by decide) ?_
  obtain ⟨n1, h⟩ := h
  exact a_to (k_Judge_isExplainedAdrift_15 C hr hR n1 x2 r1 (0 : Int32) M1 h) rfl
theorem ct_Judge_isExplainedAdrift {l : Launch} {g : GT} {ext : List CD} {post : Int32 → Mem → Prop} {x1 x2 : Int32} {M : Mem} (h : P_Judge_isExplainedAdrift post x1 x2 M) : CI l g (layC ++ ext) yX3_isExplainedAdrift cX3_isExplainedAdrift 5 (some .boolean) 5 [.ref (ad g 69), .int x1, .int x2] M post :=
  cz_of (plainFor_of_name (by decide +kernel)) (Nat.le_of_ble_eq_true rfl) rfl (fun X A Z hl C hr hR => by subst hl; exact k_Judge_isExplainedAdrift C hr hR x1 x2 M h)
def T_cX11_faultL : List (Nat × Instr × Nat) := [(0, .aload_n 0, 1), (1, .getfield 56, 3), (4, .getfield 398, 3), (7, .ireturn, 1)]
theorem T_cX11_fault : tabOK cX11_fault T_cX11_faultL = true := by decide +kernel
def P_R_fault (post : Int32 → Mem → Prop) (M : Mem) : Prop :=
  post (M 84 8) M
theorem k_R_fault {X : FX} {g : GT} {ext : List CD} {A : Nat → Prop} {Z : State → Prop} {post : Int32 → Mem → Prop} (C : Cx X g (layC ++ ext) A cX11_fault 1 RX11 0) (hr : 0 ≤ X.2.2.2.1.cells ∧ 0 ≤ X.2.2.2.1.slots) (hR : RetI X g (layC ++ ext) A cX11_fault 1 0 0 Z post) (M : Mem) (h : P_R_fault post M) : At X g (layC ++ ext) A 1 0 0 Z 0 [(0, .ref (ad g 0))] [] M := by
  refine a_aload_n C (tk T_cX11_fault 0 rfl) rfl ?_
  refine a_getR C f_RX11_56 (tk T_cX11_fault 1 rfl) lc0 rfl ?_
  refine a_getI C f_RX11_398 (tk T_cX11_fault 2 rfl) lc84 rfl ?_
  exact hR _ _ _ _ (tk T_cX11_fault 3 rfl) h
theorem ct_R_fault {l : Launch} {g : GT} {ext : List CD} {post : Int32 → Mem → Prop} {M : Mem} (h : P_R_fault post M) : CI l g (layC ++ ext) yX11_fault cX11_fault 1 (some .int) 0 [.ref (ad g 0)] M post :=
  ci_of (plainFor_of_name (by decide +kernel)) (Nat.le_of_ble_eq_true rfl) rfl (fun X A Z hl C hr hR => by subst hl; exact k_R_fault C hr hR  M h)
def T_cX11_isWaveL : List (Nat × Instr × Nat) := [(0, .iload_n 0, 1), (1, .sipush 1000, 3), (4, .sipush 9999, 3), (7, .invokestatic 68, 3), (10, .ireturn, 1)]
theorem T_cX11_isWave : tabOK cX11_isWave T_cX11_isWaveL = true := by decide +kernel
def P_R_isWave (post : Int32 → Mem → Prop) (x0 : Int32) (M : Mem) : Prop :=
  P_R_within (fun r1 M1 =>
  (r1 = 0 ∨ r1 = 1) ∧ post r1 M1) x0 (1000 : Int32) (9999 : Int32) M
theorem k_R_isWave {X : FX} {g : GT} {ext : List CD} {A : Nat → Prop} {Z : State → Prop} {post : Int32 → Mem → Prop} (C : Cx X g (layC ++ ext) A cX11_isWave 1 RX11 1) (hr : 0 ≤ X.2.2.2.1.cells ∧ 0 ≤ X.2.2.2.1.slots) (hR : RetZ X g (layC ++ ext) A cX11_isWave 1 0 0 Z post) (x0 : Int32) (M : Mem) (h : P_R_isWave post x0 M) : At X g (layC ++ ext) A 1 0 0 Z 0 [(0, .int x0)] [] M := by
  refine a_iload_n C (tk T_cX11_isWave 0 rfl) rfl ?_
  refine a_sipush C (1000 : Int32) (tk T_cX11_isWave 1 rfl) kS_1000 ?_
  refine a_sipush C (9999 : Int32) (tk T_cX11_isWave 2 rfl) kS_9999 ?_
  refine a_statI C [.int x0, .int (1000 : Int32), .int (9999 : Int32)] me_yX11_within lk_RX11_68 (ct_R_within h) (by decide) rfl rfl (Nat.le_of_ble_eq_true rfl) (tk T_cX11_isWave 3 rfl) hr (fun r1 M1 h => ?_)
  exact hR _ _ _ _ (tk T_cX11_isWave 4 rfl) h
theorem ct_R_isWave {l : Launch} {g : GT} {ext : List CD} {post : Int32 → Mem → Prop} {x0 : Int32} {M : Mem} (h : P_R_isWave post x0 M) : CI l g (layC ++ ext) yX11_isWave cX11_isWave 1 (some .boolean) 1 [.int x0] M post :=
  cz_of (plainFor_of_name (by decide +kernel)) (Nat.le_of_ble_eq_true rfl) rfl (fun X A Z hl C hr hR => by subst hl; exact k_R_isWave C hr hR x0 M h)
