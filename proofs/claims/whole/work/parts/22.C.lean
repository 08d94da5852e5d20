def T_cX3_swappedL : List (Nat × Instr × Nat) := [(0, .iload_n 1, 1), (1, .iconst 1, 1), (2, .if_icmp .ge 5, 3), (5, .iload_n 0, 1), (6, .ireturn, 1), (7, .iload_n 0, 1), (8, .iload_n 1, 1), (9, .idiv, 1), (10, .bipush 10, 2), (12, .irem, 1), (13, .istore_n 2, 1), (14, .iload_n 0, 1), (15, .iload_n 1, 1), (16, .idiv, 1), (17, .bipush 10, 2), (19, .idiv, 1), (20, .bipush 10, 2), (22, .irem, 1), (23, .istore_n 3, 1), (24, .iload_n 0, 1), (25, .bipush 9, 2), (27, .iload_n 1, 1), (28, .imul, 1), (29, .iload_n 2, 1), (30, .iload_n 3, 1), (31, .isub, 1), (32, .imul, 1), (33, .iadd, 1), (34, .ireturn, 1)]
theorem T_cX3_swapped : tabOK cX3_swapped T_cX3_swappedL = true := by decide +kernel
def P_Judge_swapped (post : Int32 → Mem → Prop) (x0 x1 : Int32) (M : Mem) : Prop :=
  ((1 : Int32) ≤ x1 → ((¬ x1 = 0) ∧ ∀ x2_1, x2_1 = (irm (x0 / x1) (10 : Int32)) → (¬ x1 = 0) ∧ ∀ x3_2, x3_2 = (irm ((x0 / x1) / (10 : Int32)) (10 : Int32)) → post (x0 + (((9 : Int32) * x1) * (x2_1 - x3_2))) M)) ∧
  (¬ (1 : Int32) ≤ x1 → (post x0 M))
theorem k_Judge_swapped {X : FX} {g : GT} {ext : List CD} {A : Nat → Prop} {Z : State → Prop} {post : Int32 → Mem → Prop} (C : Cx X g (layC ++ ext) A cX3_swapped 4 RX3 0) (hr : 0 ≤ X.2.2.2.1.cells ∧ 0 ≤ X.2.2.2.1.slots) (hR : RetI X g (layC ++ ext) A cX3_swapped 4 0 0 Z post) (x0 x1 : Int32) (M : Mem) (h : P_Judge_swapped post x0 x1 M) : AtX X g (layC ++ ext) A 4 0 0 Z 0 [(0, .int x0), (1, .int x1)] [] M := by
  refine a_iload_n C (tk T_cX3_swapped 0 rfl) rfl ?_
  refine a_iconst C (1 : Int32) (tk T_cX3_swapped 1 rfl) kI_1 ?_
  refine a_icmp_ge C 7 (tk T_cX3_swapped 2 rfl) rfl (fun c => ?_) (fun c => ?_)
  · have h := h.1 c
    refine a_iload_n C (tk T_cX3_swapped 5 rfl) rfl ?_
    refine a_iload_n C (tk T_cX3_swapped 6 rfl) rfl ?_
    obtain ⟨hy, h⟩ := h
    refine a_idiv C (tk T_cX3_swapped 7 rfl) hy ?_
    refine a_bipush C (10 : Int32) (tk T_cX3_swapped 8 rfl) kB_10 ?_
    refine a_irem C (tk T_cX3_swapped 9 rfl) (by decide) ?_
    refine a_top (fun x2_1 e_x2_1 => ?_)
    have h := h x2_1 e_x2_1
    refine a_istore_n C (tk T_cX3_swapped 10 rfl) (by decide) rfl ?_
    refine a_iload_n C (tk T_cX3_swapped 11 rfl) rfl ?_
    refine a_iload_n C (tk T_cX3_swapped 12 rfl) rfl ?_
    obtain ⟨hy, h⟩ := h
    refine a_idiv C (tk T_cX3_swapped 13 rfl) hy ?_
    refine a_bipush C (10 : Int32) (tk T_cX3_swapped 14 rfl) kB_10 ?_
    refine a_idiv C (tk T_cX3_swapped 15 rfl) (by decide) ?_
    refine a_bipush C (10 : Int32) (tk T_cX3_swapped 16 rfl) kB_10 ?_
    refine a_irem C (tk T_cX3_swapped 17 rfl) (by decide) ?_
    refine a_top (fun x3_2 e_x3_2 => ?_)
    have h := h x3_2 e_x3_2
    refine a_istore_n C (tk T_cX3_swapped 18 rfl) (by decide) rfl ?_
    refine a_iload_n C (tk T_cX3_swapped 19 rfl) rfl ?_
    refine a_bipush C (9 : Int32) (tk T_cX3_swapped 20 rfl) kB_9 ?_
    refine a_iload_n C (tk T_cX3_swapped 21 rfl) rfl ?_
    refine a_imul C (tk T_cX3_swapped 22 rfl) ?_
    refine a_iload_n C (tk T_cX3_swapped 23 rfl) rfl ?_
    refine a_iload_n C (tk T_cX3_swapped 24 rfl) rfl ?_
    refine a_isub C (tk T_cX3_swapped 25 rfl) ?_
    refine a_imul C (tk T_cX3_swapped 26 rfl) ?_
    refine a_iadd C (tk T_cX3_swapped 27 rfl) ?_
    exact hR _ _ _ _ (tk T_cX3_swapped 28 rfl) h
  · have h := h.2 c
    refine a_iload_n C (tk T_cX3_swapped 3 rfl) rfl ?_
    exact hR _ _ _ _ (tk T_cX3_swapped 4 rfl) h
theorem ct_Judge_swapped {l : Launch} {g : GT} {ext : List CD} {post : Int32 → Mem → Prop} {x0 x1 : Int32} {M : Mem} (h : P_Judge_swapped post x0 x1 M) : CI l g (layC ++ ext) yX3_swapped cX3_swapped 4 (some .int) 0 [.int x0, .int x1] M post :=
  ci_of (plainFor_of_name (by decide +kernel)) (Nat.le_of_ble_eq_true rfl) (fun X A Z hl C hr hR => by subst hl; exact k_Judge_swapped C hr hR x0 x1 M h)
def T_cX3_misprintReadingL : List (Nat × Instr × Nat) := [(0, .iload_n 1, 1), (1, .bipush 6, 2), (3, .imul, 1), (4, .iload_n 2, 1), (5, .iadd, 1), (6, .istore 4, 2), (8, .aload_n 0, 1), (9, .getfield 38, 3), (12, .getfield 123, 3), (15, .getfield 162, 3), (18, .iload 4, 2), (20, .iaload, 1), (21, .istore 5, 2), (23, .aload_n 0, 1), (24, .getfield 38, 3), (27, .getfield 61, 3), (30, .aload_n 0, 1), (31, .getfield 51, 3), (34, .iload 5, 2), (36, .aload_n 0, 1), (37, .getfield 38, 3), (40, .getfield 123, 3), (43, .getfield 146, 3), (46, .iload 4, 2), (48, .iaload, 1), (49, .invokevirtual 149, 3), (52, .ifCond .eq 12, 3), (55, .aload_n 0, 1), (56, .iload 5, 2), (58, .invokevirtual 143, 3), (61, .ifCond .eq 5, 3), (64, .iconst (-1), 1), (65, .ireturn, 1), (66, .aload_n 0, 1), (67, .iload 5, 2), (69, .iconst 1, 1), (70, .invokestatic 215, 3), (73, .invokevirtual 143, 3), (76, .aload_n 0, 1), (77, .iload 5, 2), (79, .bipush 10, 2), (81, .invokestatic 215, 3), (84, .invokevirtual 143, 3), (87, .ior, 1), (88, .aload_n 0, 1), (89, .iload 5, 2), (91, .bipush 100, 2), (93, .invokestatic 215, 3), (96, .invokevirtual 143, 3), (99, .ior, 1), (100, .istore 6, 2), (102, .iconst 0, 1), (103, .istore 7, 2), (105, .iload 7, 2), (107, .aload_n 0, 1), (108, .getfield 38, 3), (111, .getfield 61, 3), (114, .getfield 67, 3), (117, .if_icmp .ge 24, 3), (120, .iload 6, 2), (122, .iload_n 3, 1), (123, .iand, 1), (124, .iload 7, 2), (126, .invokestatic 132, 3), (129, .ifCond .eq 6, 3), (132, .iload 7, 2), (134, .ireturn, 1), (135, .iinc 7 1, 3), (138, .goto (-33), 3), (141, .iconst (-1), 1), (142, .ireturn, 1)]
theorem T_cX3_misprintReading : tabOK cX3_misprintReading T_cX3_misprintReadingL = true := by decide +kernel
def P_Judge_misprintReading_105 (post : Int32 → Mem → Prop) : Nat → Int32 → Int32 → Int32 → Mem → Prop
  | 0, _, _, _, _ => False
  | n + 1, x3, x6, x7, M =>
    ((M 18 11) ≤ x7 → (post (-1 : Int32) M)) ∧
  (¬ (M 18 11) ≤ x7 → (P_R_has (fun r1 M1 =>
  (r1 = 0 → (P_Judge_misprintReading_105 post n x3 x6 (x7 + (1 : Int32)) M1)) ∧
  (¬ r1 = 0 → (post x7 M1))) (x6 &&& x3) x7 M))
theorem k_Judge_misprintReading_105 {X : FX} {g : GT} {ext : List CD} {A : Nat → Prop} {Z : State → Prop} {post : Int32 → Mem → Prop} (C : Cx X g (layC ++ ext) A cX3_misprintReading 8 RX3 2) (hr : 0 ≤ X.2.2.2.1.cells ∧ 0 ≤ X.2.2.2.1.slots) (hR : RetI X g (layC ++ ext) A cX3_misprintReading 8 0 0 Z post) : ∀ (n : Nat) (x3 x6 x7 : Int32) (M : Mem), P_Judge_misprintReading_105 post n x3 x6 x7 M → AtX X g (layC ++ ext) A 8 0 0 Z 105 [(0, .ref (ad g 69)), (3, .int x3), (6, .int x6), (7, .int x7)] [] M := by
  intro n
  induction n with
  | zero =>
    intro x3 x6 x7 M h
    exact h.elim
  | succ n ih =>
    intro x3 x6 x7 M h
    refine a_iload C (tk T_cX3_misprintReading 53 rfl) rfl ?_
    refine a_aload_n C (tk T_cX3_misprintReading 54 rfl) rfl ?_
    refine a_getR C f_RX3_38 (tk T_cX3_misprintReading 55 rfl) lc69 rfl ?_
    refine a_getR C f_RX3_61 (tk T_cX3_misprintReading 56 rfl) lc1 rfl ?_
    refine a_getI C f_RX3_67 (tk T_cX3_misprintReading 57 rfl) lc18 rfl ?_
    refine a_icmp_ge C 141 (tk T_cX3_misprintReading 58 rfl) rfl (fun c => ?_) (fun c => ?_)
    · have h := h.1 c
      refine a_iconst C (-1 : Int32) (tk T_cX3_misprintReading 69 rfl) kI_m1 ?_
      exact hR _ _ _ _ (tk T_cX3_misprintReading 70 rfl) h
    · have h := h.2 c
      refine a_iload C (tk T_cX3_misprintReading 59 rfl) rfl ?_
      refine a_iload_n C (tk T_cX3_misprintReading 60 rfl) rfl ?_
      refine a_iand C (tk T_cX3_misprintReading 61 rfl) ?_
      refine a_iload C (tk T_cX3_misprintReading 62 rfl) rfl ?_
      refine a_nestI C [.int (x6 &&& x3), .int x7] me_yX11_has lk_RX3_132 (ct_R_has h) (by decide) rfl rfl (Nat.le_of_ble_eq_true rfl) (tk T_cX3_misprintReading 63 rfl) hr (fun r1 M1 h => ?_)
      refine a_if_eq C 135 (tk T_cX3_misprintReading 64 rfl) rfl (fun c => ?_) (fun c => ?_)
      · have h := h.1 c
        refine a_iinc C (1 : Int32) (tk T_cX3_misprintReading 67 rfl) rfl kI_1 (by decide) rfl ?_
        refine a_goto C 105 (tk T_cX3_misprintReading 68 rfl) rfl ?_
        exact a_to (ih x3 x6 (x7 + (1 : Int32)) M1 h) rfl
      · have h := h.2 c
        refine a_iload C (tk T_cX3_misprintReading 65 rfl) rfl ?_
        exact hR _ _ _ _ (tk T_cX3_misprintReading 66 rfl) h
def P_Judge_misprintReading_64 (post : Int32 → Mem → Prop) (M : Mem) : Prop :=
  post (-1 : Int32) M
theorem k_Judge_misprintReading_64 {X : FX} {g : GT} {ext : List CD} {A : Nat → Prop} {Z : State → Prop} {post : Int32 → Mem → Prop} (C : Cx X g (layC ++ ext) A cX3_misprintReading 8 RX3 2) (hr : 0 ≤ X.2.2.2.1.cells ∧ 0 ≤ X.2.2.2.1.slots) (hR : RetI X g (layC ++ ext) A cX3_misprintReading 8 0 0 Z post)  (M : Mem) (h : P_Judge_misprintReading_64 post M) : AtX X g (layC ++ ext) A 8 0 0 Z 64 [] [] M := by
  refine a_iconst C (-1 : Int32) (tk T_cX3_misprintReading 31 rfl) kI_m1 ?_
  exact hR _ _ _ _ (tk T_cX3_misprintReading 32 rfl) h
def P_Judge_misprintReading (post : Int32 → Mem → Prop) (x1 x2 x3 : Int32) (M : Mem) : Prop :=
  ∀ x4_1, x4_1 = ((x1 * (6 : Int32)) + x2) → vp_in x4_1 36 ∧ vp_in x4_1 36 ∧ P_Shelf_mustShow (fun r2 M2 =>
  (r2 = 0 → (P_Judge_misprintReading_64 post M2)) ∧
  (¬ r2 = 0 → (P_Judge_holders (fun r3 M3 =>
  (r3 = 0 → (P_Judge_swapped (fun r4 M4 =>
  P_Judge_holders (fun r5 M5 =>
  P_Judge_swapped (fun r6 M6 =>
  P_Judge_holders (fun r7 M7 =>
  P_Judge_swapped (fun r8 M8 =>
  P_Judge_holders (fun r9 M9 =>
  ∀ x6_10, x6_10 = ((r5 ||| r7) ||| r9) → ∃ j105, P_Judge_misprintReading_105 post j105 x3 x6_10 (0 : Int32) M9) r8 M8) (M 16 x4_1.toNatClampNeg) (100 : Int32) M7) r6 M6) (M 16 x4_1.toNatClampNeg) (10 : Int32) M5) r4 M4) (M 16 x4_1.toNatClampNeg) (1 : Int32) M3)) ∧
  (¬ r3 = 0 → (P_Judge_misprintReading_64 post M3))) (M 16 x4_1.toNatClampNeg) M2))) (M 69 10) (M 16 x4_1.toNatClampNeg) (M 17 x4_1.toNatClampNeg) M
theorem k_Judge_misprintReading {X : FX} {g : GT} {ext : List CD} {A : Nat → Prop} {Z : State → Prop} {post : Int32 → Mem → Prop} (C : Cx X g (layC ++ ext) A cX3_misprintReading 8 RX3 2) (hr : 0 ≤ X.2.2.2.1.cells ∧ 0 ≤ X.2.2.2.1.slots) (hR : RetI X g (layC ++ ext) A cX3_misprintReading 8 0 0 Z post) (x1 x2 x3 : Int32) (M : Mem) (h : P_Judge_misprintReading post x1 x2 x3 M) : AtX X g (layC ++ ext) A 8 0 0 Z 0 [(0, .ref (ad g 69)), (1, .int x1), (2, .int x2), (3, .int x3)] [] M := by
  refine a_iload_n C (tk T_cX3_misprintReading 0 rfl) rfl ?_
  refine a_bipush C (6 : Int32) (tk T_cX3_misprintReading 1 rfl) kB_6 ?_
  refine a_imul C (tk T_cX3_misprintReading 2 rfl) ?_
  refine a_iload_n C (tk T_cX3_misprintReading 3 rfl) rfl ?_
  refine a_iadd C (tk T_cX3_misprintReading 4 rfl) ?_
  refine a_top (fun x4_1 e_x4_1 => ?_)
  have h := h x4_1 e_x4_1
  refine a_istore C (tk T_cX3_misprintReading 5 rfl) (by decide) rfl ?_
  refine a_aload_n C (tk T_cX3_misprintReading 6 rfl) rfl ?_
  refine a_getR C f_RX3_38 (tk T_cX3_misprintReading 7 rfl) lc69 rfl ?_
  refine a_getR C f_RX3_123 (tk T_cX3_misprintReading 8 rfl) lc1 rfl ?_
  refine a_getR C f_RX3_162 (tk T_cX3_misprintReading 9 rfl) lc13 rfl ?_
  refine a_iload C (tk T_cX3_misprintReading 10 rfl) rfl ?_
  obtain ⟨hb, h⟩ := h
  refine a_iald C (tk T_cX3_misprintReading 11 rfl) lc16 hb ?_
  refine a_istore C (tk T_cX3_misprintReading 12 rfl) (by decide) rfl ?_
  refine a_aload_n C (tk T_cX3_misprintReading 13 rfl) rfl ?_
  refine a_getR C f_RX3_38 (tk T_cX3_misprintReading 14 rfl) lc69 rfl ?_
  refine a_getR C f_RX3_61 (tk T_cX3_misprintReading 15 rfl) lc1 rfl ?_
  refine a_aload_n C (tk T_cX3_misprintReading 16 rfl) rfl ?_
  refine a_getI C f_RX3_51 (tk T_cX3_misprintReading 17 rfl) lc69 rfl ?_
  refine a_iload C (tk T_cX3_misprintReading 18 rfl) rfl ?_
  refine a_aload_n C (tk T_cX3_misprintReading 19 rfl) rfl ?_
  refine a_getR C f_RX3_38 (tk T_cX3_misprintReading 20 rfl) lc69 rfl ?_
  refine a_getR C f_RX3_123 (tk T_cX3_misprintReading 21 rfl) lc1 rfl ?_
  refine a_getR C f_RX3_146 (tk T_cX3_misprintReading 22 rfl) lc13 rfl ?_
  refine a_iload C (tk T_cX3_misprintReading 23 rfl) rfl ?_
  obtain ⟨hb, h⟩ := h
  refine a_iald C (tk T_cX3_misprintReading 24 rfl) lc17 hb ?_
  refine a_callI C [.int (M 69 10), .int (M 16 x4_1.toNatClampNeg), .int (M 17 x4_1.toNatClampNeg)] me_yX9_mustShow lk_RX3_149 (ct_Shelf_mustShow h) (by decide) lc18 rfl rfl rfl (Nat.le_of_ble_eq_true rfl) (tk T_cX3_misprintReading 25 rfl) hr (fun r2 M2 h => ?_)
  refine a_if_eq C 64 (tk T_cX3_misprintReading 26 rfl) rfl (fun c => ?_) (fun c => ?_)
  · have h := h.1 c
    exact a_to (k_Judge_misprintReading_64 C hr hR M2 h) rfl
  · have h := h.2 c
    refine a_aload_n C (tk T_cX3_misprintReading 27 rfl) rfl ?_
    refine a_iload C (tk T_cX3_misprintReading 28 rfl) rfl ?_
    refine a_callI C [.int (M 16 x4_1.toNatClampNeg)] me_yX3_holders lk_RX3_143 (ct_Judge_holders h) (by decide) lc69 rfl rfl rfl (Nat.le_of_ble_eq_true rfl) (tk T_cX3_misprintReading 29 rfl) hr (fun r3 M3 h => ?_)
    refine a_if_eq C 66 (tk T_cX3_misprintReading 30 rfl) rfl (fun c => ?_) (fun c => ?_)
    · have h := h.1 c
      refine a_aload_n C (tk T_cX3_misprintReading 33 rfl) rfl ?_
      refine a_iload C (tk T_cX3_misprintReading 34 rfl) rfl ?_
      refine a_iconst C (1 : Int32) (tk T_cX3_misprintReading 35 rfl) kI_1 ?_
      refine a_statI C [.int (M 16 x4_1.toNatClampNeg), .int (1 : Int32)] me_yX3_swapped lk_RX3_215 (ct_Judge_swapped h) (by decide) rfl rfl (Nat.le_of_ble_eq_true rfl) (tk T_cX3_misprintReading 36 rfl) hr (fun r4 M4 h => ?_)
      refine a_callI C [.int r4] me_yX3_holders lk_RX3_143 (ct_Judge_holders h) (by decide) lc69 rfl rfl rfl (Nat.le_of_ble_eq_true rfl) (tk T_cX3_misprintReading 37 rfl) hr (fun r5 M5 h => ?_)
      refine a_aload_n C (tk T_cX3_misprintReading 38 rfl) rfl ?_
      refine a_iload C (tk T_cX3_misprintReading 39 rfl) rfl ?_
      refine a_bipush C (10 : Int32) (tk T_cX3_misprintReading 40 rfl) kB_10 ?_
      refine a_statI C [.int (M 16 x4_1.toNatClampNeg), .int (10 : Int32)] me_yX3_swapped lk_RX3_215 (ct_Judge_swapped h) (by decide) rfl rfl (Nat.le_of_ble_eq_true rfl) (tk T_cX3_misprintReading 41 rfl) hr (fun r6 M6 h => ?_)
      refine a_callI C [.int r6] me_yX3_holders lk_RX3_143 (ct_Judge_holders h) (by decide) lc69 rfl rfl rfl (Nat.le_of_ble_eq_true rfl) (tk T_cX3_misprintReading 42 rfl) hr (fun r7 M7 h => ?_)
      refine a_ior C (tk T_cX3_misprintReading 43 rfl) ?_
      refine a_aload_n C (tk T_cX3_misprintReading 44 rfl) rfl ?_
      refine a_iload C (tk T_cX3_misprintReading 45 rfl) rfl ?_
      refine a_bipush C (100 : Int32) (tk T_cX3_misprintReading 46 rfl) kB_100 ?_
      refine a_statI C [.int (M 16 x4_1.toNatClampNeg), .int (100 : Int32)] me_yX3_swapped lk_RX3_215 (ct_Judge_swapped h) (by decide) rfl rfl (Nat.le_of_ble_eq_true rfl) (tk T_cX3_misprintReading 47 rfl) hr (fun r8 M8 h => ?_)
      refine a_callI C [.int r8] me_yX3_holders lk_RX3_143 (ct_Judge_holders h) (by decide) lc69 rfl rfl rfl (Nat.le_of_ble_eq_true rfl) (tk T_cX3_misprintReading 48 rfl) hr (fun r9 M9 h => ?_)
      refine a_ior C (tk T_cX3_misprintReading 49 rfl) ?_
      refine a_top (fun x6_10 e_x6_10 => ?_)
      have h := h x6_10 e_x6_10
      refine a_istore C (tk T_cX3_misprintReading 50 rfl) (by decide) rfl ?_
      refine a_iconst C (0 : Int32) (tk T_cX3_misprintReading 51 rfl) kI_0 ?_
      refine a_istore C (tk T_cX3_misprintReading 52 rfl) (by decide) rfl ?_
      obtain ⟨n1, h⟩ := h
      exact a_to (k_Judge_misprintReading_105 C hr hR n1 x3 x6_10 (0 : Int32) M9 h) rfl
    · have h := h.2 c
      exact a_to (k_Judge_misprintReading_64 C hr hR M3 h) rfl
theorem ct_Judge_misprintReading {l : Launch} {g : GT} {ext : List CD} {post : Int32 → Mem → Prop} {x1 x2 x3 : Int32} {M : Mem} (h : P_Judge_misprintReading post x1 x2 x3 M) : CI l g (layC ++ ext) yX3_misprintReading cX3_misprintReading 8 (some .int) 2 [.ref (ad g 69), .int x1, .int x2, .int x3] M post :=
  ci_of (plainFor_of_name (by decide +kernel)) (Nat.le_of_ble_eq_true rfl) (fun X A Z hl C hr hR => by subst hl; exact k_Judge_misprintReading C hr hR x1 x2 x3 M h)
def T_cX11_misprintL : List (Nat × Instr × Nat) := [(0, .aload_n 0, 1), (1, .iload_n 1, 1), (2, .invokevirtual 232, 3), (5, .aload_n 0, 1), (6, .iload_n 2, 1), (7, .invokevirtual 299, 3), (10, .aload_n 0, 1), (11, .getfield 33, 3), (14, .iload_n 1, 1), (15, .invokevirtual 264, 3), (18, .aload_n 0, 1), (19, .getfield 33, 3), (22, .iconst 1, 1), (23, .iload_n 2, 1), (24, .ishl, 1), (25, .iconst 0, 1), (26, .invokevirtual 286, 3), (29, .istore_n 3, 1), (30, .iconst 0, 1), (31, .istore 4, 2), (33, .iload 4, 2), (35, .aload_n 0, 1), (36, .getfield 10, 3), (39, .getfield 188, 3), (42, .getfield 198, 3), (45, .iload_n 2, 1), (46, .iaload, 1), (47, .if_icmp .ge 37, 3), (50, .aload_n 0, 1), (51, .getfield 33, 3), (54, .iload_n 2, 1), (55, .iload 4, 2), (57, .iload_n 3, 1), (58, .invokevirtual 330, 3), (61, .istore 5, 2), (63, .iload 5, 2), (65, .iconst (-1), 1), (66, .if_icmp .eq 12, 3), (69, .bipush 32, 2), (71, .iload 4, 2), (73, .imul, 1), (74, .iload 5, 2), (76, .iadd, 1), (77, .ireturn, 1), (78, .iinc 4 1, 3), (81, .goto (-48), 3), (84, .iconst (-1), 1), (85, .ireturn, 1)]
theorem T_cX11_misprint : tabOK cX11_misprint T_cX11_misprintL = true := by decide +kernel
def P_R_misprint_33 (post : Int32 → Mem → Prop) (ex : String → Mem → Prop) : Nat → Int32 → Int32 → Int32 → Mem → Prop
  | 0, _, _, _, _ => False
  | n + 1, x2, x3, x4, M =>
    vp_in x2 6 ∧ ((M 15 x2.toNatClampNeg) ≤ x4 → (post (-1 : Int32) M)) ∧
  (¬ (M 15 x2.toNatClampNeg) ≤ x4 → (P_Judge_misprintReading (fun r1 M1 =>
  (r1 = (-1 : Int32) → (P_R_misprint_33 post ex n x2 x3 (x4 + (1 : Int32)) M1)) ∧
  (¬ r1 = (-1 : Int32) → (post (((32 : Int32) * x4) + r1) M1))) x2 x4 x3 M))
theorem k_R_misprint_33 {X : FX} {g : GT} {ext : List CD} {A : Nat → Prop} {Z : State → Prop} {post : Int32 → Mem → Prop} {ex : String → Mem → Prop} {sk : Nat → Nat} (C : CxX X g (layC ++ ext) A cX11_misprint 6 RX11 8 2 sk) (hT : ThX X g (layC ++ ext) A 2 Z ex) (hR : RetI X g (layC ++ ext) A cX11_misprint 6 2 (6 * 2) Z post) : ∀ (n : Nat) (x2 x3 x4 : Int32) (M : Mem), P_R_misprint_33 post ex n x2 x3 x4 M → AtX X g (layC ++ ext) A 6 2 (6 * 2) Z 33 [(0, .ref (ad g 0)), (2, .int x2), (3, .int x3), (4, .int x4)] [] M := by
  intro n
  induction n with
  | zero =>
    intro x2 x3 x4 M h
    exact h.elim
  | succ n ih =>
    intro x2 x3 x4 M h
    refine a_iload C.1 (tk T_cX11_misprint 20 rfl) rfl ?_
    refine a_aload_n C.1 (tk T_cX11_misprint 21 rfl) rfl ?_
    refine a_getR C.1 f_RX11_10 (tk T_cX11_misprint 22 rfl) lc0 rfl ?_
    refine a_getR C.1 f_RX11_188 (tk T_cX11_misprint 23 rfl) lc1 rfl ?_
    refine a_getR C.1 f_RX11_198 (tk T_cX11_misprint 24 rfl) lc13 rfl ?_
    refine a_iload_n C.1 (tk T_cX11_misprint 25 rfl) rfl ?_
    obtain ⟨hb, h⟩ := h
    refine a_iald C.1 (tk T_cX11_misprint 26 rfl) lc15 hb ?_
    refine a_icmp_ge C.1 84 (tk T_cX11_misprint 27 rfl) rfl (fun c => ?_) (fun c => ?_)
    · have h := h.1 c
      refine a_iconst C.1 (-1 : Int32) (tk T_cX11_misprint 46 rfl) kI_m1 ?_
      exact x_widen (by decide) (by decide) (hR _ _ _ _ (tk T_cX11_misprint 47 rfl) h)
    · have h := h.2 c
      refine a_aload_n C.1 (tk T_cX11_misprint 28 rfl) rfl ?_
      refine a_getR C.1 f_RX11_33 (tk T_cX11_misprint 29 rfl) lc0 rfl ?_
      refine a_iload_n C.1 (tk T_cX11_misprint 30 rfl) rfl ?_
      refine a_iload C.1 (tk T_cX11_misprint 31 rfl) rfl ?_
      refine a_iload_n C.1 (tk T_cX11_misprint 32 rfl) rfl ?_
      refine a_callI C.1 [.int x2, .int x4, .int x3] me_yX3_misprintReading lk_RX11_330 (ct_Judge_misprintReading h) (by decide) lc69 rfl rfl rfl (Nat.le_of_ble_eq_true rfl) (tk T_cX11_misprint 33 rfl) ⟨Nat.le_trans (by decide) C.2.2.1, Nat.le_trans (by decide) C.2.2.2⟩ (fun r1 M1 h => ?_)
      refine a_istore C.1 (tk T_cX11_misprint 34 rfl) (by decide) rfl ?_
      refine a_iload C.1 (tk T_cX11_misprint 35 rfl) rfl ?_
      refine a_iconst C.1 (-1 : Int32) (tk T_cX11_misprint 36 rfl) kI_m1 ?_
      refine a_icmp_eq C.1 78 (tk T_cX11_misprint 37 rfl) rfl (fun c => ?_) (fun c => ?_)
      · have h := h.1 c
        refine a_iinc C.1 (1 : Int32) (tk T_cX11_misprint 44 rfl) rfl kI_1 (by decide) rfl ?_
        refine a_goto C.1 33 (tk T_cX11_misprint 45 rfl) rfl ?_
        exact x_widen (by decide) (by decide) (a_to (ih x2 x3 (x4 + (1 : Int32)) M1 h) rfl)
      · have h := h.2 c
        refine a_bipush C.1 (32 : Int32) (tk T_cX11_misprint 38 rfl) kB_32 ?_
        refine a_iload C.1 (tk T_cX11_misprint 39 rfl) rfl ?_
        refine a_imul C.1 (tk T_cX11_misprint 40 rfl) ?_
        refine a_iload C.1 (tk T_cX11_misprint 41 rfl) rfl ?_
        refine a_iadd C.1 (tk T_cX11_misprint 42 rfl) ?_
        exact x_widen (by decide) (by decide) (hR _ _ _ _ (tk T_cX11_misprint 43 rfl) h)
def P_R_misprint (post : Int32 → Mem → Prop) (ex : String → Mem → Prop) (x1 x2 : Int32) (M : Mem) : Prop :=
  P_R_wantPlate (fun M1 =>
  P_R_wantElement (fun M2 =>
  P_Judge_open (fun M3 =>
  P_Judge_leftBits (fun r4 M4 =>
  ∃ j33, P_R_misprint_33 post ex j33 x2 r4 (0 : Int32) M4) ((1 : Int32) <<< (x2 &&& 31)) (0 : Int32) M3) x1 M2) ex x2 M1) ex x1 M
theorem k_R_misprint {X : FX} {g : GT} {ext : List CD} {A : Nat → Prop} {Z : State → Prop} {post : Int32 → Mem → Prop} {ex : String → Mem → Prop} {sk : Nat → Nat} (C : CxX X g (layC ++ ext) A cX11_misprint 6 RX11 8 2 sk) (hT : ThX X g (layC ++ ext) A 2 Z ex) (hR : RetI X g (layC ++ ext) A cX11_misprint 6 2 (6 * 2) Z post) (x1 x2 : Int32) (M : Mem) (h : P_R_misprint post ex x1 x2 M) : AtX X g (layC ++ ext) A 6 0 0 Z 0 [(0, .ref (ad g 0)), (1, .int x1), (2, .int x2)] [] M := by
  refine a_aload_n C.1 (tk T_cX11_misprint 0 rfl) rfl ?_
  refine a_iload_n C.1 (tk T_cX11_misprint 1 rfl) rfl ?_
  refine x_callV C hT [.int x1] me_yX11_wantPlate lk_RX11_232 (ct_R_wantPlate h) (by decide) lc0 rfl rfl rfl (Nat.le_of_ble_eq_true rfl) (tk T_cX11_misprint 2 rfl) (by decide) (fun M1 h => ?_)
  refine a_aload_n C.1 (tk T_cX11_misprint 3 rfl) rfl ?_
  refine a_iload_n C.1 (tk T_cX11_misprint 4 rfl) rfl ?_
  refine x_callV C hT [.int x2] me_yX11_wantElement lk_RX11_299 (ct_R_wantElement h) (by decide) lc0 rfl rfl rfl (Nat.le_of_ble_eq_true rfl) (tk T_cX11_misprint 5 rfl) (by decide) (fun M2 h => ?_)
  refine a_aload_n C.1 (tk T_cX11_misprint 6 rfl) rfl ?_
  refine a_getR C.1 f_RX11_33 (tk T_cX11_misprint 7 rfl) lc0 rfl ?_
  refine a_iload_n C.1 (tk T_cX11_misprint 8 rfl) rfl ?_
  refine a_callV C.1 [.int x1] me_yX3_open lk_RX11_264 (ct_Judge_open h) (by decide) lc69 rfl rfl rfl (Nat.le_of_ble_eq_true rfl) (tk T_cX11_misprint 9 rfl) ⟨Nat.le_trans (by decide) C.2.2.1, Nat.le_trans (by decide) C.2.2.2⟩ (fun M3 h => ?_)
  refine a_aload_n C.1 (tk T_cX11_misprint 10 rfl) rfl ?_
  refine a_getR C.1 f_RX11_33 (tk T_cX11_misprint 11 rfl) lc0 rfl ?_
  refine a_iconst C.1 (1 : Int32) (tk T_cX11_misprint 12 rfl) kI_1 ?_
  refine a_iload_n C.1 (tk T_cX11_misprint 13 rfl) rfl ?_
  refine a_ishl C.1 (tk T_cX11_misprint 14 rfl) ?_
  refine a_iconst C.1 (0 : Int32) (tk T_cX11_misprint 15 rfl) kI_0 ?_
  refine a_callI C.1 [.int ((1 : Int32) <<< (x2 &&& 31)), .int (0 : Int32)] me_yX3_leftBits lk_RX11_286 (ct_Judge_leftBits h) (by decide) lc69 rfl rfl rfl (Nat.le_of_ble_eq_true rfl) (tk T_cX11_misprint 16 rfl) ⟨Nat.le_trans (by decide) C.2.2.1, Nat.le_trans (by decide) C.2.2.2⟩ (fun r4 M4 h => ?_)
  refine a_istore_n C.1 (tk T_cX11_misprint 17 rfl) (by decide) rfl ?_
  refine a_iconst C.1 (0 : Int32) (tk T_cX11_misprint 18 rfl) kI_0 ?_
  refine a_istore C.1 (tk T_cX11_misprint 19 rfl) (by decide) rfl ?_
  obtain ⟨n1, h⟩ := h
  exact x_widen (by decide) (by decide) (a_to (k_R_misprint_33 C hT hR n1 x2 r4 (0 : Int32) M4 h) rfl)
theorem ct_R_misprint {l : Launch} {g : GT} {ext : List CD} {sk : Nat → Nat} {post : Int32 → Mem → Prop} {ex : String → Mem → Prop} {x1 x2 : Int32} {M : Mem} (h : P_R_misprint post ex x1 x2 M) : XI l g (layC ++ ext) sk yX11_misprint cX11_misprint 6 (some .int) 8 2 [.ref (ad g 0), .int x1, .int x2] M post ex :=
  xi_of (by decide +kernel) (Nat.le_of_ble_eq_true rfl) (fun X A Z hl C hR hT _ => by subst hl; exact k_R_misprint C hT hR x1 x2 M h)
def T_cX3_meetingL : List (Nat × Instr × Nat) := [(0, .iconst 0, 1), (1, .istore_n 3, 1), (2, .iconst 0, 1), (3, .istore 4, 2), (5, .iload 4, 2), (7, .aload_n 0, 1), (8, .getfield 38, 3), (11, .getfield 61, 3), (14, .getfield 67, 3), (17, .if_icmp .ge 47, 3), (20, .aload_n 0, 1), (21, .iload 4, 2), (23, .invokevirtual 221, 3), (26, .ifCond .eq 32, 3), (29, .aload_n 0, 1), (30, .getfield 9, 3), (33, .iload 4, 2), (35, .iaload, 1), (36, .iload_n 2, 1), (37, .if_icmp .gt 21, 3), (40, .iload_n 1, 1), (41, .aload_n 0, 1), (42, .getfield 15, 3), (45, .iload 4, 2), (47, .iaload, 1), (48, .if_icmp .gt 10, 3), (51, .iload_n 3, 1), (52, .iconst 1, 1), (53, .iload 4, 2), (55, .ishl, 1), (56, .ior, 1), (57, .istore_n 3, 1), (58, .iinc 4 1, 3), (61, .goto (-56), 3), (64, .iload_n 3, 1), (65, .ireturn, 1)]
theorem T_cX3_meeting : tabOK cX3_meeting T_cX3_meetingL = true := by decide +kernel
def P_Judge_meeting_58 (post : Int32 → Mem → Prop) (R5 : Int32 → Int32 → Int32 → Int32 → Mem → Prop) (x1 x2 x3 x4 : Int32) (M : Mem) : Prop :=
  R5 x1 x2 x3 (x4 + (1 : Int32)) M
theorem k_Judge_meeting_58 {X : FX} {g : GT} {ext : List CD} {A : Nat → Prop} {Z : State → Prop} {post : Int32 → Mem → Prop} {R5 : Int32 → Int32 → Int32 → Int32 → Mem → Prop} (C : Cx X g (layC ++ ext) A cX3_meeting 5 RX3 1) (hr : 0 ≤ X.2.2.2.1.cells ∧ 0 ≤ X.2.2.2.1.slots) (hR : RetI X g (layC ++ ext) A cX3_meeting 5 0 0 Z post) (k5 : ∀ (y1 y2 y3 y4 : Int32) (M : Mem), R5 y1 y2 y3 y4 M → AtX X g (layC ++ ext) A 5 0 0 Z 5 [(0, .ref (ad g 69)), (1, .int y1), (2, .int y2), (3, .int y3), (4, .int y4)] [] M) (x1 x2 x3 x4 : Int32) (M : Mem) (h : P_Judge_meeting_58 post R5 x1 x2 x3 x4 M) : AtX X g (layC ++ ext) A 5 0 0 Z 58 [(0, .ref (ad g 69)), (1, .int x1), (2, .int x2), (3, .int x3), (4, .int x4)] [] M := by
  refine a_iinc C (1 : Int32) (tk T_cX3_meeting 32 rfl) rfl kI_1 (by decide) rfl ?_
  refine a_goto C 5 (tk T_cX3_meeting 33 rfl) rfl ?_
  exact a_to (k5 x1 x2 x3 (x4 + (1 : Int32)) M h) rfl
def P_Judge_meeting_5 (post : Int32 → Mem → Prop) : Nat → Int32 → Int32 → Int32 → Int32 → Mem → Prop
  | 0, _, _, _, _, _ => False
  | n + 1, x1, x2, x3, x4, M =>
    ((M 18 11) ≤ x4 → (post x3 M)) ∧
  (¬ (M 18 11) ≤ x4 → (P_Judge_hasSpan (fun r1 M1 =>
  (r1 = 0 → (P_Judge_meeting_58 post (P_Judge_meeting_5 post n) x1 x2 x3 x4 M1)) ∧
  (¬ r1 = 0 → (vp_in x4 24 ∧ (x2 < (M1 70 x4.toNatClampNeg) → (P_Judge_meeting_58 post (P_Judge_meeting_5 post n) x1 x2 x3 x4 M1)) ∧
  (¬ x2 < (M1 70 x4.toNatClampNeg) → (vp_in x4 24 ∧ ((M1 71 x4.toNatClampNeg) < x1 → (P_Judge_meeting_58 post (P_Judge_meeting_5 post n) x1 x2 x3 x4 M1)) ∧
  (¬ (M1 71 x4.toNatClampNeg) < x1 → (∀ x3_2, x3_2 = (x3 ||| ((1 : Int32) <<< (x4 &&& 31))) → P_Judge_meeting_58 post (P_Judge_meeting_5 post n) x1 x2 x3_2 x4 M1))))))) x4 M))
theorem k_Judge_meeting_5 {X : FX} {g : GT} {ext : List CD} {A : Nat → Prop} {Z : State → Prop} {post : Int32 → Mem → Prop} (C : Cx X g (layC ++ ext) A cX3_meeting 5 RX3 1) (hr : 0 ≤ X.2.2.2.1.cells ∧ 0 ≤ X.2.2.2.1.slots) (hR : RetI X g (layC ++ ext) A cX3_meeting 5 0 0 Z post) : ∀ (n : Nat) (x1 x2 x3 x4 : Int32) (M : Mem), P_Judge_meeting_5 post n x1 x2 x3 x4 M → AtX X g (layC ++ ext) A 5 0 0 Z 5 [(0, .ref (ad g 69)), (1, .int x1), (2, .int x2), (3, .int x3), (4, .int x4)] [] M := by
  intro n
  induction n with
  | zero =>
    intro x1 x2 x3 x4 M h
    exact h.elim
  | succ n ih =>
    intro x1 x2 x3 x4 M h
    refine a_iload C (tk T_cX3_meeting 4 rfl) rfl ?_
    refine a_aload_n C (tk T_cX3_meeting 5 rfl) rfl ?_
    refine a_getR C f_RX3_38 (tk T_cX3_meeting 6 rfl) lc69 rfl ?_
    refine a_getR C f_RX3_61 (tk T_cX3_meeting 7 rfl) lc1 rfl ?_
    refine a_getI C f_RX3_67 (tk T_cX3_meeting 8 rfl) lc18 rfl ?_
    refine a_icmp_ge C 64 (tk T_cX3_meeting 9 rfl) rfl (fun c => ?_) (fun c => ?_)
    · have h := h.1 c
      refine a_iload_n C (tk T_cX3_meeting 34 rfl) rfl ?_
      exact hR _ _ _ _ (tk T_cX3_meeting 35 rfl) h
    · have h := h.2 c
      refine a_aload_n C (tk T_cX3_meeting 10 rfl) rfl ?_
      refine a_iload C (tk T_cX3_meeting 11 rfl) rfl ?_
      refine a_callI C [.int x4] me_yX3_hasSpan lk_RX3_221 (ct_Judge_hasSpan h) (by decide) lc69 rfl rfl rfl (Nat.le_of_ble_eq_true rfl) (tk T_cX3_meeting 12 rfl) hr (fun r1 M1 h => ?_)
      refine a_if_eq C 58 (tk T_cX3_meeting 13 rfl) rfl (fun c => ?_) (fun c => ?_)
      · have h := h.1 c
        exact a_to (k_Judge_meeting_58 C hr hR ih x1 x2 x3 x4 M1 h) rfl
      · have h := h.2 c
        refine a_aload_n C (tk T_cX3_meeting 14 rfl) rfl ?_
        refine a_getR C f_RX3_9 (tk T_cX3_meeting 15 rfl) lc69 rfl ?_
        refine a_iload C (tk T_cX3_meeting 16 rfl) rfl ?_
        obtain ⟨hb, h⟩ := h
        refine a_iald C (tk T_cX3_meeting 17 rfl) lc70 hb ?_
        refine a_iload_n C (tk T_cX3_meeting 18 rfl) rfl ?_
        refine a_icmp_gt C 58 (tk T_cX3_meeting 19 rfl) rfl (fun c => ?_) (fun c => ?_)
        · have h := h.1 c
          exact a_to (k_Judge_meeting_58 C hr hR ih x1 x2 x3 x4 M1 h) rfl
        · have h := h.2 c
          refine a_iload_n C (tk T_cX3_meeting 20 rfl) rfl ?_
          refine a_aload_n C (tk T_cX3_meeting 21 rfl) rfl ?_
          refine a_getR C f_RX3_15 (tk T_cX3_meeting 22 rfl) lc69 rfl ?_
          refine a_iload C (tk T_cX3_meeting 23 rfl) rfl ?_
          obtain ⟨hb, h⟩ := h
          refine a_iald C (tk T_cX3_meeting 24 rfl) lc71 hb ?_
          refine a_icmp_gt C 58 (tk T_cX3_meeting 25 rfl) rfl (fun c => ?_) (fun c => ?_)
          · have h := h.1 c
            exact a_to (k_Judge_meeting_58 C hr hR ih x1 x2 x3 x4 M1 h) rfl
          · have h := h.2 c
            refine a_iload_n C (tk T_cX3_meeting 26 rfl) rfl ?_
            refine a_iconst C (1 : Int32) (tk T_cX3_meeting 27 rfl) kI_1 ?_
            refine a_iload C (tk T_cX3_meeting 28 rfl) rfl ?_
            refine a_ishl C (tk T_cX3_meeting 29 rfl) ?_
            refine a_ior C (tk T_cX3_meeting 30 rfl) ?_
            refine a_top (fun x3_2 e_x3_2 => ?_)
            have h := h x3_2 e_x3_2
            refine a_istore_n C (tk T_cX3_meeting 31 rfl) (by decide) rfl ?_
            exact a_to (k_Judge_meeting_58 C hr hR ih x1 x2 x3_2 x4 M1 h) rfl
def P_Judge_meeting (post : Int32 → Mem → Prop) (x1 x2 : Int32) (M : Mem) : Prop :=
  ∃ j5, P_Judge_meeting_5 post j5 x1 x2 (0 : Int32) (0 : Int32) M
theorem k_Judge_meeting {X : FX} {g : GT} {ext : List CD} {A : Nat → Prop} {Z : State → Prop} {post : Int32 → Mem → Prop} (C : Cx X g (layC ++ ext) A cX3_meeting 5 RX3 1) (hr : 0 ≤ X.2.2.2.1.cells ∧ 0 ≤ X.2.2.2.1.slots) (hR : RetI X g (layC ++ ext) A cX3_meeting 5 0 0 Z post) (x1 x2 : Int32) (M : Mem) (h : P_Judge_meeting post x1 x2 M) : AtX X g (layC ++ ext) A 5 0 0 Z 0 [(0, .ref (ad g 69)), (1, .int x1), (2, .int x2)] [] M := by
  refine a_iconst C (0 : Int32) (tk T_cX3_meeting 0 rfl) kI_0 ?_
  refine a_istore_n C (tk T_cX3_meeting 1 rfl) (by decide) rfl ?_
  refine a_iconst C (0 : Int32) (tk T_cX3_meeting 2 rfl) kI_0 ?_
  refine a_istore C (tk T_cX3_meeting 3 rfl) (by decide) rfl ?_
  obtain ⟨n1, h⟩ := h
  exact a_to (k_Judge_meeting_5 C hr hR n1 x1 x2 (0 : Int32) (0 : Int32) M h) rfl
theorem ct_Judge_meeting {l : Launch} {g : GT} {ext : List CD} {post : Int32 → Mem → Prop} {x1 x2 : Int32} {M : Mem} (h : P_Judge_meeting post x1 x2 M) : CI l g (layC ++ ext) yX3_meeting cX3_meeting 5 (some .int) 1 [.ref (ad g 69), .int x1, .int x2] M post :=
  ci_of (plainFor_of_name (by decide +kernel)) (Nat.le_of_ble_eq_true rfl) (fun X A Z hl C hr hR => by subst hl; exact k_Judge_meeting C hr hR x1 x2 M h)
def T_cX3_alikeBitsL : List (Nat × Instr × Nat) := [(0, .iconst 0, 1), (1, .istore_n 2, 1), (2, .iconst 0, 1), (3, .istore_n 3, 1), (4, .iload_n 3, 1), (5, .aload_n 0, 1), (6, .getfield 38, 3), (9, .getfield 61, 3), (12, .getfield 67, 3), (15, .if_icmp .ge 101, 3), (18, .aload_n 0, 1), (19, .getfield 38, 3), (22, .getfield 61, 3), (25, .getfield 76, 3), (28, .iload_n 3, 1), (29, .iaload, 1), (30, .iload_n 1, 1), (31, .if_icmp .ne 79, 3), (34, .aload_n 0, 1), (35, .getfield 42, 3), (38, .aload_n 0, 1), (39, .getfield 38, 3), (42, .getfield 86, 3), (45, .aload_n 0, 1), (46, .getfield 38, 3), (49, .getfield 61, 3), (52, .getfield 90, 3), (55, .iload_n 3, 1), (56, .iaload, 1), (57, .aload_n 0, 1), (58, .getfield 38, 3), (61, .getfield 61, 3), (64, .getfield 93, 3), (67, .iload_n 3, 1), (68, .baload, 1), (69, .invokevirtual 97, 3), (72, .invokevirtual 103, 3), (75, .istore 4, 2), (77, .iload 4, 2), (79, .iconst (-1), 1), (80, .if_icmp .eq 30, 3), (83, .iload_n 2, 1), (84, .aload_n 0, 1), (85, .aload_n 0, 1), (86, .getfield 42, 3), (89, .getfield 107, 3), (92, .iload 4, 2), (94, .iaload, 1), (95, .aload_n 0, 1), (96, .getfield 42, 3), (99, .getfield 110, 3), (102, .iload 4, 2), (104, .iaload, 1), (105, .invokevirtual 218, 3), (108, .ior, 1), (109, .istore_n 2, 1), (110, .iinc 3 1, 3), (113, .goto (-109), 3), (116, .iload_n 2, 1), (117, .ireturn, 1)]
theorem T_cX3_alikeBits : tabOK cX3_alikeBits T_cX3_alikeBitsL = true := by decide +kernel
def P_Judge_alikeBits_110 (post : Int32 → Mem → Prop) (R4 : Int32 → Int32 → Int32 → Mem → Prop) (x1 x2 x3 : Int32) (M : Mem) : Prop :=
  R4 x1 x2 (x3 + (1 : Int32)) M
theorem k_Judge_alikeBits_110 {X : FX} {g : GT} {ext : List CD} {A : Nat → Prop} {Z : State → Prop} {post : Int32 → Mem → Prop} {R4 : Int32 → Int32 → Int32 → Mem → Prop} (C : Cx X g (layC ++ ext) A cX3_alikeBits 5 RX3 4) (hr : 0 ≤ X.2.2.2.1.cells ∧ 0 ≤ X.2.2.2.1.slots) (hR : RetI X g (layC ++ ext) A cX3_alikeBits 5 0 0 Z post) (k4 : ∀ (y1 y2 y3 : Int32) (M : Mem), R4 y1 y2 y3 M → AtX X g (layC ++ ext) A 5 0 0 Z 4 [(0, .ref (ad g 69)), (1, .int y1), (2, .int y2), (3, .int y3)] [] M) (x1 x2 x3 : Int32) (M : Mem) (h : P_Judge_alikeBits_110 post R4 x1 x2 x3 M) : AtX X g (layC ++ ext) A 5 0 0 Z 110 [(0, .ref (ad g 69)), (1, .int x1), (2, .int x2), (3, .int x3)] [] M := by
  refine a_iinc C (1 : Int32) (tk T_cX3_alikeBits 56 rfl) rfl kI_1 (by decide) rfl ?_
  refine a_goto C 4 (tk T_cX3_alikeBits 57 rfl) rfl ?_
  exact a_to (k4 x1 x2 (x3 + (1 : Int32)) M h) rfl
def P_Judge_alikeBits_4 (post : Int32 → Mem → Prop) : Nat → Int32 → Int32 → Int32 → Mem → Prop
  | 0, _, _, _, _ => False
  | n + 1, x1, x2, x3, M =>
    ((M 18 11) ≤ x3 → (post x2 M)) ∧
  (¬ (M 18 11) ≤ x3 → (vp_in x3 24 ∧ (¬ (M 24 x3.toNatClampNeg) = x1 → (P_Judge_alikeBits_110 post (P_Judge_alikeBits_4 post n) x1 x2 x3 M)) ∧
  ((M 24 x3.toNatClampNeg) = x1 → (vp_in x3 24 ∧ vp_in x3 24 ∧ P_Screw_truePlace (fun r1 M1 =>
  P_Laws_slotOf (fun r2 M2 =>
  (r2 = (-1 : Int32) → (P_Judge_alikeBits_110 post (P_Judge_alikeBits_4 post n) x1 x2 x3 M2)) ∧
  (¬ r2 = (-1 : Int32) → (vp_in r2 1087 ∧ vp_in r2 1087 ∧ P_Judge_meeting (fun r3 M3 =>
  ∀ x2_4, x2_4 = (x2 ||| r3) → P_Judge_alikeBits_110 post (P_Judge_alikeBits_4 post n) x1 x2_4 x3 M3) (M2 67 r2.toNatClampNeg) (M2 68 r2.toNatClampNeg) M2))) r1 M1) (M 25 x3.toNatClampNeg) (M 26 x3.toNatClampNeg) M))))
theorem k_Judge_alikeBits_4 {X : FX} {g : GT} {ext : List CD} {A : Nat → Prop} {Z : State → Prop} {post : Int32 → Mem → Prop} (C : Cx X g (layC ++ ext) A cX3_alikeBits 5 RX3 4) (hr : 0 ≤ X.2.2.2.1.cells ∧ 0 ≤ X.2.2.2.1.slots) (hR : RetI X g (layC ++ ext) A cX3_alikeBits 5 0 0 Z post) : ∀ (n : Nat) (x1 x2 x3 : Int32) (M : Mem), P_Judge_alikeBits_4 post n x1 x2 x3 M → AtX X g (layC ++ ext) A 5 0 0 Z 4 [(0, .ref (ad g 69)), (1, .int x1), (2, .int x2), (3, .int x3)] [] M := by
  intro n
  induction n with
  | zero =>
    intro x1 x2 x3 M h
    exact h.elim
  | succ n ih =>
    intro x1 x2 x3 M h
    refine a_iload_n C (tk T_cX3_alikeBits 4 rfl) rfl ?_
    refine a_aload_n C (tk T_cX3_alikeBits 5 rfl) rfl ?_
    refine a_getR C f_RX3_38 (tk T_cX3_alikeBits 6 rfl) lc69 rfl ?_
    refine a_getR C f_RX3_61 (tk T_cX3_alikeBits 7 rfl) lc1 rfl ?_
    refine a_getI C f_RX3_67 (tk T_cX3_alikeBits 8 rfl) lc18 rfl ?_
    refine a_icmp_ge C 116 (tk T_cX3_alikeBits 9 rfl) rfl (fun c => ?_) (fun c => ?_)
    · have h := h.1 c
      refine a_iload_n C (tk T_cX3_alikeBits 58 rfl) rfl ?_
      exact hR _ _ _ _ (tk T_cX3_alikeBits 59 rfl) h
    · have h := h.2 c
      refine a_aload_n C (tk T_cX3_alikeBits 10 rfl) rfl ?_
      refine a_getR C f_RX3_38 (tk T_cX3_alikeBits 11 rfl) lc69 rfl ?_
      refine a_getR C f_RX3_61 (tk T_cX3_alikeBits 12 rfl) lc1 rfl ?_
      refine a_getR C f_RX3_76 (tk T_cX3_alikeBits 13 rfl) lc18 rfl ?_
      refine a_iload_n C (tk T_cX3_alikeBits 14 rfl) rfl ?_
      obtain ⟨hb, h⟩ := h
      refine a_iald C (tk T_cX3_alikeBits 15 rfl) lc24 hb ?_
      refine a_iload_n C (tk T_cX3_alikeBits 16 rfl) rfl ?_
      refine a_icmp_ne C 110 (tk T_cX3_alikeBits 17 rfl) rfl (fun c => ?_) (fun c => ?_)
      · have h := h.1 c
        exact a_to (k_Judge_alikeBits_110 C hr hR ih x1 x2 x3 M h) rfl
      · have h := h.2 c
        refine a_aload_n C (tk T_cX3_alikeBits 18 rfl) rfl ?_
        refine a_getR C f_RX3_42 (tk T_cX3_alikeBits 19 rfl) lc69 rfl ?_
        refine a_aload_n C (tk T_cX3_alikeBits 20 rfl) rfl ?_
        refine a_getR C f_RX3_38 (tk T_cX3_alikeBits 21 rfl) lc69 rfl ?_
        refine a_getR C f_RX3_86 (tk T_cX3_alikeBits 22 rfl) lc1 rfl ?_
        refine a_aload_n C (tk T_cX3_alikeBits 23 rfl) rfl ?_
        refine a_getR C f_RX3_38 (tk T_cX3_alikeBits 24 rfl) lc69 rfl ?_
        refine a_getR C f_RX3_61 (tk T_cX3_alikeBits 25 rfl) lc1 rfl ?_
        refine a_getR C f_RX3_90 (tk T_cX3_alikeBits 26 rfl) lc18 rfl ?_
        refine a_iload_n C (tk T_cX3_alikeBits 27 rfl) rfl ?_
        obtain ⟨hb, h⟩ := h
        refine a_iald C (tk T_cX3_alikeBits 28 rfl) lc25 hb ?_
        refine a_aload_n C (tk T_cX3_alikeBits 29 rfl) rfl ?_
        refine a_getR C f_RX3_38 (tk T_cX3_alikeBits 30 rfl) lc69 rfl ?_
        refine a_getR C f_RX3_61 (tk T_cX3_alikeBits 31 rfl) lc1 rfl ?_
        refine a_getR C f_RX3_93 (tk T_cX3_alikeBits 32 rfl) lc18 rfl ?_
        refine a_iload_n C (tk T_cX3_alikeBits 33 rfl) rfl ?_
        obtain ⟨hb, h⟩ := h
        refine a_zald C (tk T_cX3_alikeBits 34 rfl) lc26 hb ?_
        refine a_callI C [.int (M 25 x3.toNatClampNeg), .int (M 26 x3.toNatClampNeg)] me_yX8_truePlace lk_RX3_97 (ct_Screw_truePlace h) (by decide) lc2 rfl rfl rfl (Nat.le_of_ble_eq_true rfl) (tk T_cX3_alikeBits 35 rfl) hr (fun r1 M1 h => ?_)
        refine a_callI C [.int r1] me_yX5_slotOf lk_RX3_103 (ct_Laws_slotOf h) (by decide) lc63 rfl rfl rfl (Nat.le_of_ble_eq_true rfl) (tk T_cX3_alikeBits 36 rfl) hr (fun r2 M2 h => ?_)
        refine a_istore C (tk T_cX3_alikeBits 37 rfl) (by decide) rfl ?_
        refine a_iload C (tk T_cX3_alikeBits 38 rfl) rfl ?_
        refine a_iconst C (-1 : Int32) (tk T_cX3_alikeBits 39 rfl) kI_m1 ?_
        refine a_icmp_eq C 110 (tk T_cX3_alikeBits 40 rfl) rfl (fun c => ?_) (fun c => ?_)
        · have h := h.1 c
          exact a_to (k_Judge_alikeBits_110 C hr hR ih x1 x2 x3 M2 h) rfl
        · have h := h.2 c
          refine a_iload_n C (tk T_cX3_alikeBits 41 rfl) rfl ?_
          refine a_aload_n C (tk T_cX3_alikeBits 42 rfl) rfl ?_
          refine a_aload_n C (tk T_cX3_alikeBits 43 rfl) rfl ?_
          refine a_getR C f_RX3_42 (tk T_cX3_alikeBits 44 rfl) lc69 rfl ?_
          refine a_getR C f_RX3_107 (tk T_cX3_alikeBits 45 rfl) lc63 rfl ?_
          refine a_iload C (tk T_cX3_alikeBits 46 rfl) rfl ?_
          obtain ⟨hb, h⟩ := h
          refine a_iald C (tk T_cX3_alikeBits 47 rfl) lc67 hb ?_
          refine a_aload_n C (tk T_cX3_alikeBits 48 rfl) rfl ?_
          refine a_getR C f_RX3_42 (tk T_cX3_alikeBits 49 rfl) lc69 rfl ?_
          refine a_getR C f_RX3_110 (tk T_cX3_alikeBits 50 rfl) lc63 rfl ?_
          refine a_iload C (tk T_cX3_alikeBits 51 rfl) rfl ?_
          obtain ⟨hb, h⟩ := h
          refine a_iald C (tk T_cX3_alikeBits 52 rfl) lc68 hb ?_
          refine a_callI C [.int (M2 67 r2.toNatClampNeg), .int (M2 68 r2.toNatClampNeg)] me_yX3_meeting lk_RX3_218 (ct_Judge_meeting h) (by decide) lc69 rfl rfl rfl (Nat.le_of_ble_eq_true rfl) (tk T_cX3_alikeBits 53 rfl) hr (fun r3 M3 h => ?_)
          refine a_ior C (tk T_cX3_alikeBits 54 rfl) ?_
          refine a_top (fun x2_4 e_x2_4 => ?_)
          have h := h x2_4 e_x2_4
          refine a_istore_n C (tk T_cX3_alikeBits 55 rfl) (by decide) rfl ?_
          exact a_to (k_Judge_alikeBits_110 C hr hR ih x1 x2_4 x3 M3 h) rfl
def P_Judge_alikeBits (post : Int32 → Mem → Prop) (x1 : Int32) (M : Mem) : Prop :=
  ∃ j4, P_Judge_alikeBits_4 post j4 x1 (0 : Int32) (0 : Int32) M
theorem k_Judge_alikeBits {X : FX} {g : GT} {ext : List CD} {A : Nat → Prop} {Z : State → Prop} {post : Int32 → Mem → Prop} (C : Cx X g (layC ++ ext) A cX3_alikeBits 5 RX3 4) (hr : 0 ≤ X.2.2.2.1.cells ∧ 0 ≤ X.2.2.2.1.slots) (hR : RetI X g (layC ++ ext) A cX3_alikeBits 5 0 0 Z post) (x1 : Int32) (M : Mem) (h : P_Judge_alikeBits post x1 M) : AtX X g (layC ++ ext) A 5 0 0 Z 0 [(0, .ref (ad g 69)), (1, .int x1)] [] M := by
  refine a_iconst C (0 : Int32) (tk T_cX3_alikeBits 0 rfl) kI_0 ?_
  refine a_istore_n C (tk T_cX3_alikeBits 1 rfl) (by decide) rfl ?_
  refine a_iconst C (0 : Int32) (tk T_cX3_alikeBits 2 rfl) kI_0 ?_
  refine a_istore_n C (tk T_cX3_alikeBits 3 rfl) (by decide) rfl ?_
  obtain ⟨n1, h⟩ := h
  exact a_to (k_Judge_alikeBits_4 C hr hR n1 x1 (0 : Int32) (0 : Int32) M h) rfl
theorem ct_Judge_alikeBits {l : Launch} {g : GT} {ext : List CD} {post : Int32 → Mem → Prop} {x1 : Int32} {M : Mem} (h : P_Judge_alikeBits post x1 M) : CI l g (layC ++ ext) yX3_alikeBits cX3_alikeBits 5 (some .int) 4 [.ref (ad g 69), .int x1] M post :=
  ci_of (plainFor_of_name (by decide +kernel)) (Nat.le_of_ble_eq_true rfl) (fun X A Z hl C hr hR => by subst hl; exact k_Judge_alikeBits C hr hR x1 M h)
def T_cX11_alikeL : List (Nat × Instr × Nat) := [(0, .aload_n 0, 1), (1, .iload_n 1, 1), (2, .invokevirtual 232, 3), (5, .aload_n 0, 1), (6, .iload_n 2, 1), (7, .invokevirtual 232, 3), (10, .aload_n 0, 1), (11, .getfield 33, 3), (14, .iload_n 1, 1), (15, .invokevirtual 264, 3), (18, .aload_n 0, 1), (19, .getfield 33, 3), (22, .iload_n 2, 1), (23, .invokevirtual 333, 3), (26, .ireturn, 1)]
theorem T_cX11_alike : tabOK cX11_alike T_cX11_alikeL = true := by decide +kernel
def P_R_alike (post : Int32 → Mem → Prop) (ex : String → Mem → Prop) (x1 x2 : Int32) (M : Mem) : Prop :=
  P_R_wantPlate (fun M1 =>
  P_R_wantPlate (fun M2 =>
  P_Judge_open (fun M3 =>
  P_Judge_alikeBits (fun r4 M4 =>
  post r4 M4) x2 M3) x1 M2) ex x2 M1) ex x1 M
theorem k_R_alike {X : FX} {g : GT} {ext : List CD} {A : Nat → Prop} {Z : State → Prop} {post : Int32 → Mem → Prop} {ex : String → Mem → Prop} {sk : Nat → Nat} (C : CxX X g (layC ++ ext) A cX11_alike 3 RX11 8 2 sk) (hT : ThX X g (layC ++ ext) A 2 Z ex) (hR : RetI X g (layC ++ ext) A cX11_alike 3 2 (6 * 2) Z post) (x1 x2 : Int32) (M : Mem) (h : P_R_alike post ex x1 x2 M) : AtX X g (layC ++ ext) A 3 0 0 Z 0 [(0, .ref (ad g 0)), (1, .int x1), (2, .int x2)] [] M := by
  refine a_aload_n C.1 (tk T_cX11_alike 0 rfl) rfl ?_
  refine a_iload_n C.1 (tk T_cX11_alike 1 rfl) rfl ?_
  refine x_callV C hT [.int x1] me_yX11_wantPlate lk_RX11_232 (ct_R_wantPlate h) (by decide) lc0 rfl rfl rfl (Nat.le_of_ble_eq_true rfl) (tk T_cX11_alike 2 rfl) (by decide) (fun M1 h => ?_)
  refine a_aload_n C.1 (tk T_cX11_alike 3 rfl) rfl ?_
  refine a_iload_n C.1 (tk T_cX11_alike 4 rfl) rfl ?_
  refine x_callV C hT [.int x2] me_yX11_wantPlate lk_RX11_232 (ct_R_wantPlate h) (by decide) lc0 rfl rfl rfl (Nat.le_of_ble_eq_true rfl) (tk T_cX11_alike 5 rfl) (by decide) (fun M2 h => ?_)
  refine a_aload_n C.1 (tk T_cX11_alike 6 rfl) rfl ?_
  refine a_getR C.1 f_RX11_33 (tk T_cX11_alike 7 rfl) lc0 rfl ?_
  refine a_iload_n C.1 (tk T_cX11_alike 8 rfl) rfl ?_
  refine a_callV C.1 [.int x1] me_yX3_open lk_RX11_264 (ct_Judge_open h) (by decide) lc69 rfl rfl rfl (Nat.le_of_ble_eq_true rfl) (tk T_cX11_alike 9 rfl) ⟨Nat.le_trans (by decide) C.2.2.1, Nat.le_trans (by decide) C.2.2.2⟩ (fun M3 h => ?_)
  refine a_aload_n C.1 (tk T_cX11_alike 10 rfl) rfl ?_
  refine a_getR C.1 f_RX11_33 (tk T_cX11_alike 11 rfl) lc0 rfl ?_
  refine a_iload_n C.1 (tk T_cX11_alike 12 rfl) rfl ?_
  refine a_callI C.1 [.int x2] me_yX3_alikeBits lk_RX11_333 (ct_Judge_alikeBits h) (by decide) lc69 rfl rfl rfl (Nat.le_of_ble_eq_true rfl) (tk T_cX11_alike 13 rfl) ⟨Nat.le_trans (by decide) C.2.2.1, Nat.le_trans (by decide) C.2.2.2⟩ (fun r4 M4 h => ?_)
  exact x_widen (by decide) (by decide) (hR _ _ _ _ (tk T_cX11_alike 14 rfl) h)
theorem ct_R_alike {l : Launch} {g : GT} {ext : List CD} {sk : Nat → Nat} {post : Int32 → Mem → Prop} {ex : String → Mem → Prop} {x1 x2 : Int32} {M : Mem} (h : P_R_alike post ex x1 x2 M) : XI l g (layC ++ ext) sk yX11_alike cX11_alike 3 (some .int) 8 2 [.ref (ad g 0), .int x1, .int x2] M post ex :=
  xi_of (by decide +kernel) (Nat.le_of_ble_eq_true rfl) (fun X A Z hl C hR hT _ => by subst hl; exact k_R_alike C hT hR x1 x2 M h)
def T_cX3_putStarL : List (Nat × Instr × Nat) := [(0, .iconst 0, 1), (1, .istore_n 3, 1), (2, .iload_n 3, 1), (3, .bipush 101, 2), (5, .if_icmp .ge 42, 3), (8, .iload_n 3, 1), (9, .aload_n 1, 1), (10, .arraylength, 1), (11, .if_icmp .ge 36, 3), (14, .aload_n 0, 1), (15, .iload_n 2, 1), (16, .iload_n 3, 1), (17, .bipush 50, 2), (19, .isub, 1), (20, .invokevirtual 155, 3), (23, .aload_n 1, 1), (24, .iload_n 3, 1), (25, .aload_n 0, 1), (26, .getfield 120, 3), (29, .ifCond .le 7, 3), (32, .iconst (-1), 1), (33, .goto 7, 3), (36, .aload_n 0, 1), (37, .getfield 117, 3), (40, .iastore, 1), (41, .iinc 3 1, 3), (44, .goto (-42), 3), (47, .return_, 1)]
theorem T_cX3_putStar : tabOK cX3_putStar T_cX3_putStarL = true := by decide +kernel
def P_Judge_putStar_47 (post : Mem → Prop) (M : Mem) : Prop :=
  post M
theorem k_Judge_putStar_47 {X : FX} {g : GT} {ext : List CD} {A : Nat → Prop} {Z : State → Prop} {post : Mem → Prop} (C : Cx X g (layC ++ ext) A cX3_putStar 4 RX3 3) (hr : 0 ≤ X.2.2.2.1.cells ∧ 0 ≤ X.2.2.2.1.slots) (hR : RetV X g (layC ++ ext) A cX3_putStar 4 0 0 Z post)  (M : Mem) (h : P_Judge_putStar_47 post M) : AtX X g (layC ++ ext) A 4 0 0 Z 47 [] [] M := by
  exact hR _ _ _ (tk T_cX3_putStar 27 rfl) h
def P_Judge_putStar_40 (post : Mem → Prop) (R2 : Int32 → Int32 → Mem → Prop) (x2 x3 s1 s2 : Int32) (M : Mem) : Prop :=
  vp_in s1 101 ∧ ∀ M1, M1 = ms M 75 s1.toNatClampNeg s2 → R2 x2 (x3 + (1 : Int32)) M1
theorem k_Judge_putStar_40 {X : FX} {g : GT} {ext : List CD} {A : Nat → Prop} {Z : State → Prop} {post : Mem → Prop} {R2 : Int32 → Int32 → Mem → Prop} (C : Cx X g (layC ++ ext) A cX3_putStar 4 RX3 3) (hr : 0 ≤ X.2.2.2.1.cells ∧ 0 ≤ X.2.2.2.1.slots) (hR : RetV X g (layC ++ ext) A cX3_putStar 4 0 0 Z post) (k2 : ∀ (y2 y3 : Int32) (M : Mem), R2 y2 y3 M → AtX X g (layC ++ ext) A 4 0 0 Z 2 [(0, .ref (ad g 69)), (1, .ref (ad g 75)), (2, .int y2), (3, .int y3)] [] M) (x2 x3 s1 s2 : Int32) (M : Mem) (h : P_Judge_putStar_40 post R2 x2 x3 s1 s2 M) : AtX X g (layC ++ ext) A 4 0 0 Z 40 [(0, .ref (ad g 69)), (1, .ref (ad g 75)), (2, .int x2), (3, .int x3)] [.int s2, .int s1, .ref (ad g 75)] M := by
  obtain ⟨hb, h⟩ := h
  refine a_iast C (tk T_cX3_putStar 24 rfl) lc75 hb ?_
  refine a_mem (fun M1 e_M1 => ?_)
  have h := h M1 e_M1
  refine a_iinc C (1 : Int32) (tk T_cX3_putStar 25 rfl) rfl kI_1 (by decide) rfl ?_
  refine a_goto C 2 (tk T_cX3_putStar 26 rfl) rfl ?_
  exact a_to (k2 x2 (x3 + (1 : Int32)) M1 h) rfl
def P_Judge_putStar_2 (post : Mem → Prop) : Nat → Int32 → Int32 → Mem → Prop
  | 0, _, _, _ => False
  | n + 1, x2, x3, M =>
    ((101 : Int32) ≤ x3 → (P_Judge_putStar_47 post M)) ∧
  (¬ (101 : Int32) ≤ x3 → (((101 : Int32) ≤ x3 → (P_Judge_putStar_47 post M)) ∧
  (¬ (101 : Int32) ≤ x3 → (P_Judge_survey (fun M1 =>
  ((M1 69 14) ≤ 0 → (P_Judge_putStar_40 post (P_Judge_putStar_2 post n) x2 x3 x3 (M1 69 13) M1)) ∧
  (¬ (M1 69 14) ≤ 0 → (P_Judge_putStar_40 post (P_Judge_putStar_2 post n) x2 x3 x3 (-1 : Int32) M1))) x2 (x3 - (50 : Int32)) M))))
theorem k_Judge_putStar_2 {X : FX} {g : GT} {ext : List CD} {A : Nat → Prop} {Z : State → Prop} {post : Mem → Prop} (C : Cx X g (layC ++ ext) A cX3_putStar 4 RX3 3) (hr : 0 ≤ X.2.2.2.1.cells ∧ 0 ≤ X.2.2.2.1.slots) (hR : RetV X g (layC ++ ext) A cX3_putStar 4 0 0 Z post) : ∀ (n : Nat) (x2 x3 : Int32) (M : Mem), P_Judge_putStar_2 post n x2 x3 M → AtX X g (layC ++ ext) A 4 0 0 Z 2 [(0, .ref (ad g 69)), (1, .ref (ad g 75)), (2, .int x2), (3, .int x3)] [] M := by
  intro n
  induction n with
  | zero =>
    intro x2 x3 M h
    exact h.elim
  | succ n ih =>
    intro x2 x3 M h
    refine a_iload_n C (tk T_cX3_putStar 2 rfl) rfl ?_
    refine a_bipush C (101 : Int32) (tk T_cX3_putStar 3 rfl) kB_101 ?_
    refine a_icmp_ge C 47 (tk T_cX3_putStar 4 rfl) rfl (fun c => ?_) (fun c => ?_)
    · have h := h.1 c
      exact a_to (k_Judge_putStar_47 C hr hR M h) rfl
    · have h := h.2 c
      refine a_iload_n C (tk T_cX3_putStar 5 rfl) rfl ?_
      refine a_aload_n C (tk T_cX3_putStar 6 rfl) rfl ?_
      refine a_alen0 C (tk T_cX3_putStar 7 rfl) lc75 rfl ?_
      refine a_icmp_ge C 47 (tk T_cX3_putStar 8 rfl) rfl (fun c => ?_) (fun c => ?_)
      · have h := h.1 c
        exact a_to (k_Judge_putStar_47 C hr hR M h) rfl
      · have h := h.2 c
        refine a_aload_n C (tk T_cX3_putStar 9 rfl) rfl ?_
        refine a_iload_n C (tk T_cX3_putStar 10 rfl) rfl ?_
        refine a_iload_n C (tk T_cX3_putStar 11 rfl) rfl ?_
        refine a_bipush C (50 : Int32) (tk T_cX3_putStar 12 rfl) kB_50 ?_
        refine a_isub C (tk T_cX3_putStar 13 rfl) ?_
        refine a_callV C [.int x2, .int (x3 - (50 : Int32))] me_yX3_survey lk_RX3_155 (ct_Judge_survey h) (by decide) lc69 rfl rfl rfl (Nat.le_of_ble_eq_true rfl) (tk T_cX3_putStar 14 rfl) hr (fun M1 h => ?_)
        refine a_aload_n C (tk T_cX3_putStar 15 rfl) rfl ?_
        refine a_iload_n C (tk T_cX3_putStar 16 rfl) rfl ?_
        refine a_aload_n C (tk T_cX3_putStar 17 rfl) rfl ?_
        refine a_getI C f_RX3_120 (tk T_cX3_putStar 18 rfl) lc69 rfl ?_
        refine a_if_le C 36 (tk T_cX3_putStar 19 rfl) rfl (fun c => ?_) (fun c => ?_)
        · have h := h.1 c
          refine a_aload_n C (tk T_cX3_putStar 22 rfl) rfl ?_
          refine a_getI C f_RX3_117 (tk T_cX3_putStar 23 rfl) lc69 rfl ?_
          exact a_to (k_Judge_putStar_40 C hr hR ih x2 x3 x3 (M1 69 13) M1 h) rfl
        · have h := h.2 c
          refine a_iconst C (-1 : Int32) (tk T_cX3_putStar 20 rfl) kI_m1 ?_
          refine a_goto C 40 (tk T_cX3_putStar 21 rfl) rfl ?_
          exact a_to (k_Judge_putStar_40 C hr hR ih x2 x3 x3 (-1 : Int32) M1 h) rfl
def P_Judge_putStar (post : Mem → Prop) (x2 : Int32) (M : Mem) : Prop :=
  ∃ j2, P_Judge_putStar_2 post j2 x2 (0 : Int32) M
theorem k_Judge_putStar {X : FX} {g : GT} {ext : List CD} {A : Nat → Prop} {Z : State → Prop} {post : Mem → Prop} (C : Cx X g (layC ++ ext) A cX3_putStar 4 RX3 3) (hr : 0 ≤ X.2.2.2.1.cells ∧ 0 ≤ X.2.2.2.1.slots) (hR : RetV X g (layC ++ ext) A cX3_putStar 4 0 0 Z post) (x2 : Int32) (M : Mem) (h : P_Judge_putStar post x2 M) : AtX X g (layC ++ ext) A 4 0 0 Z 0 [(0, .ref (ad g 69)), (1, .ref (ad g 75)), (2, .int x2)] [] M := by
  refine a_iconst C (0 : Int32) (tk T_cX3_putStar 0 rfl) kI_0 ?_
  refine a_istore_n C (tk T_cX3_putStar 1 rfl) (by decide) rfl ?_
  obtain ⟨n1, h⟩ := h
  exact a_to (k_Judge_putStar_2 C hr hR n1 x2 (0 : Int32) M h) rfl
theorem ct_Judge_putStar {l : Launch} {g : GT} {ext : List CD} {post : Mem → Prop} {x2 : Int32} {M : Mem} (h : P_Judge_putStar post x2 M) : CV l g (layC ++ ext) yX3_putStar cX3_putStar 4 none 3 [.ref (ad g 69), .ref (ad g 75), .int x2] M post :=
  cv_of (plainFor_of_name (by decide +kernel)) (Nat.le_of_ble_eq_true rfl) (fun X A Z hl C hr hR => by subst hl; exact k_Judge_putStar C hr hR x2 M h)
def P_Judge_putStar_69_76_47 (post : Mem → Prop) (M : Mem) : Prop :=
  post M
theorem k_Judge_putStar_69_76_47 {X : FX} {g : GT} {ext : List CD} {A : Nat → Prop} {Z : State → Prop} {post : Mem → Prop} (C : Cx X g (layC ++ ext) A cX3_putStar 4 RX3 3) (hr : 0 ≤ X.2.2.2.1.cells ∧ 0 ≤ X.2.2.2.1.slots) (hR : RetV X g (layC ++ ext) A cX3_putStar 4 0 0 Z post)  (M : Mem) (h : P_Judge_putStar_69_76_47 post M) : AtX X g (layC ++ ext) A 4 0 0 Z 47 [] [] M := by
  exact hR _ _ _ (tk T_cX3_putStar 27 rfl) h
def P_Judge_putStar_69_76_40 (post : Mem → Prop) (R2 : Int32 → Int32 → Mem → Prop) (x2 x3 s1 s2 : Int32) (M : Mem) : Prop :=
  vp_in s1 101 ∧ ∀ M1, M1 = ms M 76 s1.toNatClampNeg s2 → R2 x2 (x3 + (1 : Int32)) M1
theorem k_Judge_putStar_69_76_40 {X : FX} {g : GT} {ext : List CD} {A : Nat → Prop} {Z : State → Prop} {post : Mem → Prop} {R2 : Int32 → Int32 → Mem → Prop} (C : Cx X g (layC ++ ext) A cX3_putStar 4 RX3 3) (hr : 0 ≤ X.2.2.2.1.cells ∧ 0 ≤ X.2.2.2.1.slots) (hR : RetV X g (layC ++ ext) A cX3_putStar 4 0 0 Z post) (k2 : ∀ (y2 y3 : Int32) (M : Mem), R2 y2 y3 M → AtX X g (layC ++ ext) A 4 0 0 Z 2 [(0, .ref (ad g 69)), (1, .ref (ad g 76)), (2, .int y2), (3, .int y3)] [] M) (x2 x3 s1 s2 : Int32) (M : Mem) (h : P_Judge_putStar_69_76_40 post R2 x2 x3 s1 s2 M) : AtX X g (layC ++ ext) A 4 0 0 Z 40 [(0, .ref (ad g 69)), (1, .ref (ad g 76)), (2, .int x2), (3, .int x3)] [.int s2, .int s1, .ref (ad g 76)] M := by
  obtain ⟨hb, h⟩ := h
  refine a_iast C (tk T_cX3_putStar 24 rfl) lc76 hb ?_
  refine a_mem (fun M1 e_M1 => ?_)
  have h := h M1 e_M1
  refine a_iinc C (1 : Int32) (tk T_cX3_putStar 25 rfl) rfl kI_1 (by decide) rfl ?_
  refine a_goto C 2 (tk T_cX3_putStar 26 rfl) rfl ?_
  exact a_to (k2 x2 (x3 + (1 : Int32)) M1 h) rfl
def P_Judge_putStar_69_76_2 (post : Mem → Prop) : Nat → Int32 → Int32 → Mem → Prop
  | 0, _, _, _ => False
  | n + 1, x2, x3, M =>
    ((101 : Int32) ≤ x3 → (P_Judge_putStar_69_76_47 post M)) ∧
  (¬ (101 : Int32) ≤ x3 → (((101 : Int32) ≤ x3 → (P_Judge_putStar_69_76_47 post M)) ∧
  (¬ (101 : Int32) ≤ x3 → (P_Judge_survey (fun M1 =>
  ((M1 69 14) ≤ 0 → (P_Judge_putStar_69_76_40 post (P_Judge_putStar_69_76_2 post n) x2 x3 x3 (M1 69 13) M1)) ∧
  (¬ (M1 69 14) ≤ 0 → (P_Judge_putStar_69_76_40 post (P_Judge_putStar_69_76_2 post n) x2 x3 x3 (-1 : Int32) M1))) x2 (x3 - (50 : Int32)) M))))
theorem k_Judge_putStar_69_76_2 {X : FX} {g : GT} {ext : List CD} {A : Nat → Prop} {Z : State → Prop} {post : Mem → Prop} (C : Cx X g (layC ++ ext) A cX3_putStar 4 RX3 3) (hr : 0 ≤ X.2.2.2.1.cells ∧ 0 ≤ X.2.2.2.1.slots) (hR : RetV X g (layC ++ ext) A cX3_putStar 4 0 0 Z post) : ∀ (n : Nat) (x2 x3 : Int32) (M : Mem), P_Judge_putStar_69_76_2 post n x2 x3 M → AtX X g (layC ++ ext) A 4 0 0 Z 2 [(0, .ref (ad g 69)), (1, .ref (ad g 76)), (2, .int x2), (3, .int x3)] [] M := by
  intro n
  induction n with
  | zero =>
    intro x2 x3 M h
    exact h.elim
  | succ n ih =>
    intro x2 x3 M h
    refine a_iload_n C (tk T_cX3_putStar 2 rfl) rfl ?_
    refine a_bipush C (101 : Int32) (tk T_cX3_putStar 3 rfl) kB_101 ?_
    refine a_icmp_ge C 47 (tk T_cX3_putStar 4 rfl) rfl (fun c => ?_) (fun c => ?_)
    · have h := h.1 c
      exact a_to (k_Judge_putStar_69_76_47 C hr hR M h) rfl
    · have h := h.2 c
      refine a_iload_n C (tk T_cX3_putStar 5 rfl) rfl ?_
      refine a_aload_n C (tk T_cX3_putStar 6 rfl) rfl ?_
      refine a_alen0 C (tk T_cX3_putStar 7 rfl) lc76 rfl ?_
      refine a_icmp_ge C 47 (tk T_cX3_putStar 8 rfl) rfl (fun c => ?_) (fun c => ?_)
      · have h := h.1 c
        exact a_to (k_Judge_putStar_69_76_47 C hr hR M h) rfl
      · have h := h.2 c
        refine a_aload_n C (tk T_cX3_putStar 9 rfl) rfl ?_
        refine a_iload_n C (tk T_cX3_putStar 10 rfl) rfl ?_
        refine a_iload_n C (tk T_cX3_putStar 11 rfl) rfl ?_
        refine a_bipush C (50 : Int32) (tk T_cX3_putStar 12 rfl) kB_50 ?_
        refine a_isub C (tk T_cX3_putStar 13 rfl) ?_
        refine a_callV C [.int x2, .int (x3 - (50 : Int32))] me_yX3_survey lk_RX3_155 (ct_Judge_survey h) (by decide) lc69 rfl rfl rfl (Nat.le_of_ble_eq_true rfl) (tk T_cX3_putStar 14 rfl) hr (fun M1 h => ?_)
        refine a_aload_n C (tk T_cX3_putStar 15 rfl) rfl ?_
        refine a_iload_n C (tk T_cX3_putStar 16 rfl) rfl ?_
        refine a_aload_n C (tk T_cX3_putStar 17 rfl) rfl ?_
        refine a_getI C f_RX3_120 (tk T_cX3_putStar 18 rfl) lc69 rfl ?_
        refine a_if_le C 36 (tk T_cX3_putStar 19 rfl) rfl (fun c => ?_) (fun c => ?_)
        · have h := h.1 c
          refine a_aload_n C (tk T_cX3_putStar 22 rfl) rfl ?_
          refine a_getI C f_RX3_117 (tk T_cX3_putStar 23 rfl) lc69 rfl ?_
          exact a_to (k_Judge_putStar_69_76_40 C hr hR ih x2 x3 x3 (M1 69 13) M1 h) rfl
        · have h := h.2 c
          refine a_iconst C (-1 : Int32) (tk T_cX3_putStar 20 rfl) kI_m1 ?_
          refine a_goto C 40 (tk T_cX3_putStar 21 rfl) rfl ?_
          exact a_to (k_Judge_putStar_69_76_40 C hr hR ih x2 x3 x3 (-1 : Int32) M1 h) rfl
def P_Judge_putStar_69_76 (post : Mem → Prop) (x2 : Int32) (M : Mem) : Prop :=
  ∃ j2, P_Judge_putStar_69_76_2 post j2 x2 (0 : Int32) M
theorem k_Judge_putStar_69_76 {X : FX} {g : GT} {ext : List CD} {A : Nat → Prop} {Z : State → Prop} {post : Mem → Prop} (C : Cx X g (layC ++ ext) A cX3_putStar 4 RX3 3) (hr : 0 ≤ X.2.2.2.1.cells ∧ 0 ≤ X.2.2.2.1.slots) (hR : RetV X g (layC ++ ext) A cX3_putStar 4 0 0 Z post) (x2 : Int32) (M : Mem) (h : P_Judge_putStar_69_76 post x2 M) : AtX X g (layC ++ ext) A 4 0 0 Z 0 [(0, .ref (ad g 69)), (1, .ref (ad g 76)), (2, .int x2)] [] M := by
  refine a_iconst C (0 : Int32) (tk T_cX3_putStar 0 rfl) kI_0 ?_
  refine a_istore_n C (tk T_cX3_putStar 1 rfl) (by decide) rfl ?_
  obtain ⟨n1, h⟩ := h
  exact a_to (k_Judge_putStar_69_76_2 C hr hR n1 x2 (0 : Int32) M h) rfl
theorem ct_Judge_putStar_69_76 {l : Launch} {g : GT} {ext : List CD} {post : Mem → Prop} {x2 : Int32} {M : Mem} (h : P_Judge_putStar_69_76 post x2 M) : CV l g (layC ++ ext) yX3_putStar cX3_putStar 4 none 3 [.ref (ad g 69), .ref (ad g 76), .int x2] M post :=
  cv_of (plainFor_of_name (by decide +kernel)) (Nat.le_of_ble_eq_true rfl) (fun X A Z hl C hr hR => by subst hl; exact k_Judge_putStar_69_76 C hr hR x2 M h)
def T_cX3_pairStarsL : List (Nat × Instr × Nat) := [(0, .aload_n 0, 1), (1, .aload_n 0, 1), (2, .getfield 38, 3), (5, .getfield 123, 3), (8, .invokevirtual 224, 3), (11, .iconst 0, 1), (12, .invokevirtual 155, 3), (15, .aload_n 0, 1), (16, .getfield 55, 3), (19, .aload_n 0, 1), (20, .getfield 58, 3), (23, .iconst (-1), 1), (24, .ixor, 1), (25, .iand, 1), (26, .aload_n 0, 1), (27, .getfield 117, 3), (30, .iconst (-1), 1), (31, .ixor, 1), (32, .iand, 1), (33, .istore 4, 2), (35, .aload_n 0, 1), (36, .getfield 120, 3), (39, .ifCond .ne 7, 3), (42, .iconst 1, 1), (43, .goto 4, 3), (46, .iconst 0, 1), (47, .istore 5, 2), (49, .aload_n 0, 1), (50, .aload_n 0, 1), (51, .getfield 27, 3), (54, .aload_n 0, 1), (55, .getfield 38, 3), (58, .getfield 123, 3), (61, .iload_n 1, 1), (62, .invokevirtual 165, 3), (65, .invokevirtual 228, 3), (68, .aload_n 0, 1), (69, .aload_n 0, 1), (70, .getfield 30, 3), (73, .aload_n 0, 1), (74, .getfield 38, 3), (77, .getfield 123, 3), (80, .iload_n 2, 1), (81, .invokevirtual 165, 3), (84, .invokevirtual 228, 3), (87, .iconst 0, 1), (88, .istore 6, 2), (90, .iconst 0, 1), (91, .istore 7, 2), (93, .iload 5, 2), (95, .ifCond .eq 102, 3), (98, .iload 7, 2), (100, .bipush 101, 2), (102, .if_icmp .ge 95, 3), (105, .iconst 0, 1), (106, .istore 8, 2), (108, .aload_n 0, 1), (109, .getfield 27, 3), (112, .iload 7, 2), (114, .iaload, 1), (115, .iconst (-1), 1), (116, .if_icmp .eq 75, 3), (119, .iload 8, 2), (121, .bipush 101, 2), (123, .if_icmp .ge 68, 3), (126, .aload_n 0, 1), (127, .getfield 30, 3), (130, .iload 8, 2), (132, .iaload, 1), (133, .iconst (-1), 1), (134, .if_icmp .eq 51, 3), (137, .iload 4, 2), (139, .aload_n 0, 1), (140, .getfield 27, 3), (143, .iload 7, 2), (145, .iaload, 1), (146, .iconst (-1), 1), (147, .ixor, 1), (148, .iand, 1), (149, .aload_n 0, 1), (150, .getfield 30, 3), (153, .iload 8, 2), (155, .iaload, 1), (156, .iconst (-1), 1), (157, .ixor, 1), (158, .iand, 1), (159, .ifCond .ne 26, 3), (162, .iload_n 3, 1), (163, .ifCond .eq 19, 3), (166, .iload_n 3, 1), (167, .iconst 1, 1), (168, .if_icmp .ne 8, 3), (171, .iload 7, 2), (173, .goto 5, 3), (176, .iload 8, 2), (178, .bipush 50, 2), (180, .isub, 1), (181, .ireturn, 1), (182, .iinc 6 1, 3), (185, .iinc 8 1, 3), (188, .goto (-80), 3), (191, .iinc 7 1, 3), (194, .goto (-101), 3), (197, .iload_n 3, 1), (198, .ifCond .ne 8, 3), (201, .iload 6, 2), (203, .goto 5, 3), (206, .bipush 99, 2), (208, .ireturn, 1)]
theorem T_cX3_pairStars : tabOK cX3_pairStars T_cX3_pairStarsL = true := by decide +kernel
def P_Judge_pairStars_208 (post : Int32 → Mem → Prop) (s0 : Int32) (M : Mem) : Prop :=
  post s0 M
theorem k_Judge_pairStars_208 {X : FX} {g : GT} {ext : List CD} {A : Nat → Prop} {Z : State → Prop} {post : Int32 → Mem → Prop} (C : Cx X g (layC ++ ext) A cX3_pairStars 9 RX3 4) (hr : 0 ≤ X.2.2.2.1.cells ∧ 0 ≤ X.2.2.2.1.slots) (hR : RetI X g (layC ++ ext) A cX3_pairStars 9 0 0 Z post) (s0 : Int32) (M : Mem) (h : P_Judge_pairStars_208 post s0 M) : AtX X g (layC ++ ext) A 9 0 0 Z 208 [] [.int s0] M := by
  exact hR _ _ _ _ (tk T_cX3_pairStars 108 rfl) h
def P_Judge_pairStars_197 (post : Int32 → Mem → Prop) (x3 x6 : Int32) (M : Mem) : Prop :=
  (¬ x3 = 0 → (P_Judge_pairStars_208 post (99 : Int32) M)) ∧
  (x3 = 0 → (P_Judge_pairStars_208 post x6 M))
theorem k_Judge_pairStars_197 {X : FX} {g : GT} {ext : List CD} {A : Nat → Prop} {Z : State → Prop} {post : Int32 → Mem → Prop} (C : Cx X g (layC ++ ext) A cX3_pairStars 9 RX3 4) (hr : 0 ≤ X.2.2.2.1.cells ∧ 0 ≤ X.2.2.2.1.slots) (hR : RetI X g (layC ++ ext) A cX3_pairStars 9 0 0 Z post) (x3 x6 : Int32) (M : Mem) (h : P_Judge_pairStars_197 post x3 x6 M) : AtX X g (layC ++ ext) A 9 0 0 Z 197 [(3, .int x3), (6, .int x6)] [] M := by
  refine a_iload_n C (tk T_cX3_pairStars 103 rfl) rfl ?_
  refine a_if_ne C 206 (tk T_cX3_pairStars 104 rfl) rfl (fun c => ?_) (fun c => ?_)
  · have h := h.1 c
    refine a_bipush C (99 : Int32) (tk T_cX3_pairStars 107 rfl) kB_99 ?_
    exact a_to (k_Judge_pairStars_208 C hr hR (99 : Int32) M h) rfl
  · have h := h.2 c
    refine a_iload C (tk T_cX3_pairStars 105 rfl) rfl ?_
    refine a_goto C 208 (tk T_cX3_pairStars 106 rfl) rfl ?_
    exact a_to (k_Judge_pairStars_208 C hr hR x6 M h) rfl
def P_Judge_pairStars_191 (post : Int32 → Mem → Prop) (R93 : Int32 → Int32 → Int32 → Int32 → Int32 → Mem → Prop) (x3 x4 x5 x6 x7 : Int32) (M : Mem) : Prop :=
  R93 x3 x4 x5 x6 (x7 + (1 : Int32)) M
theorem k_Judge_pairStars_191 {X : FX} {g : GT} {ext : List CD} {A : Nat → Prop} {Z : State → Prop} {post : Int32 → Mem → Prop} {R93 : Int32 → Int32 → Int32 → Int32 → Int32 → Mem → Prop} (C : Cx X g (layC ++ ext) A cX3_pairStars 9 RX3 4) (hr : 0 ≤ X.2.2.2.1.cells ∧ 0 ≤ X.2.2.2.1.slots) (hR : RetI X g (layC ++ ext) A cX3_pairStars 9 0 0 Z post) (k93 : ∀ (y3 y4 y5 y6 y7 : Int32) (M : Mem), R93 y3 y4 y5 y6 y7 M → AtX X g (layC ++ ext) A 9 0 0 Z 93 [(0, .ref (ad g 69)), (3, .int y3), (4, .int y4), (5, .int y5), (6, .int y6), (7, .int y7)] [] M) (x3 x4 x5 x6 x7 : Int32) (M : Mem) (h : P_Judge_pairStars_191 post R93 x3 x4 x5 x6 x7 M) : AtX X g (layC ++ ext) A 9 0 0 Z 191 [(0, .ref (ad g 69)), (3, .int x3), (4, .int x4), (5, .int x5), (6, .int x6), (7, .int x7)] [] M := by
  refine a_iinc C (1 : Int32) (tk T_cX3_pairStars 101 rfl) rfl kI_1 (by decide) rfl ?_
  refine a_goto C 93 (tk T_cX3_pairStars 102 rfl) rfl ?_
  exact a_to (k93 x3 x4 x5 x6 (x7 + (1 : Int32)) M h) rfl
def P_Judge_pairStars_185 (post : Int32 → Mem → Prop) (R93 : Int32 → Int32 → Int32 → Int32 → Int32 → Mem → Prop) (R108 : Int32 → Int32 → Int32 → Int32 → Int32 → Int32 → Mem → Prop) (x3 x4 x5 x6 x7 x8 : Int32) (M : Mem) : Prop :=
  R108 x3 x4 x5 x6 x7 (x8 + (1 : Int32)) M
theorem k_Judge_pairStars_185 {X : FX} {g : GT} {ext : List CD} {A : Nat → Prop} {Z : State → Prop} {post : Int32 → Mem → Prop} {R93 : Int32 → Int32 → Int32 → Int32 → Int32 → Mem → Prop} {R108 : Int32 → Int32 → Int32 → Int32 → Int32 → Int32 → Mem → Prop} (C : Cx X g (layC ++ ext) A cX3_pairStars 9 RX3 4) (hr : 0 ≤ X.2.2.2.1.cells ∧ 0 ≤ X.2.2.2.1.slots) (hR : RetI X g (layC ++ ext) A cX3_pairStars 9 0 0 Z post) (k93 : ∀ (y3 y4 y5 y6 y7 : Int32) (M : Mem), R93 y3 y4 y5 y6 y7 M → AtX X g (layC ++ ext) A 9 0 0 Z 93 [(0, .ref (ad g 69)), (3, .int y3), (4, .int y4), (5, .int y5), (6, .int y6), (7, .int y7)] [] M) (k108 : ∀ (y3 y4 y5 y6 y7 y8 : Int32) (M : Mem), R108 y3 y4 y5 y6 y7 y8 M → AtX X g (layC ++ ext) A 9 0 0 Z 108 [(0, .ref (ad g 69)), (3, .int y3), (4, .int y4), (5, .int y5), (6, .int y6), (7, .int y7), (8, .int y8)] [] M) (x3 x4 x5 x6 x7 x8 : Int32) (M : Mem) (h : P_Judge_pairStars_185 post R93 R108 x3 x4 x5 x6 x7 x8 M) : AtX X g (layC ++ ext) A 9 0 0 Z 185 [(0, .ref (ad g 69)), (3, .int x3), (4, .int x4), (5, .int x5), (6, .int x6), (7, .int x7), (8, .int x8)] [] M := by
  refine a_iinc C (1 : Int32) (tk T_cX3_pairStars 99 rfl) rfl kI_1 (by decide) rfl ?_
  refine a_goto C 108 (tk T_cX3_pairStars 100 rfl) rfl ?_
  exact a_to (k108 x3 x4 x5 x6 x7 (x8 + (1 : Int32)) M h) rfl
def P_Judge_pairStars_178 (post : Int32 → Mem → Prop) (R93 : Int32 → Int32 → Int32 → Int32 → Int32 → Mem → Prop) (R108 : Int32 → Int32 → Int32 → Int32 → Int32 → Int32 → Mem → Prop) (s0 : Int32) (M : Mem) : Prop :=
  post (s0 - (50 : Int32)) M
theorem k_Judge_pairStars_178 {X : FX} {g : GT} {ext : List CD} {A : Nat → Prop} {Z : State → Prop} {post : Int32 → Mem → Prop} {R93 : Int32 → Int32 → Int32 → Int32 → Int32 → Mem → Prop} {R108 : Int32 → Int32 → Int32 → Int32 → Int32 → Int32 → Mem → Prop} (C : Cx X g (layC ++ ext) A cX3_pairStars 9 RX3 4) (hr : 0 ≤ X.2.2.2.1.cells ∧ 0 ≤ X.2.2.2.1.slots) (hR : RetI X g (layC ++ ext) A cX3_pairStars 9 0 0 Z post) (k93 : ∀ (y3 y4 y5 y6 y7 : Int32) (M : Mem), R93 y3 y4 y5 y6 y7 M → AtX X g (layC ++ ext) A 9 0 0 Z 93 [(0, .ref (ad g 69)), (3, .int y3), (4, .int y4), (5, .int y5), (6, .int y6), (7, .int y7)] [] M) (k108 : ∀ (y3 y4 y5 y6 y7 y8 : Int32) (M : Mem), R108 y3 y4 y5 y6 y7 y8 M → AtX X g (layC ++ ext) A 9 0 0 Z 108 [(0, .ref (ad g 69)), (3, .int y3), (4, .int y4), (5, .int y5), (6, .int y6), (7, .int y7), (8, .int y8)] [] M) (s0 : Int32) (M : Mem) (h : P_Judge_pairStars_178 post R93 R108 s0 M) : AtX X g (layC ++ ext) A 9 0 0 Z 178 [] [.int s0] M := by
  refine a_bipush C (50 : Int32) (tk T_cX3_pairStars 95 rfl) kB_50 ?_
  refine a_isub C (tk T_cX3_pairStars 96 rfl) ?_
  exact hR _ _ _ _ (tk T_cX3_pairStars 97 rfl) h
def P_Judge_pairStars_108 (post : Int32 → Mem → Prop) (R93 : Int32 → Int32 → Int32 → Int32 → Int32 → Mem → Prop) : Nat → Int32 → Int32 → Int32 → Int32 → Int32 → Int32 → Mem → Prop
  | 0, _, _, _, _, _, _, _ => False
  | n + 1, x3, x4, x5, x6, x7, x8, M =>
    vp_in x7 101 ∧ ((M 75 x7.toNatClampNeg) = (-1 : Int32) → (P_Judge_pairStars_191 post R93 x3 x4 x5 x6 x7 M)) ∧
  (¬ (M 75 x7.toNatClampNeg) = (-1 : Int32) → (((101 : Int32) ≤ x8 → (P_Judge_pairStars_191 post R93 x3 x4 x5 x6 x7 M)) ∧
  (¬ (101 : Int32) ≤ x8 → (vp_in x8 101 ∧ ((M 76 x8.toNatClampNeg) = (-1 : Int32) → (P_Judge_pairStars_185 post R93 (P_Judge_pairStars_108 post R93 n) x3 x4 x5 x6 x7 x8 M)) ∧
  (¬ (M 76 x8.toNatClampNeg) = (-1 : Int32) → (vp_in x7 101 ∧ vp_in x8 101 ∧ ∀ v1, v1 = ((x4 &&& ((M 75 x7.toNatClampNeg) ^^^ (-1 : Int32))) &&& ((M 76 x8.toNatClampNeg) ^^^ (-1 : Int32))) → (¬ v1 = 0 → (P_Judge_pairStars_185 post R93 (P_Judge_pairStars_108 post R93 n) x3 x4 x5 x6 x7 x8 M)) ∧
  (v1 = 0 → ((x3 = 0 → (P_Judge_pairStars_185 post R93 (P_Judge_pairStars_108 post R93 n) x3 x4 x5 (x6 + (1 : Int32)) x7 x8 M)) ∧
  (¬ x3 = 0 → ((¬ x3 = (1 : Int32) → (P_Judge_pairStars_178 post R93 (P_Judge_pairStars_108 post R93 n) x8 M)) ∧
  (x3 = (1 : Int32) → (P_Judge_pairStars_178 post R93 (P_Judge_pairStars_108 post R93 n) x7 M))))))))))))
theorem k_Judge_pairStars_108 {X : FX} {g : GT} {ext : List CD} {A : Nat → Prop} {Z : State → Prop} {post : Int32 → Mem → Prop} {R93 : Int32 → Int32 → Int32 → Int32 → Int32 → Mem → Prop} (C : Cx X g (layC ++ ext) A cX3_pairStars 9 RX3 4) (hr : 0 ≤ X.2.2.2.1.cells ∧ 0 ≤ X.2.2.2.1.slots) (hR : RetI X g (layC ++ ext) A cX3_pairStars 9 0 0 Z post) (k93 : ∀ (y3 y4 y5 y6 y7 : Int32) (M : Mem), R93 y3 y4 y5 y6 y7 M → AtX X g (layC ++ ext) A 9 0 0 Z 93 [(0, .ref (ad g 69)), (3, .int y3), (4, .int y4), (5, .int y5), (6, .int y6), (7, .int y7)] [] M) : ∀ (n : Nat) (x3 x4 x5 x6 x7 x8 : Int32) (M : Mem), P_Judge_pairStars_108 post R93 n x3 x4 x5 x6 x7 x8 M → AtX X g (layC ++ ext) A 9 0 0 Z 108 [(0, .ref (ad g 69)), (3, .int x3), (4, .int x4), (5, .int x5), (6, .int x6), (7, .int x7), (8, .int x8)] [] M := by
  intro n
  induction n with
  | zero =>
    intro x3 x4 x5 x6 x7 x8 M h
    exact h.elim
  | succ n ih =>
    intro x3 x4 x5 x6 x7 x8 M h
    refine a_aload_n C (tk T_cX3_pairStars 56 rfl) rfl ?_
    refine a_getR C f_RX3_27 (tk T_cX3_pairStars 57 rfl) lc69 rfl ?_
    refine a_iload C (tk T_cX3_pairStars 58 rfl) rfl ?_
    obtain ⟨hb, h⟩ := h
    refine a_iald C (tk T_cX3_pairStars 59 rfl) lc75 hb ?_
    refine a_iconst C (-1 : Int32) (tk T_cX3_pairStars 60 rfl) kI_m1 ?_
    refine a_icmp_eq C 191 (tk T_cX3_pairStars 61 rfl) rfl (fun c => ?_) (fun c => ?_)
    · have h := h.1 c
      exact a_to (k_Judge_pairStars_191 C hr hR k93 x3 x4 x5 x6 x7 M h) rfl
    · have h := h.2 c
      refine a_iload C (tk T_cX3_pairStars 62 rfl) rfl ?_
      refine a_bipush C (101 : Int32) (tk T_cX3_pairStars 63 rfl) kB_101 ?_
      refine a_icmp_ge C 191 (tk T_cX3_pairStars 64 rfl) rfl (fun c => ?_) (fun c => ?_)
      · have h := h.1 c
        exact a_to (k_Judge_pairStars_191 C hr hR k93 x3 x4 x5 x6 x7 M h) rfl
      · have h := h.2 c
        refine a_aload_n C (tk T_cX3_pairStars 65 rfl) rfl ?_
        refine a_getR C f_RX3_30 (tk T_cX3_pairStars 66 rfl) lc69 rfl ?_
        refine a_iload C (tk T_cX3_pairStars 67 rfl) rfl ?_
        obtain ⟨hb, h⟩ := h
        refine a_iald C (tk T_cX3_pairStars 68 rfl) lc76 hb ?_
        refine a_iconst C (-1 : Int32) (tk T_cX3_pairStars 69 rfl) kI_m1 ?_
        refine a_icmp_eq C 185 (tk T_cX3_pairStars 70 rfl) rfl (fun c => ?_) (fun c => ?_)
        · have h := h.1 c
          exact a_to (k_Judge_pairStars_185 C hr hR k93 ih x3 x4 x5 x6 x7 x8 M h) rfl
        · have h := h.2 c
          refine a_iload C (tk T_cX3_pairStars 71 rfl) rfl ?_
          refine a_aload_n C (tk T_cX3_pairStars 72 rfl) rfl ?_
          refine a_getR C f_RX3_27 (tk T_cX3_pairStars 73 rfl) lc69 rfl ?_
          refine a_iload C (tk T_cX3_pairStars 74 rfl) rfl ?_
          obtain ⟨hb, h⟩ := h
          refine a_iald C (tk T_cX3_pairStars 75 rfl) lc75 hb ?_
          refine a_iconst C (-1 : Int32) (tk T_cX3_pairStars 76 rfl) kI_m1 ?_
          refine a_ixor C (tk T_cX3_pairStars 77 rfl) ?_
          refine a_iand C (tk T_cX3_pairStars 78 rfl) ?_
          refine a_aload_n C (tk T_cX3_pairStars 79 rfl) rfl ?_
          refine a_getR C f_RX3_30 (tk T_cX3_pairStars 80 rfl) lc69 rfl ?_
          refine a_iload C (tk T_cX3_pairStars 81 rfl) rfl ?_
          obtain ⟨hb, h⟩ := h
          refine a_iald C (tk T_cX3_pairStars 82 rfl) lc76 hb ?_
          refine a_iconst C (-1 : Int32) (tk T_cX3_pairStars 83 rfl) kI_m1 ?_
          refine a_ixor C (tk T_cX3_pairStars 84 rfl) ?_
          refine a_iand C (tk T_cX3_pairStars 85 rfl) ?_
          refine a_top (fun v1 e_v1 => ?_)
          have h := h v1 e_v1
          refine a_if_ne C 185 (tk T_cX3_pairStars 86 rfl) rfl (fun c => ?_) (fun c => ?_)
          · have h := h.1 c
            exact a_to (k_Judge_pairStars_185 C hr hR k93 ih x3 x4 x5 x6 x7 x8 M h) rfl
          · have h := h.2 c
            refine a_iload_n C (tk T_cX3_pairStars 87 rfl) rfl ?_
            refine a_if_eq C 182 (tk T_cX3_pairStars 88 rfl) rfl (fun c => ?_) (fun c => ?_)
            · have h := h.1 c
              refine a_iinc C (1 : Int32) (tk T_cX3_pairStars 98 rfl) rfl kI_1 (by decide) rfl ?_
              exact a_to (k_Judge_pairStars_185 C hr hR k93 ih x3 x4 x5 (x6 + (1 : Int32)) x7 x8 M h) rfl
            · have h := h.2 c
              refine a_iload_n C (tk T_cX3_pairStars 89 rfl) rfl ?_
              refine a_iconst C (1 : Int32) (tk T_cX3_pairStars 90 rfl) kI_1 ?_
              refine a_icmp_ne C 176 (tk T_cX3_pairStars 91 rfl) rfl (fun c => ?_) (fun c => ?_)
              · have h := h.1 c
                refine a_iload C (tk T_cX3_pairStars 94 rfl) rfl ?_
                exact a_to (k_Judge_pairStars_178 C hr hR k93 ih x8 M h) rfl
              · have h := h.2 c
                refine a_iload C (tk T_cX3_pairStars 92 rfl) rfl ?_
                refine a_goto C 178 (tk T_cX3_pairStars 93 rfl) rfl ?_
                exact a_to (k_Judge_pairStars_178 C hr hR k93 ih x7 M h) rfl
def P_Judge_pairStars_93 (post : Int32 → Mem → Prop) : Nat → Int32 → Int32 → Int32 → Int32 → Int32 → Mem → Prop
  | 0, _, _, _, _, _, _ => False
  | n + 1, x3, x4, x5, x6, x7, M =>
    (x5 = 0 → (P_Judge_pairStars_197 post x3 x6 M)) ∧
  (¬ x5 = 0 → (((101 : Int32) ≤ x7 → (P_Judge_pairStars_197 post x3 x6 M)) ∧
  (¬ (101 : Int32) ≤ x7 → (∃ j108, P_Judge_pairStars_108 post (P_Judge_pairStars_93 post n) j108 x3 x4 x5 x6 x7 (0 : Int32) M))))
theorem k_Judge_pairStars_93 {X : FX} {g : GT} {ext : List CD} {A : Nat → Prop} {Z : State → Prop} {post : Int32 → Mem → Prop} (C : Cx X g (layC ++ ext) A cX3_pairStars 9 RX3 4) (hr : 0 ≤ X.2.2.2.1.cells ∧ 0 ≤ X.2.2.2.1.slots) (hR : RetI X g (layC ++ ext) A cX3_pairStars 9 0 0 Z post) : ∀ (n : Nat) (x3 x4 x5 x6 x7 : Int32) (M : Mem), P_Judge_pairStars_93 post n x3 x4 x5 x6 x7 M → AtX X g (layC ++ ext) A 9 0 0 Z 93 [(0, .ref (ad g 69)), (3, .int x3), (4, .int x4), (5, .int x5), (6, .int x6), (7, .int x7)] [] M := by
  intro n
  induction n with
  | zero =>
    intro x3 x4 x5 x6 x7 M h
    exact h.elim
  | succ n ih =>
    intro x3 x4 x5 x6 x7 M h
    refine a_iload C (tk T_cX3_pairStars 49 rfl) rfl ?_
    refine a_if_eq C 197 (tk T_cX3_pairStars 50 rfl) rfl (fun c => ?_) (fun c => ?_)
    · have h := h.1 c
      exact a_to (k_Judge_pairStars_197 C hr hR x3 x6 M h) rfl
    · have h := h.2 c
      refine a_iload C (tk T_cX3_pairStars 51 rfl) rfl ?_
      refine a_bipush C (101 : Int32) (tk T_cX3_pairStars 52 rfl) kB_101 ?_
      refine a_icmp_ge C 197 (tk T_cX3_pairStars 53 rfl) rfl (fun c => ?_) (fun c => ?_)
      · have h := h.1 c
        exact a_to (k_Judge_pairStars_197 C hr hR x3 x6 M h) rfl
      · have h := h.2 c
        refine a_iconst C (0 : Int32) (tk T_cX3_pairStars 54 rfl) kI_0 ?_
        refine a_istore C (tk T_cX3_pairStars 55 rfl) (by decide) rfl ?_
        obtain ⟨n1, h⟩ := h
        exact a_to (k_Judge_pairStars_108 C hr hR ih n1 x3 x4 x5 x6 x7 (0 : Int32) M h) rfl
def P_Judge_pairStars_47 (post : Int32 → Mem → Prop) (x1 x2 x3 x4 s0 : Int32) (M : Mem) : Prop :=
  P_Table_withoutAir (fun r1 M1 =>
  P_Judge_putStar (fun M2 =>
  P_Table_withoutAir (fun r3 M3 =>
  P_Judge_putStar_69_76 (fun M4 =>
  ∃ j93, P_Judge_pairStars_93 post j93 x3 x4 s0 (0 : Int32) (0 : Int32) M4) r3 M3) x2 M2) r1 M1) x1 M
theorem k_Judge_pairStars_47 {X : FX} {g : GT} {ext : List CD} {A : Nat → Prop} {Z : State → Prop} {post : Int32 → Mem → Prop} (C : Cx X g (layC ++ ext) A cX3_pairStars 9 RX3 4) (hr : 0 ≤ X.2.2.2.1.cells ∧ 0 ≤ X.2.2.2.1.slots) (hR : RetI X g (layC ++ ext) A cX3_pairStars 9 0 0 Z post) (x1 x2 x3 x4 s0 : Int32) (M : Mem) (h : P_Judge_pairStars_47 post x1 x2 x3 x4 s0 M) : AtX X g (layC ++ ext) A 9 0 0 Z 47 [(0, .ref (ad g 69)), (1, .int x1), (2, .int x2), (3, .int x3), (4, .int x4)] [.int s0] M := by
  refine a_istore C (tk T_cX3_pairStars 26 rfl) (by decide) rfl ?_
  refine a_aload_n C (tk T_cX3_pairStars 27 rfl) rfl ?_
  refine a_aload_n C (tk T_cX3_pairStars 28 rfl) rfl ?_
  refine a_getR C f_RX3_27 (tk T_cX3_pairStars 29 rfl) lc69 rfl ?_
  refine a_aload_n C (tk T_cX3_pairStars 30 rfl) rfl ?_
  refine a_getR C f_RX3_38 (tk T_cX3_pairStars 31 rfl) lc69 rfl ?_
  refine a_getR C f_RX3_123 (tk T_cX3_pairStars 32 rfl) lc1 rfl ?_
  refine a_iload_n C (tk T_cX3_pairStars 33 rfl) rfl ?_
  refine a_callI C [.int x1] me_yX10_withoutAir lk_RX3_165 (ct_Table_withoutAir h) (by decide) lc13 rfl rfl rfl (Nat.le_of_ble_eq_true rfl) (tk T_cX3_pairStars 34 rfl) hr (fun r1 M1 h => ?_)
  refine a_callV C [.ref (ad g 75), .int r1] me_yX3_putStar lk_RX3_228 (ct_Judge_putStar h) (by decide) lc69 rfl rfl rfl (Nat.le_of_ble_eq_true rfl) (tk T_cX3_pairStars 35 rfl) hr (fun M2 h => ?_)
  refine a_aload_n C (tk T_cX3_pairStars 36 rfl) rfl ?_
  refine a_aload_n C (tk T_cX3_pairStars 37 rfl) rfl ?_
  refine a_getR C f_RX3_30 (tk T_cX3_pairStars 38 rfl) lc69 rfl ?_
  refine a_aload_n C (tk T_cX3_pairStars 39 rfl) rfl ?_
  refine a_getR C f_RX3_38 (tk T_cX3_pairStars 40 rfl) lc69 rfl ?_
  refine a_getR C f_RX3_123 (tk T_cX3_pairStars 41 rfl) lc1 rfl ?_
  refine a_iload_n C (tk T_cX3_pairStars 42 rfl) rfl ?_
  refine a_callI C [.int x2] me_yX10_withoutAir lk_RX3_165 (ct_Table_withoutAir h) (by decide) lc13 rfl rfl rfl (Nat.le_of_ble_eq_true rfl) (tk T_cX3_pairStars 43 rfl) hr (fun r3 M3 h => ?_)
  refine a_callV C [.ref (ad g 76), .int r3] me_yX3_putStar lk_RX3_228 (ct_Judge_putStar_69_76 h) (by decide) lc69 rfl rfl rfl (Nat.le_of_ble_eq_true rfl) (tk T_cX3_pairStars 44 rfl) hr (fun M4 h => ?_)
  refine a_iconst C (0 : Int32) (tk T_cX3_pairStars 45 rfl) kI_0 ?_
  refine a_istore C (tk T_cX3_pairStars 46 rfl) (by decide) rfl ?_
  refine a_iconst C (0 : Int32) (tk T_cX3_pairStars 47 rfl) kI_0 ?_
  refine a_istore C (tk T_cX3_pairStars 48 rfl) (by decide) rfl ?_
  obtain ⟨n1, h⟩ := h
  exact a_to (k_Judge_pairStars_93 C hr hR n1 x3 x4 s0 (0 : Int32) (0 : Int32) M4 h) rfl
def P_Judge_pairStars (post : Int32 → Mem → Prop) (x1 x2 x3 : Int32) (M : Mem) : Prop :=
  P_Table_airBits (fun r1 M1 =>
  P_Judge_survey (fun M2 =>
  ∀ v3, v3 = (((M2 69 11) &&& ((M2 69 12) ^^^ (-1 : Int32))) &&& ((M2 69 13) ^^^ (-1 : Int32))) → (¬ (M2 69 14) = 0 → (P_Judge_pairStars_47 post x1 x2 x3 v3 (0 : Int32) M2)) ∧
  ((M2 69 14) = 0 → (P_Judge_pairStars_47 post x1 x2 x3 v3 (1 : Int32) M2))) r1 (0 : Int32) M1) M
theorem k_Judge_pairStars {X : FX} {g : GT} {ext : List CD} {A : Nat → Prop} {Z : State → Prop} {post : Int32 → Mem → Prop} (C : Cx X g (layC ++ ext) A cX3_pairStars 9 RX3 4) (hr : 0 ≤ X.2.2.2.1.cells ∧ 0 ≤ X.2.2.2.1.slots) (hR : RetI X g (layC ++ ext) A cX3_pairStars 9 0 0 Z post) (x1 x2 x3 : Int32) (M : Mem) (h : P_Judge_pairStars post x1 x2 x3 M) : AtX X g (layC ++ ext) A 9 0 0 Z 0 [(0, .ref (ad g 69)), (1, .int x1), (2, .int x2), (3, .int x3)] [] M := by
  refine a_aload_n C (tk T_cX3_pairStars 0 rfl) rfl ?_
  refine a_aload_n C (tk T_cX3_pairStars 1 rfl) rfl ?_
  refine a_getR C f_RX3_38 (tk T_cX3_pairStars 2 rfl) lc69 rfl ?_
  refine a_getR C f_RX3_123 (tk T_cX3_pairStars 3 rfl) lc1 rfl ?_
  refine a_callI C [] me_yX10_airBits lk_RX3_224 (ct_Table_airBits h) (by decide) lc13 rfl rfl rfl (Nat.le_of_ble_eq_true rfl) (tk T_cX3_pairStars 4 rfl) hr (fun r1 M1 h => ?_)
  refine a_iconst C (0 : Int32) (tk T_cX3_pairStars 5 rfl) kI_0 ?_
  refine a_callV C [.int r1, .int (0 : Int32)] me_yX3_survey lk_RX3_155 (ct_Judge_survey h) (by decide) lc69 rfl rfl rfl (Nat.le_of_ble_eq_true rfl) (tk T_cX3_pairStars 6 rfl) hr (fun M2 h => ?_)
  refine a_aload_n C (tk T_cX3_pairStars 7 rfl) rfl ?_
  refine a_getI C f_RX3_55 (tk T_cX3_pairStars 8 rfl) lc69 rfl ?_
  refine a_aload_n C (tk T_cX3_pairStars 9 rfl) rfl ?_
  refine a_getI C f_RX3_58 (tk T_cX3_pairStars 10 rfl) lc69 rfl ?_
  refine a_iconst C (-1 : Int32) (tk T_cX3_pairStars 11 rfl) kI_m1 ?_
  refine a_ixor C (tk T_cX3_pairStars 12 rfl) ?_
  refine a_iand C (tk T_cX3_pairStars 13 rfl) ?_
  refine a_aload_n C (tk T_cX3_pairStars 14 rfl) rfl ?_
  refine a_getI C f_RX3_117 (tk T_cX3_pairStars 15 rfl) lc69 rfl ?_
  refine a_iconst C (-1 : Int32) (tk T_cX3_pairStars 16 rfl) kI_m1 ?_
  refine a_ixor C (tk T_cX3_pairStars 17 rfl) ?_
  refine a_iand C (tk T_cX3_pairStars 18 rfl) ?_
  refine a_top (fun v3 e_v3 => ?_)
  have h := h v3 e_v3
  refine a_istore C (tk T_cX3_pairStars 19 rfl) (by decide) rfl ?_
  refine a_aload_n C (tk T_cX3_pairStars 20 rfl) rfl ?_
  refine a_getI C f_RX3_120 (tk T_cX3_pairStars 21 rfl) lc69 rfl ?_
  refine a_if_ne C 46 (tk T_cX3_pairStars 22 rfl) rfl (fun c => ?_) (fun c => ?_)
  · have h := h.1 c
    refine a_iconst C (0 : Int32) (tk T_cX3_pairStars 25 rfl) kI_0 ?_
    exact a_to (k_Judge_pairStars_47 C hr hR x1 x2 x3 v3 (0 : Int32) M2 h) rfl
  · have h := h.2 c
    refine a_iconst C (1 : Int32) (tk T_cX3_pairStars 23 rfl) kI_1 ?_
    refine a_goto C 47 (tk T_cX3_pairStars 24 rfl) rfl ?_
    exact a_to (k_Judge_pairStars_47 C hr hR x1 x2 x3 v3 (1 : Int32) M2 h) rfl
theorem ct_Judge_pairStars {l : Launch} {g : GT} {ext : List CD} {post : Int32 → Mem → Prop} {x1 x2 x3 : Int32} {M : Mem} (h : P_Judge_pairStars post x1 x2 x3 M) : CI l g (layC ++ ext) yX3_pairStars cX3_pairStars 9 (some .int) 4 [.ref (ad g 69), .int x1, .int x2, .int x3] M post :=
  ci_of (plainFor_of_name (by decide +kernel)) (Nat.le_of_ble_eq_true rfl) (fun X A Z hl C hr hR => by subst hl; exact k_Judge_pairStars C hr hR x1 x2 x3 M h)
def T_cX11_starsL : List (Nat × Instr × Nat) := [(0, .aload_n 0, 1), (1, .iload_n 1, 1), (2, .invokevirtual 232, 3), (5, .iload 4, 2), (7, .iconst 0, 1), (8, .iconst 2, 1), (9, .invokestatic 68, 3), (12, .invokestatic 166, 3), (15, .aload_n 0, 1), (16, .getfield 33, 3), (19, .iload_n 1, 1), (20, .invokevirtual 264, 3), (23, .aload_n 0, 1), (24, .getfield 33, 3), (27, .iload_n 2, 1), (28, .iload_n 3, 1), (29, .iload 4, 2), (31, .invokevirtual 336, 3), (34, .ireturn, 1)]
theorem T_cX11_stars : tabOK cX11_stars T_cX11_starsL = true := by decide +kernel
def P_R_stars (post : Int32 → Mem → Prop) (ex : String → Mem → Prop) (x1 x2 x3 x4 : Int32) (M : Mem) : Prop :=
  P_R_wantPlate (fun M1 =>
  P_R_within (fun r2 M2 =>
  P_R_wantWhat (fun M3 =>
  P_Judge_open (fun M4 =>
  P_Judge_pairStars (fun r5 M5 =>
  post r5 M5) x2 x3 x4 M4) x1 M3) ex r2 M2) x4 (0 : Int32) (2 : Int32) M1) ex x1 M
theorem k_R_stars {X : FX} {g : GT} {ext : List CD} {A : Nat → Prop} {Z : State → Prop} {post : Int32 → Mem → Prop} {ex : String → Mem → Prop} {sk : Nat → Nat} (C : CxX X g (layC ++ ext) A cX11_stars 5 RX11 8 2 sk) (hT : ThX X g (layC ++ ext) A 2 Z ex) (hR : RetI X g (layC ++ ext) A cX11_stars 5 2 (6 * 2) Z post) (x1 x2 x3 x4 : Int32) (M : Mem) (h : P_R_stars post ex x1 x2 x3 x4 M) : AtX X g (layC ++ ext) A 5 0 0 Z 0 [(0, .ref (ad g 0)), (1, .int x1), (2, .int x2), (3, .int x3), (4, .int x4)] [] M := by
  refine a_aload_n C.1 (tk T_cX11_stars 0 rfl) rfl ?_
  refine a_iload_n C.1 (tk T_cX11_stars 1 rfl) rfl ?_
  refine x_callV C hT [.int x1] me_yX11_wantPlate lk_RX11_232 (ct_R_wantPlate h) (by decide) lc0 rfl rfl rfl (Nat.le_of_ble_eq_true rfl) (tk T_cX11_stars 2 rfl) (by decide) (fun M1 h => ?_)
  refine a_iload C.1 (tk T_cX11_stars 3 rfl) rfl ?_
  refine a_iconst C.1 (0 : Int32) (tk T_cX11_stars 4 rfl) kI_0 ?_
  refine a_iconst C.1 (2 : Int32) (tk T_cX11_stars 5 rfl) kI_2 ?_
  refine a_statI C.1 [.int x4, .int (0 : Int32), .int (2 : Int32)] me_yX11_within lk_RX11_68 (ct_R_within h) (by decide) rfl rfl (Nat.le_of_ble_eq_true rfl) (tk T_cX11_stars 6 rfl) ⟨Nat.le_trans (by decide) C.2.2.1, Nat.le_trans (by decide) C.2.2.2⟩ (fun r2 M2 h => ?_)
  refine x_statV C hT [.int r2] me_yX11_wantWhat lk_RX11_166 (ct_R_wantWhat h) (by decide) rfl rfl (Nat.le_of_ble_eq_true rfl) (tk T_cX11_stars 7 rfl) (by decide) (fun M3 h => ?_)
  refine a_aload_n C.1 (tk T_cX11_stars 8 rfl) rfl ?_
  refine a_getR C.1 f_RX11_33 (tk T_cX11_stars 9 rfl) lc0 rfl ?_
  refine a_iload_n C.1 (tk T_cX11_stars 10 rfl) rfl ?_
  refine a_callV C.1 [.int x1] me_yX3_open lk_RX11_264 (ct_Judge_open h) (by decide) lc69 rfl rfl rfl (Nat.le_of_ble_eq_true rfl) (tk T_cX11_stars 11 rfl) ⟨Nat.le_trans (by decide) C.2.2.1, Nat.le_trans (by decide) C.2.2.2⟩ (fun M4 h => ?_)
  refine a_aload_n C.1 (tk T_cX11_stars 12 rfl) rfl ?_
  refine a_getR C.1 f_RX11_33 (tk T_cX11_stars 13 rfl) lc0 rfl ?_
  refine a_iload_n C.1 (tk T_cX11_stars 14 rfl) rfl ?_
  refine a_iload_n C.1 (tk T_cX11_stars 15 rfl) rfl ?_
  refine a_iload C.1 (tk T_cX11_stars 16 rfl) rfl ?_
  refine a_callI C.1 [.int x2, .int x3, .int x4] me_yX3_pairStars lk_RX11_336 (ct_Judge_pairStars h) (by decide) lc69 rfl rfl rfl (Nat.le_of_ble_eq_true rfl) (tk T_cX11_stars 17 rfl) ⟨Nat.le_trans (by decide) C.2.2.1, Nat.le_trans (by decide) C.2.2.2⟩ (fun r5 M5 h => ?_)
  exact x_widen (by decide) (by decide) (hR _ _ _ _ (tk T_cX11_stars 18 rfl) h)
theorem ct_R_stars {l : Launch} {g : GT} {ext : List CD} {sk : Nat → Nat} {post : Int32 → Mem → Prop} {ex : String → Mem → Prop} {x1 x2 x3 x4 : Int32} {M : Mem} (h : P_R_stars post ex x1 x2 x3 x4 M) : XI l g (layC ++ ext) sk yX11_stars cX11_stars 5 (some .int) 8 2 [.ref (ad g 0), .int x1, .int x2, .int x3, .int x4] M post ex :=
  xi_of (by decide +kernel) (Nat.le_of_ble_eq_true rfl) (fun X A Z hl C hR hT _ => by subst hl; exact k_R_stars C hT hR x1 x2 x3 x4 M h)
def T_cX3_isExplainedAdriftL : List (Nat × Instr × Nat) := [(0, .aload_n 0, 1), (1, .getfield 38, 3), (4, .getfield 123, 3), (7, .iload_n 1, 1), (8, .invokevirtual 152, 3), (11, .istore_n 3, 1), (12, .iconst 0, 1), (13, .istore 4, 2), (15, .iload 4, 2), (17, .aload_n 0, 1), (18, .getfield 38, 3), (21, .getfield 61, 3), (24, .getfield 67, 3), (27, .if_icmp .ge 52, 3), (30, .aload_n 0, 1), (31, .getfield 55, 3), (34, .iload 4, 2), (36, .invokestatic 132, 3), (39, .ifCond .eq 34, 3), (42, .aload_n 0, 1), (43, .iload 4, 2), (45, .iload_n 2, 1), (46, .invokevirtual 82, 3), (49, .aload_n 0, 1), (50, .getfield 58, 3), (53, .iload 4, 2), (55, .invokestatic 132, 3), (58, .ifCond .ne 15, 3), (61, .aload_n 0, 1), (62, .iload_n 3, 1), (63, .iload 4, 2), (65, .invokevirtual 158, 3), (68, .ifCond .ne 5, 3), (71, .iconst 0, 1), (72, .ireturn, 1), (73, .iinc 4 1, 3), (76, .goto (-61), 3), (79, .aload_n 0, 1), (80, .iload_n 3, 1), (81, .iconst 0, 1), (82, .invokevirtual 155, 3), (85, .aload_n 0, 1), (86, .getfield 120, 3), (89, .ifCond .ne 7, 3), (92, .iconst 1, 1), (93, .goto 4, 3), (96, .iconst 0, 1), (97, .ireturn, 1)]
theorem T_cX3_isExplainedAdrift : tabOK cX3_isExplainedAdrift T_cX3_isExplainedAdriftL = true := by decide +kernel
def P_Judge_isExplainedAdrift_97 (post : Int32 → Mem → Prop) (s0 : Int32) (M : Mem) : Prop :=
  (s0 = 0 ∨ s0 = 1) ∧ post s0 M
theorem k_Judge_isExplainedAdrift_97 {X : FX} {g : GT} {ext : List CD} {A : Nat → Prop} {Z : State → Prop} {post : Int32 → Mem → Prop} (C : Cx X g (layC ++ ext) A cX3_isExplainedAdrift 5 RX3 5) (hr : 0 ≤ X.2.2.2.1.cells ∧ 0 ≤ X.2.2.2.1.slots) (hR : RetZ X g (layC ++ ext) A cX3_isExplainedAdrift 5 0 0 Z post) (s0 : Int32) (M : Mem) (h : P_Judge_isExplainedAdrift_97 post s0 M) : AtX X g (layC ++ ext) A 5 0 0 Z 97 [] [.int s0] M := by
  exact hR _ _ _ _ (tk T_cX3_isExplainedAdrift 47 rfl) h
def P_Judge_isExplainedAdrift_73 (post : Int32 → Mem → Prop) (R15 : Int32 → Int32 → Int32 → Mem → Prop) (x2 x3 x4 : Int32) (M : Mem) : Prop :=
  R15 x2 x3 (x4 + (1 : Int32)) M
theorem k_Judge_isExplainedAdrift_73 {X : FX} {g : GT} {ext : List CD} {A : Nat → Prop} {Z : State → Prop} {post : Int32 → Mem → Prop} {R15 : Int32 → Int32 → Int32 → Mem → Prop} (C : Cx X g (layC ++ ext) A cX3_isExplainedAdrift 5 RX3 5) (hr : 0 ≤ X.2.2.2.1.cells ∧ 0 ≤ X.2.2.2.1.slots) (hR : RetZ X g (layC ++ ext) A cX3_isExplainedAdrift 5 0 0 Z post) (k15 : ∀ (y2 y3 y4 : Int32) (M : Mem), R15 y2 y3 y4 M → AtX X g (layC ++ ext) A 5 0 0 Z 15 [(0, .ref (ad g 69)), (2, .int y2), (3, .int y3), (4, .int y4)] [] M) (x2 x3 x4 : Int32) (M : Mem) (h : P_Judge_isExplainedAdrift_73 post R15 x2 x3 x4 M) : AtX X g (layC ++ ext) A 5 0 0 Z 73 [(0, .ref (ad g 69)), (2, .int x2), (3, .int x3), (4, .int x4)] [] M := by
  refine a_iinc C (1 : Int32) (tk T_cX3_isExplainedAdrift 35 rfl) rfl kI_1 (by decide) rfl ?_
  refine a_goto C 15 (tk T_cX3_isExplainedAdrift 36 rfl) rfl ?_
  exact a_to (k15 x2 x3 (x4 + (1 : Int32)) M h) rfl
def P_Judge_isExplainedAdrift_15 (post : Int32 → Mem → Prop) : Nat → Int32 → Int32 → Int32 → Mem → Prop
  | 0, _, _, _, _ => False
  | n + 1, x2, x3, x4, M =>
    ((M 18 11) ≤ x4 → (P_Judge_survey (fun M1 =>
  (¬ (M1 69 14) = 0 → (P_Judge_isExplainedAdrift_97 post (0 : Int32) M1)) ∧
  ((M1 69 14) = 0 → (P_Judge_isExplainedAdrift_97 post (1 : Int32) M1))) x3 (0 : Int32) M)) ∧
  (¬ (M 18 11) ≤ x4 → (P_R_has (fun r2 M2 =>
  (r2 = 0 → (P_Judge_isExplainedAdrift_73 post (P_Judge_isExplainedAdrift_15 post n) x2 x3 x4 M2)) ∧
  (¬ r2 = 0 → (P_Judge_putSpan (fun M3 =>
  P_R_has (fun r4 M4 =>
  (¬ r4 = 0 → (P_Judge_isExplainedAdrift_73 post (P_Judge_isExplainedAdrift_15 post n) x2 x3 x4 M4)) ∧
  (r4 = 0 → (P_Judge_linesInside (fun r5 M5 =>
  (¬ r5 = 0 → (P_Judge_isExplainedAdrift_73 post (P_Judge_isExplainedAdrift_15 post n) x2 x3 x4 M5)) ∧
  (r5 = 0 → (post (0 : Int32) M5))) x3 x4 M4))) (M3 69 12) x4 M3) x4 x2 M2))) (M 69 11) x4 M))
theorem k_Judge_isExplainedAdrift_15 {X : FX} {g : GT} {ext : List CD} {A : Nat → Prop} {Z : State → Prop} {post : Int32 → Mem → Prop} (C : Cx X g (layC ++ ext) A cX3_isExplainedAdrift 5 RX3 5) (hr : 0 ≤ X.2.2.2.1.cells ∧ 0 ≤ X.2.2.2.1.slots) (hR : RetZ X g (layC ++ ext) A cX3_isExplainedAdrift 5 0 0 Z post) : ∀ (n : Nat) (x2 x3 x4 : Int32) (M : Mem), P_Judge_isExplainedAdrift_15 post n x2 x3 x4 M → AtX X g (layC ++ ext) A 5 0 0 Z 15 [(0, .ref (ad g 69)), (2, .int x2), (3, .int x3), (4, .int x4)] [] M := by
  intro n
  induction n with
  | zero =>
    intro x2 x3 x4 M h
    exact h.elim
  | succ n ih =>
    intro x2 x3 x4 M h
    refine a_iload C (tk T_cX3_isExplainedAdrift 8 rfl) rfl ?_
    refine a_aload_n C (tk T_cX3_isExplainedAdrift 9 rfl) rfl ?_
    refine a_getR C f_RX3_38 (tk T_cX3_isExplainedAdrift 10 rfl) lc69 rfl ?_
    refine a_getR C f_RX3_61 (tk T_cX3_isExplainedAdrift 11 rfl) lc1 rfl ?_
    refine a_getI C f_RX3_67 (tk T_cX3_isExplainedAdrift 12 rfl) lc18 rfl ?_
    refine a_icmp_ge C 79 (tk T_cX3_isExplainedAdrift 13 rfl) rfl (fun c => ?_) (fun c => ?_)
    · have h := h.1 c
      refine a_aload_n C (tk T_cX3_isExplainedAdrift 37 rfl) rfl ?_
      refine a_iload_n C (tk T_cX3_isExplainedAdrift 38 rfl) rfl ?_
      refine a_iconst C (0 : Int32) (tk T_cX3_isExplainedAdrift 39 rfl) kI_0 ?_
      refine a_callV C [.int x3, .int (0 : Int32)] me_yX3_survey lk_RX3_155 (ct_Judge_survey h) (by decide) lc69 rfl rfl rfl (Nat.le_of_ble_eq_true rfl) (tk T_cX3_isExplainedAdrift 40 rfl) hr (fun M1 h => ?_)
      refine a_aload_n C (tk T_cX3_isExplainedAdrift 41 rfl) rfl ?_
      refine a_getI C f_RX3_120 (tk T_cX3_isExplainedAdrift 42 rfl) lc69 rfl ?_
      refine a_if_ne C 96 (tk T_cX3_isExplainedAdrift 43 rfl) rfl (fun c => ?_) (fun c => ?_)
      · have h := h.1 c
        refine a_iconst C (0 : Int32) (tk T_cX3_isExplainedAdrift 46 rfl) kI_0 ?_
        exact a_to (k_Judge_isExplainedAdrift_97 C hr hR (0 : Int32) M1 h) rfl
      · have h := h.2 c
        refine a_iconst C (1 : Int32) (tk T_cX3_isExplainedAdrift 44 rfl) kI_1 ?_
        refine a_goto C 97 (tk T_cX3_isExplainedAdrift 45 rfl) rfl ?_
        exact a_to (k_Judge_isExplainedAdrift_97 C hr hR (1 : Int32) M1 h) rfl
    · have h := h.2 c
      refine a_aload_n C (tk T_cX3_isExplainedAdrift 14 rfl) rfl ?_
      refine a_getI C f_RX3_55 (tk T_cX3_isExplainedAdrift 15 rfl) lc69 rfl ?_
      refine a_iload C (tk T_cX3_isExplainedAdrift 16 rfl) rfl ?_
      refine a_nestI C [.int (M 69 11), .int x4] me_yX11_has lk_RX3_132 (ct_R_has h) (by decide) rfl rfl (Nat.le_of_ble_eq_true rfl) (tk T_cX3_isExplainedAdrift 17 rfl) hr (fun r2 M2 h => ?_)
      refine a_if_eq C 73 (tk T_cX3_isExplainedAdrift 18 rfl) rfl (fun c => ?_) (fun c => ?_)
      · have h := h.1 c
        exact a_to (k_Judge_isExplainedAdrift_73 C hr hR ih x2 x3 x4 M2 h) rfl
      · have h := h.2 c
        refine a_aload_n C (tk T_cX3_isExplainedAdrift 19 rfl) rfl ?_
        refine a_iload C (tk T_cX3_isExplainedAdrift 20 rfl) rfl ?_
        refine a_iload_n C (tk T_cX3_isExplainedAdrift 21 rfl) rfl ?_
        refine a_callV C [.int x4, .int x2] me_yX3_putSpan lk_RX3_82 (ct_Judge_putSpan h) (by decide) lc69 rfl rfl rfl (Nat.le_of_ble_eq_true rfl) (tk T_cX3_isExplainedAdrift 22 rfl) hr (fun M3 h => ?_)
        refine a_aload_n C (tk T_cX3_isExplainedAdrift 23 rfl) rfl ?_
        refine a_getI C f_RX3_58 (tk T_cX3_isExplainedAdrift 24 rfl) lc69 rfl ?_
        refine a_iload C (tk T_cX3_isExplainedAdrift 25 rfl) rfl ?_
        refine a_nestI C [.int (M3 69 12), .int x4] me_yX11_has lk_RX3_132 (ct_R_has h) (by decide) rfl rfl (Nat.le_of_ble_eq_true rfl) (tk T_cX3_isExplainedAdrift 26 rfl) hr (fun r4 M4 h => ?_)
        refine a_if_ne C 73 (tk T_cX3_isExplainedAdrift 27 rfl) rfl (fun c => ?_) (fun c => ?_)
        · have h := h.1 c
          exact a_to (k_Judge_isExplainedAdrift_73 C hr hR ih x2 x3 x4 M4 h) rfl
        · have h := h.2 c
          refine a_aload_n C (tk T_cX3_isExplainedAdrift 28 rfl) rfl ?_
          refine a_iload_n C (tk T_cX3_isExplainedAdrift 29 rfl) rfl ?_
          refine a_iload C (tk T_cX3_isExplainedAdrift 30 rfl) rfl ?_
          refine a_callI C [.int x3, .int x4] me_yX3_linesInside lk_RX3_158 (ct_Judge_linesInside h) (by decide) lc69 rfl rfl rfl (Nat.le_of_ble_eq_true rfl) (tk T_cX3_isExplainedAdrift 31 rfl) hr (fun r5 M5 h => ?_)
          refine a_if_ne C 73 (tk T_cX3_isExplainedAdrift 32 rfl) rfl (fun c => ?_) (fun c => ?_)
          · have h := h.1 c
            exact a_to (k_Judge_isExplainedAdrift_73 C hr hR ih x2 x3 x4 M5 h) rfl
          · have h := h.2 c
            refine a_iconst C (0 : Int32) (tk T_cX3_isExplainedAdrift 33 rfl) kI_0 ?_
            exact hR _ _ _ _ (tk T_cX3_isExplainedAdrift 34 rfl) ⟨Or.inl rfl, h⟩
def P_Judge_isExplainedAdrift (post : Int32 → Mem → Prop) (x1 x2 : Int32) (M : Mem) : Prop :=
  P_Table_withAir (fun r1 M1 =>
  ∃ j15, P_Judge_isExplainedAdrift_15 post j15 x2 r1 (0 : Int32) M1) x1 M
theorem k_Judge_isExplainedAdrift {X : FX} {g : GT} {ext : List CD} {A : Nat → Prop} {Z : State → Prop} {post : Int32 → Mem → Prop} (C : Cx X g (layC ++ ext) A cX3_isExplainedAdrift 5 RX3 5) (hr : 0 ≤ X.2.2.2.1.cells ∧ 0 ≤ X.2.2.2.1.slots) (hR : RetZ X g (layC ++ ext) A cX3_isExplainedAdrift 5 0 0 Z post) (x1 x2 : Int32) (M : Mem) (h : P_Judge_isExplainedAdrift post x1 x2 M) : AtX X g (layC ++ ext) A 5 0 0 Z 0 [(0, .ref (ad g 69)), (1, .int x1), (2, .int x2)] [] M := by
  refine a_aload_n C (tk T_cX3_isExplainedAdrift 0 rfl) rfl ?_
  refine a_getR C f_RX3_38 (tk T_cX3_isExplainedAdrift 1 rfl) lc69 rfl ?_
  refine a_getR C f_RX3_123 (tk T_cX3_isExplainedAdrift 2 rfl) lc1 rfl ?_
  refine a_iload_n C (tk T_cX3_isExplainedAdrift 3 rfl) rfl ?_
  refine a_callI C [.int x1] me_yX10_withAir lk_RX3_152 (ct_Table_withAir h) (by decide) lc13 rfl rfl rfl (Nat.le_of_ble_eq_true rfl) (tk T_cX3_isExplainedAdrift 4 rfl) hr (fun r1 M1 h => ?_)
  refine a_istore_n C (tk T_cX3_isExplainedAdrift 5 rfl) (by decide) rfl ?_
  refine a_iconst C (0 : Int32) (tk T_cX3_isExplainedAdrift 6 rfl) kI_0 ?_
  refine a_istore C (tk T_cX3_isExplainedAdrift 7 rfl) (by decide) rfl ?_
  obtain ⟨n1, h⟩ := h
  exact a_to (k_Judge_isExplainedAdrift_15 C hr hR n1 x2 r1 (0 : Int32) M1 h) rfl
theorem ct_Judge_isExplainedAdrift {l : Launch} {g : GT} {ext : List CD} {post : Int32 → Mem → Prop} {x1 x2 : Int32} {M : Mem} (h : P_Judge_isExplainedAdrift post x1 x2 M) : CI l g (layC ++ ext) yX3_isExplainedAdrift cX3_isExplainedAdrift 5 (some .boolean) 5 [.ref (ad g 69), .int x1, .int x2] M post :=
  cz_of (plainFor_of_name (by decide +kernel)) (Nat.le_of_ble_eq_true rfl) (fun X A Z hl C hr hR => by subst hl; exact k_Judge_isExplainedAdrift C hr hR x1 x2 M h)
def T_cX11_driftL : List (Nat × Instr × Nat) := [(0, .aload_n 0, 1), (1, .iload_n 1, 1), (2, .invokevirtual 232, 3), (5, .aload_n 0, 1), (6, .getfield 33, 3), (9, .iload_n 1, 1), (10, .invokevirtual 264, 3), (13, .iconst 0, 1), (14, .istore 4, 2), (16, .iconst 0, 1), (17, .istore 5, 2), (19, .iload 5, 2), (21, .bipush 60, 2), (23, .if_icmp .gt 38, 3), (26, .aload_n 0, 1), (27, .getfield 33, 3), (30, .iload_n 2, 1), (31, .iload 5, 2), (33, .invokestatic 182, 3), (36, .invokevirtual 339, 3), (39, .ifCond .eq 16, 3), (42, .iload_n 3, 1), (43, .ifCond .eq 9, 3), (46, .iload 5, 2), (48, .invokestatic 182, 3), (51, .ireturn, 1), (52, .iinc 4 1, 3), (55, .iinc 5 1, 3), (58, .goto (-39), 3), (61, .iload_n 3, 1), (62, .ifCond .eq 8, 3), (65, .bipush 99, 2), (67, .goto 5, 3), (70, .iload 4, 2), (72, .ireturn, 1)]
theorem T_cX11_drift : tabOK cX11_drift T_cX11_driftL = true := by decide +kernel
def P_R_drift_72 (post : Int32 → Mem → Prop) (ex : String → Mem → Prop) (s0 : Int32) (M : Mem) : Prop :=
  post s0 M
theorem k_R_drift_72 {X : FX} {g : GT} {ext : List CD} {A : Nat → Prop} {Z : State → Prop} {post : Int32 → Mem → Prop} {ex : String → Mem → Prop} {sk : Nat → Nat} (C : CxX X g (layC ++ ext) A cX11_drift 6 RX11 8 1 sk) (hT : ThX X g (layC ++ ext) A 1 Z ex) (hR : RetI X g (layC ++ ext) A cX11_drift 6 1 (6 * 1) Z post) (s0 : Int32) (M : Mem) (h : P_R_drift_72 post ex s0 M) : AtX X g (layC ++ ext) A 6 1 (6 * 1) Z 72 [] [.int s0] M := by
  exact x_widen (by decide) (by decide) (hR _ _ _ _ (tk T_cX11_drift 34 rfl) h)
def P_R_drift_55 (post : Int32 → Mem → Prop) (ex : String → Mem → Prop) (R19 : Int32 → Int32 → Int32 → Int32 → Mem → Prop) (x2 x3 x4 x5 : Int32) (M : Mem) : Prop :=
  R19 x2 x3 x4 (x5 + (1 : Int32)) M
theorem k_R_drift_55 {X : FX} {g : GT} {ext : List CD} {A : Nat → Prop} {Z : State → Prop} {post : Int32 → Mem → Prop} {R19 : Int32 → Int32 → Int32 → Int32 → Mem → Prop} {ex : String → Mem → Prop} {sk : Nat → Nat} (C : CxX X g (layC ++ ext) A cX11_drift 6 RX11 8 1 sk) (hT : ThX X g (layC ++ ext) A 1 Z ex) (hR : RetI X g (layC ++ ext) A cX11_drift 6 1 (6 * 1) Z post) (k19 : ∀ (y2 y3 y4 y5 : Int32) (M : Mem), R19 y2 y3 y4 y5 M → AtX X g (layC ++ ext) A 6 1 (6 * 1) Z 19 [(0, .ref (ad g 0)), (2, .int y2), (3, .int y3), (4, .int y4), (5, .int y5)] [] M) (x2 x3 x4 x5 : Int32) (M : Mem) (h : P_R_drift_55 post ex R19 x2 x3 x4 x5 M) : AtX X g (layC ++ ext) A 6 1 (6 * 1) Z 55 [(0, .ref (ad g 0)), (2, .int x2), (3, .int x3), (4, .int x4), (5, .int x5)] [] M := by
  refine a_iinc C.1 (1 : Int32) (tk T_cX11_drift 27 rfl) rfl kI_1 (by decide) rfl ?_
  refine a_goto C.1 19 (tk T_cX11_drift 28 rfl) rfl ?_
  exact x_widen (by decide) (by decide) (a_to (k19 x2 x3 x4 (x5 + (1 : Int32)) M h) rfl)
def P_R_drift_19 (post : Int32 → Mem → Prop) (ex : String → Mem → Prop) : Nat → Int32 → Int32 → Int32 → Int32 → Mem → Prop
  | 0, _, _, _, _, _ => False
  | n + 1, x2, x3, x4, x5, M =>
    ((60 : Int32) < x5 → ((x3 = 0 → (P_R_drift_72 post ex x4 M)) ∧
  (¬ x3 = 0 → (P_R_drift_72 post ex (99 : Int32) M)))) ∧
  (¬ (60 : Int32) < x5 → (P_R_outward (fun r1 M1 =>
  P_Judge_isExplainedAdrift (fun r2 M2 =>
  (r2 = 0 → (P_R_drift_55 post ex (P_R_drift_19 post ex n) x2 x3 x4 x5 M2)) ∧
  (¬ r2 = 0 → ((x3 = 0 → (P_R_drift_55 post ex (P_R_drift_19 post ex n) x2 x3 (x4 + (1 : Int32)) x5 M2)) ∧
  (¬ x3 = 0 → (P_R_outward (fun r3 M3 =>
  post r3 M3) x5 M2))))) x2 r1 M1) x5 M))
theorem k_R_drift_19 {X : FX} {g : GT} {ext : List CD} {A : Nat → Prop} {Z : State → Prop} {post : Int32 → Mem → Prop} {ex : String → Mem → Prop} {sk : Nat → Nat} (C : CxX X g (layC ++ ext) A cX11_drift 6 RX11 8 1 sk) (hT : ThX X g (layC ++ ext) A 1 Z ex) (hR : RetI X g (layC ++ ext) A cX11_drift 6 1 (6 * 1) Z post) : ∀ (n : Nat) (x2 x3 x4 x5 : Int32) (M : Mem), P_R_drift_19 post ex n x2 x3 x4 x5 M → AtX X g (layC ++ ext) A 6 1 (6 * 1) Z 19 [(0, .ref (ad g 0)), (2, .int x2), (3, .int x3), (4, .int x4), (5, .int x5)] [] M := by
  intro n
  induction n with
  | zero =>
    intro x2 x3 x4 x5 M h
    exact h.elim
  | succ n ih =>
    intro x2 x3 x4 x5 M h
    refine a_iload C.1 (tk T_cX11_drift 11 rfl) rfl ?_
    refine a_bipush C.1 (60 : Int32) (tk T_cX11_drift 12 rfl) kB_60 ?_
    refine a_icmp_gt C.1 61 (tk T_cX11_drift 13 rfl) rfl (fun c => ?_) (fun c => ?_)
    · have h := h.1 c
      refine a_iload_n C.1 (tk T_cX11_drift 29 rfl) rfl ?_
      refine a_if_eq C.1 70 (tk T_cX11_drift 30 rfl) rfl (fun c => ?_) (fun c => ?_)
      · have h := h.1 c
        refine a_iload C.1 (tk T_cX11_drift 33 rfl) rfl ?_
        exact x_widen (by decide) (by decide) (a_to (k_R_drift_72 C hT hR x4 M h) rfl)
      · have h := h.2 c
        refine a_bipush C.1 (99 : Int32) (tk T_cX11_drift 31 rfl) kB_99 ?_
        refine a_goto C.1 72 (tk T_cX11_drift 32 rfl) rfl ?_
        exact x_widen (by decide) (by decide) (a_to (k_R_drift_72 C hT hR (99 : Int32) M h) rfl)
    · have h := h.2 c
      refine a_aload_n C.1 (tk T_cX11_drift 14 rfl) rfl ?_
      refine a_getR C.1 f_RX11_33 (tk T_cX11_drift 15 rfl) lc0 rfl ?_
      refine a_iload_n C.1 (tk T_cX11_drift 16 rfl) rfl ?_
      refine a_iload C.1 (tk T_cX11_drift 17 rfl) rfl ?_
      refine a_statI C.1 [.int x5] me_yX11_outward lk_RX11_182 (ct_R_outward h) (by decide) rfl rfl (Nat.le_of_ble_eq_true rfl) (tk T_cX11_drift 18 rfl) ⟨Nat.le_trans (by decide) C.2.2.1, Nat.le_trans (by decide) C.2.2.2⟩ (fun r1 M1 h => ?_)
      refine a_callI C.1 [.int x2, .int r1] me_yX3_isExplainedAdrift lk_RX11_339 (ct_Judge_isExplainedAdrift h) (by decide) lc69 rfl rfl rfl (Nat.le_of_ble_eq_true rfl) (tk T_cX11_drift 19 rfl) ⟨Nat.le_trans (by decide) C.2.2.1, Nat.le_trans (by decide) C.2.2.2⟩ (fun r2 M2 h => ?_)
      refine a_if_eq C.1 55 (tk T_cX11_drift 20 rfl) rfl (fun c => ?_) (fun c => ?_)
      · have h := h.1 c
        exact x_widen (by decide) (by decide) (a_to (k_R_drift_55 C hT hR ih x2 x3 x4 x5 M2 h) rfl)
      · have h := h.2 c
        refine a_iload_n C.1 (tk T_cX11_drift 21 rfl) rfl ?_
        refine a_if_eq C.1 52 (tk T_cX11_drift 22 rfl) rfl (fun c => ?_) (fun c => ?_)
        · have h := h.1 c
          refine a_iinc C.1 (1 : Int32) (tk T_cX11_drift 26 rfl) rfl kI_1 (by decide) rfl ?_
          exact x_widen (by decide) (by decide) (a_to (k_R_drift_55 C hT hR ih x2 x3 (x4 + (1 : Int32)) x5 M2 h) rfl)
        · have h := h.2 c
          refine a_iload C.1 (tk T_cX11_drift 23 rfl) rfl ?_
          refine a_statI C.1 [.int x5] me_yX11_outward lk_RX11_182 (ct_R_outward h) (by decide) rfl rfl (Nat.le_of_ble_eq_true rfl) (tk T_cX11_drift 24 rfl) ⟨Nat.le_trans (by decide) C.2.2.1, Nat.le_trans (by decide) C.2.2.2⟩ (fun r3 M3 h => ?_)
          exact x_widen (by decide) (by decide) (hR _ _ _ _ (tk T_cX11_drift 25 rfl) h)
def P_R_drift (post : Int32 → Mem → Prop) (ex : String → Mem → Prop) (x1 x2 x3 : Int32) (M : Mem) : Prop :=
  P_R_wantPlate (fun M1 =>
  P_Judge_open (fun M2 =>
  ∃ j19, P_R_drift_19 post ex j19 x2 x3 (0 : Int32) (0 : Int32) M2) x1 M1) ex x1 M
theorem k_R_drift {X : FX} {g : GT} {ext : List CD} {A : Nat → Prop} {Z : State → Prop} {post : Int32 → Mem → Prop} {ex : String → Mem → Prop} {sk : Nat → Nat} (C : CxX X g (layC ++ ext) A cX11_drift 6 RX11 8 1 sk) (hT : ThX X g (layC ++ ext) A 1 Z ex) (hR : RetI X g (layC ++ ext) A cX11_drift 6 1 (6 * 1) Z post) (x1 x2 x3 : Int32) (M : Mem) (h : P_R_drift post ex x1 x2 x3 M) : AtX X g (layC ++ ext) A 6 0 0 Z 0 [(0, .ref (ad g 0)), (1, .int x1), (2, .int x2), (3, .int x3)] [] M := by
  refine a_aload_n C.1 (tk T_cX11_drift 0 rfl) rfl ?_
  refine a_iload_n C.1 (tk T_cX11_drift 1 rfl) rfl ?_
  refine x_callV C hT [.int x1] me_yX11_wantPlate lk_RX11_232 (ct_R_wantPlate h) (by decide) lc0 rfl rfl rfl (Nat.le_of_ble_eq_true rfl) (tk T_cX11_drift 2 rfl) (by decide) (fun M1 h => ?_)
  refine a_aload_n C.1 (tk T_cX11_drift 3 rfl) rfl ?_
  refine a_getR C.1 f_RX11_33 (tk T_cX11_drift 4 rfl) lc0 rfl ?_
  refine a_iload_n C.1 (tk T_cX11_drift 5 rfl) rfl ?_
  refine a_callV C.1 [.int x1] me_yX3_open lk_RX11_264 (ct_Judge_open h) (by decide) lc69 rfl rfl rfl (Nat.le_of_ble_eq_true rfl) (tk T_cX11_drift 6 rfl) ⟨Nat.le_trans (by decide) C.2.2.1, Nat.le_trans (by decide) C.2.2.2⟩ (fun M2 h => ?_)
  refine a_iconst C.1 (0 : Int32) (tk T_cX11_drift 7 rfl) kI_0 ?_
  refine a_istore C.1 (tk T_cX11_drift 8 rfl) (by decide) rfl ?_
  refine a_iconst C.1 (0 : Int32) (tk T_cX11_drift 9 rfl) kI_0 ?_
  refine a_istore C.1 (tk T_cX11_drift 10 rfl) (by decide) rfl ?_
  obtain ⟨n1, h⟩ := h
  exact x_widen (by decide) (by decide) (a_to (k_R_drift_19 C hT hR n1 x2 x3 (0 : Int32) (0 : Int32) M2 h) rfl)
theorem ct_R_drift {l : Launch} {g : GT} {ext : List CD} {sk : Nat → Nat} {post : Int32 → Mem → Prop} {ex : String → Mem → Prop} {x1 x2 x3 : Int32} {M : Mem} (h : P_R_drift post ex x1 x2 x3 M) : XI l g (layC ++ ext) sk yX11_drift cX11_drift 6 (some .int) 8 1 [.ref (ad g 0), .int x1, .int x2, .int x3] M post ex :=
  xi_of (by decide +kernel) (Nat.le_of_ble_eq_true rfl) (fun X A Z hl C hR hT _ => by subst hl; exact k_R_drift C hT hR x1 x2 x3 M h)
def T_cX11_makerL : List (Nat × Instr × Nat) := [(0, .aload_n 0, 1), (1, .getfield 10, 3), (4, .getfield 342, 3), (7, .iconst 4, 1), (8, .if_icmp .ge 7, 3), (11, .iconst 1, 1), (12, .goto 4, 3), (15, .iconst 0, 1), (16, .invokestatic 104, 3), (19, .aload_n 0, 1), (20, .getfield 10, 3), (23, .getfield 342, 3), (26, .bipush 6, 2), (28, .imul, 1), (29, .istore_n 1, 1), (30, .iconst 0, 1), (31, .istore_n 2, 1), (32, .iload_n 2, 1), (33, .bipush 6, 2), (35, .if_icmp .ge 34, 3), (38, .aload_n 0, 1), (39, .getfield 10, 3), (42, .getfield 345, 3), (45, .iload_n 1, 1), (46, .iload_n 2, 1), (47, .iadd, 1), (48, .iconst 0, 1), (49, .iastore, 1), (50, .aload_n 0, 1), (51, .getfield 10, 3), (54, .getfield 348, 3), (57, .iload_n 1, 1), (58, .iload_n 2, 1), (59, .iadd, 1), (60, .bipush 9, 2), (62, .iastore, 1), (63, .iinc 2 1, 3), (66, .goto (-34), 3), (69, .aload_n 0, 1), (70, .getfield 10, 3), (73, .dup, 1), (74, .getfield 342, 3), (77, .iconst 1, 1), (78, .iadd, 1), (79, .putfield 342, 3), (82, .aload_n 0, 1), (83, .getfield 10, 3), (86, .getfield 342, 3), (89, .iconst 1, 1), (90, .isub, 1), (91, .ireturn, 1)]
theorem T_cX11_maker : tabOK cX11_maker T_cX11_makerL = true := by decide +kernel
def P_R_maker_32 (post : Int32 → Mem → Prop) (ex : String → Mem → Prop) : Nat → Int32 → Int32 → Mem → Prop
  | 0, _, _, _ => False
  | n + 1, x1, x2, M =>
    ((6 : Int32) ≤ x2 → (∀ M1, M1 = ms M 1 7 ((M 1 7) + (1 : Int32)) → post ((M1 1 7) - (1 : Int32)) M1)) ∧
  (¬ (6 : Int32) ≤ x2 → (vp_in (x1 + x2) 24 ∧ ∀ M2, M2 = ms M 29 (x1 + x2).toNatClampNeg (0 : Int32) → vp_in (x1 + x2) 24 ∧ ∀ M3, M3 = ms M2 30 (x1 + x2).toNatClampNeg (9 : Int32) → P_R_maker_32 post ex n x1 (x2 + (1 : Int32)) M3))
theorem k_R_maker_32 {X : FX} {g : GT} {ext : List CD} {A : Nat → Prop} {Z : State → Prop} {post : Int32 → Mem → Prop} {ex : String → Mem → Prop} {sk : Nat → Nat} (C : CxX X g (layC ++ ext) A cX11_maker 3 RX11 7 1 sk) (hT : ThX X g (layC ++ ext) A 1 Z ex) (hR : RetI X g (layC ++ ext) A cX11_maker 3 1 (6 * 1) Z post) : ∀ (n : Nat) (x1 x2 : Int32) (M : Mem), P_R_maker_32 post ex n x1 x2 M → AtX X g (layC ++ ext) A 3 1 (6 * 1) Z 32 [(0, .ref (ad g 0)), (1, .int x1), (2, .int x2)] [] M := by
  intro n
  induction n with
  | zero =>
    intro x1 x2 M h
    exact h.elim
  | succ n ih =>
    intro x1 x2 M h
    refine a_iload_n C.1 (tk T_cX11_maker 17 rfl) rfl ?_
    refine a_bipush C.1 (6 : Int32) (tk T_cX11_maker 18 rfl) kB_6 ?_
    refine a_icmp_ge C.1 69 (tk T_cX11_maker 19 rfl) rfl (fun c => ?_) (fun c => ?_)
    · have h := h.1 c
      refine a_aload_n C.1 (tk T_cX11_maker 38 rfl) rfl ?_
      refine a_getR C.1 f_RX11_10 (tk T_cX11_maker 39 rfl) lc0 rfl ?_
      refine a_dupr C.1 (tk T_cX11_maker 40 rfl) ?_
      refine a_getI C.1 f_RX11_342 (tk T_cX11_maker 41 rfl) lc1 rfl ?_
      refine a_iconst C.1 (1 : Int32) (tk T_cX11_maker 42 rfl) kI_1 ?_
      refine a_iadd C.1 (tk T_cX11_maker 43 rfl) ?_
      refine a_put C.1 f_RX11_342 f_RX11_342p rfl rfl (tk T_cX11_maker 44 rfl) lc1 rfl ?_
      refine a_mem (fun M1 e_M1 => ?_)
      have h := h M1 e_M1
      refine a_aload_n C.1 (tk T_cX11_maker 45 rfl) rfl ?_
      refine a_getR C.1 f_RX11_10 (tk T_cX11_maker 46 rfl) lc0 rfl ?_
      refine a_getI C.1 f_RX11_342 (tk T_cX11_maker 47 rfl) lc1 rfl ?_
      refine a_iconst C.1 (1 : Int32) (tk T_cX11_maker 48 rfl) kI_1 ?_
      refine a_isub C.1 (tk T_cX11_maker 49 rfl) ?_
      exact x_widen (by decide) (by decide) (hR _ _ _ _ (tk T_cX11_maker 50 rfl) h)
    · have h := h.2 c
      refine a_aload_n C.1 (tk T_cX11_maker 20 rfl) rfl ?_
      refine a_getR C.1 f_RX11_10 (tk T_cX11_maker 21 rfl) lc0 rfl ?_
      refine a_getR C.1 f_RX11_345 (tk T_cX11_maker 22 rfl) lc1 rfl ?_
      refine a_iload_n C.1 (tk T_cX11_maker 23 rfl) rfl ?_
      refine a_iload_n C.1 (tk T_cX11_maker 24 rfl) rfl ?_
      refine a_iadd C.1 (tk T_cX11_maker 25 rfl) ?_
      refine a_iconst C.1 (0 : Int32) (tk T_cX11_maker 26 rfl) kI_0 ?_
      obtain ⟨hb, h⟩ := h
      refine a_iast C.1 (tk T_cX11_maker 27 rfl) lc29 hb ?_
      refine a_mem (fun M2 e_M2 => ?_)
      have h := h M2 e_M2
      refine a_aload_n C.1 (tk T_cX11_maker 28 rfl) rfl ?_
      refine a_getR C.1 f_RX11_10 (tk T_cX11_maker 29 rfl) lc0 rfl ?_
      refine a_getR C.1 f_RX11_348 (tk T_cX11_maker 30 rfl) lc1 rfl ?_
      refine a_iload_n C.1 (tk T_cX11_maker 31 rfl) rfl ?_
      refine a_iload_n C.1 (tk T_cX11_maker 32 rfl) rfl ?_
      refine a_iadd C.1 (tk T_cX11_maker 33 rfl) ?_
      refine a_bipush C.1 (9 : Int32) (tk T_cX11_maker 34 rfl) kB_9 ?_
      obtain ⟨hb, h⟩ := h
      refine a_iast C.1 (tk T_cX11_maker 35 rfl) lc30 hb ?_
      refine a_mem (fun M3 e_M3 => ?_)
      have h := h M3 e_M3
      refine a_iinc C.1 (1 : Int32) (tk T_cX11_maker 36 rfl) rfl kI_1 (by decide) rfl ?_
      refine a_goto C.1 32 (tk T_cX11_maker 37 rfl) rfl ?_
      exact x_widen (by decide) (by decide) (a_to (ih x1 (x2 + (1 : Int32)) M3 h) rfl)
def P_R_maker_16 (post : Int32 → Mem → Prop) (ex : String → Mem → Prop) (s0 : Int32) (M : Mem) : Prop :=
  P_R_wantRoom (fun M1 =>
  ∀ x1_2, x1_2 = ((M1 1 7) * (6 : Int32)) → ∃ j32, P_R_maker_32 post ex j32 x1_2 (0 : Int32) M1) ex s0 M
theorem k_R_maker_16 {X : FX} {g : GT} {ext : List CD} {A : Nat → Prop} {Z : State → Prop} {post : Int32 → Mem → Prop} {ex : String → Mem → Prop} {sk : Nat → Nat} (C : CxX X g (layC ++ ext) A cX11_maker 3 RX11 7 1 sk) (hT : ThX X g (layC ++ ext) A 1 Z ex) (hR : RetI X g (layC ++ ext) A cX11_maker 3 1 (6 * 1) Z post) (s0 : Int32) (M : Mem) (h : P_R_maker_16 post ex s0 M) : AtX X g (layC ++ ext) A 3 0 (6 * 0) Z 16 [(0, .ref (ad g 0))] [.int s0] M := by
  refine x_statV C hT [.int s0] me_yX11_wantRoom lk_RX11_104 (ct_R_wantRoom h) (by decide) rfl rfl (Nat.le_of_ble_eq_true rfl) (tk T_cX11_maker 8 rfl) (by decide) (fun M1 h => ?_)
  refine a_aload_n C.1 (tk T_cX11_maker 9 rfl) rfl ?_
  refine a_getR C.1 f_RX11_10 (tk T_cX11_maker 10 rfl) lc0 rfl ?_
  refine a_getI C.1 f_RX11_342 (tk T_cX11_maker 11 rfl) lc1 rfl ?_
  refine a_bipush C.1 (6 : Int32) (tk T_cX11_maker 12 rfl) kB_6 ?_
  refine a_imul C.1 (tk T_cX11_maker 13 rfl) ?_
  refine a_top (fun x1_2 e_x1_2 => ?_)
  have h := h x1_2 e_x1_2
  refine a_istore_n C.1 (tk T_cX11_maker 14 rfl) (by decide) rfl ?_
  refine a_iconst C.1 (0 : Int32) (tk T_cX11_maker 15 rfl) kI_0 ?_
  refine a_istore_n C.1 (tk T_cX11_maker 16 rfl) (by decide) rfl ?_
  obtain ⟨n1, h⟩ := h
  exact x_widen (by decide) (by decide) (a_to (k_R_maker_32 C hT hR n1 x1_2 (0 : Int32) M1 h) rfl)
def P_R_maker (post : Int32 → Mem → Prop) (ex : String → Mem → Prop) (M : Mem) : Prop :=
  ((4 : Int32) ≤ (M 1 7) → (P_R_maker_16 post ex (0 : Int32) M)) ∧
  (¬ (4 : Int32) ≤ (M 1 7) → (P_R_maker_16 post ex (1 : Int32) M))
theorem k_R_maker {X : FX} {g : GT} {ext : List CD} {A : Nat → Prop} {Z : State → Prop} {post : Int32 → Mem → Prop} {ex : String → Mem → Prop} {sk : Nat → Nat} (C : CxX X g (layC ++ ext) A cX11_maker 3 RX11 7 1 sk) (hT : ThX X g (layC ++ ext) A 1 Z ex) (hR : RetI X g (layC ++ ext) A cX11_maker 3 1 (6 * 1) Z post) (M : Mem) (h : P_R_maker post ex M) : AtX X g (layC ++ ext) A 3 0 0 Z 0 [(0, .ref (ad g 0))] [] M := by
  refine a_aload_n C.1 (tk T_cX11_maker 0 rfl) rfl ?_
  refine a_getR C.1 f_RX11_10 (tk T_cX11_maker 1 rfl) lc0 rfl ?_
  refine a_getI C.1 f_RX11_342 (tk T_cX11_maker 2 rfl) lc1 rfl ?_
  refine a_iconst C.1 (4 : Int32) (tk T_cX11_maker 3 rfl) kI_4 ?_
  refine a_icmp_ge C.1 15 (tk T_cX11_maker 4 rfl) rfl (fun c => ?_) (fun c => ?_)
  · have h := h.1 c
    refine a_iconst C.1 (0 : Int32) (tk T_cX11_maker 7 rfl) kI_0 ?_
    exact x_widen (by decide) (by decide) (a_to (k_R_maker_16 C hT hR (0 : Int32) M h) rfl)
  · have h := h.2 c
    refine a_iconst C.1 (1 : Int32) (tk T_cX11_maker 5 rfl) kI_1 ?_
    refine a_goto C.1 16 (tk T_cX11_maker 6 rfl) rfl ?_
    exact x_widen (by decide) (by decide) (a_to (k_R_maker_16 C hT hR (1 : Int32) M h) rfl)
theorem ct_R_maker {l : Launch} {g : GT} {ext : List CD} {sk : Nat → Nat} {post : Int32 → Mem → Prop} {ex : String → Mem → Prop} {M : Mem} (h : P_R_maker post ex M) : XI l g (layC ++ ext) sk yX11_maker cX11_maker 3 (some .int) 7 1 [.ref (ad g 0)] M post ex :=
  xi_of (by decide +kernel) (Nat.le_of_ble_eq_true rfl) (fun X A Z hl C hR hT _ => by subst hl; exact k_R_maker C hT hR  M h)
def T_cX11_wantMakerL : List (Nat × Instr × Nat) := [(0, .iload_n 1, 1), (1, .iconst 0, 1), (2, .aload_n 0, 1), (3, .getfield 10, 3), (6, .getfield 342, 3), (9, .iconst 1, 1), (10, .isub, 1), (11, .invokestatic 68, 3), (14, .invokestatic 201, 3), (17, .return_, 1)]
theorem T_cX11_wantMaker : tabOK cX11_wantMaker T_cX11_wantMakerL = true := by decide +kernel
def P_R_wantMaker (post : Mem → Prop) (ex : String → Mem → Prop) (x1 : Int32) (M : Mem) : Prop :=
  P_R_within (fun r1 M1 =>
  P_R_wantThere (fun M2 =>
  post M2) ex r1 M1) x1 (0 : Int32) ((M 1 7) - (1 : Int32)) M
theorem k_R_wantMaker {X : FX} {g : GT} {ext : List CD} {A : Nat → Prop} {Z : State → Prop} {post : Mem → Prop} {ex : String → Mem → Prop} {sk : Nat → Nat} (C : CxX X g (layC ++ ext) A cX11_wantMaker 2 RX11 7 1 sk) (hT : ThX X g (layC ++ ext) A 1 Z ex) (hR : RetV X g (layC ++ ext) A cX11_wantMaker 2 1 (6 * 1) Z post) (x1 : Int32) (M : Mem) (h : P_R_wantMaker post ex x1 M) : AtX X g (layC ++ ext) A 2 0 0 Z 0 [(0, .ref (ad g 0)), (1, .int x1)] [] M := by
  refine a_iload_n C.1 (tk T_cX11_wantMaker 0 rfl) rfl ?_
  refine a_iconst C.1 (0 : Int32) (tk T_cX11_wantMaker 1 rfl) kI_0 ?_
  refine a_aload_n C.1 (tk T_cX11_wantMaker 2 rfl) rfl ?_
  refine a_getR C.1 f_RX11_10 (tk T_cX11_wantMaker 3 rfl) lc0 rfl ?_
  refine a_getI C.1 f_RX11_342 (tk T_cX11_wantMaker 4 rfl) lc1 rfl ?_
  refine a_iconst C.1 (1 : Int32) (tk T_cX11_wantMaker 5 rfl) kI_1 ?_
  refine a_isub C.1 (tk T_cX11_wantMaker 6 rfl) ?_
  refine a_statI C.1 [.int x1, .int (0 : Int32), .int ((M 1 7) - (1 : Int32))] me_yX11_within lk_RX11_68 (ct_R_within h) (by decide) rfl rfl (Nat.le_of_ble_eq_true rfl) (tk T_cX11_wantMaker 7 rfl) ⟨Nat.le_trans (by decide) C.2.2.1, Nat.le_trans (by decide) C.2.2.2⟩ (fun r1 M1 h => ?_)
  refine x_statV C hT [.int r1] me_yX11_wantThere lk_RX11_201 (ct_R_wantThere h) (by decide) rfl rfl (Nat.le_of_ble_eq_true rfl) (tk T_cX11_wantMaker 8 rfl) (by decide) (fun M2 h => ?_)
  exact x_widen (by decide) (by decide) (hR _ _ _ (tk T_cX11_wantMaker 9 rfl) h)
theorem ct_R_wantMaker {l : Launch} {g : GT} {ext : List CD} {sk : Nat → Nat} {post : Mem → Prop} {ex : String → Mem → Prop} {x1 : Int32} {M : Mem} (h : P_R_wantMaker post ex x1 M) : XV l g (layC ++ ext) sk yX11_wantMaker cX11_wantMaker 2 none 7 1 [.ref (ad g 0), .int x1] M post ex :=
  xv_of (by decide +kernel) (Nat.le_of_ble_eq_true rfl) (fun X A Z hl C hR hT _ => by subst hl; exact k_R_wantMaker C hT hR x1 M h)
def T_cX11_recipeL : List (Nat × Instr × Nat) := [(0, .aload_n 0, 1), (1, .iload_n 1, 1), (2, .invokevirtual 351, 3), (5, .iload_n 2, 1), (6, .iconst 0, 1), (7, .iconst 5, 1), (8, .invokestatic 68, 3), (11, .invokestatic 201, 3), (14, .iload_n 3, 1), (15, .iconst 0, 1), (16, .iload 4, 2), (18, .invokestatic 68, 3), (21, .ifCond .eq 18, 3), (24, .iload 4, 2), (26, .iconst 0, 1), (27, .bipush 9, 2), (29, .invokestatic 68, 3), (32, .ifCond .eq 7, 3), (35, .iconst 1, 1), (36, .goto 4, 3), (39, .iconst 0, 1), (40, .invokestatic 72, 3), (43, .aload_n 0, 1), (44, .getfield 10, 3), (47, .getfield 345, 3), (50, .iload_n 1, 1), (51, .bipush 6, 2), (53, .imul, 1), (54, .iload_n 2, 1), (55, .iadd, 1), (56, .iload_n 3, 1), (57, .iastore, 1), (58, .aload_n 0, 1), (59, .getfield 10, 3), (62, .getfield 348, 3), (65, .iload_n 1, 1), (66, .bipush 6, 2), (68, .imul, 1), (69, .iload_n 2, 1), (70, .iadd, 1), (71, .iload 4, 2), (73, .iastore, 1), (74, .return_, 1)]
theorem T_cX11_recipe : tabOK cX11_recipe T_cX11_recipeL = true := by decide +kernel
def P_R_recipe_40 (post : Mem → Prop) (ex : String → Mem → Prop) (x1 x2 x3 x4 s0 : Int32) (M : Mem) : Prop :=
  P_R_wantNumber (fun M1 =>
  vp_in ((x1 * (6 : Int32)) + x2) 24 ∧ ∀ M2, M2 = ms M1 29 ((x1 * (6 : Int32)) + x2).toNatClampNeg x3 → vp_in ((x1 * (6 : Int32)) + x2) 24 ∧ ∀ M3, M3 = ms M2 30 ((x1 * (6 : Int32)) + x2).toNatClampNeg x4 → post M3) ex s0 M
theorem k_R_recipe_40 {X : FX} {g : GT} {ext : List CD} {A : Nat → Prop} {Z : State → Prop} {post : Mem → Prop} {ex : String → Mem → Prop} {sk : Nat → Nat} (C : CxX X g (layC ++ ext) A cX11_recipe 5 RX11 8 3 sk) (hT : ThX X g (layC ++ ext) A 3 Z ex) (hR : RetV X g (layC ++ ext) A cX11_recipe 5 3 (6 * 3) Z post) (x1 x2 x3 x4 s0 : Int32) (M : Mem) (h : P_R_recipe_40 post ex x1 x2 x3 x4 s0 M) : AtX X g (layC ++ ext) A 5 2 (6 * 2) Z 40 [(0, .ref (ad g 0)), (1, .int x1), (2, .int x2), (3, .int x3), (4, .int x4)] [.int s0] M := by
  refine x_statV C hT [.int s0] me_yX11_wantNumber lk_RX11_72 (ct_R_wantNumber h) (by decide) rfl rfl (Nat.le_of_ble_eq_true rfl) (tk T_cX11_recipe 21 rfl) (by decide) (fun M1 h => ?_)
  refine a_aload_n C.1 (tk T_cX11_recipe 22 rfl) rfl ?_
  refine a_getR C.1 f_RX11_10 (tk T_cX11_recipe 23 rfl) lc0 rfl ?_
  refine a_getR C.1 f_RX11_345 (tk T_cX11_recipe 24 rfl) lc1 rfl ?_
  refine a_iload_n C.1 (tk T_cX11_recipe 25 rfl) rfl ?_
  refine a_bipush C.1 (6 : Int32) (tk T_cX11_recipe 26 rfl) kB_6 ?_
  refine a_imul C.1 (tk T_cX11_recipe 27 rfl) ?_
  refine a_iload_n C.1 (tk T_cX11_recipe 28 rfl) rfl ?_
  refine a_iadd C.1 (tk T_cX11_recipe 29 rfl) ?_
  refine a_iload_n C.1 (tk T_cX11_recipe 30 rfl) rfl ?_
  obtain ⟨hb, h⟩ := h
  refine a_iast C.1 (tk T_cX11_recipe 31 rfl) lc29 hb ?_
  refine a_mem (fun M2 e_M2 => ?_)
  have h := h M2 e_M2
  refine a_aload_n C.1 (tk T_cX11_recipe 32 rfl) rfl ?_
  refine a_getR C.1 f_RX11_10 (tk T_cX11_recipe 33 rfl) lc0 rfl ?_
  refine a_getR C.1 f_RX11_348 (tk T_cX11_recipe 34 rfl) lc1 rfl ?_
  refine a_iload_n C.1 (tk T_cX11_recipe 35 rfl) rfl ?_
  refine a_bipush C.1 (6 : Int32) (tk T_cX11_recipe 36 rfl) kB_6 ?_
  refine a_imul C.1 (tk T_cX11_recipe 37 rfl) ?_
  refine a_iload_n C.1 (tk T_cX11_recipe 38 rfl) rfl ?_
  refine a_iadd C.1 (tk T_cX11_recipe 39 rfl) ?_
  refine a_iload C.1 (tk T_cX11_recipe 40 rfl) rfl ?_
  obtain ⟨hb, h⟩ := h
  refine a_iast C.1 (tk T_cX11_recipe 41 rfl) lc30 hb ?_
  refine a_mem (fun M3 e_M3 => ?_)
  have h := h M3 e_M3
  exact x_widen (by decide) (by decide) (hR _ _ _ (tk T_cX11_recipe 42 rfl) h)
def P_R_recipe_39 (post : Mem → Prop) (ex : String → Mem → Prop) (x1 x2 x3 x4 : Int32) (M : Mem) : Prop :=
  P_R_recipe_40 post ex x1 x2 x3 x4 (0 : Int32) M
theorem k_R_recipe_39 {X : FX} {g : GT} {ext : List CD} {A : Nat → Prop} {Z : State → Prop} {post : Mem → Prop} {ex : String → Mem → Prop} {sk : Nat → Nat} (C : CxX X g (layC ++ ext) A cX11_recipe 5 RX11 8 3 sk) (hT : ThX X g (layC ++ ext) A 3 Z ex) (hR : RetV X g (layC ++ ext) A cX11_recipe 5 3 (6 * 3) Z post) (x1 x2 x3 x4 : Int32) (M : Mem) (h : P_R_recipe_39 post ex x1 x2 x3 x4 M) : AtX X g (layC ++ ext) A 5 2 (6 * 2) Z 39 [(0, .ref (ad g 0)), (1, .int x1), (2, .int x2), (3, .int x3), (4, .int x4)] [] M := by
  refine a_iconst C.1 (0 : Int32) (tk T_cX11_recipe 20 rfl) kI_0 ?_
  exact x_widen (by decide) (by decide) (a_to (k_R_recipe_40 C hT hR x1 x2 x3 x4 (0 : Int32) M h) rfl)
def P_R_recipe (post : Mem → Prop) (ex : String → Mem → Prop) (x1 x2 x3 x4 : Int32) (M : Mem) : Prop :=
  P_R_wantMaker (fun M1 =>
  P_R_within (fun r2 M2 =>
  P_R_wantThere (fun M3 =>
  P_R_within (fun r4 M4 =>
  (r4 = 0 → (P_R_recipe_39 post ex x1 x2 x3 x4 M4)) ∧
  (¬ r4 = 0 → (P_R_within (fun r5 M5 =>
  (r5 = 0 → (P_R_recipe_39 post ex x1 x2 x3 x4 M5)) ∧
  (¬ r5 = 0 → (P_R_recipe_40 post ex x1 x2 x3 x4 (1 : Int32) M5))) x4 (0 : Int32) (9 : Int32) M4))) x3 (0 : Int32) x4 M3) ex r2 M2) x2 (0 : Int32) (5 : Int32) M1) ex x1 M
theorem k_R_recipe {X : FX} {g : GT} {ext : List CD} {A : Nat → Prop} {Z : State → Prop} {post : Mem → Prop} {ex : String → Mem → Prop} {sk : Nat → Nat} (C : CxX X g (layC ++ ext) A cX11_recipe 5 RX11 8 3 sk) (hT : ThX X g (layC ++ ext) A 3 Z ex) (hR : RetV X g (layC ++ ext) A cX11_recipe 5 3 (6 * 3) Z post) (x1 x2 x3 x4 : Int32) (M : Mem) (h : P_R_recipe post ex x1 x2 x3 x4 M) : AtX X g (layC ++ ext) A 5 0 0 Z 0 [(0, .ref (ad g 0)), (1, .int x1), (2, .int x2), (3, .int x3), (4, .int x4)] [] M := by
  refine a_aload_n C.1 (tk T_cX11_recipe 0 rfl) rfl ?_
  refine a_iload_n C.1 (tk T_cX11_recipe 1 rfl) rfl ?_
  refine x_callV C hT [.int x1] me_yX11_wantMaker lk_RX11_351 (ct_R_wantMaker h) (by decide) lc0 rfl rfl rfl (Nat.le_of_ble_eq_true rfl) (tk T_cX11_recipe 2 rfl) (by decide) (fun M1 h => ?_)
  refine a_iload_n C.1 (tk T_cX11_recipe 3 rfl) rfl ?_
  refine a_iconst C.1 (0 : Int32) (tk T_cX11_recipe 4 rfl) kI_0 ?_
  refine a_iconst C.1 (5 : Int32) (tk T_cX11_recipe 5 rfl) kI_5 ?_
  refine a_statI C.1 [.int x2, .int (0 : Int32), .int (5 : Int32)] me_yX11_within lk_RX11_68 (ct_R_within h) (by decide) rfl rfl (Nat.le_of_ble_eq_true rfl) (tk T_cX11_recipe 6 rfl) ⟨Nat.le_trans (by decide) C.2.2.1, Nat.le_trans (by decide) C.2.2.2⟩ (fun r2 M2 h => ?_)
  refine x_statV C hT [.int r2] me_yX11_wantThere lk_RX11_201 (ct_R_wantThere h) (by decide) rfl rfl (Nat.le_of_ble_eq_true rfl) (tk T_cX11_recipe 7 rfl) (by decide) (fun M3 h => ?_)
  refine a_iload_n C.1 (tk T_cX11_recipe 8 rfl) rfl ?_
  refine a_iconst C.1 (0 : Int32) (tk T_cX11_recipe 9 rfl) kI_0 ?_
  refine a_iload C.1 (tk T_cX11_recipe 10 rfl) rfl ?_
  refine a_statI C.1 [.int x3, .int (0 : Int32), .int x4] me_yX11_within lk_RX11_68 (ct_R_within h) (by decide) rfl rfl (Nat.le_of_ble_eq_true rfl) (tk T_cX11_recipe 11 rfl) ⟨Nat.le_trans (by decide) C.2.2.1, Nat.le_trans (by decide) C.2.2.2⟩ (fun r4 M4 h => ?_)
  refine a_if_eq C.1 39 (tk T_cX11_recipe 12 rfl) rfl (fun c => ?_) (fun c => ?_)
  · have h := h.1 c
    exact x_widen (by decide) (by decide) (a_to (k_R_recipe_39 C hT hR x1 x2 x3 x4 M4 h) rfl)
  · have h := h.2 c
    refine a_iload C.1 (tk T_cX11_recipe 13 rfl) rfl ?_
    refine a_iconst C.1 (0 : Int32) (tk T_cX11_recipe 14 rfl) kI_0 ?_
    refine a_bipush C.1 (9 : Int32) (tk T_cX11_recipe 15 rfl) kB_9 ?_
    refine a_statI C.1 [.int x4, .int (0 : Int32), .int (9 : Int32)] me_yX11_within lk_RX11_68 (ct_R_within h) (by decide) rfl rfl (Nat.le_of_ble_eq_true rfl) (tk T_cX11_recipe 16 rfl) ⟨Nat.le_trans (by decide) C.2.2.1, Nat.le_trans (by decide) C.2.2.2⟩ (fun r5 M5 h => ?_)
    refine a_if_eq C.1 39 (tk T_cX11_recipe 17 rfl) rfl (fun c => ?_) (fun c => ?_)
    · have h := h.1 c
      exact x_widen (by decide) (by decide) (a_to (k_R_recipe_39 C hT hR x1 x2 x3 x4 M5 h) rfl)
    · have h := h.2 c
      refine a_iconst C.1 (1 : Int32) (tk T_cX11_recipe 18 rfl) kI_1 ?_
      refine a_goto C.1 40 (tk T_cX11_recipe 19 rfl) rfl ?_
      exact x_widen (by decide) (by decide) (a_to (k_R_recipe_40 C hT hR x1 x2 x3 x4 (1 : Int32) M5 h) rfl)
theorem ct_R_recipe {l : Launch} {g : GT} {ext : List CD} {sk : Nat → Nat} {post : Mem → Prop} {ex : String → Mem → Prop} {x1 x2 x3 x4 : Int32} {M : Mem} (h : P_R_recipe post ex x1 x2 x3 x4 M) : XV l g (layC ++ ext) sk yX11_recipe cX11_recipe 5 none 8 3 [.ref (ad g 0), .int x1, .int x2, .int x3, .int x4] M post ex :=
  xv_of (by decide +kernel) (Nat.le_of_ble_eq_true rfl) (fun X A Z hl C hR hT _ => by subst hl; exact k_R_recipe C hT hR x1 x2 x3 x4 M h)
def T_cX0_weighL : List (Nat × Instr × Nat) := [(0, .aload_n 0, 1), (1, .getfield 15, 3), (4, .getfield 23, 3), (7, .iload_n 1, 1), (8, .invokevirtual 29, 3), (11, .istore_n 2, 1), (12, .iconst 0, 1), (13, .istore_n 3, 1), (14, .iload_n 3, 1), (15, .aload_n 0, 1), (16, .getfield 15, 3), (19, .getfield 23, 3), (22, .getfield 35, 3), (25, .if_icmp .ge 36, 3), (28, .aload_n 0, 1), (29, .getfield 9, 3), (32, .iload_n 3, 1), (33, .iload_n 2, 1), (34, .iload_n 3, 1), (35, .invokestatic 39, 3), (38, .ifCond .eq 15, 3), (41, .aload_n 0, 1), (42, .getfield 19, 3), (45, .iload_n 1, 1), (46, .iload_n 3, 1), (47, .invokevirtual 43, 3), (50, .goto 4, 3), (53, .iconst 0, 1), (54, .iastore, 1), (55, .iinc 3 1, 3), (58, .goto (-44), 3), (61, .return_, 1)]
theorem T_cX0_weigh : tabOK cX0_weigh T_cX0_weighL = true := by decide +kernel
def P_Bells_weigh_54 (post : Mem → Prop) (R14 : Int32 → Int32 → Int32 → Mem → Prop) (x1 x2 x3 s1 s2 : Int32) (M : Mem) : Prop :=
  vp_in s1 6 ∧ ∀ M1, M1 = ms M 79 s1.toNatClampNeg s2 → R14 x1 x2 (x3 + (1 : Int32)) M1
theorem k_Bells_weigh_54 {X : FX} {g : GT} {ext : List CD} {A : Nat → Prop} {Z : State → Prop} {post : Mem → Prop} {R14 : Int32 → Int32 → Int32 → Mem → Prop} (C : Cx X g (layC ++ ext) A cX0_weigh 4 RX0 4) (hr : 0 ≤ X.2.2.2.1.cells ∧ 0 ≤ X.2.2.2.1.slots) (hR : RetV X g (layC ++ ext) A cX0_weigh 4 0 0 Z post) (k14 : ∀ (y1 y2 y3 : Int32) (M : Mem), R14 y1 y2 y3 M → AtX X g (layC ++ ext) A 4 0 0 Z 14 [(0, .ref (ad g 78)), (1, .int y1), (2, .int y2), (3, .int y3)] [] M) (x1 x2 x3 s1 s2 : Int32) (M : Mem) (h : P_Bells_weigh_54 post R14 x1 x2 x3 s1 s2 M) : AtX X g (layC ++ ext) A 4 0 0 Z 54 [(0, .ref (ad g 78)), (1, .int x1), (2, .int x2), (3, .int x3)] [.int s2, .int s1, .ref (ad g 79)] M := by
  obtain ⟨hb, h⟩ := h
  refine a_iast C (tk T_cX0_weigh 28 rfl) lc79 hb ?_
  refine a_mem (fun M1 e_M1 => ?_)
  have h := h M1 e_M1
  refine a_iinc C (1 : Int32) (tk T_cX0_weigh 29 rfl) rfl kI_1 (by decide) rfl ?_
  refine a_goto C 14 (tk T_cX0_weigh 30 rfl) rfl ?_
  exact a_to (k14 x1 x2 (x3 + (1 : Int32)) M1 h) rfl
def P_Bells_weigh_14 (post : Mem → Prop) : Nat → Int32 → Int32 → Int32 → Mem → Prop
  | 0, _, _, _, _ => False
  | n + 1, x1, x2, x3, M =>
    ((M 13 4) ≤ x3 → (post M)) ∧
  (¬ (M 13 4) ≤ x3 → (P_R_has (fun r1 M1 =>
  (r1 = 0 → (P_Bells_weigh_54 post (P_Bells_weigh_14 post n) x1 x2 x3 x3 (0 : Int32) M1)) ∧
  (¬ r1 = 0 → (P_Judge_amountBits (fun r2 M2 =>
  P_Bells_weigh_54 post (P_Bells_weigh_14 post n) x1 x2 x3 x3 r2 M2) x1 x3 M1))) x2 x3 M))
theorem k_Bells_weigh_14 {X : FX} {g : GT} {ext : List CD} {A : Nat → Prop} {Z : State → Prop} {post : Mem → Prop} (C : Cx X g (layC ++ ext) A cX0_weigh 4 RX0 4) (hr : 0 ≤ X.2.2.2.1.cells ∧ 0 ≤ X.2.2.2.1.slots) (hR : RetV X g (layC ++ ext) A cX0_weigh 4 0 0 Z post) : ∀ (n : Nat) (x1 x2 x3 : Int32) (M : Mem), P_Bells_weigh_14 post n x1 x2 x3 M → AtX X g (layC ++ ext) A 4 0 0 Z 14 [(0, .ref (ad g 78)), (1, .int x1), (2, .int x2), (3, .int x3)] [] M := by
  intro n
  induction n with
  | zero =>
    intro x1 x2 x3 M h
    exact h.elim
  | succ n ih =>
    intro x1 x2 x3 M h
    refine a_iload_n C (tk T_cX0_weigh 8 rfl) rfl ?_
    refine a_aload_n C (tk T_cX0_weigh 9 rfl) rfl ?_
    refine a_getR C f_RX0_15 (tk T_cX0_weigh 10 rfl) lc78 rfl ?_
    refine a_getR C f_RX0_23 (tk T_cX0_weigh 11 rfl) lc1 rfl ?_
    refine a_getI C f_RX0_35 (tk T_cX0_weigh 12 rfl) lc13 rfl ?_
    refine a_icmp_ge C 61 (tk T_cX0_weigh 13 rfl) rfl (fun c => ?_) (fun c => ?_)
    · have h := h.1 c
      exact hR _ _ _ (tk T_cX0_weigh 31 rfl) h
    · have h := h.2 c
      refine a_aload_n C (tk T_cX0_weigh 14 rfl) rfl ?_
      refine a_getR C f_RX0_9 (tk T_cX0_weigh 15 rfl) lc78 rfl ?_
      refine a_iload_n C (tk T_cX0_weigh 16 rfl) rfl ?_
      refine a_iload_n C (tk T_cX0_weigh 17 rfl) rfl ?_
      refine a_iload_n C (tk T_cX0_weigh 18 rfl) rfl ?_
      refine a_nestI C [.int x2, .int x3] me_yX11_has lk_RX0_39 (ct_R_has h) (by decide) rfl rfl (Nat.le_of_ble_eq_true rfl) (tk T_cX0_weigh 19 rfl) hr (fun r1 M1 h => ?_)
      refine a_if_eq C 53 (tk T_cX0_weigh 20 rfl) rfl (fun c => ?_) (fun c => ?_)
      · have h := h.1 c
        refine a_iconst C (0 : Int32) (tk T_cX0_weigh 27 rfl) kI_0 ?_
        exact a_to (k_Bells_weigh_54 C hr hR ih x1 x2 x3 x3 (0 : Int32) M1 h) rfl
      · have h := h.2 c
        refine a_aload_n C (tk T_cX0_weigh 21 rfl) rfl ?_
        refine a_getR C f_RX0_19 (tk T_cX0_weigh 22 rfl) lc78 rfl ?_
        refine a_iload_n C (tk T_cX0_weigh 23 rfl) rfl ?_
        refine a_iload_n C (tk T_cX0_weigh 24 rfl) rfl ?_
        refine a_callI C [.int x1, .int x3] me_yX3_amountBits lk_RX0_43 (ct_Judge_amountBits h) (by decide) lc69 rfl rfl rfl (Nat.le_of_ble_eq_true rfl) (tk T_cX0_weigh 25 rfl) hr (fun r2 M2 h => ?_)
        refine a_goto C 54 (tk T_cX0_weigh 26 rfl) rfl ?_
        exact a_to (k_Bells_weigh_54 C hr hR ih x1 x2 x3 x3 r2 M2 h) rfl
def P_Bells_weigh (post : Mem → Prop) (x1 : Int32) (M : Mem) : Prop :=
  P_Table_withoutAir (fun r1 M1 =>
  ∃ j14, P_Bells_weigh_14 post j14 x1 r1 (0 : Int32) M1) x1 M
theorem k_Bells_weigh {X : FX} {g : GT} {ext : List CD} {A : Nat → Prop} {Z : State → Prop} {post : Mem → Prop} (C : Cx X g (layC ++ ext) A cX0_weigh 4 RX0 4) (hr : 0 ≤ X.2.2.2.1.cells ∧ 0 ≤ X.2.2.2.1.slots) (hR : RetV X g (layC ++ ext) A cX0_weigh 4 0 0 Z post) (x1 : Int32) (M : Mem) (h : P_Bells_weigh post x1 M) : AtX X g (layC ++ ext) A 4 0 0 Z 0 [(0, .ref (ad g 78)), (1, .int x1)] [] M := by
  refine a_aload_n C (tk T_cX0_weigh 0 rfl) rfl ?_
  refine a_getR C f_RX0_15 (tk T_cX0_weigh 1 rfl) lc78 rfl ?_
  refine a_getR C f_RX0_23 (tk T_cX0_weigh 2 rfl) lc1 rfl ?_
  refine a_iload_n C (tk T_cX0_weigh 3 rfl) rfl ?_
  refine a_callI C [.int x1] me_yX10_withoutAir lk_RX0_29 (ct_Table_withoutAir h) (by decide) lc13 rfl rfl rfl (Nat.le_of_ble_eq_true rfl) (tk T_cX0_weigh 4 rfl) hr (fun r1 M1 h => ?_)
  refine a_istore_n C (tk T_cX0_weigh 5 rfl) (by decide) rfl ?_
  refine a_iconst C (0 : Int32) (tk T_cX0_weigh 6 rfl) kI_0 ?_
  refine a_istore_n C (tk T_cX0_weigh 7 rfl) (by decide) rfl ?_
  obtain ⟨n1, h⟩ := h
  exact a_to (k_Bells_weigh_14 C hr hR n1 x1 r1 (0 : Int32) M1 h) rfl
theorem ct_Bells_weigh {l : Launch} {g : GT} {ext : List CD} {post : Mem → Prop} {x1 : Int32} {M : Mem} (h : P_Bells_weigh post x1 M) : CV l g (layC ++ ext) yX0_weigh cX0_weigh 4 none 4 [.ref (ad g 78), .int x1] M post :=
  cv_of (plainFor_of_name (by decide +kernel)) (Nat.le_of_ble_eq_true rfl) (fun X A Z hl C hr hR => by subst hl; exact k_Bells_weigh C hr hR x1 M h)
def T_cX0_commonPartL : List (Nat × Instr × Nat) := [(0, .iload_n 0, 1), (1, .iload_n 1, 1), (2, .invokestatic 76, 3), (5, .istore_n 2, 1), (6, .iload_n 0, 1), (7, .iload_n 1, 1), (8, .invokestatic 81, 3), (11, .istore_n 3, 1), (12, .iconst 0, 1), (13, .istore 4, 2), (15, .iload 4, 2), (17, .bipush 64, 2), (19, .if_icmp .ge 23, 3), (22, .iload_n 3, 1), (23, .ifCond .eq 19, 3), (26, .iload_n 2, 1), (27, .iload_n 3, 1), (28, .irem, 1), (29, .istore 5, 2), (31, .iload_n 3, 1), (32, .istore_n 2, 1), (33, .iload 5, 2), (35, .istore_n 3, 1), (36, .iinc 4 1, 3), (39, .goto (-24), 3), (42, .iload_n 2, 1), (43, .ireturn, 1)]
theorem T_cX0_commonPart : tabOK cX0_commonPart T_cX0_commonPartL = true := by decide +kernel
def P_Bells_commonPart_42 (post : Int32 → Mem → Prop) (x2 : Int32) (M : Mem) : Prop :=
  post x2 M
theorem k_Bells_commonPart_42 {X : FX} {g : GT} {ext : List CD} {A : Nat → Prop} {Z : State → Prop} {post : Int32 → Mem → Prop} (C : Cx X g (layC ++ ext) A cX0_commonPart 6 RX0 1) (hr : 0 ≤ X.2.2.2.1.cells ∧ 0 ≤ X.2.2.2.1.slots) (hR : RetI X g (layC ++ ext) A cX0_commonPart 6 0 0 Z post) (x2 : Int32) (M : Mem) (h : P_Bells_commonPart_42 post x2 M) : AtX X g (layC ++ ext) A 6 0 0 Z 42 [(2, .int x2)] [] M := by
  refine a_iload_n C (tk T_cX0_commonPart 25 rfl) rfl ?_
  exact hR _ _ _ _ (tk T_cX0_commonPart 26 rfl) h
def P_Bells_commonPart_15 (post : Int32 → Mem → Prop) : Nat → Int32 → Int32 → Int32 → Mem → Prop
  | 0, _, _, _, _ => False
  | n + 1, x2, x3, x4, M =>
    ((64 : Int32) ≤ x4 → (P_Bells_commonPart_42 post x2 M)) ∧
  (¬ (64 : Int32) ≤ x4 → ((x3 = 0 → (P_Bells_commonPart_42 post x2 M)) ∧
  (¬ x3 = 0 → ((¬ x3 = 0) ∧ ∀ x5_1, x5_1 = (irm x2 x3) → P_Bells_commonPart_15 post n x3 x5_1 (x4 + (1 : Int32)) M))))
theorem k_Bells_commonPart_15 {X : FX} {g : GT} {ext : List CD} {A : Nat → Prop} {Z : State → Prop} {post : Int32 → Mem → Prop} (C : Cx X g (layC ++ ext) A cX0_commonPart 6 RX0 1) (hr : 0 ≤ X.2.2.2.1.cells ∧ 0 ≤ X.2.2.2.1.slots) (hR : RetI X g (layC ++ ext) A cX0_commonPart 6 0 0 Z post) : ∀ (n : Nat) (x2 x3 x4 : Int32) (M : Mem), P_Bells_commonPart_15 post n x2 x3 x4 M → AtX X g (layC ++ ext) A 6 0 0 Z 15 [(2, .int x2), (3, .int x3), (4, .int x4)] [] M := by
  intro n
  induction n with
  | zero =>
    intro x2 x3 x4 M h
    exact h.elim
  | succ n ih =>
    intro x2 x3 x4 M h
    refine a_iload C (tk T_cX0_commonPart 10 rfl) rfl ?_
    refine a_bipush C (64 : Int32) (tk T_cX0_commonPart 11 rfl) kB_64 ?_
    refine a_icmp_ge C 42 (tk T_cX0_commonPart 12 rfl) rfl (fun c => ?_) (fun c => ?_)
    · have h := h.1 c
      exact a_to (k_Bells_commonPart_42 C hr hR x2 M h) rfl
    · have h := h.2 c
      refine a_iload_n C (tk T_cX0_commonPart 13 rfl) rfl ?_
      refine a_if_eq C 42 (tk T_cX0_commonPart 14 rfl) rfl (fun c => ?_) (fun c => ?_)
      · have h := h.1 c
        exact a_to (k_Bells_commonPart_42 C hr hR x2 M h) rfl
      · have h := h.2 c
        refine a_iload_n C (tk T_cX0_commonPart 15 rfl) rfl ?_
        refine a_iload_n C (tk T_cX0_commonPart 16 rfl) rfl ?_
        obtain ⟨hy, h⟩ := h
        refine a_irem C (tk T_cX0_commonPart 17 rfl) hy ?_
        refine a_top (fun x5_1 e_x5_1 => ?_)
        have h := h x5_1 e_x5_1
        refine a_istore C (tk T_cX0_commonPart 18 rfl) (by decide) rfl ?_
        refine a_iload_n C (tk T_cX0_commonPart 19 rfl) rfl ?_
        refine a_istore_n C (tk T_cX0_commonPart 20 rfl) (by decide) rfl ?_
        refine a_iload C (tk T_cX0_commonPart 21 rfl) rfl ?_
        refine a_istore_n C (tk T_cX0_commonPart 22 rfl) (by decide) rfl ?_
        refine a_iinc C (1 : Int32) (tk T_cX0_commonPart 23 rfl) rfl kI_1 (by decide) rfl ?_
        refine a_goto C 15 (tk T_cX0_commonPart 24 rfl) rfl ?_
        exact a_to (ih x3 x5_1 (x4 + (1 : Int32)) M h) rfl
def P_Bells_commonPart (post : Int32 → Mem → Prop) (x0 x1 : Int32) (M : Mem) : Prop :=
  P_Math_max (fun r1 M1 =>
  P_Math_min (fun r2 M2 =>
  ∃ j15, P_Bells_commonPart_15 post j15 r1 r2 (0 : Int32) M2) x0 x1 M1) x0 x1 M
theorem k_Bells_commonPart {X : FX} {g : GT} {ext : List CD} {A : Nat → Prop} {Z : State → Prop} {post : Int32 → Mem → Prop} (C : Cx X g (layC ++ ext) A cX0_commonPart 6 RX0 1) (hr : 0 ≤ X.2.2.2.1.cells ∧ 0 ≤ X.2.2.2.1.slots) (hR : RetI X g (layC ++ ext) A cX0_commonPart 6 0 0 Z post) (x0 x1 : Int32) (M : Mem) (h : P_Bells_commonPart post x0 x1 M) : AtX X g (layC ++ ext) A 6 0 0 Z 0 [(0, .int x0), (1, .int x1)] [] M := by
  refine a_iload_n C (tk T_cX0_commonPart 0 rfl) rfl ?_
  refine a_iload_n C (tk T_cX0_commonPart 1 rfl) rfl ?_
  refine a_statI C [.int x0, .int x1] me_yJ9_max_7cf53 lk_RX0_76 (ct_Math_max h) (by decide) rfl rfl (Nat.le_of_ble_eq_true rfl) (tk T_cX0_commonPart 2 rfl) hr (fun r1 M1 h => ?_)
  refine a_istore_n C (tk T_cX0_commonPart 3 rfl) (by decide) rfl ?_
  refine a_iload_n C (tk T_cX0_commonPart 4 rfl) rfl ?_
  refine a_iload_n C (tk T_cX0_commonPart 5 rfl) rfl ?_
  refine a_statI C [.int x0, .int x1] me_yJ9_min_7cf53 lk_RX0_81 (ct_Math_min h) (by decide) rfl rfl (Nat.le_of_ble_eq_true rfl) (tk T_cX0_commonPart 6 rfl) hr (fun r2 M2 h => ?_)
  refine a_istore_n C (tk T_cX0_commonPart 7 rfl) (by decide) rfl ?_
  refine a_iconst C (0 : Int32) (tk T_cX0_commonPart 8 rfl) kI_0 ?_
  refine a_istore C (tk T_cX0_commonPart 9 rfl) (by decide) rfl ?_
  obtain ⟨n1, h⟩ := h
  exact a_to (k_Bells_commonPart_15 C hr hR n1 r1 r2 (0 : Int32) M2 h) rfl
theorem ct_Bells_commonPart {l : Launch} {g : GT} {ext : List CD} {post : Int32 → Mem → Prop} {x0 x1 : Int32} {M : Mem} (h : P_Bells_commonPart post x0 x1 M) : CI l g (layC ++ ext) yX0_commonPart cX0_commonPart 6 (some .int) 1 [.int x0, .int x1] M post :=
  ci_of (plainFor_of_name (by decide +kernel)) (Nat.le_of_ble_eq_true rfl) (fun X A Z hl C hr hR => by subst hl; exact k_Bells_commonPart C hr hR x0 x1 M h)
def T_cX0_amountsFromToL : List (Nat × Instr × Nat) := [(0, .iconst 0, 1), (1, .istore_n 2, 1), (2, .iload_n 0, 1), (3, .istore_n 3, 1), (4, .iload_n 3, 1), (5, .iload_n 1, 1), (6, .if_icmp .gt 21, 3), (9, .iload_n 3, 1), (10, .bipush 9, 2), (12, .if_icmp .gt 15, 3), (15, .iload_n 2, 1), (16, .iconst 1, 1), (17, .iload_n 3, 1), (18, .ishl, 1), (19, .ior, 1), (20, .istore_n 2, 1), (21, .iinc 3 1, 3), (24, .goto (-20), 3), (27, .iload_n 2, 1), (28, .ireturn, 1)]
theorem T_cX0_amountsFromTo : tabOK cX0_amountsFromTo T_cX0_amountsFromToL = true := by decide +kernel
def P_Bells_amountsFromTo_27 (post : Int32 → Mem → Prop) (x2 : Int32) (M : Mem) : Prop :=
  post x2 M
theorem k_Bells_amountsFromTo_27 {X : FX} {g : GT} {ext : List CD} {A : Nat → Prop} {Z : State → Prop} {post : Int32 → Mem → Prop} (C : Cx X g (layC ++ ext) A cX0_amountsFromTo 4 RX0 0) (hr : 0 ≤ X.2.2.2.1.cells ∧ 0 ≤ X.2.2.2.1.slots) (hR : RetI X g (layC ++ ext) A cX0_amountsFromTo 4 0 0 Z post) (x2 : Int32) (M : Mem) (h : P_Bells_amountsFromTo_27 post x2 M) : AtX X g (layC ++ ext) A 4 0 0 Z 27 [(2, .int x2)] [] M := by
  refine a_iload_n C (tk T_cX0_amountsFromTo 18 rfl) rfl ?_
  exact hR _ _ _ _ (tk T_cX0_amountsFromTo 19 rfl) h
def P_Bells_amountsFromTo_4 (post : Int32 → Mem → Prop) : Nat → Int32 → Int32 → Int32 → Mem → Prop
  | 0, _, _, _, _ => False
  | n + 1, x1, x2, x3, M =>
    (x1 < x3 → (P_Bells_amountsFromTo_27 post x2 M)) ∧
  (¬ x1 < x3 → (((9 : Int32) < x3 → (P_Bells_amountsFromTo_27 post x2 M)) ∧
  (¬ (9 : Int32) < x3 → (∀ x2_1, x2_1 = (x2 ||| ((1 : Int32) <<< (x3 &&& 31))) → P_Bells_amountsFromTo_4 post n x1 x2_1 (x3 + (1 : Int32)) M))))
theorem k_Bells_amountsFromTo_4 {X : FX} {g : GT} {ext : List CD} {A : Nat → Prop} {Z : State → Prop} {post : Int32 → Mem → Prop} (C : Cx X g (layC ++ ext) A cX0_amountsFromTo 4 RX0 0) (hr : 0 ≤ X.2.2.2.1.cells ∧ 0 ≤ X.2.2.2.1.slots) (hR : RetI X g (layC ++ ext) A cX0_amountsFromTo 4 0 0 Z post) : ∀ (n : Nat) (x1 x2 x3 : Int32) (M : Mem), P_Bells_amountsFromTo_4 post n x1 x2 x3 M → AtX X g (layC ++ ext) A 4 0 0 Z 4 [(1, .int x1), (2, .int x2), (3, .int x3)] [] M := by
  intro n
  induction n with
  | zero =>
    intro x1 x2 x3 M h
    exact h.elim
  | succ n ih =>
    intro x1 x2 x3 M h
    refine a_iload_n C (tk T_cX0_amountsFromTo 4 rfl) rfl ?_
    refine a_iload_n C (tk T_cX0_amountsFromTo 5 rfl) rfl ?_
    refine a_icmp_gt C 27 (tk T_cX0_amountsFromTo 6 rfl) rfl (fun c => ?_) (fun c => ?_)
    · have h := h.1 c
      exact a_to (k_Bells_amountsFromTo_27 C hr hR x2 M h) rfl
    · have h := h.2 c
      refine a_iload_n C (tk T_cX0_amountsFromTo 7 rfl) rfl ?_
      refine a_bipush C (9 : Int32) (tk T_cX0_amountsFromTo 8 rfl) kB_9 ?_
      refine a_icmp_gt C 27 (tk T_cX0_amountsFromTo 9 rfl) rfl (fun c => ?_) (fun c => ?_)
      · have h := h.1 c
        exact a_to (k_Bells_amountsFromTo_27 C hr hR x2 M h) rfl
      · have h := h.2 c
        refine a_iload_n C (tk T_cX0_amountsFromTo 10 rfl) rfl ?_
        refine a_iconst C (1 : Int32) (tk T_cX0_amountsFromTo 11 rfl) kI_1 ?_
        refine a_iload_n C (tk T_cX0_amountsFromTo 12 rfl) rfl ?_
        refine a_ishl C (tk T_cX0_amountsFromTo 13 rfl) ?_
        refine a_ior C (tk T_cX0_amountsFromTo 14 rfl) ?_
        refine a_top (fun x2_1 e_x2_1 => ?_)
        have h := h x2_1 e_x2_1
        refine a_istore_n C (tk T_cX0_amountsFromTo 15 rfl) (by decide) rfl ?_
        refine a_iinc C (1 : Int32) (tk T_cX0_amountsFromTo 16 rfl) rfl kI_1 (by decide) rfl ?_
        refine a_goto C 4 (tk T_cX0_amountsFromTo 17 rfl) rfl ?_
        exact a_to (ih x1 x2_1 (x3 + (1 : Int32)) M h) rfl
def P_Bells_amountsFromTo (post : Int32 → Mem → Prop) (x0 x1 : Int32) (M : Mem) : Prop :=
  ∃ j4, P_Bells_amountsFromTo_4 post j4 x1 (0 : Int32) x0 M
theorem k_Bells_amountsFromTo {X : FX} {g : GT} {ext : List CD} {A : Nat → Prop} {Z : State → Prop} {post : Int32 → Mem → Prop} (C : Cx X g (layC ++ ext) A cX0_amountsFromTo 4 RX0 0) (hr : 0 ≤ X.2.2.2.1.cells ∧ 0 ≤ X.2.2.2.1.slots) (hR : RetI X g (layC ++ ext) A cX0_amountsFromTo 4 0 0 Z post) (x0 x1 : Int32) (M : Mem) (h : P_Bells_amountsFromTo post x0 x1 M) : AtX X g (layC ++ ext) A 4 0 0 Z 0 [(0, .int x0), (1, .int x1)] [] M := by
  refine a_iconst C (0 : Int32) (tk T_cX0_amountsFromTo 0 rfl) kI_0 ?_
  refine a_istore_n C (tk T_cX0_amountsFromTo 1 rfl) (by decide) rfl ?_
  refine a_iload_n C (tk T_cX0_amountsFromTo 2 rfl) rfl ?_
  refine a_istore_n C (tk T_cX0_amountsFromTo 3 rfl) (by decide) rfl ?_
  obtain ⟨n1, h⟩ := h
  exact a_to (k_Bells_amountsFromTo_4 C hr hR n1 x1 (0 : Int32) x0 M h) rfl
theorem ct_Bells_amountsFromTo {l : Launch} {g : GT} {ext : List CD} {post : Int32 → Mem → Prop} {x0 x1 : Int32} {M : Mem} (h : P_Bells_amountsFromTo post x0 x1 M) : CI l g (layC ++ ext) yX0_amountsFromTo cX0_amountsFromTo 4 (some .int) 0 [.int x0, .int x1] M post :=
  ci_of (plainFor_of_name (by decide +kernel)) (Nat.le_of_ble_eq_true rfl) (fun X A Z hl C hr hR => by subst hl; exact k_Bells_amountsFromTo C hr hR x0 x1 M h)
def T_cX0_reckonL : List (Nat × Instr × Nat) := [(0, .aload_n 0, 1), (1, .getfield 15, 3), (4, .getfield 23, 3), (7, .iload_n 1, 1), (8, .invokevirtual 29, 3), (11, .istore_n 3, 1), (12, .aload_n 0, 1), (13, .iconst 1, 1), (14, .putfield 49, 3), (17, .aload_n 0, 1), (18, .iconst 1, 1), (19, .putfield 52, 3), (22, .iconst 0, 1), (23, .istore 4, 2), (25, .iload 4, 2), (27, .aload_n 0, 1), (28, .getfield 15, 3), (31, .getfield 23, 3), (34, .getfield 35, 3), (37, .if_icmp .ge 130, 3), (40, .iload_n 2, 1), (41, .bipush 6, 2), (43, .imul, 1), (44, .iload 4, 2), (46, .iadd, 1), (47, .istore 5, 2), (49, .iload_n 3, 1), (50, .iload 4, 2), (52, .invokestatic 39, 3), (55, .ifCond .eq 72, 3), (58, .aload_n 0, 1), (59, .getfield 9, 3), (62, .iload 4, 2), (64, .iaload, 1), (65, .aload_n 0, 1), (66, .getfield 15, 3), (69, .getfield 55, 3), (72, .iload 5, 2), (74, .iaload, 1), (75, .aload_n 0, 1), (76, .getfield 15, 3), (79, .getfield 58, 3), (82, .iload 5, 2), (84, .iaload, 1), (85, .invokestatic 61, 3), (88, .iand, 1), (89, .istore 6, 2), (91, .aload_n 0, 1), (92, .dup, 1), (93, .getfield 49, 3), (96, .iload 6, 2), (98, .invokestatic 64, 3), (101, .imul, 1), (102, .putfield 49, 3), (105, .aload_n 0, 1), (106, .dup, 1), (107, .getfield 52, 3), (110, .aload_n 0, 1), (111, .getfield 9, 3), (114, .iload 4, 2), (116, .iaload, 1), (117, .invokestatic 64, 3), (120, .imul, 1), (121, .putfield 52, 3), (124, .goto 37, 3), (127, .aload_n 0, 1), (128, .getfield 15, 3), (131, .getfield 23, 3), (134, .getfield 69, 3), (137, .iload 4, 2), (139, .baload, 1), (140, .ifCond .ne 21, 3), (143, .aload_n 0, 1), (144, .getfield 15, 3), (147, .getfield 55, 3), (150, .iload 5, 2), (152, .iaload, 1), (153, .ifCond .le 8, 3), (156, .aload_n 0, 1), (157, .iconst 0, 1), (158, .putfield 49, 3), (161, .iinc 4 1, 3), (164, .goto (-139), 3), (167, .aload_n 0, 1), (168, .getfield 49, 3), (171, .aload_n 0, 1), (172, .getfield 52, 3), (175, .invokestatic 73, 3), (178, .istore 4, 2), (180, .aload_n 0, 1), (181, .getfield 49, 3), (184, .ifCond .eq 8, 3), (187, .iload 4, 2), (189, .ifCond .ne 14, 3), (192, .aload_n 0, 1), (193, .iconst 0, 1), (194, .putfield 49, 3), (197, .aload_n 0, 1), (198, .iconst 1, 1), (199, .putfield 52, 3), (202, .return_, 1), (203, .aload_n 0, 1), (204, .dup, 1), (205, .getfield 49, 3), (208, .iload 4, 2), (210, .idiv, 1), (211, .putfield 49, 3), (214, .aload_n 0, 1), (215, .dup, 1), (216, .getfield 52, 3), (219, .iload 4, 2), (221, .idiv, 1), (222, .putfield 52, 3), (225, .return_, 1)]
theorem T_cX0_reckon : tabOK cX0_reckon T_cX0_reckonL = true := by decide +kernel
def P_Bells_reckon_192 (post : Mem → Prop) (M : Mem) : Prop :=
  ∀ M1, M1 = ms M 78 3 (0 : Int32) → ∀ M2, M2 = ms M1 78 4 (1 : Int32) → post M2
theorem k_Bells_reckon_192 {X : FX} {g : GT} {ext : List CD} {A : Nat → Prop} {Z : State → Prop} {post : Mem → Prop} (C : Cx X g (layC ++ ext) A cX0_reckon 7 RX0 2) (hr : 0 ≤ X.2.2.2.1.cells ∧ 0 ≤ X.2.2.2.1.slots) (hR : RetV X g (layC ++ ext) A cX0_reckon 7 0 0 Z post)  (M : Mem) (h : P_Bells_reckon_192 post M) : AtX X g (layC ++ ext) A 7 0 0 Z 192 [(0, .ref (ad g 78))] [] M := by
  refine a_aload_n C (tk T_cX0_reckon 94 rfl) rfl ?_
  refine a_iconst C (0 : Int32) (tk T_cX0_reckon 95 rfl) kI_0 ?_
  refine a_put C f_RX0_49 f_RX0_49p rfl rfl (tk T_cX0_reckon 96 rfl) lc78 rfl ?_
  refine a_mem (fun M1 e_M1 => ?_)
  have h := h M1 e_M1
  refine a_aload_n C (tk T_cX0_reckon 97 rfl) rfl ?_
  refine a_iconst C (1 : Int32) (tk T_cX0_reckon 98 rfl) kI_1 ?_
  refine a_put C f_RX0_52 f_RX0_52p rfl rfl (tk T_cX0_reckon 99 rfl) lc78 rfl ?_
  refine a_mem (fun M2 e_M2 => ?_)
  have h := h M2 e_M2
  exact hR _ _ _ (tk T_cX0_reckon 100 rfl) h
def P_Bells_reckon_161 (post : Mem → Prop) (R25 : Int32 → Int32 → Int32 → Mem → Prop) (x2 x3 x4 : Int32) (M : Mem) : Prop :=
  R25 x2 x3 (x4 + (1 : Int32)) M
theorem k_Bells_reckon_161 {X : FX} {g : GT} {ext : List CD} {A : Nat → Prop} {Z : State → Prop} {post : Mem → Prop} {R25 : Int32 → Int32 → Int32 → Mem → Prop} (C : Cx X g (layC ++ ext) A cX0_reckon 7 RX0 2) (hr : 0 ≤ X.2.2.2.1.cells ∧ 0 ≤ X.2.2.2.1.slots) (hR : RetV X g (layC ++ ext) A cX0_reckon 7 0 0 Z post) (k25 : ∀ (y2 y3 y4 : Int32) (M : Mem), R25 y2 y3 y4 M → AtX X g (layC ++ ext) A 7 0 0 Z 25 [(0, .ref (ad g 78)), (2, .int y2), (3, .int y3), (4, .int y4)] [] M) (x2 x3 x4 : Int32) (M : Mem) (h : P_Bells_reckon_161 post R25 x2 x3 x4 M) : AtX X g (layC ++ ext) A 7 0 0 Z 161 [(0, .ref (ad g 78)), (2, .int x2), (3, .int x3), (4, .int x4)] [] M := by
  refine a_iinc C (1 : Int32) (tk T_cX0_reckon 81 rfl) rfl kI_1 (by decide) rfl ?_
  refine a_goto C 25 (tk T_cX0_reckon 82 rfl) rfl ?_
  exact a_to (k25 x2 x3 (x4 + (1 : Int32)) M h) rfl
def P_Bells_reckon_25 (post : Mem → Prop) : Nat → Int32 → Int32 → Int32 → Mem → Prop
  | 0, _, _, _, _ => False
  | n + 1, x2, x3, x4, M =>
    ((M 13 4) ≤ x4 → (P_Bells_commonPart (fun r1 M1 =>
  ((M1 78 3) = 0 → (P_Bells_reckon_192 post M1)) ∧
  (¬ (M1 78 3) = 0 → ((¬ r1 = 0 → ((¬ r1 = 0) ∧ ∀ M2, M2 = ms M1 78 3 ((M1 78 3) / r1) → (¬ r1 = 0) ∧ ∀ M3, M3 = ms M2 78 4 ((M2 78 4) / r1) → post M3)) ∧
  (r1 = 0 → (P_Bells_reckon_192 post M1))))) (M 78 3) (M 78 4) M)) ∧
  (¬ (M 13 4) ≤ x4 → (∀ x5_4, x5_4 = ((x2 * (6 : Int32)) + x4) → P_R_has (fun r5 M5 =>
  (r5 = 0 → (vp_in x4 6 ∧ (¬ (M5 14 x4.toNatClampNeg) = 0 → (P_Bells_reckon_161 post (P_Bells_reckon_25 post n) x2 x3 x4 M5)) ∧
  ((M5 14 x4.toNatClampNeg) = 0 → (vp_in x5_4 24 ∧ ((M5 29 x5_4.toNatClampNeg) ≤ 0 → (P_Bells_reckon_161 post (P_Bells_reckon_25 post n) x2 x3 x4 M5)) ∧
  (¬ (M5 29 x5_4.toNatClampNeg) ≤ 0 → (∀ M6, M6 = ms M5 78 3 (0 : Int32) → P_Bells_reckon_161 post (P_Bells_reckon_25 post n) x2 x3 x4 M6)))))) ∧
  (¬ r5 = 0 → (vp_in x4 6 ∧ vp_in x5_4 24 ∧ vp_in x5_4 24 ∧ P_Bells_amountsFromTo (fun r7 M7 =>
  ∀ x6_8, x6_8 = ((M5 79 x4.toNatClampNeg) &&& r7) → P_Integer_bitCount (fun r9 M9 =>
  ∀ M10, M10 = ms M9 78 3 ((M7 78 3) * r9) → vp_in x4 6 ∧ P_Integer_bitCount (fun r11 M11 =>
  ∀ M12, M12 = ms M11 78 4 ((M10 78 4) * r11) → P_Bells_reckon_161 post (P_Bells_reckon_25 post n) x2 x3 x4 M12) (M10 79 x4.toNatClampNeg) M10) x6_8 M7) (M5 29 x5_4.toNatClampNeg) (M5 30 x5_4.toNatClampNeg) M5))) x3 x4 M))
theorem k_Bells_reckon_25 {X : FX} {g : GT} {ext : List CD} {A : Nat → Prop} {Z : State → Prop} {post : Mem → Prop} (C : Cx X g (layC ++ ext) A cX0_reckon 7 RX0 2) (hr : 0 ≤ X.2.2.2.1.cells ∧ 0 ≤ X.2.2.2.1.slots) (hR : RetV X g (layC ++ ext) A cX0_reckon 7 0 0 Z post) : ∀ (n : Nat) (x2 x3 x4 : Int32) (M : Mem), P_Bells_reckon_25 post n x2 x3 x4 M → AtX X g (layC ++ ext) A 7 0 0 Z 25 [(0, .ref (ad g 78)), (2, .int x2), (3, .int x3), (4, .int x4)] [] M := by
  intro n
  induction n with
  | zero =>
    intro x2 x3 x4 M h
    exact h.elim
  | succ n ih =>
    intro x2 x3 x4 M h
    refine a_iload C (tk T_cX0_reckon 14 rfl) rfl ?_
    refine a_aload_n C (tk T_cX0_reckon 15 rfl) rfl ?_
    refine a_getR C f_RX0_15 (tk T_cX0_reckon 16 rfl) lc78 rfl ?_
    refine a_getR C f_RX0_23 (tk T_cX0_reckon 17 rfl) lc1 rfl ?_
    refine a_getI C f_RX0_35 (tk T_cX0_reckon 18 rfl) lc13 rfl ?_
    refine a_icmp_ge C 167 (tk T_cX0_reckon 19 rfl) rfl (fun c => ?_) (fun c => ?_)
    · have h := h.1 c
      refine a_aload_n C (tk T_cX0_reckon 83 rfl) rfl ?_
      refine a_getI C f_RX0_49 (tk T_cX0_reckon 84 rfl) lc78 rfl ?_
      refine a_aload_n C (tk T_cX0_reckon 85 rfl) rfl ?_
      refine a_getI C f_RX0_52 (tk T_cX0_reckon 86 rfl) lc78 rfl ?_
      refine a_statI C [.int (M 78 3), .int (M 78 4)] me_yX0_commonPart lk_RX0_73 (ct_Bells_commonPart h) (by decide) rfl rfl (Nat.le_of_ble_eq_true rfl) (tk T_cX0_reckon 87 rfl) hr (fun r1 M1 h => ?_)
      refine a_istore C (tk T_cX0_reckon 88 rfl) (by decide) rfl ?_
      refine a_aload_n C (tk T_cX0_reckon 89 rfl) rfl ?_
      refine a_getI C f_RX0_49 (tk T_cX0_reckon 90 rfl) lc78 rfl ?_
      refine a_if_eq C 192 (tk T_cX0_reckon 91 rfl) rfl (fun c => ?_) (fun c => ?_)
      · have h := h.1 c
        exact a_to (k_Bells_reckon_192 C hr hR M1 h) rfl
      · have h := h.2 c
        refine a_iload C (tk T_cX0_reckon 92 rfl) rfl ?_
        refine a_if_ne C 203 (tk T_cX0_reckon 93 rfl) rfl (fun c => ?_) (fun c => ?_)
        · have h := h.1 c
          refine a_aload_n C (tk T_cX0_reckon 101 rfl) rfl ?_
          refine a_dupr C (tk T_cX0_reckon 102 rfl) ?_
          refine a_getI C f_RX0_49 (tk T_cX0_reckon 103 rfl) lc78 rfl ?_
          refine a_iload C (tk T_cX0_reckon 104 rfl) rfl ?_
          obtain ⟨hy, h⟩ := h
          refine a_idiv C (tk T_cX0_reckon 105 rfl) hy ?_
          refine a_put C f_RX0_49 f_RX0_49p rfl rfl (tk T_cX0_reckon 106 rfl) lc78 rfl ?_
          refine a_mem (fun M2 e_M2 => ?_)
          have h := h M2 e_M2
          refine a_aload_n C (tk T_cX0_reckon 107 rfl) rfl ?_
          refine a_dupr C (tk T_cX0_reckon 108 rfl) ?_
          refine a_getI C f_RX0_52 (tk T_cX0_reckon 109 rfl) lc78 rfl ?_
          refine a_iload C (tk T_cX0_reckon 110 rfl) rfl ?_
          obtain ⟨hy, h⟩ := h
          refine a_idiv C (tk T_cX0_reckon 111 rfl) hy ?_
          refine a_put C f_RX0_52 f_RX0_52p rfl rfl (tk T_cX0_reckon 112 rfl) lc78 rfl ?_
          refine a_mem (fun M3 e_M3 => ?_)
          have h := h M3 e_M3
          exact hR _ _ _ (tk T_cX0_reckon 113 rfl) h
        · have h := h.2 c
          exact a_to (k_Bells_reckon_192 C hr hR M1 h) rfl
    · have h := h.2 c
      refine a_iload_n C (tk T_cX0_reckon 20 rfl) rfl ?_
      refine a_bipush C (6 : Int32) (tk T_cX0_reckon 21 rfl) kB_6 ?_
      refine a_imul C (tk T_cX0_reckon 22 rfl) ?_
      refine a_iload C (tk T_cX0_reckon 23 rfl) rfl ?_
      refine a_iadd C (tk T_cX0_reckon 24 rfl) ?_
      refine a_top (fun x5_4 e_x5_4 => ?_)
      have h := h x5_4 e_x5_4
      refine a_istore C (tk T_cX0_reckon 25 rfl) (by decide) rfl ?_
      refine a_iload_n C (tk T_cX0_reckon 26 rfl) rfl ?_
      refine a_iload C (tk T_cX0_reckon 27 rfl) rfl ?_
      refine a_nestI C [.int x3, .int x4] me_yX11_has lk_RX0_39 (ct_R_has h) (by decide) rfl rfl (Nat.le_of_ble_eq_true rfl) (tk T_cX0_reckon 28 rfl) hr (fun r5 M5 h => ?_)
      refine a_if_eq C 127 (tk T_cX0_reckon 29 rfl) rfl (fun c => ?_) (fun c => ?_)
      · have h := h.1 c
        refine a_aload_n C (tk T_cX0_reckon 65 rfl) rfl ?_
        refine a_getR C f_RX0_15 (tk T_cX0_reckon 66 rfl) lc78 rfl ?_
        refine a_getR C f_RX0_23 (tk T_cX0_reckon 67 rfl) lc1 rfl ?_
        refine a_getR C f_RX0_69 (tk T_cX0_reckon 68 rfl) lc13 rfl ?_
        refine a_iload C (tk T_cX0_reckon 69 rfl) rfl ?_
        obtain ⟨hb, h⟩ := h
        refine a_zald C (tk T_cX0_reckon 70 rfl) lc14 hb ?_
        refine a_if_ne C 161 (tk T_cX0_reckon 71 rfl) rfl (fun c => ?_) (fun c => ?_)
        · have h := h.1 c
          exact a_to (k_Bells_reckon_161 C hr hR ih x2 x3 x4 M5 h) rfl
        · have h := h.2 c
          refine a_aload_n C (tk T_cX0_reckon 72 rfl) rfl ?_
          refine a_getR C f_RX0_15 (tk T_cX0_reckon 73 rfl) lc78 rfl ?_
          refine a_getR C f_RX0_55 (tk T_cX0_reckon 74 rfl) lc1 rfl ?_
          refine a_iload C (tk T_cX0_reckon 75 rfl) rfl ?_
          obtain ⟨hb, h⟩ := h
          refine a_iald C (tk T_cX0_reckon 76 rfl) lc29 hb ?_
          refine a_if_le C 161 (tk T_cX0_reckon 77 rfl) rfl (fun c => ?_) (fun c => ?_)
          · have h := h.1 c
            exact a_to (k_Bells_reckon_161 C hr hR ih x2 x3 x4 M5 h) rfl
          · have h := h.2 c
            refine a_aload_n C (tk T_cX0_reckon 78 rfl) rfl ?_
            refine a_iconst C (0 : Int32) (tk T_cX0_reckon 79 rfl) kI_0 ?_
            refine a_put C f_RX0_49 f_RX0_49p rfl rfl (tk T_cX0_reckon 80 rfl) lc78 rfl ?_
            refine a_mem (fun M6 e_M6 => ?_)
            have h := h M6 e_M6
            exact a_to (k_Bells_reckon_161 C hr hR ih x2 x3 x4 M6 h) rfl
      · have h := h.2 c
        refine a_aload_n C (tk T_cX0_reckon 30 rfl) rfl ?_
        refine a_getR C f_RX0_9 (tk T_cX0_reckon 31 rfl) lc78 rfl ?_
        refine a_iload C (tk T_cX0_reckon 32 rfl) rfl ?_
        obtain ⟨hb, h⟩ := h
        refine a_iald C (tk T_cX0_reckon 33 rfl) lc79 hb ?_
        refine a_aload_n C (tk T_cX0_reckon 34 rfl) rfl ?_
        refine a_getR C f_RX0_15 (tk T_cX0_reckon 35 rfl) lc78 rfl ?_
        refine a_getR C f_RX0_55 (tk T_cX0_reckon 36 rfl) lc1 rfl ?_
        refine a_iload C (tk T_cX0_reckon 37 rfl) rfl ?_
        obtain ⟨hb, h⟩ := h
        refine a_iald C (tk T_cX0_reckon 38 rfl) lc29 hb ?_
        refine a_aload_n C (tk T_cX0_reckon 39 rfl) rfl ?_
        refine a_getR C f_RX0_15 (tk T_cX0_reckon 40 rfl) lc78 rfl ?_
        refine a_getR C f_RX0_58 (tk T_cX0_reckon 41 rfl) lc1 rfl ?_
        refine a_iload C (tk T_cX0_reckon 42 rfl) rfl ?_
        obtain ⟨hb, h⟩ := h
        refine a_iald C (tk T_cX0_reckon 43 rfl) lc30 hb ?_
        refine a_statI C [.int (M5 29 x5_4.toNatClampNeg), .int (M5 30 x5_4.toNatClampNeg)] me_yX0_amountsFromTo lk_RX0_61 (ct_Bells_amountsFromTo h) (by decide) rfl rfl (Nat.le_of_ble_eq_true rfl) (tk T_cX0_reckon 44 rfl) hr (fun r7 M7 h => ?_)
        refine a_iand C (tk T_cX0_reckon 45 rfl) ?_
        refine a_top (fun x6_8 e_x6_8 => ?_)
        have h := h x6_8 e_x6_8
        refine a_istore C (tk T_cX0_reckon 46 rfl) (by decide) rfl ?_
        refine a_aload_n C (tk T_cX0_reckon 47 rfl) rfl ?_
        refine a_dupr C (tk T_cX0_reckon 48 rfl) ?_
        refine a_getI C f_RX0_49 (tk T_cX0_reckon 49 rfl) lc78 rfl ?_
        refine a_iload C (tk T_cX0_reckon 50 rfl) rfl ?_
        refine a_statI C [.int x6_8] me_yJ6_bitCount_0f7a4 lk_RX0_64 (ct_Integer_bitCount h) (by decide) rfl rfl (Nat.le_of_ble_eq_true rfl) (tk T_cX0_reckon 51 rfl) hr (fun r9 M9 h => ?_)
        refine a_imul C (tk T_cX0_reckon 52 rfl) ?_
        refine a_put C f_RX0_49 f_RX0_49p rfl rfl (tk T_cX0_reckon 53 rfl) lc78 rfl ?_
        refine a_mem (fun M10 e_M10 => ?_)
        have h := h M10 e_M10
        refine a_aload_n C (tk T_cX0_reckon 54 rfl) rfl ?_
        refine a_dupr C (tk T_cX0_reckon 55 rfl) ?_
        refine a_getI C f_RX0_52 (tk T_cX0_reckon 56 rfl) lc78 rfl ?_
        refine a_aload_n C (tk T_cX0_reckon 57 rfl) rfl ?_
        refine a_getR C f_RX0_9 (tk T_cX0_reckon 58 rfl) lc78 rfl ?_
        refine a_iload C (tk T_cX0_reckon 59 rfl) rfl ?_
        obtain ⟨hb, h⟩ := h
        refine a_iald C (tk T_cX0_reckon 60 rfl) lc79 hb ?_
        refine a_statI C [.int (M10 79 x4.toNatClampNeg)] me_yJ6_bitCount_0f7a4 lk_RX0_64 (ct_Integer_bitCount h) (by decide) rfl rfl (Nat.le_of_ble_eq_true rfl) (tk T_cX0_reckon 61 rfl) hr (fun r11 M11 h => ?_)
        refine a_imul C (tk T_cX0_reckon 62 rfl) ?_
        refine a_put C f_RX0_52 f_RX0_52p rfl rfl (tk T_cX0_reckon 63 rfl) lc78 rfl ?_
        refine a_mem (fun M12 e_M12 => ?_)
        have h := h M12 e_M12
        refine a_goto C 161 (tk T_cX0_reckon 64 rfl) rfl ?_
        exact a_to (k_Bells_reckon_161 C hr hR ih x2 x3 x4 M12 h) rfl
def P_Bells_reckon (post : Mem → Prop) (x1 x2 : Int32) (M : Mem) : Prop :=
  P_Table_withoutAir (fun r1 M1 =>
  ∀ M2, M2 = ms M1 78 3 (1 : Int32) → ∀ M3, M3 = ms M2 78 4 (1 : Int32) → ∃ j25, P_Bells_reckon_25 post j25 x2 r1 (0 : Int32) M3) x1 M
theorem k_Bells_reckon {X : FX} {g : GT} {ext : List CD} {A : Nat → Prop} {Z : State → Prop} {post : Mem → Prop} (C : Cx X g (layC ++ ext) A cX0_reckon 7 RX0 2) (hr : 0 ≤ X.2.2.2.1.cells ∧ 0 ≤ X.2.2.2.1.slots) (hR : RetV X g (layC ++ ext) A cX0_reckon 7 0 0 Z post) (x1 x2 : Int32) (M : Mem) (h : P_Bells_reckon post x1 x2 M) : AtX X g (layC ++ ext) A 7 0 0 Z 0 [(0, .ref (ad g 78)), (1, .int x1), (2, .int x2)] [] M := by
  refine a_aload_n C (tk T_cX0_reckon 0 rfl) rfl ?_
  refine a_getR C f_RX0_15 (tk T_cX0_reckon 1 rfl) lc78 rfl ?_
  refine a_getR C f_RX0_23 (tk T_cX0_reckon 2 rfl) lc1 rfl ?_
  refine a_iload_n C (tk T_cX0_reckon 3 rfl) rfl ?_
  refine a_callI C [.int x1] me_yX10_withoutAir lk_RX0_29 (ct_Table_withoutAir h) (by decide) lc13 rfl rfl rfl (Nat.le_of_ble_eq_true rfl) (tk T_cX0_reckon 4 rfl) hr (fun r1 M1 h => ?_)
  refine a_istore_n C (tk T_cX0_reckon 5 rfl) (by decide) rfl ?_
  refine a_aload_n C (tk T_cX0_reckon 6 rfl) rfl ?_
  refine a_iconst C (1 : Int32) (tk T_cX0_reckon 7 rfl) kI_1 ?_
  refine a_put C f_RX0_49 f_RX0_49p rfl rfl (tk T_cX0_reckon 8 rfl) lc78 rfl ?_
  refine a_mem (fun M2 e_M2 => ?_)
  have h := h M2 e_M2
  refine a_aload_n C (tk T_cX0_reckon 9 rfl) rfl ?_
  refine a_iconst C (1 : Int32) (tk T_cX0_reckon 10 rfl) kI_1 ?_
  refine a_put C f_RX0_52 f_RX0_52p rfl rfl (tk T_cX0_reckon 11 rfl) lc78 rfl ?_
  refine a_mem (fun M3 e_M3 => ?_)
  have h := h M3 e_M3
  refine a_iconst C (0 : Int32) (tk T_cX0_reckon 12 rfl) kI_0 ?_
  refine a_istore C (tk T_cX0_reckon 13 rfl) (by decide) rfl ?_
  obtain ⟨n1, h⟩ := h
  exact a_to (k_Bells_reckon_25 C hr hR n1 x2 r1 (0 : Int32) M3 h) rfl
theorem ct_Bells_reckon {l : Launch} {g : GT} {ext : List CD} {post : Mem → Prop} {x1 x2 : Int32} {M : Mem} (h : P_Bells_reckon post x1 x2 M) : CV l g (layC ++ ext) yX0_reckon cX0_reckon 7 none 2 [.ref (ad g 78), .int x1, .int x2] M post :=
  cv_of (plainFor_of_name (by decide +kernel)) (Nat.le_of_ble_eq_true rfl) (fun X A Z hl C hr hR => by subst hl; exact k_Bells_reckon C hr hR x1 x2 M h)
