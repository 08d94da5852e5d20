def T_cX12_aboveL : List (Nat × Instr × Nat) := [(0, .sipush 1000, 3), (3, .iload_n 0, 1), (4, .bipush 19, 2), (6, .idiv, 1), (7, .iconst 1, 1), (8, .iadd, 1), (9, .imul, 1), (10, .iload_n 1, 1), (11, .imul, 1), (12, .iload_n 0, 1), (13, .bipush 19, 2), (15, .irem, 1), (16, .bipush 9, 2), (18, .isub, 1), (19, .iload_n 1, 1), (20, .imul, 1), (21, .iload_n 1, 1), (22, .imul, 1), (23, .iadd, 1), (24, .sipush 10000, 3), (27, .invokestatic 100, 3), (30, .ireturn, 1)]
theorem T_cX12_above : tabOK cX12_above T_cX12_aboveL = true := by decide +kernel
def P_M_above (post : Int32 → Mem → Prop) (x0 x1 : Int32) (M : Mem) : Prop :=
  ∀ v1, v1 = (((1000 : Int32) * ((x0 / (19 : Int32)) + (1 : Int32))) * x1) → P_Math_floorDiv (fun r2 M2 =>
  post r2 M2) (v1 + ((((irm x0 (19 : Int32)) - (9 : Int32)) * x1) * x1)) (10000 : Int32) M
theorem k_M_above {X : FX} {g : GT} {A : Nat → Prop} {Z : State → Prop} {post : Int32 → Mem → Prop} (C : Cx X g layM A cX12_above 2 RX12 1) (hr : 0 ≤ X.2.2.2.1.cells ∧ 0 ≤ X.2.2.2.1.slots) (hR : RetI X g layM A cX12_above 2 0 0 Z post) (x0 x1 : Int32) (M : Mem) (h : P_M_above post x0 x1 M) : At X g layM A 2 0 0 Z 0 [(0, .int x0), (1, .int x1)] [] M := by
  refine a_sipush C (1000 : Int32) (tk T_cX12_above 0 rfl) kS_1000 ?_
  refine a_iload_n C (tk T_cX12_above 1 rfl) rfl ?_
  refine a_bipush C (19 : Int32) (tk T_cX12_above 2 rfl) kB_19 ?_
  refine a_idiv C (tk T_cX12_above 3 rfl) (by decide) ?_
  refine a_iconst C (1 : Int32) (tk T_cX12_above 4 rfl) kI_1 ?_
  refine a_iadd C (tk T_cX12_above 5 rfl) ?_
  refine a_imul C (tk T_cX12_above 6 rfl) ?_
  refine a_iload_n C (tk T_cX12_above 7 rfl) rfl ?_
  refine a_imul C (tk T_cX12_above 8 rfl) ?_
  refine a_top (fun v1 e_v1 => ?_)
  have h := h v1 e_v1
  refine a_iload_n C (tk T_cX12_above 9 rfl) rfl ?_
  refine a_bipush C (19 : Int32) (tk T_cX12_above 10 rfl) kB_19 ?_
  refine a_irem C (tk T_cX12_above 11 rfl) (by decide) ?_
  refine a_bipush C (9 : Int32) (tk T_cX12_above 12 rfl) kB_9 ?_
  refine a_isub C (tk T_cX12_above 13 rfl) ?_
  refine a_iload_n C (tk T_cX12_above 14 rfl) rfl ?_
  refine a_imul C (tk T_cX12_above 15 rfl) ?_
  refine a_iload_n C (tk T_cX12_above 16 rfl) rfl ?_
  refine a_imul C (tk T_cX12_above 17 rfl) ?_
  refine a_iadd C (tk T_cX12_above 18 rfl) ?_
  refine a_sipush C (10000 : Int32) (tk T_cX12_above 19 rfl) kS_10000 ?_
  refine a_statI C [.int (v1 + ((((irm x0 (19 : Int32)) - (9 : Int32)) * x1) * x1)), .int (10000 : Int32)] me_yJ9_floorDiv_7cf53 lk_RX12_100 (ct_Math_floorDiv h) (by decide) rfl rfl (Nat.le_of_ble_eq_true rfl) (tk T_cX12_above 20 rfl) hr (fun r2 M2 h => ?_)
  exact hR _ _ _ _ (tk T_cX12_above 21 rfl) h
theorem ct_M_above {l : Launch} {g : GT} {post : Int32 → Mem → Prop} {x0 x1 : Int32} {M : Mem} (h : P_M_above post x0 x1 M) : CI l g layM yX12_above cX12_above 2 (some .int) 1 [.int x0, .int x1] M post :=
  ci_of (plainFor_of_name (by decide +kernel)) (Nat.le_of_ble_eq_true rfl) rfl (fun X A Z hl C hr hR => by subst hl; exact k_M_above C hr hR x0 x1 M h)
def T_cX12_laysL : List (Nat × Instr × Nat) := [(0, .iconst 0, 1), (1, .istore_n 2, 1), (2, .iconst 0, 1), (3, .istore_n 3, 1), (4, .iload_n 3, 1), (5, .sipush 1710, 3), (8, .if_icmp .ge 164, 3), (11, .iconst 0, 1), (12, .istore 4, 2), (14, .sipush 9999, 3), (17, .istore 5, 2), (19, .iconst 0, 1), (20, .istore 6, 2), (22, .iload 6, 2), (24, .aload_n 0, 1), (25, .getfield 13, 3), (28, .bipush 6, 2), (30, .iaload, 1), (31, .if_icmp .ge 105, 3), (34, .bipush 52, 2), (36, .iconst 4, 1), (37, .iload 6, 2), (39, .imul, 1), (40, .iadd, 1), (41, .istore 7, 2), (43, .aload_n 0, 1), (44, .getfield 13, 3), (47, .iload 7, 2), (49, .iconst 2, 1), (50, .iadd, 1), (51, .iaload, 1), (52, .iload_n 3, 1), (53, .aload_n 0, 1), (54, .aload_n 0, 1), (55, .getfield 13, 3), (58, .iload 7, 2), (60, .iaload, 1), (61, .aload_n 0, 1), (62, .getfield 13, 3), (65, .iload 7, 2), (67, .iconst 1, 1), (68, .iadd, 1), (69, .iaload, 1), (70, .invokevirtual 80, 3), (73, .aload_n 0, 1), (74, .getfield 13, 3), (77, .iload 7, 2), (79, .iconst 3, 1), (80, .iadd, 1), (81, .iaload, 1), (82, .iconst 1, 1), (83, .if_icmp .ne 7, 3), (86, .iload_n 1, 1), (87, .goto 4, 3), (90, .iconst 0, 1), (91, .iadd, 1), (92, .invokestatic 103, 3), (95, .isub, 1), (96, .istore 8, 2), (98, .iload 4, 2), (100, .iload 8, 2), (102, .aload_n 0, 1), (103, .getfield 13, 3), (106, .iconst 4, 1), (107, .iaload, 1), (108, .isub, 1), (109, .invokestatic 106, 3), (112, .istore 4, 2), (114, .iload 5, 2), (116, .iload 8, 2), (118, .aload_n 0, 1), (119, .getfield 13, 3), (122, .iconst 4, 1), (123, .iaload, 1), (124, .iadd, 1), (125, .invokestatic 109, 3), (128, .istore 5, 2), (130, .iinc 6 1, 3), (133, .goto (-111), 3), (136, .aload_n 0, 1), (137, .getfield 20, 3), (140, .iload_n 3, 1), (141, .iload 4, 2), (143, .iastore, 1), (144, .aload_n 0, 1), (145, .getfield 23, 3), (148, .iload_n 3, 1), (149, .iload 5, 2), (151, .iastore, 1), (152, .iload_n 2, 1), (153, .iconst 0, 1), (154, .iload 5, 2), (156, .iload 4, 2), (158, .isub, 1), (159, .iconst 1, 1), (160, .iadd, 1), (161, .invokestatic 106, 3), (164, .iadd, 1), (165, .istore_n 2, 1), (166, .iinc 3 1, 3), (169, .goto (-165), 3), (172, .iload_n 2, 1), (173, .ireturn, 1)]
theorem T_cX12_lays : tabOK cX12_lays T_cX12_laysL = true := by decide +kernel
def P_M_lays_91 (post : Int32 → Mem → Prop) (R4 : Int32 → Int32 → Int32 → Mem → Prop) (R22 : Int32 → Int32 → Int32 → Int32 → Int32 → Int32 → Mem → Prop) (x1 x2 x3 x4 x5 x6 s0 s1 s2 s3 : Int32) (M : Mem) : Prop :=
  P_M_above (fun r1 M1 =>
  ∀ x8_2, x8_2 = (s0 - r1) → vp_in (4 : Int32) 5966 ∧ P_Math_max (fun r3 M3 =>
  vp_in (4 : Int32) 5966 ∧ P_Math_min (fun r4 M4 =>
  R22 x1 x2 x3 r3 r4 (x6 + (1 : Int32)) M4) x5 (x8_2 + (M3 1 (4 : Int32).toNatClampNeg)) M3) x4 (x8_2 - (M1 1 (4 : Int32).toNatClampNeg)) M1) s1 (s2 + s3) M
theorem k_M_lays_91 {X : FX} {g : GT} {A : Nat → Prop} {Z : State → Prop} {post : Int32 → Mem → Prop} {R4 : Int32 → Int32 → Int32 → Mem → Prop} {R22 : Int32 → Int32 → Int32 → Int32 → Int32 → Int32 → Mem → Prop} (C : Cx X g layM A cX12_lays 9 RX12 3) (hr : 0 ≤ X.2.2.2.1.cells ∧ 0 ≤ X.2.2.2.1.slots) (hR : RetI X g layM A cX12_lays 9 0 0 Z post) (k4 : ∀ (y1 y2 y3 : Int32) (M : Mem), R4 y1 y2 y3 M → At X g layM A 9 0 0 Z 4 [(0, .ref (ad g 0)), (1, .int y1), (2, .int y2), (3, .int y3)] [] M) (k22 : ∀ (y1 y2 y3 y4 y5 y6 : Int32) (M : Mem), R22 y1 y2 y3 y4 y5 y6 M → At X g layM A 9 0 0 Z 22 [(0, .ref (ad g 0)), (1, .int y1), (2, .int y2), (3, .int y3), (4, .int y4), (5, .int y5), (6, .int y6)] [] M) (x1 x2 x3 x4 x5 x6 s0 s1 s2 s3 : Int32) (M : Mem) (h : P_M_lays_91 post R4 R22 x1 x2 x3 x4 x5 x6 s0 s1 s2 s3 M) : At X g layM A 9 0 0 Z 91 [(0, .ref (ad g 0)), (1, .int x1), (2, .int x2), (3, .int x3), (4, .int x4), (5, .int x5), (6, .int x6)] [.int s3, .int s2, .int s1, .int s0] M := by
  refine a_iadd C (tk T_cX12_lays 55 rfl) ?_
  refine a_statI C [.int s1, .int (s2 + s3)] me_yX12_above lk_RX12_103 (ct_M_above h) (by decide) rfl rfl (Nat.le_of_ble_eq_true rfl) (tk T_cX12_lays 56 rfl) hr (fun r1 M1 h => ?_)
  refine a_isub C (tk T_cX12_lays 57 rfl) ?_
  refine a_top (fun x8_2 e_x8_2 => ?_)
  have h := h x8_2 e_x8_2
  refine a_istore C (tk T_cX12_lays 58 rfl) (by decide) ?_
  refine a_iload C (tk T_cX12_lays 59 rfl) rfl ?_
  refine a_iload C (tk T_cX12_lays 60 rfl) rfl ?_
  refine a_aload_n C (tk T_cX12_lays 61 rfl) rfl ?_
  refine a_getR C f_RX12_13 (tk T_cX12_lays 62 rfl) lm0 rfl ?_
  refine a_iconst C (4 : Int32) (tk T_cX12_lays 63 rfl) kI_4 ?_
  obtain ⟨hb, h⟩ := h
  refine a_iald C (tk T_cX12_lays 64 rfl) lm1 hb ?_
  refine a_isub C (tk T_cX12_lays 65 rfl) ?_
  refine a_statI C [.int x4, .int (x8_2 - (M1 1 (4 : Int32).toNatClampNeg))] me_yJ9_max_7cf53 lk_RX12_106 (ct_Math_max h) (by decide) rfl rfl (Nat.le_of_ble_eq_true rfl) (tk T_cX12_lays 66 rfl) hr (fun r3 M3 h => ?_)
  refine a_istore C (tk T_cX12_lays 67 rfl) (by decide) ?_
  refine a_iload C (tk T_cX12_lays 68 rfl) rfl ?_
  refine a_iload C (tk T_cX12_lays 69 rfl) rfl ?_
  refine a_aload_n C (tk T_cX12_lays 70 rfl) rfl ?_
  refine a_getR C f_RX12_13 (tk T_cX12_lays 71 rfl) lm0 rfl ?_
  refine a_iconst C (4 : Int32) (tk T_cX12_lays 72 rfl) kI_4 ?_
  obtain ⟨hb, h⟩ := h
  refine a_iald C (tk T_cX12_lays 73 rfl) lm1 hb ?_
  refine a_iadd C (tk T_cX12_lays 74 rfl) ?_
  refine a_statI C [.int x5, .int (x8_2 + (M3 1 (4 : Int32).toNatClampNeg))] me_yJ9_min_7cf53 lk_RX12_109 (ct_Math_min h) (by decide) rfl rfl (Nat.le_of_ble_eq_true rfl) (tk T_cX12_lays 75 rfl) hr (fun r4 M4 h => ?_)
  refine a_istore C (tk T_cX12_lays 76 rfl) (by decide) ?_
  refine a_iinc C (1 : Int32) (tk T_cX12_lays 77 rfl) rfl kI_1 (by decide) ?_
  refine a_goto C 22 (tk T_cX12_lays 78 rfl) rfl ?_
  exact a_to (k22 x1 x2 x3 r3 r4 (x6 + (1 : Int32)) M4 h) rfl
def P_M_lays_22 (post : Int32 → Mem → Prop) (R4 : Int32 → Int32 → Int32 → Mem → Prop) : Nat → Int32 → Int32 → Int32 → Int32 → Int32 → Int32 → Mem → Prop
  | 0, _, _, _, _, _, _, _ => False
  | n + 1, x1, x2, x3, x4, x5, x6, M =>
    vp_in (6 : Int32) 5966 ∧ ((M 1 (6 : Int32).toNatClampNeg) ≤ x6 → (vp_in x3 1710 ∧ ∀ M1, M1 = ms M 3 x3.toNatClampNeg x4 → vp_in x3 1710 ∧ ∀ M2, M2 = ms M1 4 x3.toNatClampNeg x5 → P_Math_max (fun r3 M3 =>
  ∀ x2_4, x2_4 = (x2 + r3) → R4 x1 x2_4 (x3 + (1 : Int32)) M3) (0 : Int32) ((x5 - x4) + (1 : Int32)) M2)) ∧
  (¬ (M 1 (6 : Int32).toNatClampNeg) ≤ x6 → (∀ x7_5, x7_5 = ((52 : Int32) + ((4 : Int32) * x6)) → vp_in (x7_5 + (2 : Int32)) 5966 ∧ vp_in x7_5 5966 ∧ vp_in (x7_5 + (1 : Int32)) 5966 ∧ P_M_truePlace (fun r6 M6 =>
  vp_in (x7_5 + (3 : Int32)) 5966 ∧ (¬ (M6 1 (x7_5 + (3 : Int32)).toNatClampNeg) = (1 : Int32) → (P_M_lays_91 post R4 (P_M_lays_22 post R4 n) x1 x2 x3 x4 x5 x6 (M 1 (x7_5 + (2 : Int32)).toNatClampNeg) x3 r6 (0 : Int32) M6)) ∧
  ((M6 1 (x7_5 + (3 : Int32)).toNatClampNeg) = (1 : Int32) → (P_M_lays_91 post R4 (P_M_lays_22 post R4 n) x1 x2 x3 x4 x5 x6 (M 1 (x7_5 + (2 : Int32)).toNatClampNeg) x3 r6 x1 M6))) (M 1 x7_5.toNatClampNeg) (M 1 (x7_5 + (1 : Int32)).toNatClampNeg) M))
theorem k_M_lays_22 {X : FX} {g : GT} {A : Nat → Prop} {Z : State → Prop} {post : Int32 → Mem → Prop} {R4 : Int32 → Int32 → Int32 → Mem → Prop} (C : Cx X g layM A cX12_lays 9 RX12 3) (hr : 0 ≤ X.2.2.2.1.cells ∧ 0 ≤ X.2.2.2.1.slots) (hR : RetI X g layM A cX12_lays 9 0 0 Z post) (k4 : ∀ (y1 y2 y3 : Int32) (M : Mem), R4 y1 y2 y3 M → At X g layM A 9 0 0 Z 4 [(0, .ref (ad g 0)), (1, .int y1), (2, .int y2), (3, .int y3)] [] M) : ∀ (n : Nat) (x1 x2 x3 x4 x5 x6 : Int32) (M : Mem), P_M_lays_22 post R4 n x1 x2 x3 x4 x5 x6 M → At X g layM A 9 0 0 Z 22 [(0, .ref (ad g 0)), (1, .int x1), (2, .int x2), (3, .int x3), (4, .int x4), (5, .int x5), (6, .int x6)] [] M := by
  intro n
  induction n with
  | zero =>
    intro x1 x2 x3 x4 x5 x6 M h
    exact h.elim
  | succ n ih =>
    intro x1 x2 x3 x4 x5 x6 M h
    refine a_iload C (tk T_cX12_lays 13 rfl) rfl ?_
    refine a_aload_n C (tk T_cX12_lays 14 rfl) rfl ?_
    refine a_getR C f_RX12_13 (tk T_cX12_lays 15 rfl) lm0 rfl ?_
    refine a_bipush C (6 : Int32) (tk T_cX12_lays 16 rfl) kB_6 ?_
    obtain ⟨hb, h⟩ := h
    refine a_iald C (tk T_cX12_lays 17 rfl) lm1 hb ?_
    refine a_icmp_ge C 136 (tk T_cX12_lays 18 rfl) rfl (fun c => ?_) (fun c => ?_)
    · have h := h.1 c
      refine a_aload_n C (tk T_cX12_lays 79 rfl) rfl ?_
      refine a_getR C f_RX12_20 (tk T_cX12_lays 80 rfl) lm0 rfl ?_
      refine a_iload_n C (tk T_cX12_lays 81 rfl) rfl ?_
      refine a_iload C (tk T_cX12_lays 82 rfl) rfl ?_
      obtain ⟨hb, h⟩ := h
      refine a_iast C (tk T_cX12_lays 83 rfl) lm3 hb ?_
      refine a_mem (fun M1 e_M1 => ?_)
      have h := h M1 e_M1
      refine a_aload_n C (tk T_cX12_lays 84 rfl) rfl ?_
      refine a_getR C f_RX12_23 (tk T_cX12_lays 85 rfl) lm0 rfl ?_
      refine a_iload_n C (tk T_cX12_lays 86 rfl) rfl ?_
      refine a_iload C (tk T_cX12_lays 87 rfl) rfl ?_
      obtain ⟨hb, h⟩ := h
      refine a_iast C (tk T_cX12_lays 88 rfl) lm4 hb ?_
      refine a_mem (fun M2 e_M2 => ?_)
      have h := h M2 e_M2
      refine a_iload_n C (tk T_cX12_lays 89 rfl) rfl ?_
      refine a_iconst C (0 : Int32) (tk T_cX12_lays 90 rfl) kI_0 ?_
      refine a_iload C (tk T_cX12_lays 91 rfl) rfl ?_
      refine a_iload C (tk T_cX12_lays 92 rfl) rfl ?_
      refine a_isub C (tk T_cX12_lays 93 rfl) ?_
      refine a_iconst C (1 : Int32) (tk T_cX12_lays 94 rfl) kI_1 ?_
      refine a_iadd C (tk T_cX12_lays 95 rfl) ?_
      refine a_statI C [.int (0 : Int32), .int ((x5 - x4) + (1 : Int32))] me_yJ9_max_7cf53 lk_RX12_106 (ct_Math_max h) (by decide) rfl rfl (Nat.le_of_ble_eq_true rfl) (tk T_cX12_lays 96 rfl) hr (fun r3 M3 h => ?_)
      refine a_iadd C (tk T_cX12_lays 97 rfl) ?_
      refine a_top (fun x2_4 e_x2_4 => ?_)
      have h := h x2_4 e_x2_4
      refine a_istore_n C (tk T_cX12_lays 98 rfl) (by decide) ?_
      refine a_iinc C (1 : Int32) (tk T_cX12_lays 99 rfl) rfl kI_1 (by decide) ?_
      refine a_goto C 4 (tk T_cX12_lays 100 rfl) rfl ?_
      exact a_to (k4 x1 x2_4 (x3 + (1 : Int32)) M3 h) rfl
    · have h := h.2 c
      refine a_bipush C (52 : Int32) (tk T_cX12_lays 19 rfl) kB_52 ?_
      refine a_iconst C (4 : Int32) (tk T_cX12_lays 20 rfl) kI_4 ?_
      refine a_iload C (tk T_cX12_lays 21 rfl) rfl ?_
      refine a_imul C (tk T_cX12_lays 22 rfl) ?_
      refine a_iadd C (tk T_cX12_lays 23 rfl) ?_
      refine a_top (fun x7_5 e_x7_5 => ?_)
      have h := h x7_5 e_x7_5
      refine a_istore C (tk T_cX12_lays 24 rfl) (by decide) ?_
      refine a_aload_n C (tk T_cX12_lays 25 rfl) rfl ?_
      refine a_getR C f_RX12_13 (tk T_cX12_lays 26 rfl) lm0 rfl ?_
      refine a_iload C (tk T_cX12_lays 27 rfl) rfl ?_
      refine a_iconst C (2 : Int32) (tk T_cX12_lays 28 rfl) kI_2 ?_
      refine a_iadd C (tk T_cX12_lays 29 rfl) ?_
      obtain ⟨hb, h⟩ := h
      refine a_iald C (tk T_cX12_lays 30 rfl) lm1 hb ?_
      refine a_iload_n C (tk T_cX12_lays 31 rfl) rfl ?_
      refine a_aload_n C (tk T_cX12_lays 32 rfl) rfl ?_
      refine a_aload_n C (tk T_cX12_lays 33 rfl) rfl ?_
      refine a_getR C f_RX12_13 (tk T_cX12_lays 34 rfl) lm0 rfl ?_
      refine a_iload C (tk T_cX12_lays 35 rfl) rfl ?_
      obtain ⟨hb, h⟩ := h
      refine a_iald C (tk T_cX12_lays 36 rfl) lm1 hb ?_
      refine a_aload_n C (tk T_cX12_lays 37 rfl) rfl ?_
      refine a_getR C f_RX12_13 (tk T_cX12_lays 38 rfl) lm0 rfl ?_
      refine a_iload C (tk T_cX12_lays 39 rfl) rfl ?_
      refine a_iconst C (1 : Int32) (tk T_cX12_lays 40 rfl) kI_1 ?_
      refine a_iadd C (tk T_cX12_lays 41 rfl) ?_
      obtain ⟨hb, h⟩ := h
      refine a_iald C (tk T_cX12_lays 42 rfl) lm1 hb ?_
      refine a_callI C [.int (M 1 x7_5.toNatClampNeg), .int (M 1 (x7_5 + (1 : Int32)).toNatClampNeg)] me_yX12_truePlace lk_RX12_80 (ct_M_truePlace h) (by decide) lm0 rfl rfl rfl (Nat.le_of_ble_eq_true rfl) (tk T_cX12_lays 43 rfl) hr (fun r6 M6 h => ?_)
      refine a_aload_n C (tk T_cX12_lays 44 rfl) rfl ?_
      refine a_getR C f_RX12_13 (tk T_cX12_lays 45 rfl) lm0 rfl ?_
      refine a_iload C (tk T_cX12_lays 46 rfl) rfl ?_
      refine a_iconst C (3 : Int32) (tk T_cX12_lays 47 rfl) kI_3 ?_
      refine a_iadd C (tk T_cX12_lays 48 rfl) ?_
      obtain ⟨hb, h⟩ := h
      refine a_iald C (tk T_cX12_lays 49 rfl) lm1 hb ?_
      refine a_iconst C (1 : Int32) (tk T_cX12_lays 50 rfl) kI_1 ?_
      refine a_icmp_ne C 90 (tk T_cX12_lays 51 rfl) rfl (fun c => ?_) (fun c => ?_)
      · have h := h.1 c
        refine a_iconst C (0 : Int32) (tk T_cX12_lays 54 rfl) kI_0 ?_
        exact a_to (k_M_lays_91 C hr hR k4 ih x1 x2 x3 x4 x5 x6 (M 1 (x7_5 + (2 : Int32)).toNatClampNeg) x3 r6 (0 : Int32) M6 h) rfl
      · have h := h.2 c
        refine a_iload_n C (tk T_cX12_lays 52 rfl) rfl ?_
        refine a_goto C 91 (tk T_cX12_lays 53 rfl) rfl ?_
        exact a_to (k_M_lays_91 C hr hR k4 ih x1 x2 x3 x4 x5 x6 (M 1 (x7_5 + (2 : Int32)).toNatClampNeg) x3 r6 x1 M6 h) rfl
def P_M_lays_4 (post : Int32 → Mem → Prop) : Nat → Int32 → Int32 → Int32 → Mem → Prop
  | 0, _, _, _, _ => False
  | n + 1, x1, x2, x3, M =>
    ((1710 : Int32) ≤ x3 → (post x2 M)) ∧
  (¬ (1710 : Int32) ≤ x3 → (∃ j22, P_M_lays_22 post (P_M_lays_4 post n) j22 x1 x2 x3 (0 : Int32) (9999 : Int32) (0 : Int32) M))
theorem k_M_lays_4 {X : FX} {g : GT} {A : Nat → Prop} {Z : State → Prop} {post : Int32 → Mem → Prop} (C : Cx X g layM A cX12_lays 9 RX12 3) (hr : 0 ≤ X.2.2.2.1.cells ∧ 0 ≤ X.2.2.2.1.slots) (hR : RetI X g layM A cX12_lays 9 0 0 Z post) : ∀ (n : Nat) (x1 x2 x3 : Int32) (M : Mem), P_M_lays_4 post n x1 x2 x3 M → At X g layM A 9 0 0 Z 4 [(0, .ref (ad g 0)), (1, .int x1), (2, .int x2), (3, .int x3)] [] M := by
  intro n
  induction n with
  | zero =>
    intro x1 x2 x3 M h
    exact h.elim
  | succ n ih =>
    intro x1 x2 x3 M h
    refine a_iload_n C (tk T_cX12_lays 4 rfl) rfl ?_
    refine a_sipush C (1710 : Int32) (tk T_cX12_lays 5 rfl) kS_1710 ?_
    refine a_icmp_ge C 172 (tk T_cX12_lays 6 rfl) rfl (fun c => ?_) (fun c => ?_)
    · have h := h.1 c
      refine a_iload_n C (tk T_cX12_lays 101 rfl) rfl ?_
      exact hR _ _ _ _ (tk T_cX12_lays 102 rfl) h
    · have h := h.2 c
      refine a_iconst C (0 : Int32) (tk T_cX12_lays 7 rfl) kI_0 ?_
      refine a_istore C (tk T_cX12_lays 8 rfl) (by decide) ?_
      refine a_sipush C (9999 : Int32) (tk T_cX12_lays 9 rfl) kS_9999 ?_
      refine a_istore C (tk T_cX12_lays 10 rfl) (by decide) ?_
      refine a_iconst C (0 : Int32) (tk T_cX12_lays 11 rfl) kI_0 ?_
      refine a_istore C (tk T_cX12_lays 12 rfl) (by decide) ?_
      obtain ⟨n1, h⟩ := h
      exact a_to (k_M_lays_22 C hr hR ih n1 x1 x2 x3 (0 : Int32) (9999 : Int32) (0 : Int32) M h) rfl
def P_M_lays (post : Int32 → Mem → Prop) (x1 : Int32) (M : Mem) : Prop :=
  ∃ j4, P_M_lays_4 post j4 x1 (0 : Int32) (0 : Int32) M
theorem k_M_lays {X : FX} {g : GT} {A : Nat → Prop} {Z : State → Prop} {post : Int32 → Mem → Prop} (C : Cx X g layM A cX12_lays 9 RX12 3) (hr : 0 ≤ X.2.2.2.1.cells ∧ 0 ≤ X.2.2.2.1.slots) (hR : RetI X g layM A cX12_lays 9 0 0 Z post) (x1 : Int32) (M : Mem) (h : P_M_lays post x1 M) : At X g layM A 9 0 0 Z 0 [(0, .ref (ad g 0)), (1, .int x1)] [] M := by
  refine a_iconst C (0 : Int32) (tk T_cX12_lays 0 rfl) kI_0 ?_
  refine a_istore_n C (tk T_cX12_lays 1 rfl) (by decide) ?_
  refine a_iconst C (0 : Int32) (tk T_cX12_lays 2 rfl) kI_0 ?_
  refine a_istore_n C (tk T_cX12_lays 3 rfl) (by decide) ?_
  obtain ⟨n1, h⟩ := h
  exact a_to (k_M_lays_4 C hr hR n1 x1 (0 : Int32) (0 : Int32) M h) rfl
theorem ct_M_lays {l : Launch} {g : GT} {post : Int32 → Mem → Prop} {x1 : Int32} {M : Mem} (h : P_M_lays post x1 M) : CI l g layM yX12_lays cX12_lays 9 (some .int) 3 [.ref (ad g 0), .int x1] M post :=
  ci_of (plainFor_of_name (by decide +kernel)) (Nat.le_of_ble_eq_true rfl) rfl (fun X A Z hl C hr hR => by subst hl; exact k_M_lays C hr hR x1 M h)
def T_cX12_lawsL : List (Nat × Instr × Nat) := [(0, .aload_n 0, 1), (1, .iconst 0, 1), (2, .putfield 3, 3), (5, .aload_n 0, 1), (6, .iconst 0, 1), (7, .invokevirtual 112, 3), (10, .ireturn, 1)]
theorem T_cX12_laws : tabOK cX12_laws T_cX12_lawsL = true := by decide +kernel
def P_M_laws (post : Int32 → Mem → Prop) (M : Mem) : Prop :=
  ∀ M1, M1 = ms M 0 0 (0 : Int32) → P_M_lays (fun r2 M2 =>
  post r2 M2) (0 : Int32) M1
theorem k_M_laws {X : FX} {g : GT} {A : Nat → Prop} {Z : State → Prop} {post : Int32 → Mem → Prop} (C : Cx X g layM A cX12_laws 1 RX12 4) (hr : 0 ≤ X.2.2.2.1.cells ∧ 0 ≤ X.2.2.2.1.slots) (hR : RetI X g layM A cX12_laws 1 0 0 Z post) (M : Mem) (h : P_M_laws post M) : At X g layM A 1 0 0 Z 0 [(0, .ref (ad g 0))] [] M := by
  refine a_aload_n C (tk T_cX12_laws 0 rfl) rfl ?_
  refine a_iconst C (0 : Int32) (tk T_cX12_laws 1 rfl) kI_0 ?_
  refine a_put C f_RX12_3 f_RX12_3p rfl rfl (tk T_cX12_laws 2 rfl) lm0 rfl ?_
  refine a_mem (fun M1 e_M1 => ?_)
  have h := h M1 e_M1
  refine a_aload_n C (tk T_cX12_laws 3 rfl) rfl ?_
  refine a_iconst C (0 : Int32) (tk T_cX12_laws 4 rfl) kI_0 ?_
  refine a_callI C [.int (0 : Int32)] me_yX12_lays lk_RX12_112 (ct_M_lays h) (by decide) lm0 rfl rfl rfl (Nat.le_of_ble_eq_true rfl) (tk T_cX12_laws 5 rfl) hr (fun r2 M2 h => ?_)
  exact hR _ _ _ _ (tk T_cX12_laws 6 rfl) h
theorem ct_M_laws {l : Launch} {g : GT} {post : Int32 → Mem → Prop} {M : Mem} (h : P_M_laws post M) : CI l g layM yX12_laws cX12_laws 1 (some .int) 4 [.ref (ad g 0)] M post :=
  ci_of (plainFor_of_name (by decide +kernel)) (Nat.le_of_ble_eq_true rfl) rfl (fun X A Z hl C hr hR => by subst hl; exact k_M_laws C hr hR  M h)
def T_cX12_lawL : List (Nat × Instr × Nat) := [(0, .aload_n 0, 1), (1, .iconst 0, 1), (2, .putfield 3, 3), (5, .aload_n 0, 1), (6, .iload_n 1, 1), (7, .iconst 0, 1), (8, .iconst 2, 1), (9, .invokestatic 58, 3), (12, .ifCond .ne 7, 3), (15, .iconst 1, 1), (16, .goto 4, 3), (19, .iconst 0, 1), (20, .iconst 1, 1), (21, .invokevirtual 72, 3), (24, .ifCond .eq 5, 3), (27, .iconst 0, 1), (28, .ireturn, 1), (29, .aload_n 0, 1), (30, .iconst 0, 1), (31, .invokevirtual 112, 3), (34, .pop, 1), (35, .iconst 0, 1), (36, .istore_n 2, 1), (37, .iload_n 2, 1), (38, .sipush 1710, 3), (41, .if_icmp .ge 59, 3), (44, .aload_n 0, 1), (45, .getfield 20, 3), (48, .iload_n 2, 1), (49, .iaload, 1), (50, .aload_n 0, 1), (51, .getfield 23, 3), (54, .iload_n 2, 1), (55, .iaload, 1), (56, .if_icmp .gt 38, 3), (59, .iload_n 1, 1), (60, .ifCond .ne 12, 3), (63, .aload_n 0, 1), (64, .getfield 20, 3), (67, .iload_n 2, 1), (68, .iaload, 1), (69, .goto 24, 3), (72, .iload_n 1, 1), (73, .iconst 1, 1), (74, .if_icmp .ne 12, 3), (77, .iload_n 2, 1), (78, .bipush 19, 2), (80, .idiv, 1), (81, .iconst 1, 1), (82, .iadd, 1), (83, .goto 10, 3), (86, .iload_n 2, 1), (87, .bipush 19, 2), (89, .irem, 1), (90, .bipush 9, 2), (92, .isub, 1), (93, .ireturn, 1), (94, .iinc 2 1, 3), (97, .goto (-60), 3), (100, .ldc 115, 2), (102, .ireturn, 1)]
theorem T_cX12_law : tabOK cX12_law T_cX12_lawL = true := by decide +kernel
def P_M_law_93 (post : Int32 → Mem → Prop) (R37 : Int32 → Int32 → Mem → Prop) (s0 : Int32) (M : Mem) : Prop :=
  post s0 M
theorem k_M_law_93 {X : FX} {g : GT} {A : Nat → Prop} {Z : State → Prop} {post : Int32 → Mem → Prop} {R37 : Int32 → Int32 → Mem → Prop} (C : Cx X g layM A cX12_law 3 RX12 4) (hr : 0 ≤ X.2.2.2.1.cells ∧ 0 ≤ X.2.2.2.1.slots) (hR : RetI X g layM A cX12_law 3 0 0 Z post) (k37 : ∀ (y1 y2 : Int32) (M : Mem), R37 y1 y2 M → At X g layM A 3 0 0 Z 37 [(0, .ref (ad g 0)), (1, .int y1), (2, .int y2)] [] M) (s0 : Int32) (M : Mem) (h : P_M_law_93 post R37 s0 M) : At X g layM A 3 0 0 Z 93 [] [.int s0] M := by
  exact hR _ _ _ _ (tk T_cX12_law 56 rfl) h
def P_M_law_37 (post : Int32 → Mem → Prop) : Nat → Int32 → Int32 → Mem → Prop
  | 0, _, _, _ => False
  | n + 1, x1, x2, M =>
    ((1710 : Int32) ≤ x2 → (post (99999 : Int32) M)) ∧
  (¬ (1710 : Int32) ≤ x2 → (vp_in x2 1710 ∧ vp_in x2 1710 ∧ ((M 4 x2.toNatClampNeg) < (M 3 x2.toNatClampNeg) → (P_M_law_37 post n x1 (x2 + (1 : Int32)) M)) ∧
  (¬ (M 4 x2.toNatClampNeg) < (M 3 x2.toNatClampNeg) → ((¬ x1 = 0 → ((¬ x1 = (1 : Int32) → (P_M_law_93 post (P_M_law_37 post n) ((irm x2 (19 : Int32)) - (9 : Int32)) M)) ∧
  (x1 = (1 : Int32) → (P_M_law_93 post (P_M_law_37 post n) ((x2 / (19 : Int32)) + (1 : Int32)) M)))) ∧
  (x1 = 0 → (vp_in x2 1710 ∧ P_M_law_93 post (P_M_law_37 post n) (M 3 x2.toNatClampNeg) M))))))
theorem k_M_law_37 {X : FX} {g : GT} {A : Nat → Prop} {Z : State → Prop} {post : Int32 → Mem → Prop} (C : Cx X g layM A cX12_law 3 RX12 4) (hr : 0 ≤ X.2.2.2.1.cells ∧ 0 ≤ X.2.2.2.1.slots) (hR : RetI X g layM A cX12_law 3 0 0 Z post) : ∀ (n : Nat) (x1 x2 : Int32) (M : Mem), P_M_law_37 post n x1 x2 M → At X g layM A 3 0 0 Z 37 [(0, .ref (ad g 0)), (1, .int x1), (2, .int x2)] [] M := by
  intro n
  induction n with
  | zero =>
    intro x1 x2 M h
    exact h.elim
  | succ n ih =>
    intro x1 x2 M h
    refine a_iload_n C (tk T_cX12_law 23 rfl) rfl ?_
    refine a_sipush C (1710 : Int32) (tk T_cX12_law 24 rfl) kS_1710 ?_
    refine a_icmp_ge C 100 (tk T_cX12_law 25 rfl) rfl (fun c => ?_) (fun c => ?_)
    · have h := h.1 c
      refine a_ldc C c_RX12_115 (tk T_cX12_law 59 rfl) ?_
      exact hR _ _ _ _ (tk T_cX12_law 60 rfl) h
    · have h := h.2 c
      refine a_aload_n C (tk T_cX12_law 26 rfl) rfl ?_
      refine a_getR C f_RX12_20 (tk T_cX12_law 27 rfl) lm0 rfl ?_
      refine a_iload_n C (tk T_cX12_law 28 rfl) rfl ?_
      obtain ⟨hb, h⟩ := h
      refine a_iald C (tk T_cX12_law 29 rfl) lm3 hb ?_
      refine a_aload_n C (tk T_cX12_law 30 rfl) rfl ?_
      refine a_getR C f_RX12_23 (tk T_cX12_law 31 rfl) lm0 rfl ?_
      refine a_iload_n C (tk T_cX12_law 32 rfl) rfl ?_
      obtain ⟨hb, h⟩ := h
      refine a_iald C (tk T_cX12_law 33 rfl) lm4 hb ?_
      refine a_icmp_gt C 94 (tk T_cX12_law 34 rfl) rfl (fun c => ?_) (fun c => ?_)
      · have h := h.1 c
        refine a_iinc C (1 : Int32) (tk T_cX12_law 57 rfl) rfl kI_1 (by decide) ?_
        refine a_goto C 37 (tk T_cX12_law 58 rfl) rfl ?_
        exact a_to (ih x1 (x2 + (1 : Int32)) M h) rfl
      · have h := h.2 c
        refine a_iload_n C (tk T_cX12_law 35 rfl) rfl ?_
        refine a_if_ne C 72 (tk T_cX12_law 36 rfl) rfl (fun c => ?_) (fun c => ?_)
        · have h := h.1 c
          refine a_iload_n C (tk T_cX12_law 42 rfl) rfl ?_
          refine a_iconst C (1 : Int32) (tk T_cX12_law 43 rfl) kI_1 ?_
          refine a_icmp_ne C 86 (tk T_cX12_law 44 rfl) rfl (fun c => ?_) (fun c => ?_)
          · have h := h.1 c
            refine a_iload_n C (tk T_cX12_law 51 rfl) rfl ?_
            refine a_bipush C (19 : Int32) (tk T_cX12_law 52 rfl) kB_19 ?_
            refine a_irem C (tk T_cX12_law 53 rfl) (by decide) ?_
            refine a_bipush C (9 : Int32) (tk T_cX12_law 54 rfl) kB_9 ?_
            refine a_isub C (tk T_cX12_law 55 rfl) ?_
            exact a_to (k_M_law_93 C hr hR ih ((irm x2 (19 : Int32)) - (9 : Int32)) M h) rfl
          · have h := h.2 c
            refine a_iload_n C (tk T_cX12_law 45 rfl) rfl ?_
            refine a_bipush C (19 : Int32) (tk T_cX12_law 46 rfl) kB_19 ?_
            refine a_idiv C (tk T_cX12_law 47 rfl) (by decide) ?_
            refine a_iconst C (1 : Int32) (tk T_cX12_law 48 rfl) kI_1 ?_
            refine a_iadd C (tk T_cX12_law 49 rfl) ?_
            refine a_goto C 93 (tk T_cX12_law 50 rfl) rfl ?_
            exact a_to (k_M_law_93 C hr hR ih ((x2 / (19 : Int32)) + (1 : Int32)) M h) rfl
        · have h := h.2 c
          refine a_aload_n C (tk T_cX12_law 37 rfl) rfl ?_
          refine a_getR C f_RX12_20 (tk T_cX12_law 38 rfl) lm0 rfl ?_
          refine a_iload_n C (tk T_cX12_law 39 rfl) rfl ?_
          obtain ⟨hb, h⟩ := h
          refine a_iald C (tk T_cX12_law 40 rfl) lm3 hb ?_
          refine a_goto C 93 (tk T_cX12_law 41 rfl) rfl ?_
          exact a_to (k_M_law_93 C hr hR ih (M 3 x2.toNatClampNeg) M h) rfl
def P_M_law_20 (post : Int32 → Mem → Prop) (x1 s1 : Int32) (M : Mem) : Prop :=
  P_M_throwsIf (fun r1 M1 =>
  (r1 = 0 → (P_M_lays (fun r2 M2 =>
  ∃ j37, P_M_law_37 post j37 x1 (0 : Int32) M2) (0 : Int32) M1)) ∧
  (¬ r1 = 0 → (post (0 : Int32) M1))) s1 (1 : Int32) M
theorem k_M_law_20 {X : FX} {g : GT} {A : Nat → Prop} {Z : State → Prop} {post : Int32 → Mem → Prop} (C : Cx X g layM A cX12_law 3 RX12 4) (hr : 0 ≤ X.2.2.2.1.cells ∧ 0 ≤ X.2.2.2.1.slots) (hR : RetI X g layM A cX12_law 3 0 0 Z post) (x1 s1 : Int32) (M : Mem) (h : P_M_law_20 post x1 s1 M) : At X g layM A 3 0 0 Z 20 [(0, .ref (ad g 0)), (1, .int x1)] [.int s1, .ref (ad g 0)] M := by
  refine a_iconst C (1 : Int32) (tk T_cX12_law 12 rfl) kI_1 ?_
  refine a_callI C [.int s1, .int (1 : Int32)] me_yX12_throwsIf lk_RX12_72 (ct_M_throwsIf h) (by decide) lm0 rfl rfl rfl (Nat.le_of_ble_eq_true rfl) (tk T_cX12_law 13 rfl) hr (fun r1 M1 h => ?_)
  refine a_if_eq C 29 (tk T_cX12_law 14 rfl) rfl (fun c => ?_) (fun c => ?_)
  · have h := h.1 c
    refine a_aload_n C (tk T_cX12_law 17 rfl) rfl ?_
    refine a_iconst C (0 : Int32) (tk T_cX12_law 18 rfl) kI_0 ?_
    refine a_callI C [.int (0 : Int32)] me_yX12_lays lk_RX12_112 (ct_M_lays h) (by decide) lm0 rfl rfl rfl (Nat.le_of_ble_eq_true rfl) (tk T_cX12_law 19 rfl) hr (fun r2 M2 h => ?_)
    refine a_popi C (tk T_cX12_law 20 rfl) ?_
    refine a_iconst C (0 : Int32) (tk T_cX12_law 21 rfl) kI_0 ?_
    refine a_istore_n C (tk T_cX12_law 22 rfl) (by decide) ?_
    obtain ⟨n1, h⟩ := h
    exact a_to (k_M_law_37 C hr hR n1 x1 (0 : Int32) M2 h) rfl
  · have h := h.2 c
    refine a_iconst C (0 : Int32) (tk T_cX12_law 15 rfl) kI_0 ?_
    exact hR _ _ _ _ (tk T_cX12_law 16 rfl) h
def P_M_law (post : Int32 → Mem → Prop) (x1 : Int32) (M : Mem) : Prop :=
  ∀ M1, M1 = ms M 0 0 (0 : Int32) → P_M_in (fun r2 M2 =>
  (¬ r2 = 0 → (P_M_law_20 post x1 (0 : Int32) M2)) ∧
  (r2 = 0 → (P_M_law_20 post x1 (1 : Int32) M2))) x1 (0 : Int32) (2 : Int32) M1
theorem k_M_law {X : FX} {g : GT} {A : Nat → Prop} {Z : State → Prop} {post : Int32 → Mem → Prop} (C : Cx X g layM A cX12_law 3 RX12 4) (hr : 0 ≤ X.2.2.2.1.cells ∧ 0 ≤ X.2.2.2.1.slots) (hR : RetI X g layM A cX12_law 3 0 0 Z post) (x1 : Int32) (M : Mem) (h : P_M_law post x1 M) : At X g layM A 3 0 0 Z 0 [(0, .ref (ad g 0)), (1, .int x1)] [] M := by
  refine a_aload_n C (tk T_cX12_law 0 rfl) rfl ?_
  refine a_iconst C (0 : Int32) (tk T_cX12_law 1 rfl) kI_0 ?_
  refine a_put C f_RX12_3 f_RX12_3p rfl rfl (tk T_cX12_law 2 rfl) lm0 rfl ?_
  refine a_mem (fun M1 e_M1 => ?_)
  have h := h M1 e_M1
  refine a_aload_n C (tk T_cX12_law 3 rfl) rfl ?_
  refine a_iload_n C (tk T_cX12_law 4 rfl) rfl ?_
  refine a_iconst C (0 : Int32) (tk T_cX12_law 5 rfl) kI_0 ?_
  refine a_iconst C (2 : Int32) (tk T_cX12_law 6 rfl) kI_2 ?_
  refine a_statI C [.int x1, .int (0 : Int32), .int (2 : Int32)] me_yX12_in lk_RX12_58 (ct_M_in h) (by decide) rfl rfl (Nat.le_of_ble_eq_true rfl) (tk T_cX12_law 7 rfl) hr (fun r2 M2 h => ?_)
  refine a_if_ne C 19 (tk T_cX12_law 8 rfl) rfl (fun c => ?_) (fun c => ?_)
  · have h := h.1 c
    refine a_iconst C (0 : Int32) (tk T_cX12_law 11 rfl) kI_0 ?_
    exact a_to (k_M_law_20 C hr hR x1 (0 : Int32) M2 h) rfl
  · have h := h.2 c
    refine a_iconst C (1 : Int32) (tk T_cX12_law 9 rfl) kI_1 ?_
    refine a_goto C 20 (tk T_cX12_law 10 rfl) rfl ?_
    exact a_to (k_M_law_20 C hr hR x1 (1 : Int32) M2 h) rfl
theorem ct_M_law {l : Launch} {g : GT} {post : Int32 → Mem → Prop} {x1 : Int32} {M : Mem} (h : P_M_law post x1 M) : CI l g layM yX12_law cX12_law 3 (some .int) 4 [.ref (ad g 0), .int x1] M post :=
  ci_of (plainFor_of_name (by decide +kernel)) (Nat.le_of_ble_eq_true rfl) rfl (fun X A Z hl C hr hR => by subst hl; exact k_M_law C hr hR x1 M h)
def T_cX12_endOfL : List (Nat × Instr × Nat) := [(0, .ldc 116, 2), (2, .istore_n 3, 1), (3, .iconst 0, 1), (4, .istore 4, 2), (6, .iload 4, 2), (8, .sipush 1710, 3), (11, .if_icmp .ge 104, 3), (14, .aload_n 0, 1), (15, .getfield 20, 3), (18, .iload 4, 2), (20, .iaload, 1), (21, .aload_n 0, 1), (22, .getfield 23, 3), (25, .iload 4, 2), (27, .iaload, 1), (28, .if_icmp .le 6, 3), (31, .goto 78, 3), (34, .iload_n 2, 1), (35, .ifCond .eq 20, 3), (38, .aload_n 0, 1), (39, .getfield 23, 3), (42, .iload 4, 2), (44, .iaload, 1), (45, .aload_n 0, 1), (46, .getfield 13, 3), (49, .iconst 4, 1), (50, .iaload, 1), (51, .iadd, 1), (52, .goto 17, 3), (55, .aload_n 0, 1), (56, .getfield 20, 3), (59, .iload 4, 2), (61, .iaload, 1), (62, .aload_n 0, 1), (63, .getfield 13, 3), (66, .iconst 4, 1), (67, .iaload, 1), (68, .isub, 1), (69, .iload 4, 2), (71, .iload_n 1, 1), (72, .invokestatic 103, 3), (75, .iadd, 1), (76, .istore 5, 2), (78, .iload_n 3, 1), (79, .ldc 116, 2), (81, .if_icmp .ne 8, 3), (84, .iload 5, 2), (86, .goto 22, 3), (89, .iload_n 2, 1), (90, .ifCond .eq 12, 3), (93, .iload_n 3, 1), (94, .iload 5, 2), (96, .invokestatic 106, 3), (99, .goto 9, 3), (102, .iload_n 3, 1), (103, .iload 5, 2), (105, .invokestatic 109, 3), (108, .istore_n 3, 1), (109, .iinc 4 1, 3), (112, .goto (-106), 3), (115, .iload_n 3, 1), (116, .ireturn, 1)]
theorem T_cX12_endOf : tabOK cX12_endOf T_cX12_endOfL = true := by decide +kernel
def P_M_endOf_109 (post : Int32 → Mem → Prop) (R6 : Int32 → Int32 → Int32 → Int32 → Mem → Prop) (x1 x2 x3 x4 : Int32) (M : Mem) : Prop :=
  R6 x1 x2 x3 (x4 + (1 : Int32)) M
theorem k_M_endOf_109 {X : FX} {g : GT} {A : Nat → Prop} {Z : State → Prop} {post : Int32 → Mem → Prop} {R6 : Int32 → Int32 → Int32 → Int32 → Mem → Prop} (C : Cx X g layM A cX12_endOf 6 RX12 2) (hr : 0 ≤ X.2.2.2.1.cells ∧ 0 ≤ X.2.2.2.1.slots) (hR : RetI X g layM A cX12_endOf 6 0 0 Z post) (k6 : ∀ (y1 y2 y3 y4 : Int32) (M : Mem), R6 y1 y2 y3 y4 M → At X g layM A 6 0 0 Z 6 [(0, .ref (ad g 0)), (1, .int y1), (2, .int y2), (3, .int y3), (4, .int y4)] [] M) (x1 x2 x3 x4 : Int32) (M : Mem) (h : P_M_endOf_109 post R6 x1 x2 x3 x4 M) : At X g layM A 6 0 0 Z 109 [(0, .ref (ad g 0)), (1, .int x1), (2, .int x2), (3, .int x3), (4, .int x4)] [] M := by
  refine a_iinc C (1 : Int32) (tk T_cX12_endOf 58 rfl) rfl kI_1 (by decide) ?_
  refine a_goto C 6 (tk T_cX12_endOf 59 rfl) rfl ?_
  exact a_to (k6 x1 x2 x3 (x4 + (1 : Int32)) M h) rfl
def P_M_endOf_108 (post : Int32 → Mem → Prop) (R6 : Int32 → Int32 → Int32 → Int32 → Mem → Prop) (x1 x2 x4 s0 : Int32) (M : Mem) : Prop :=
  P_M_endOf_109 post R6 x1 x2 s0 x4 M
theorem k_M_endOf_108 {X : FX} {g : GT} {A : Nat → Prop} {Z : State → Prop} {post : Int32 → Mem → Prop} {R6 : Int32 → Int32 → Int32 → Int32 → Mem → Prop} (C : Cx X g layM A cX12_endOf 6 RX12 2) (hr : 0 ≤ X.2.2.2.1.cells ∧ 0 ≤ X.2.2.2.1.slots) (hR : RetI X g layM A cX12_endOf 6 0 0 Z post) (k6 : ∀ (y1 y2 y3 y4 : Int32) (M : Mem), R6 y1 y2 y3 y4 M → At X g layM A 6 0 0 Z 6 [(0, .ref (ad g 0)), (1, .int y1), (2, .int y2), (3, .int y3), (4, .int y4)] [] M) (x1 x2 x4 s0 : Int32) (M : Mem) (h : P_M_endOf_108 post R6 x1 x2 x4 s0 M) : At X g layM A 6 0 0 Z 108 [(0, .ref (ad g 0)), (1, .int x1), (2, .int x2), (4, .int x4)] [.int s0] M := by
  refine a_istore_n C (tk T_cX12_endOf 57 rfl) (by decide) ?_
  exact a_to (k_M_endOf_109 C hr hR k6 x1 x2 s0 x4 M h) rfl
def P_M_endOf_69 (post : Int32 → Mem → Prop) (R6 : Int32 → Int32 → Int32 → Int32 → Mem → Prop) (x1 x2 x3 x4 s0 : Int32) (M : Mem) : Prop :=
  P_M_above (fun r1 M1 =>
  ∀ x5_2, x5_2 = (s0 + r1) → (¬ x3 = (-99999 : Int32) → ((x2 = 0 → (P_Math_min (fun r3 M3 =>
  P_M_endOf_108 post R6 x1 x2 x4 r3 M3) x3 x5_2 M1)) ∧
  (¬ x2 = 0 → (P_Math_max (fun r4 M4 =>
  P_M_endOf_108 post R6 x1 x2 x4 r4 M4) x3 x5_2 M1)))) ∧
  (x3 = (-99999 : Int32) → (P_M_endOf_108 post R6 x1 x2 x4 x5_2 M1))) x4 x1 M
theorem k_M_endOf_69 {X : FX} {g : GT} {A : Nat → Prop} {Z : State → Prop} {post : Int32 → Mem → Prop} {R6 : Int32 → Int32 → Int32 → Int32 → Mem → Prop} (C : Cx X g layM A cX12_endOf 6 RX12 2) (hr : 0 ≤ X.2.2.2.1.cells ∧ 0 ≤ X.2.2.2.1.slots) (hR : RetI X g layM A cX12_endOf 6 0 0 Z post) (k6 : ∀ (y1 y2 y3 y4 : Int32) (M : Mem), R6 y1 y2 y3 y4 M → At X g layM A 6 0 0 Z 6 [(0, .ref (ad g 0)), (1, .int y1), (2, .int y2), (3, .int y3), (4, .int y4)] [] M) (x1 x2 x3 x4 s0 : Int32) (M : Mem) (h : P_M_endOf_69 post R6 x1 x2 x3 x4 s0 M) : At X g layM A 6 0 0 Z 69 [(0, .ref (ad g 0)), (1, .int x1), (2, .int x2), (3, .int x3), (4, .int x4)] [.int s0] M := by
  refine a_iload C (tk T_cX12_endOf 38 rfl) rfl ?_
  refine a_iload_n C (tk T_cX12_endOf 39 rfl) rfl ?_
  refine a_statI C [.int x4, .int x1] me_yX12_above lk_RX12_103 (ct_M_above h) (by decide) rfl rfl (Nat.le_of_ble_eq_true rfl) (tk T_cX12_endOf 40 rfl) hr (fun r1 M1 h => ?_)
  refine a_iadd C (tk T_cX12_endOf 41 rfl) ?_
  refine a_top (fun x5_2 e_x5_2 => ?_)
  have h := h x5_2 e_x5_2
  refine a_istore C (tk T_cX12_endOf 42 rfl) (by decide) ?_
  refine a_iload_n C (tk T_cX12_endOf 43 rfl) rfl ?_
  refine a_ldc C c_RX12_116 (tk T_cX12_endOf 44 rfl) ?_
  refine a_icmp_ne C 89 (tk T_cX12_endOf 45 rfl) rfl (fun c => ?_) (fun c => ?_)
  · have h := h.1 c
    refine a_iload_n C (tk T_cX12_endOf 48 rfl) rfl ?_
    refine a_if_eq C 102 (tk T_cX12_endOf 49 rfl) rfl (fun c => ?_) (fun c => ?_)
    · have h := h.1 c
      refine a_iload_n C (tk T_cX12_endOf 54 rfl) rfl ?_
      refine a_iload C (tk T_cX12_endOf 55 rfl) rfl ?_
      refine a_statI C [.int x3, .int x5_2] me_yJ9_min_7cf53 lk_RX12_109 (ct_Math_min h) (by decide) rfl rfl (Nat.le_of_ble_eq_true rfl) (tk T_cX12_endOf 56 rfl) hr (fun r3 M3 h => ?_)
      exact a_to (k_M_endOf_108 C hr hR k6 x1 x2 x4 r3 M3 h) rfl
    · have h := h.2 c
      refine a_iload_n C (tk T_cX12_endOf 50 rfl) rfl ?_
      refine a_iload C (tk T_cX12_endOf 51 rfl) rfl ?_
      refine a_statI C [.int x3, .int x5_2] me_yJ9_max_7cf53 lk_RX12_106 (ct_Math_max h) (by decide) rfl rfl (Nat.le_of_ble_eq_true rfl) (tk T_cX12_endOf 52 rfl) hr (fun r4 M4 h => ?_)
      refine a_goto C 108 (tk T_cX12_endOf 53 rfl) rfl ?_
      exact a_to (k_M_endOf_108 C hr hR k6 x1 x2 x4 r4 M4 h) rfl
  · have h := h.2 c
    refine a_iload C (tk T_cX12_endOf 46 rfl) rfl ?_
    refine a_goto C 108 (tk T_cX12_endOf 47 rfl) rfl ?_
    exact a_to (k_M_endOf_108 C hr hR k6 x1 x2 x4 x5_2 M1 h) rfl
def P_M_endOf_6 (post : Int32 → Mem → Prop) : Nat → Int32 → Int32 → Int32 → Int32 → Mem → Prop
  | 0, _, _, _, _, _ => False
  | n + 1, x1, x2, x3, x4, M =>
    ((1710 : Int32) ≤ x4 → (post x3 M)) ∧
  (¬ (1710 : Int32) ≤ x4 → (vp_in x4 1710 ∧ vp_in x4 1710 ∧ ((M 3 x4.toNatClampNeg) ≤ (M 4 x4.toNatClampNeg) → ((x2 = 0 → (vp_in x4 1710 ∧ vp_in (4 : Int32) 5966 ∧ P_M_endOf_69 post (P_M_endOf_6 post n) x1 x2 x3 x4 ((M 3 x4.toNatClampNeg) - (M 1 (4 : Int32).toNatClampNeg)) M)) ∧
  (¬ x2 = 0 → (vp_in x4 1710 ∧ vp_in (4 : Int32) 5966 ∧ P_M_endOf_69 post (P_M_endOf_6 post n) x1 x2 x3 x4 ((M 4 x4.toNatClampNeg) + (M 1 (4 : Int32).toNatClampNeg)) M)))) ∧
  (¬ (M 3 x4.toNatClampNeg) ≤ (M 4 x4.toNatClampNeg) → (P_M_endOf_109 post (P_M_endOf_6 post n) x1 x2 x3 x4 M))))
theorem k_M_endOf_6 {X : FX} {g : GT} {A : Nat → Prop} {Z : State → Prop} {post : Int32 → Mem → Prop} (C : Cx X g layM A cX12_endOf 6 RX12 2) (hr : 0 ≤ X.2.2.2.1.cells ∧ 0 ≤ X.2.2.2.1.slots) (hR : RetI X g layM A cX12_endOf 6 0 0 Z post) : ∀ (n : Nat) (x1 x2 x3 x4 : Int32) (M : Mem), P_M_endOf_6 post n x1 x2 x3 x4 M → At X g layM A 6 0 0 Z 6 [(0, .ref (ad g 0)), (1, .int x1), (2, .int x2), (3, .int x3), (4, .int x4)] [] M := by
  intro n
  induction n with
  | zero =>
    intro x1 x2 x3 x4 M h
    exact h.elim
  | succ n ih =>
    intro x1 x2 x3 x4 M h
    refine a_iload C (tk T_cX12_endOf 4 rfl) rfl ?_
    refine a_sipush C (1710 : Int32) (tk T_cX12_endOf 5 rfl) kS_1710 ?_
    refine a_icmp_ge C 115 (tk T_cX12_endOf 6 rfl) rfl (fun c => ?_) (fun c => ?_)
    · have h := h.1 c
      refine a_iload_n C (tk T_cX12_endOf 60 rfl) rfl ?_
      exact hR _ _ _ _ (tk T_cX12_endOf 61 rfl) h
    · have h := h.2 c
      refine a_aload_n C (tk T_cX12_endOf 7 rfl) rfl ?_
      refine a_getR C f_RX12_20 (tk T_cX12_endOf 8 rfl) lm0 rfl ?_
      refine a_iload C (tk T_cX12_endOf 9 rfl) rfl ?_
      obtain ⟨hb, h⟩ := h
      refine a_iald C (tk T_cX12_endOf 10 rfl) lm3 hb ?_
      refine a_aload_n C (tk T_cX12_endOf 11 rfl) rfl ?_
      refine a_getR C f_RX12_23 (tk T_cX12_endOf 12 rfl) lm0 rfl ?_
      refine a_iload C (tk T_cX12_endOf 13 rfl) rfl ?_
      obtain ⟨hb, h⟩ := h
      refine a_iald C (tk T_cX12_endOf 14 rfl) lm4 hb ?_
      refine a_icmp_le C 34 (tk T_cX12_endOf 15 rfl) rfl (fun c => ?_) (fun c => ?_)
      · have h := h.1 c
        refine a_iload_n C (tk T_cX12_endOf 17 rfl) rfl ?_
        refine a_if_eq C 55 (tk T_cX12_endOf 18 rfl) rfl (fun c => ?_) (fun c => ?_)
        · have h := h.1 c
          refine a_aload_n C (tk T_cX12_endOf 29 rfl) rfl ?_
          refine a_getR C f_RX12_20 (tk T_cX12_endOf 30 rfl) lm0 rfl ?_
          refine a_iload C (tk T_cX12_endOf 31 rfl) rfl ?_
          obtain ⟨hb, h⟩ := h
          refine a_iald C (tk T_cX12_endOf 32 rfl) lm3 hb ?_
          refine a_aload_n C (tk T_cX12_endOf 33 rfl) rfl ?_
          refine a_getR C f_RX12_13 (tk T_cX12_endOf 34 rfl) lm0 rfl ?_
          refine a_iconst C (4 : Int32) (tk T_cX12_endOf 35 rfl) kI_4 ?_
          obtain ⟨hb, h⟩ := h
          refine a_iald C (tk T_cX12_endOf 36 rfl) lm1 hb ?_
          refine a_isub C (tk T_cX12_endOf 37 rfl) ?_
          exact a_to (k_M_endOf_69 C hr hR ih x1 x2 x3 x4 ((M 3 x4.toNatClampNeg) - (M 1 (4 : Int32).toNatClampNeg)) M h) rfl
        · have h := h.2 c
          refine a_aload_n C (tk T_cX12_endOf 19 rfl) rfl ?_
          refine a_getR C f_RX12_23 (tk T_cX12_endOf 20 rfl) lm0 rfl ?_
          refine a_iload C (tk T_cX12_endOf 21 rfl) rfl ?_
          obtain ⟨hb, h⟩ := h
          refine a_iald C (tk T_cX12_endOf 22 rfl) lm4 hb ?_
          refine a_aload_n C (tk T_cX12_endOf 23 rfl) rfl ?_
          refine a_getR C f_RX12_13 (tk T_cX12_endOf 24 rfl) lm0 rfl ?_
          refine a_iconst C (4 : Int32) (tk T_cX12_endOf 25 rfl) kI_4 ?_
          obtain ⟨hb, h⟩ := h
          refine a_iald C (tk T_cX12_endOf 26 rfl) lm1 hb ?_
          refine a_iadd C (tk T_cX12_endOf 27 rfl) ?_
          refine a_goto C 69 (tk T_cX12_endOf 28 rfl) rfl ?_
          exact a_to (k_M_endOf_69 C hr hR ih x1 x2 x3 x4 ((M 4 x4.toNatClampNeg) + (M 1 (4 : Int32).toNatClampNeg)) M h) rfl
      · have h := h.2 c
        refine a_goto C 109 (tk T_cX12_endOf 16 rfl) rfl ?_
        exact a_to (k_M_endOf_109 C hr hR ih x1 x2 x3 x4 M h) rfl
def P_M_endOf (post : Int32 → Mem → Prop) (x1 x2 : Int32) (M : Mem) : Prop :=
  ∃ j6, P_M_endOf_6 post j6 x1 x2 (-99999 : Int32) (0 : Int32) M
theorem k_M_endOf {X : FX} {g : GT} {A : Nat → Prop} {Z : State → Prop} {post : Int32 → Mem → Prop} (C : Cx X g layM A cX12_endOf 6 RX12 2) (hr : 0 ≤ X.2.2.2.1.cells ∧ 0 ≤ X.2.2.2.1.slots) (hR : RetI X g layM A cX12_endOf 6 0 0 Z post) (x1 x2 : Int32) (M : Mem) (h : P_M_endOf post x1 x2 M) : At X g layM A 6 0 0 Z 0 [(0, .ref (ad g 0)), (1, .int x1), (2, .int x2)] [] M := by
  refine a_ldc C c_RX12_116 (tk T_cX12_endOf 0 rfl) ?_
  refine a_istore_n C (tk T_cX12_endOf 1 rfl) (by decide) ?_
  refine a_iconst C (0 : Int32) (tk T_cX12_endOf 2 rfl) kI_0 ?_
  refine a_istore C (tk T_cX12_endOf 3 rfl) (by decide) ?_
  obtain ⟨n1, h⟩ := h
  exact a_to (k_M_endOf_6 C hr hR n1 x1 x2 (-99999 : Int32) (0 : Int32) M h) rfl
theorem ct_M_endOf {l : Launch} {g : GT} {post : Int32 → Mem → Prop} {x1 x2 : Int32} {M : Mem} (h : P_M_endOf post x1 x2 M) : CI l g layM yX12_endOf cX12_endOf 6 (some .int) 2 [.ref (ad g 0), .int x1, .int x2] M post :=
  ci_of (plainFor_of_name (by decide +kernel)) (Nat.le_of_ble_eq_true rfl) rfl (fun X A Z hl C hr hR => by subst hl; exact k_M_endOf C hr hR x1 x2 M h)
def T_cX12_spanL : List (Nat × Instr × Nat) := [(0, .aload_n 0, 1), (1, .iconst 0, 1), (2, .putfield 3, 3), (5, .aload_n 0, 1), (6, .iload_n 1, 1), (7, .invokestatic 76, 3), (10, .iconst 1, 1), (11, .invokevirtual 72, 3), (14, .ifCond .eq 5, 3), (17, .iconst 0, 1), (18, .ireturn, 1), (19, .aload_n 0, 1), (20, .iconst 0, 1), (21, .invokevirtual 112, 3), (24, .pop, 1), (25, .aload_n 0, 1), (26, .aload_n 0, 1), (27, .iload_n 1, 1), (28, .iload_n 2, 1), (29, .ifCond .eq 7, 3), (32, .iconst 1, 1), (33, .goto 4, 3), (36, .iconst 0, 1), (37, .invokevirtual 80, 3), (40, .iload_n 3, 1), (41, .invokevirtual 117, 3), (44, .ireturn, 1)]
theorem T_cX12_span : tabOK cX12_span T_cX12_spanL = true := by decide +kernel
def P_M_span_37 (post : Int32 → Mem → Prop) (x3 s2 s3 : Int32) (M : Mem) : Prop :=
  P_M_truePlace (fun r1 M1 =>
  P_M_endOf (fun r2 M2 =>
  post r2 M2) r1 x3 M1) s2 s3 M
theorem k_M_span_37 {X : FX} {g : GT} {A : Nat → Prop} {Z : State → Prop} {post : Int32 → Mem → Prop} (C : Cx X g layM A cX12_span 4 RX12 4) (hr : 0 ≤ X.2.2.2.1.cells ∧ 0 ≤ X.2.2.2.1.slots) (hR : RetI X g layM A cX12_span 4 0 0 Z post) (x3 s2 s3 : Int32) (M : Mem) (h : P_M_span_37 post x3 s2 s3 M) : At X g layM A 4 0 0 Z 37 [(3, .int x3)] [.int s3, .int s2, .ref (ad g 0), .ref (ad g 0)] M := by
  refine a_callI C [.int s2, .int s3] me_yX12_truePlace lk_RX12_80 (ct_M_truePlace h) (by decide) lm0 rfl rfl rfl (Nat.le_of_ble_eq_true rfl) (tk T_cX12_span 23 rfl) hr (fun r1 M1 h => ?_)
  refine a_iload_n C (tk T_cX12_span 24 rfl) rfl ?_
  refine a_callI C [.int r1, .int x3] me_yX12_endOf lk_RX12_117 (ct_M_endOf h) (by decide) lm0 rfl rfl rfl (Nat.le_of_ble_eq_true rfl) (tk T_cX12_span 25 rfl) hr (fun r2 M2 h => ?_)
  exact hR _ _ _ _ (tk T_cX12_span 26 rfl) h
def P_M_span (post : Int32 → Mem → Prop) (x1 x2 x3 : Int32) (M : Mem) : Prop :=
  ∀ M1, M1 = ms M 0 0 (0 : Int32) → P_M_noPlace (fun r2 M2 =>
  P_M_throwsIf (fun r3 M3 =>
  (r3 = 0 → (P_M_lays (fun r4 M4 =>
  (x2 = 0 → (P_M_span_37 post x3 x1 (0 : Int32) M4)) ∧
  (¬ x2 = 0 → (P_M_span_37 post x3 x1 (1 : Int32) M4))) (0 : Int32) M3)) ∧
  (¬ r3 = 0 → (post (0 : Int32) M3))) r2 (1 : Int32) M2) x1 M1
theorem k_M_span {X : FX} {g : GT} {A : Nat → Prop} {Z : State → Prop} {post : Int32 → Mem → Prop} (C : Cx X g layM A cX12_span 4 RX12 4) (hr : 0 ≤ X.2.2.2.1.cells ∧ 0 ≤ X.2.2.2.1.slots) (hR : RetI X g layM A cX12_span 4 0 0 Z post) (x1 x2 x3 : Int32) (M : Mem) (h : P_M_span post x1 x2 x3 M) : At X g layM A 4 0 0 Z 0 [(0, .ref (ad g 0)), (1, .int x1), (2, .int x2), (3, .int x3)] [] M := by
  refine a_aload_n C (tk T_cX12_span 0 rfl) rfl ?_
  refine a_iconst C (0 : Int32) (tk T_cX12_span 1 rfl) kI_0 ?_
  refine a_put C f_RX12_3 f_RX12_3p rfl rfl (tk T_cX12_span 2 rfl) lm0 rfl ?_
  refine a_mem (fun M1 e_M1 => ?_)
  have h := h M1 e_M1
  refine a_aload_n C (tk T_cX12_span 3 rfl) rfl ?_
  refine a_iload_n C (tk T_cX12_span 4 rfl) rfl ?_
  refine a_statI C [.int x1] me_yX12_noPlace lk_RX12_76 (ct_M_noPlace h) (by decide) rfl rfl (Nat.le_of_ble_eq_true rfl) (tk T_cX12_span 5 rfl) hr (fun r2 M2 h => ?_)
  refine a_iconst C (1 : Int32) (tk T_cX12_span 6 rfl) kI_1 ?_
  refine a_callI C [.int r2, .int (1 : Int32)] me_yX12_throwsIf lk_RX12_72 (ct_M_throwsIf h) (by decide) lm0 rfl rfl rfl (Nat.le_of_ble_eq_true rfl) (tk T_cX12_span 7 rfl) hr (fun r3 M3 h => ?_)
  refine a_if_eq C 19 (tk T_cX12_span 8 rfl) rfl (fun c => ?_) (fun c => ?_)
  · have h := h.1 c
    refine a_aload_n C (tk T_cX12_span 11 rfl) rfl ?_
    refine a_iconst C (0 : Int32) (tk T_cX12_span 12 rfl) kI_0 ?_
    refine a_callI C [.int (0 : Int32)] me_yX12_lays lk_RX12_112 (ct_M_lays h) (by decide) lm0 rfl rfl rfl (Nat.le_of_ble_eq_true rfl) (tk T_cX12_span 13 rfl) hr (fun r4 M4 h => ?_)
    refine a_popi C (tk T_cX12_span 14 rfl) ?_
    refine a_aload_n C (tk T_cX12_span 15 rfl) rfl ?_
    refine a_aload_n C (tk T_cX12_span 16 rfl) rfl ?_
    refine a_iload_n C (tk T_cX12_span 17 rfl) rfl ?_
    refine a_iload_n C (tk T_cX12_span 18 rfl) rfl ?_
    refine a_if_eq C 36 (tk T_cX12_span 19 rfl) rfl (fun c => ?_) (fun c => ?_)
    · have h := h.1 c
      refine a_iconst C (0 : Int32) (tk T_cX12_span 22 rfl) kI_0 ?_
      exact a_to (k_M_span_37 C hr hR x3 x1 (0 : Int32) M4 h) rfl
    · have h := h.2 c
      refine a_iconst C (1 : Int32) (tk T_cX12_span 20 rfl) kI_1 ?_
      refine a_goto C 37 (tk T_cX12_span 21 rfl) rfl ?_
      exact a_to (k_M_span_37 C hr hR x3 x1 (1 : Int32) M4 h) rfl
  · have h := h.2 c
    refine a_iconst C (0 : Int32) (tk T_cX12_span 9 rfl) kI_0 ?_
    exact hR _ _ _ _ (tk T_cX12_span 10 rfl) h
theorem ct_M_span {l : Launch} {g : GT} {post : Int32 → Mem → Prop} {x1 x2 x3 : Int32} {M : Mem} (h : P_M_span post x1 x2 x3 M) : CI l g layM yX12_span cX12_span 4 (some .int) 4 [.ref (ad g 0), .int x1, .int x2, .int x3] M post :=
  ci_of (plainFor_of_name (by decide +kernel)) (Nat.le_of_ble_eq_true rfl) rfl (fun X A Z hl C hr hR => by subst hl; exact k_M_span C hr hR x1 x2 x3 M h)
def T_cX12_slippedL : List (Nat × Instr × Nat) := [(0, .aload_n 0, 1), (1, .iconst 0, 1), (2, .putfield 3, 3), (5, .iconst 0, 1), (6, .istore_n 1, 1), (7, .iload_n 1, 1), (8, .bipush 30, 2), (10, .if_icmp .gt 31, 3), (13, .aload_n 0, 1), (14, .iload_n 1, 1), (15, .ineg, 1), (16, .invokevirtual 112, 3), (19, .ifCond .le 6, 3), (22, .iload_n 1, 1), (23, .ineg, 1), (24, .ireturn, 1), (25, .aload_n 0, 1), (26, .iload_n 1, 1), (27, .invokevirtual 112, 3), (30, .ifCond .le 5, 3), (33, .iload_n 1, 1), (34, .ireturn, 1), (35, .iinc 1 1, 3), (38, .goto (-31), 3), (41, .bipush 99, 2), (43, .ireturn, 1)]
theorem T_cX12_slipped : tabOK cX12_slipped T_cX12_slippedL = true := by decide +kernel
def P_M_slipped_7 (post : Int32 → Mem → Prop) : Nat → Int32 → Mem → Prop
  | 0, _, _ => False
  | n + 1, x1, M =>
    ((30 : Int32) < x1 → (post (99 : Int32) M)) ∧
  (¬ (30 : Int32) < x1 → (P_M_lays (fun r1 M1 =>
  (r1 ≤ 0 → (P_M_lays (fun r2 M2 =>
  (r2 ≤ 0 → (P_M_slipped_7 post n (x1 + (1 : Int32)) M2)) ∧
  (¬ r2 ≤ 0 → (post x1 M2))) x1 M1)) ∧
  (¬ r1 ≤ 0 → (post (-x1) M1))) (-x1) M))
theorem k_M_slipped_7 {X : FX} {g : GT} {A : Nat → Prop} {Z : State → Prop} {post : Int32 → Mem → Prop} (C : Cx X g layM A cX12_slipped 2 RX12 4) (hr : 0 ≤ X.2.2.2.1.cells ∧ 0 ≤ X.2.2.2.1.slots) (hR : RetI X g layM A cX12_slipped 2 0 0 Z post) : ∀ (n : Nat) (x1 : Int32) (M : Mem), P_M_slipped_7 post n x1 M → At X g layM A 2 0 0 Z 7 [(0, .ref (ad g 0)), (1, .int x1)] [] M := by
  intro n
  induction n with
  | zero =>
    intro x1 M h
    exact h.elim
  | succ n ih =>
    intro x1 M h
    refine a_iload_n C (tk T_cX12_slipped 5 rfl) rfl ?_
    refine a_bipush C (30 : Int32) (tk T_cX12_slipped 6 rfl) kB_30 ?_
    refine a_icmp_gt C 41 (tk T_cX12_slipped 7 rfl) rfl (fun c => ?_) (fun c => ?_)
    · have h := h.1 c
      refine a_bipush C (99 : Int32) (tk T_cX12_slipped 24 rfl) kB_99 ?_
      exact hR _ _ _ _ (tk T_cX12_slipped 25 rfl) h
    · have h := h.2 c
      refine a_aload_n C (tk T_cX12_slipped 8 rfl) rfl ?_
      refine a_iload_n C (tk T_cX12_slipped 9 rfl) rfl ?_
      refine a_ineg C (tk T_cX12_slipped 10 rfl) ?_
      refine a_callI C [.int (-x1)] me_yX12_lays lk_RX12_112 (ct_M_lays h) (by decide) lm0 rfl rfl rfl (Nat.le_of_ble_eq_true rfl) (tk T_cX12_slipped 11 rfl) hr (fun r1 M1 h => ?_)
      refine a_if_le C 25 (tk T_cX12_slipped 12 rfl) rfl (fun c => ?_) (fun c => ?_)
      · have h := h.1 c
        refine a_aload_n C (tk T_cX12_slipped 16 rfl) rfl ?_
        refine a_iload_n C (tk T_cX12_slipped 17 rfl) rfl ?_
        refine a_callI C [.int x1] me_yX12_lays lk_RX12_112 (ct_M_lays h) (by decide) lm0 rfl rfl rfl (Nat.le_of_ble_eq_true rfl) (tk T_cX12_slipped 18 rfl) hr (fun r2 M2 h => ?_)
        refine a_if_le C 35 (tk T_cX12_slipped 19 rfl) rfl (fun c => ?_) (fun c => ?_)
        · have h := h.1 c
          refine a_iinc C (1 : Int32) (tk T_cX12_slipped 22 rfl) rfl kI_1 (by decide) ?_
          refine a_goto C 7 (tk T_cX12_slipped 23 rfl) rfl ?_
          exact a_to (ih (x1 + (1 : Int32)) M2 h) rfl
        · have h := h.2 c
          refine a_iload_n C (tk T_cX12_slipped 20 rfl) rfl ?_
          exact hR _ _ _ _ (tk T_cX12_slipped 21 rfl) h
      · have h := h.2 c
        refine a_iload_n C (tk T_cX12_slipped 13 rfl) rfl ?_
        refine a_ineg C (tk T_cX12_slipped 14 rfl) ?_
        exact hR _ _ _ _ (tk T_cX12_slipped 15 rfl) h
def P_M_slipped (post : Int32 → Mem → Prop) (M : Mem) : Prop :=
  ∀ M1, M1 = ms M 0 0 (0 : Int32) → ∃ j7, P_M_slipped_7 post j7 (0 : Int32) M1
theorem k_M_slipped {X : FX} {g : GT} {A : Nat → Prop} {Z : State → Prop} {post : Int32 → Mem → Prop} (C : Cx X g layM A cX12_slipped 2 RX12 4) (hr : 0 ≤ X.2.2.2.1.cells ∧ 0 ≤ X.2.2.2.1.slots) (hR : RetI X g layM A cX12_slipped 2 0 0 Z post) (M : Mem) (h : P_M_slipped post M) : At X g layM A 2 0 0 Z 0 [(0, .ref (ad g 0))] [] M := by
  refine a_aload_n C (tk T_cX12_slipped 0 rfl) rfl ?_
  refine a_iconst C (0 : Int32) (tk T_cX12_slipped 1 rfl) kI_0 ?_
  refine a_put C f_RX12_3 f_RX12_3p rfl rfl (tk T_cX12_slipped 2 rfl) lm0 rfl ?_
  refine a_mem (fun M1 e_M1 => ?_)
  have h := h M1 e_M1
  refine a_iconst C (0 : Int32) (tk T_cX12_slipped 3 rfl) kI_0 ?_
  refine a_istore_n C (tk T_cX12_slipped 4 rfl) (by decide) ?_
  obtain ⟨n1, h⟩ := h
  exact a_to (k_M_slipped_7 C hr hR n1 (0 : Int32) M1 h) rfl
theorem ct_M_slipped {l : Launch} {g : GT} {post : Int32 → Mem → Prop} {M : Mem} (h : P_M_slipped post M) : CI l g layM yX12_slipped cX12_slipped 2 (some .int) 4 [.ref (ad g 0)] M post :=
  ci_of (plainFor_of_name (by decide +kernel)) (Nat.le_of_ble_eq_true rfl) rfl (fun X A Z hl C hr hR => by subst hl; exact k_M_slipped C hr hR  M h)
def T_cX12_linesL : List (Nat × Instr × Nat) := [(0, .aload_n 0, 1), (1, .getfield 13, 3), (4, .bipush 92, 2), (6, .bipush 14, 2), (8, .iload_n 1, 1), (9, .imul, 1), (10, .iadd, 1), (11, .iconst 1, 1), (12, .iadd, 1), (13, .iaload, 1), (14, .ireturn, 1)]
theorem T_cX12_lines : tabOK cX12_lines T_cX12_linesL = true := by decide +kernel
def P_M_lines (post : Int32 → Mem → Prop) (x1 : Int32) (M : Mem) : Prop :=
  ∀ i1, i1 = (((92 : Int32) + ((14 : Int32) * x1)) + (1 : Int32)) → vp_in i1 5966 ∧ post (M 1 i1.toNatClampNeg) M
theorem k_M_lines {X : FX} {g : GT} {A : Nat → Prop} {Z : State → Prop} {post : Int32 → Mem → Prop} (C : Cx X g layM A cX12_lines 2 RX12 0) (hr : 0 ≤ X.2.2.2.1.cells ∧ 0 ≤ X.2.2.2.1.slots) (hR : RetI X g layM A cX12_lines 2 0 0 Z post) (x1 : Int32) (M : Mem) (h : P_M_lines post x1 M) : At X g layM A 2 0 0 Z 0 [(0, .ref (ad g 0)), (1, .int x1)] [] M := by
  refine a_aload_n C (tk T_cX12_lines 0 rfl) rfl ?_
  refine a_getR C f_RX12_13 (tk T_cX12_lines 1 rfl) lm0 rfl ?_
  refine a_bipush C (92 : Int32) (tk T_cX12_lines 2 rfl) kB_92 ?_
  refine a_bipush C (14 : Int32) (tk T_cX12_lines 3 rfl) kB_14 ?_
  refine a_iload_n C (tk T_cX12_lines 4 rfl) rfl ?_
  refine a_imul C (tk T_cX12_lines 5 rfl) ?_
  refine a_iadd C (tk T_cX12_lines 6 rfl) ?_
  refine a_iconst C (1 : Int32) (tk T_cX12_lines 7 rfl) kI_1 ?_
  refine a_iadd C (tk T_cX12_lines 8 rfl) ?_
  refine a_top (fun i1 e_i1 => ?_)
  have h := h i1 e_i1
  obtain ⟨hb, h⟩ := h
  refine a_iald C (tk T_cX12_lines 9 rfl) lm1 hb ?_
  exact hR _ _ _ _ (tk T_cX12_lines 10 rfl) h
theorem ct_M_lines {l : Launch} {g : GT} {post : Int32 → Mem → Prop} {x1 : Int32} {M : Mem} (h : P_M_lines post x1 M) : CI l g layM yX12_lines cX12_lines 2 (some .int) 0 [.ref (ad g 0), .int x1] M post :=
  ci_of (plainFor_of_name (by decide +kernel)) (Nat.le_of_ble_eq_true rfl) rfl (fun X A Z hl C hr hR => by subst hl; exact k_M_lines C hr hR x1 M h)
def T_cX12_waveOfL : List (Nat × Instr × Nat) := [(0, .aload_n 0, 1), (1, .getfield 13, 3), (4, .bipush 92, 2), (6, .bipush 14, 2), (8, .iload_n 1, 1), (9, .imul, 1), (10, .iadd, 1), (11, .iconst 2, 1), (12, .iadd, 1), (13, .iconst 2, 1), (14, .iload_n 2, 1), (15, .imul, 1), (16, .iadd, 1), (17, .iaload, 1), (18, .ireturn, 1)]
theorem T_cX12_waveOf : tabOK cX12_waveOf T_cX12_waveOfL = true := by decide +kernel
def P_M_waveOf (post : Int32 → Mem → Prop) (x1 x2 : Int32) (M : Mem) : Prop :=
  ∀ v1, v1 = ((((92 : Int32) + ((14 : Int32) * x1)) + (2 : Int32)) + ((2 : Int32) * x2)) → vp_in v1 5966 ∧ post (M 1 v1.toNatClampNeg) M
theorem k_M_waveOf {X : FX} {g : GT} {A : Nat → Prop} {Z : State → Prop} {post : Int32 → Mem → Prop} (C : Cx X g layM A cX12_waveOf 3 RX12 0) (hr : 0 ≤ X.2.2.2.1.cells ∧ 0 ≤ X.2.2.2.1.slots) (hR : RetI X g layM A cX12_waveOf 3 0 0 Z post) (x1 x2 : Int32) (M : Mem) (h : P_M_waveOf post x1 x2 M) : At X g layM A 3 0 0 Z 0 [(0, .ref (ad g 0)), (1, .int x1), (2, .int x2)] [] M := by
  refine a_aload_n C (tk T_cX12_waveOf 0 rfl) rfl ?_
  refine a_getR C f_RX12_13 (tk T_cX12_waveOf 1 rfl) lm0 rfl ?_
  refine a_bipush C (92 : Int32) (tk T_cX12_waveOf 2 rfl) kB_92 ?_
  refine a_bipush C (14 : Int32) (tk T_cX12_waveOf 3 rfl) kB_14 ?_
  refine a_iload_n C (tk T_cX12_waveOf 4 rfl) rfl ?_
  refine a_imul C (tk T_cX12_waveOf 5 rfl) ?_
  refine a_iadd C (tk T_cX12_waveOf 6 rfl) ?_
  refine a_iconst C (2 : Int32) (tk T_cX12_waveOf 7 rfl) kI_2 ?_
  refine a_iadd C (tk T_cX12_waveOf 8 rfl) ?_
  refine a_iconst C (2 : Int32) (tk T_cX12_waveOf 9 rfl) kI_2 ?_
  refine a_iload_n C (tk T_cX12_waveOf 10 rfl) rfl ?_
  refine a_imul C (tk T_cX12_waveOf 11 rfl) ?_
  refine a_iadd C (tk T_cX12_waveOf 12 rfl) ?_
  refine a_top (fun v1 e_v1 => ?_)
  have h := h v1 e_v1
  obtain ⟨hb, h⟩ := h
  refine a_iald C (tk T_cX12_waveOf 13 rfl) lm1 hb ?_
  exact hR _ _ _ _ (tk T_cX12_waveOf 14 rfl) h
theorem ct_M_waveOf {l : Launch} {g : GT} {post : Int32 → Mem → Prop} {x1 x2 : Int32} {M : Mem} (h : P_M_waveOf post x1 x2 M) : CI l g layM yX12_waveOf cX12_waveOf 3 (some .int) 0 [.ref (ad g 0), .int x1, .int x2] M post :=
  ci_of (plainFor_of_name (by decide +kernel)) (Nat.le_of_ble_eq_true rfl) rfl (fun X A Z hl C hr hR => by subst hl; exact k_M_waveOf C hr hR x1 x2 M h)
def T_cX12_strengthOfL : List (Nat × Instr × Nat) := [(0, .aload_n 0, 1), (1, .getfield 13, 3), (4, .bipush 92, 2), (6, .bipush 14, 2), (8, .iload_n 1, 1), (9, .imul, 1), (10, .iadd, 1), (11, .iconst 3, 1), (12, .iadd, 1), (13, .iconst 2, 1), (14, .iload_n 2, 1), (15, .imul, 1), (16, .iadd, 1), (17, .iaload, 1), (18, .ireturn, 1)]
theorem T_cX12_strengthOf : tabOK cX12_strengthOf T_cX12_strengthOfL = true := by decide +kernel
def P_M_strengthOf (post : Int32 → Mem → Prop) (x1 x2 : Int32) (M : Mem) : Prop :=
  ∀ v1, v1 = ((((92 : Int32) + ((14 : Int32) * x1)) + (3 : Int32)) + ((2 : Int32) * x2)) → vp_in v1 5966 ∧ post (M 1 v1.toNatClampNeg) M
theorem k_M_strengthOf {X : FX} {g : GT} {A : Nat → Prop} {Z : State → Prop} {post : Int32 → Mem → Prop} (C : Cx X g layM A cX12_strengthOf 3 RX12 0) (hr : 0 ≤ X.2.2.2.1.cells ∧ 0 ≤ X.2.2.2.1.slots) (hR : RetI X g layM A cX12_strengthOf 3 0 0 Z post) (x1 x2 : Int32) (M : Mem) (h : P_M_strengthOf post x1 x2 M) : At X g layM A 3 0 0 Z 0 [(0, .ref (ad g 0)), (1, .int x1), (2, .int x2)] [] M := by
  refine a_aload_n C (tk T_cX12_strengthOf 0 rfl) rfl ?_
  refine a_getR C f_RX12_13 (tk T_cX12_strengthOf 1 rfl) lm0 rfl ?_
  refine a_bipush C (92 : Int32) (tk T_cX12_strengthOf 2 rfl) kB_92 ?_
  refine a_bipush C (14 : Int32) (tk T_cX12_strengthOf 3 rfl) kB_14 ?_
  refine a_iload_n C (tk T_cX12_strengthOf 4 rfl) rfl ?_
  refine a_imul C (tk T_cX12_strengthOf 5 rfl) ?_
  refine a_iadd C (tk T_cX12_strengthOf 6 rfl) ?_
  refine a_iconst C (3 : Int32) (tk T_cX12_strengthOf 7 rfl) kI_3 ?_
  refine a_iadd C (tk T_cX12_strengthOf 8 rfl) ?_
  refine a_iconst C (2 : Int32) (tk T_cX12_strengthOf 9 rfl) kI_2 ?_
  refine a_iload_n C (tk T_cX12_strengthOf 10 rfl) rfl ?_
  refine a_imul C (tk T_cX12_strengthOf 11 rfl) ?_
  refine a_iadd C (tk T_cX12_strengthOf 12 rfl) ?_
  refine a_top (fun v1 e_v1 => ?_)
  have h := h v1 e_v1
  obtain ⟨hb, h⟩ := h
  refine a_iald C (tk T_cX12_strengthOf 13 rfl) lm1 hb ?_
  exact hR _ _ _ _ (tk T_cX12_strengthOf 14 rfl) h
theorem ct_M_strengthOf {l : Launch} {g : GT} {post : Int32 → Mem → Prop} {x1 x2 : Int32} {M : Mem} (h : P_M_strengthOf post x1 x2 M) : CI l g layM yX12_strengthOf cX12_strengthOf 3 (some .int) 0 [.ref (ad g 0), .int x1, .int x2] M post :=
  ci_of (plainFor_of_name (by decide +kernel)) (Nat.le_of_ble_eq_true rfl) rfl (fun X A Z hl C hr hR => by subst hl; exact k_M_strengthOf C hr hR x1 x2 M h)
def T_cX12_isAirL : List (Nat × Instr × Nat) := [(0, .aload_n 0, 1), (1, .getfield 13, 3), (4, .bipush 92, 2), (6, .bipush 14, 2), (8, .iload_n 1, 1), (9, .imul, 1), (10, .iadd, 1), (11, .iaload, 1), (12, .iconst 1, 1), (13, .if_icmp .ne 7, 3), (16, .iconst 1, 1), (17, .goto 4, 3), (20, .iconst 0, 1), (21, .ireturn, 1)]
theorem T_cX12_isAir : tabOK cX12_isAir T_cX12_isAirL = true := by decide +kernel
def P_M_isAir_21 (post : Int32 → Mem → Prop) (s0 : Int32) (M : Mem) : Prop :=
  (s0 = 0 ∨ s0 = 1) ∧ post s0 M
theorem k_M_isAir_21 {X : FX} {g : GT} {A : Nat → Prop} {Z : State → Prop} {post : Int32 → Mem → Prop} (C : Cx X g layM A cX12_isAir 2 RX12 0) (hr : 0 ≤ X.2.2.2.1.cells ∧ 0 ≤ X.2.2.2.1.slots) (hR : RetZ X g layM A cX12_isAir 2 0 0 Z post) (s0 : Int32) (M : Mem) (h : P_M_isAir_21 post s0 M) : At X g layM A 2 0 0 Z 21 [] [.int s0] M := by
  exact hR _ _ _ _ (tk T_cX12_isAir 13 rfl) h
def P_M_isAir (post : Int32 → Mem → Prop) (x1 : Int32) (M : Mem) : Prop :=
  ∀ i1, i1 = ((92 : Int32) + ((14 : Int32) * x1)) → vp_in i1 5966 ∧ (¬ (M 1 i1.toNatClampNeg) = (1 : Int32) → (P_M_isAir_21 post (0 : Int32) M)) ∧
  ((M 1 i1.toNatClampNeg) = (1 : Int32) → (P_M_isAir_21 post (1 : Int32) M))
theorem k_M_isAir {X : FX} {g : GT} {A : Nat → Prop} {Z : State → Prop} {post : Int32 → Mem → Prop} (C : Cx X g layM A cX12_isAir 2 RX12 0) (hr : 0 ≤ X.2.2.2.1.cells ∧ 0 ≤ X.2.2.2.1.slots) (hR : RetZ X g layM A cX12_isAir 2 0 0 Z post) (x1 : Int32) (M : Mem) (h : P_M_isAir post x1 M) : At X g layM A 2 0 0 Z 0 [(0, .ref (ad g 0)), (1, .int x1)] [] M := by
  refine a_aload_n C (tk T_cX12_isAir 0 rfl) rfl ?_
  refine a_getR C f_RX12_13 (tk T_cX12_isAir 1 rfl) lm0 rfl ?_
  refine a_bipush C (92 : Int32) (tk T_cX12_isAir 2 rfl) kB_92 ?_
  refine a_bipush C (14 : Int32) (tk T_cX12_isAir 3 rfl) kB_14 ?_
  refine a_iload_n C (tk T_cX12_isAir 4 rfl) rfl ?_
  refine a_imul C (tk T_cX12_isAir 5 rfl) ?_
  refine a_iadd C (tk T_cX12_isAir 6 rfl) ?_
  refine a_top (fun i1 e_i1 => ?_)
  have h := h i1 e_i1
  obtain ⟨hb, h⟩ := h
  refine a_iald C (tk T_cX12_isAir 7 rfl) lm1 hb ?_
  refine a_iconst C (1 : Int32) (tk T_cX12_isAir 8 rfl) kI_1 ?_
  refine a_icmp_ne C 20 (tk T_cX12_isAir 9 rfl) rfl (fun c => ?_) (fun c => ?_)
  · have h := h.1 c
    refine a_iconst C (0 : Int32) (tk T_cX12_isAir 12 rfl) kI_0 ?_
    exact a_to (k_M_isAir_21 C hr hR (0 : Int32) M h) rfl
  · have h := h.2 c
    refine a_iconst C (1 : Int32) (tk T_cX12_isAir 10 rfl) kI_1 ?_
    refine a_goto C 21 (tk T_cX12_isAir 11 rfl) rfl ?_
    exact a_to (k_M_isAir_21 C hr hR (1 : Int32) M h) rfl
theorem ct_M_isAir {l : Launch} {g : GT} {post : Int32 → Mem → Prop} {x1 : Int32} {M : Mem} (h : P_M_isAir post x1 M) : CI l g layM yX12_isAir cX12_isAir 2 (some .boolean) 0 [.ref (ad g 0), .int x1] M post :=
  cz_of (plainFor_of_name (by decide +kernel)) (Nat.le_of_ble_eq_true rfl) rfl (fun X A Z hl C hr hR => by subst hl; exact k_M_isAir C hr hR x1 M h)
def T_cX12_ofPlateL : List (Nat × Instr × Nat) := [(0, .aload_n 0, 1), (1, .getfield 13, 3), (4, .sipush 176, 3), (7, .iconst 5, 1), (8, .iload_n 1, 1), (9, .imul, 1), (10, .iadd, 1), (11, .iload_n 2, 1), (12, .iadd, 1), (13, .iaload, 1), (14, .ireturn, 1)]
theorem T_cX12_ofPlate : tabOK cX12_ofPlate T_cX12_ofPlateL = true := by decide +kernel
def P_M_ofPlate (post : Int32 → Mem → Prop) (x1 x2 : Int32) (M : Mem) : Prop :=
  ∀ i1, i1 = (((176 : Int32) + ((5 : Int32) * x1)) + x2) → vp_in i1 5966 ∧ post (M 1 i1.toNatClampNeg) M
theorem k_M_ofPlate {X : FX} {g : GT} {A : Nat → Prop} {Z : State → Prop} {post : Int32 → Mem → Prop} (C : Cx X g layM A cX12_ofPlate 3 RX12 0) (hr : 0 ≤ X.2.2.2.1.cells ∧ 0 ≤ X.2.2.2.1.slots) (hR : RetI X g layM A cX12_ofPlate 3 0 0 Z post) (x1 x2 : Int32) (M : Mem) (h : P_M_ofPlate post x1 x2 M) : At X g layM A 3 0 0 Z 0 [(0, .ref (ad g 0)), (1, .int x1), (2, .int x2)] [] M := by
  refine a_aload_n C (tk T_cX12_ofPlate 0 rfl) rfl ?_
  refine a_getR C f_RX12_13 (tk T_cX12_ofPlate 1 rfl) lm0 rfl ?_
  refine a_sipush C (176 : Int32) (tk T_cX12_ofPlate 2 rfl) kS_176 ?_
  refine a_iconst C (5 : Int32) (tk T_cX12_ofPlate 3 rfl) kI_5 ?_
  refine a_iload_n C (tk T_cX12_ofPlate 4 rfl) rfl ?_
  refine a_imul C (tk T_cX12_ofPlate 5 rfl) ?_
  refine a_iadd C (tk T_cX12_ofPlate 6 rfl) ?_
  refine a_iload_n C (tk T_cX12_ofPlate 7 rfl) rfl ?_
  refine a_iadd C (tk T_cX12_ofPlate 8 rfl) ?_
  refine a_top (fun i1 e_i1 => ?_)
  have h := h i1 e_i1
  obtain ⟨hb, h⟩ := h
  refine a_iald C (tk T_cX12_ofPlate 9 rfl) lm1 hb ?_
  exact hR _ _ _ _ (tk T_cX12_ofPlate 10 rfl) h
theorem ct_M_ofPlate {l : Launch} {g : GT} {post : Int32 → Mem → Prop} {x1 x2 : Int32} {M : Mem} (h : P_M_ofPlate post x1 x2 M) : CI l g layM yX12_ofPlate cX12_ofPlate 3 (some .int) 0 [.ref (ad g 0), .int x1, .int x2] M post :=
  ci_of (plainFor_of_name (by decide +kernel)) (Nat.le_of_ble_eq_true rfl) rfl (fun X A Z hl C hr hR => by subst hl; exact k_M_ofPlate C hr hR x1 x2 M h)
def T_cX12_ofL : List (Nat × Instr × Nat) := [(0, .aload_n 0, 1), (1, .getfield 13, 3), (4, .sipush 191, 3), (7, .iconst 5, 1), (8, .iload_n 1, 1), (9, .imul, 1), (10, .iadd, 1), (11, .iload_n 2, 1), (12, .iadd, 1), (13, .iaload, 1), (14, .ireturn, 1)]
theorem T_cX12_of : tabOK cX12_of T_cX12_ofL = true := by decide +kernel
def P_M_of (post : Int32 → Mem → Prop) (x1 x2 : Int32) (M : Mem) : Prop :=
  ∀ i1, i1 = (((191 : Int32) + ((5 : Int32) * x1)) + x2) → vp_in i1 5966 ∧ post (M 1 i1.toNatClampNeg) M
theorem k_M_of {X : FX} {g : GT} {A : Nat → Prop} {Z : State → Prop} {post : Int32 → Mem → Prop} (C : Cx X g layM A cX12_of 3 RX12 0) (hr : 0 ≤ X.2.2.2.1.cells ∧ 0 ≤ X.2.2.2.1.slots) (hR : RetI X g layM A cX12_of 3 0 0 Z post) (x1 x2 : Int32) (M : Mem) (h : P_M_of post x1 x2 M) : At X g layM A 3 0 0 Z 0 [(0, .ref (ad g 0)), (1, .int x1), (2, .int x2)] [] M := by
  refine a_aload_n C (tk T_cX12_of 0 rfl) rfl ?_
  refine a_getR C f_RX12_13 (tk T_cX12_of 1 rfl) lm0 rfl ?_
  refine a_sipush C (191 : Int32) (tk T_cX12_of 2 rfl) kS_191 ?_
  refine a_iconst C (5 : Int32) (tk T_cX12_of 3 rfl) kI_5 ?_
  refine a_iload_n C (tk T_cX12_of 4 rfl) rfl ?_
  refine a_imul C (tk T_cX12_of 5 rfl) ?_
  refine a_iadd C (tk T_cX12_of 6 rfl) ?_
  refine a_iload_n C (tk T_cX12_of 7 rfl) rfl ?_
  refine a_iadd C (tk T_cX12_of 8 rfl) ?_
  refine a_top (fun i1 e_i1 => ?_)
  have h := h i1 e_i1
  obtain ⟨hb, h⟩ := h
  refine a_iald C (tk T_cX12_of 9 rfl) lm1 hb ?_
  exact hR _ _ _ _ (tk T_cX12_of 10 rfl) h
theorem ct_M_of {l : Launch} {g : GT} {post : Int32 → Mem → Prop} {x1 x2 : Int32} {M : Mem} (h : P_M_of post x1 x2 M) : CI l g layM yX12_of cX12_of 3 (some .int) 0 [.ref (ad g 0), .int x1, .int x2] M post :=
  ci_of (plainFor_of_name (by decide +kernel)) (Nat.le_of_ble_eq_true rfl) rfl (fun X A Z hl C hr hR => by subst hl; exact k_M_of C hr hR x1 x2 M h)
def T_cX12_readingsL : List (Nat × Instr × Nat) := [(0, .aload_n 0, 1), (1, .getfield 13, 3), (4, .bipush 9, 2), (6, .iaload, 1), (7, .ireturn, 1)]
theorem T_cX12_readings : tabOK cX12_readings T_cX12_readingsL = true := by decide +kernel
def P_M_readings (post : Int32 → Mem → Prop) (M : Mem) : Prop :=
  vp_in (9 : Int32) 5966 ∧ post (M 1 (9 : Int32).toNatClampNeg) M
theorem k_M_readings {X : FX} {g : GT} {A : Nat → Prop} {Z : State → Prop} {post : Int32 → Mem → Prop} (C : Cx X g layM A cX12_readings 1 RX12 0) (hr : 0 ≤ X.2.2.2.1.cells ∧ 0 ≤ X.2.2.2.1.slots) (hR : RetI X g layM A cX12_readings 1 0 0 Z post) (M : Mem) (h : P_M_readings post M) : At X g layM A 1 0 0 Z 0 [(0, .ref (ad g 0))] [] M := by
  refine a_aload_n C (tk T_cX12_readings 0 rfl) rfl ?_
  refine a_getR C f_RX12_13 (tk T_cX12_readings 1 rfl) lm0 rfl ?_
  refine a_bipush C (9 : Int32) (tk T_cX12_readings 2 rfl) kB_9 ?_
  obtain ⟨hb, h⟩ := h
  refine a_iald C (tk T_cX12_readings 3 rfl) lm1 hb ?_
  exact hR _ _ _ _ (tk T_cX12_readings 4 rfl) h
theorem ct_M_readings {l : Launch} {g : GT} {post : Int32 → Mem → Prop} {M : Mem} (h : P_M_readings post M) : CI l g layM yX12_readings cX12_readings 1 (some .int) 0 [.ref (ad g 0)] M post :=
  ci_of (plainFor_of_name (by decide +kernel)) (Nat.le_of_ble_eq_true rfl) rfl (fun X A Z hl C hr hR => by subst hl; exact k_M_readings C hr hR  M h)
def T_cX12_elementL : List (Nat × Instr × Nat) := [(0, .aload_n 0, 1), (1, .iconst 0, 1), (2, .putfield 3, 3), (5, .aload_n 0, 1), (6, .aload_n 0, 1), (7, .getfield 13, 3), (10, .bipush 7, 2), (12, .iaload, 1), (13, .bipush 6, 2), (15, .if_icmp .ne 7, 3), (18, .iconst 1, 1), (19, .goto 4, 3), (22, .iconst 0, 1), (23, .iconst 1, 1), (24, .invokevirtual 72, 3), (27, .ifCond .eq 5, 3), (30, .iconst 0, 1), (31, .ireturn, 1), (32, .aload_n 0, 1), (33, .getfield 13, 3), (36, .bipush 7, 2), (38, .iaload, 1), (39, .istore_n 2, 1), (40, .aload_n 0, 1), (41, .getfield 13, 3), (44, .bipush 92, 2), (46, .bipush 14, 2), (48, .iload_n 2, 1), (49, .imul, 1), (50, .iadd, 1), (51, .iload_n 1, 1), (52, .ifCond .eq 7, 3), (55, .iconst 1, 1), (56, .goto 4, 3), (59, .iconst 0, 1), (60, .iastore, 1), (61, .aload_n 0, 1), (62, .getfield 13, 3), (65, .bipush 92, 2), (67, .bipush 14, 2), (69, .iload_n 2, 1), (70, .imul, 1), (71, .iadd, 1), (72, .iconst 1, 1), (73, .iadd, 1), (74, .iconst 0, 1), (75, .iastore, 1), (76, .aload_n 0, 1), (77, .getfield 13, 3), (80, .bipush 7, 2), (82, .dup2, 1), (83, .iaload, 1), (84, .iconst 1, 1), (85, .iadd, 1), (86, .iastore, 1), (87, .iload_n 2, 1), (88, .ireturn, 1)]
theorem T_cX12_element : tabOK cX12_element T_cX12_elementL = true := by decide +kernel
def P_M_element_60 (post : Int32 → Mem → Prop) (x2 s1 s2 : Int32) (M : Mem) : Prop :=
  vp_in s1 5966 ∧ ∀ M1, M1 = ms M 1 s1.toNatClampNeg s2 → vp_in (((92 : Int32) + ((14 : Int32) * x2)) + (1 : Int32)) 5966 ∧ ∀ M2, M2 = ms M1 1 (((92 : Int32) + ((14 : Int32) * x2)) + (1 : Int32)).toNatClampNeg (0 : Int32) → vp_in (7 : Int32) 5966 ∧ vp_in (7 : Int32) 5966 ∧ ∀ M3, M3 = ms M2 1 (7 : Int32).toNatClampNeg ((M2 1 (7 : Int32).toNatClampNeg) + (1 : Int32)) → post x2 M3
theorem k_M_element_60 {X : FX} {g : GT} {A : Nat → Prop} {Z : State → Prop} {post : Int32 → Mem → Prop} (C : Cx X g layM A cX12_element 3 RX12 1) (hr : 0 ≤ X.2.2.2.1.cells ∧ 0 ≤ X.2.2.2.1.slots) (hR : RetI X g layM A cX12_element 3 0 0 Z post) (x2 s1 s2 : Int32) (M : Mem) (h : P_M_element_60 post x2 s1 s2 M) : At X g layM A 3 0 0 Z 60 [(0, .ref (ad g 0)), (2, .int x2)] [.int s2, .int s1, .ref (ad g 1)] M := by
  obtain ⟨hb, h⟩ := h
  refine a_iast C (tk T_cX12_element 35 rfl) lm1 hb ?_
  refine a_mem (fun M1 e_M1 => ?_)
  have h := h M1 e_M1
  refine a_aload_n C (tk T_cX12_element 36 rfl) rfl ?_
  refine a_getR C f_RX12_13 (tk T_cX12_element 37 rfl) lm0 rfl ?_
  refine a_bipush C (92 : Int32) (tk T_cX12_element 38 rfl) kB_92 ?_
  refine a_bipush C (14 : Int32) (tk T_cX12_element 39 rfl) kB_14 ?_
  refine a_iload_n C (tk T_cX12_element 40 rfl) rfl ?_
  refine a_imul C (tk T_cX12_element 41 rfl) ?_
  refine a_iadd C (tk T_cX12_element 42 rfl) ?_
  refine a_iconst C (1 : Int32) (tk T_cX12_element 43 rfl) kI_1 ?_
  refine a_iadd C (tk T_cX12_element 44 rfl) ?_
  refine a_iconst C (0 : Int32) (tk T_cX12_element 45 rfl) kI_0 ?_
  obtain ⟨hb, h⟩ := h
  refine a_iast C (tk T_cX12_element 46 rfl) lm1 hb ?_
  refine a_mem (fun M2 e_M2 => ?_)
  have h := h M2 e_M2
  refine a_aload_n C (tk T_cX12_element 47 rfl) rfl ?_
  refine a_getR C f_RX12_13 (tk T_cX12_element 48 rfl) lm0 rfl ?_
  refine a_bipush C (7 : Int32) (tk T_cX12_element 49 rfl) kB_7 ?_
  refine a_dup2ir C (tk T_cX12_element 50 rfl) ?_
  obtain ⟨hb, h⟩ := h
  refine a_iald C (tk T_cX12_element 51 rfl) lm1 hb ?_
  refine a_iconst C (1 : Int32) (tk T_cX12_element 52 rfl) kI_1 ?_
  refine a_iadd C (tk T_cX12_element 53 rfl) ?_
  obtain ⟨hb, h⟩ := h
  refine a_iast C (tk T_cX12_element 54 rfl) lm1 hb ?_
  refine a_mem (fun M3 e_M3 => ?_)
  have h := h M3 e_M3
  refine a_iload_n C (tk T_cX12_element 55 rfl) rfl ?_
  exact hR _ _ _ _ (tk T_cX12_element 56 rfl) h
def P_M_element_23 (post : Int32 → Mem → Prop) (x1 s1 : Int32) (M : Mem) : Prop :=
  P_M_throwsIf (fun r1 M1 =>
  (r1 = 0 → (vp_in (7 : Int32) 5966 ∧ ∀ x2_2, x2_2 = (M1 1 (7 : Int32).toNatClampNeg) → (x1 = 0 → (P_M_element_60 post x2_2 ((92 : Int32) + ((14 : Int32) * x2_2)) (0 : Int32) M1)) ∧
  (¬ x1 = 0 → (P_M_element_60 post x2_2 ((92 : Int32) + ((14 : Int32) * x2_2)) (1 : Int32) M1)))) ∧
  (¬ r1 = 0 → (post (0 : Int32) M1))) s1 (1 : Int32) M
theorem k_M_element_23 {X : FX} {g : GT} {A : Nat → Prop} {Z : State → Prop} {post : Int32 → Mem → Prop} (C : Cx X g layM A cX12_element 3 RX12 1) (hr : 0 ≤ X.2.2.2.1.cells ∧ 0 ≤ X.2.2.2.1.slots) (hR : RetI X g layM A cX12_element 3 0 0 Z post) (x1 s1 : Int32) (M : Mem) (h : P_M_element_23 post x1 s1 M) : At X g layM A 3 0 0 Z 23 [(0, .ref (ad g 0)), (1, .int x1)] [.int s1, .ref (ad g 0)] M := by
  refine a_iconst C (1 : Int32) (tk T_cX12_element 13 rfl) kI_1 ?_
  refine a_callI C [.int s1, .int (1 : Int32)] me_yX12_throwsIf lk_RX12_72 (ct_M_throwsIf h) (by decide) lm0 rfl rfl rfl (Nat.le_of_ble_eq_true rfl) (tk T_cX12_element 14 rfl) hr (fun r1 M1 h => ?_)
  refine a_if_eq C 32 (tk T_cX12_element 15 rfl) rfl (fun c => ?_) (fun c => ?_)
  · have h := h.1 c
    refine a_aload_n C (tk T_cX12_element 18 rfl) rfl ?_
    refine a_getR C f_RX12_13 (tk T_cX12_element 19 rfl) lm0 rfl ?_
    refine a_bipush C (7 : Int32) (tk T_cX12_element 20 rfl) kB_7 ?_
    obtain ⟨hb, h⟩ := h
    refine a_iald C (tk T_cX12_element 21 rfl) lm1 hb ?_
    refine a_top (fun x2_2 e_x2_2 => ?_)
    have h := h x2_2 e_x2_2
    refine a_istore_n C (tk T_cX12_element 22 rfl) (by decide) ?_
    refine a_aload_n C (tk T_cX12_element 23 rfl) rfl ?_
    refine a_getR C f_RX12_13 (tk T_cX12_element 24 rfl) lm0 rfl ?_
    refine a_bipush C (92 : Int32) (tk T_cX12_element 25 rfl) kB_92 ?_
    refine a_bipush C (14 : Int32) (tk T_cX12_element 26 rfl) kB_14 ?_
    refine a_iload_n C (tk T_cX12_element 27 rfl) rfl ?_
    refine a_imul C (tk T_cX12_element 28 rfl) ?_
    refine a_iadd C (tk T_cX12_element 29 rfl) ?_
    refine a_iload_n C (tk T_cX12_element 30 rfl) rfl ?_
    refine a_if_eq C 59 (tk T_cX12_element 31 rfl) rfl (fun c => ?_) (fun c => ?_)
    · have h := h.1 c
      refine a_iconst C (0 : Int32) (tk T_cX12_element 34 rfl) kI_0 ?_
      exact a_to (k_M_element_60 C hr hR x2_2 ((92 : Int32) + ((14 : Int32) * x2_2)) (0 : Int32) M1 h) rfl
    · have h := h.2 c
      refine a_iconst C (1 : Int32) (tk T_cX12_element 32 rfl) kI_1 ?_
      refine a_goto C 60 (tk T_cX12_element 33 rfl) rfl ?_
      exact a_to (k_M_element_60 C hr hR x2_2 ((92 : Int32) + ((14 : Int32) * x2_2)) (1 : Int32) M1 h) rfl
  · have h := h.2 c
    refine a_iconst C (0 : Int32) (tk T_cX12_element 16 rfl) kI_0 ?_
    exact hR _ _ _ _ (tk T_cX12_element 17 rfl) h
def P_M_element (post : Int32 → Mem → Prop) (x1 : Int32) (M : Mem) : Prop :=
  ∀ M1, M1 = ms M 0 0 (0 : Int32) → vp_in (7 : Int32) 5966 ∧ (¬ (M1 1 (7 : Int32).toNatClampNeg) = (6 : Int32) → (P_M_element_23 post x1 (0 : Int32) M1)) ∧
  ((M1 1 (7 : Int32).toNatClampNeg) = (6 : Int32) → (P_M_element_23 post x1 (1 : Int32) M1))
theorem k_M_element {X : FX} {g : GT} {A : Nat → Prop} {Z : State → Prop} {post : Int32 → Mem → Prop} (C : Cx X g layM A cX12_element 3 RX12 1) (hr : 0 ≤ X.2.2.2.1.cells ∧ 0 ≤ X.2.2.2.1.slots) (hR : RetI X g layM A cX12_element 3 0 0 Z post) (x1 : Int32) (M : Mem) (h : P_M_element post x1 M) : At X g layM A 3 0 0 Z 0 [(0, .ref (ad g 0)), (1, .int x1)] [] M := by
  refine a_aload_n C (tk T_cX12_element 0 rfl) rfl ?_
  refine a_iconst C (0 : Int32) (tk T_cX12_element 1 rfl) kI_0 ?_
  refine a_put C f_RX12_3 f_RX12_3p rfl rfl (tk T_cX12_element 2 rfl) lm0 rfl ?_
  refine a_mem (fun M1 e_M1 => ?_)
  have h := h M1 e_M1
  refine a_aload_n C (tk T_cX12_element 3 rfl) rfl ?_
  refine a_aload_n C (tk T_cX12_element 4 rfl) rfl ?_
  refine a_getR C f_RX12_13 (tk T_cX12_element 5 rfl) lm0 rfl ?_
  refine a_bipush C (7 : Int32) (tk T_cX12_element 6 rfl) kB_7 ?_
  obtain ⟨hb, h⟩ := h
  refine a_iald C (tk T_cX12_element 7 rfl) lm1 hb ?_
  refine a_bipush C (6 : Int32) (tk T_cX12_element 8 rfl) kB_6 ?_
  refine a_icmp_ne C 22 (tk T_cX12_element 9 rfl) rfl (fun c => ?_) (fun c => ?_)
  · have h := h.1 c
    refine a_iconst C (0 : Int32) (tk T_cX12_element 12 rfl) kI_0 ?_
    exact a_to (k_M_element_23 C hr hR x1 (0 : Int32) M1 h) rfl
  · have h := h.2 c
    refine a_iconst C (1 : Int32) (tk T_cX12_element 10 rfl) kI_1 ?_
    refine a_goto C 23 (tk T_cX12_element 11 rfl) rfl ?_
    exact a_to (k_M_element_23 C hr hR x1 (1 : Int32) M1 h) rfl
theorem ct_M_element {l : Launch} {g : GT} {post : Int32 → Mem → Prop} {x1 : Int32} {M : Mem} (h : P_M_element post x1 M) : CI l g layM yX12_element cX12_element 3 (some .int) 1 [.ref (ad g 0), .int x1] M post :=
  ci_of (plainFor_of_name (by decide +kernel)) (Nat.le_of_ble_eq_true rfl) rfl (fun X A Z hl C hr hR => by subst hl; exact k_M_element C hr hR x1 M h)
def T_cX12_lineL : List (Nat × Instr × Nat) := [(0, .aload_n 0, 1), (1, .iconst 0, 1), (2, .putfield 3, 3), (5, .aload_n 0, 1), (6, .aload_n 0, 1), (7, .iload_n 1, 1), (8, .bipush 7, 2), (10, .invokevirtual 121, 3), (13, .iconst 1, 1), (14, .invokevirtual 72, 3), (17, .ifCond .ne 56, 3), (20, .aload_n 0, 1), (21, .iload_n 2, 1), (22, .invokestatic 97, 3), (25, .ifCond .ne 13, 3), (28, .iload_n 3, 1), (29, .iconst 1, 1), (30, .bipush 9, 2), (32, .invokestatic 58, 3), (35, .ifCond .ne 7, 3), (38, .iconst 1, 1), (39, .goto 4, 3), (42, .iconst 0, 1), (43, .iconst 2, 1), (44, .invokevirtual 72, 3), (47, .ifCond .ne 26, 3), (50, .aload_n 0, 1), (51, .aload_n 0, 1), (52, .iload_n 1, 1), (53, .invokevirtual 125, 3), (56, .bipush 6, 2), (58, .if_icmp .ne 7, 3), (61, .iconst 1, 1), (62, .goto 4, 3), (65, .iconst 0, 1), (66, .iconst 3, 1), (67, .invokevirtual 72, 3), (70, .ifCond .eq 5, 3), (73, .iconst 0, 1), (74, .ireturn, 1), (75, .bipush 92, 2), (77, .bipush 14, 2), (79, .iload_n 1, 1), (80, .imul, 1), (81, .iadd, 1), (82, .istore 4, 2), (84, .aload_n 0, 1), (85, .iload_n 1, 1), (86, .invokevirtual 125, 3), (89, .istore 5, 2), (91, .aload_n 0, 1), (92, .getfield 13, 3), (95, .iload 4, 2), (97, .iconst 2, 1), (98, .iadd, 1), (99, .iconst 2, 1), (100, .iload 5, 2), (102, .imul, 1), (103, .iadd, 1), (104, .iload_n 2, 1), (105, .iastore, 1), (106, .aload_n 0, 1), (107, .getfield 13, 3), (110, .iload 4, 2), (112, .iconst 3, 1), (113, .iadd, 1), (114, .iconst 2, 1), (115, .iload 5, 2), (117, .imul, 1), (118, .iadd, 1), (119, .iload_n 3, 1), (120, .iastore, 1), (121, .aload_n 0, 1), (122, .getfield 13, 3), (125, .iload 4, 2), (127, .iconst 1, 1), (128, .iadd, 1), (129, .dup2, 1), (130, .iaload, 1), (131, .iconst 1, 1), (132, .iadd, 1), (133, .iastore, 1), (134, .iload 5, 2), (136, .ireturn, 1)]
theorem T_cX12_line : tabOK cX12_line T_cX12_lineL = true := by decide +kernel
def P_M_line_73 (post : Int32 → Mem → Prop) (M : Mem) : Prop :=
  post (0 : Int32) M
theorem k_M_line_73 {X : FX} {g : GT} {A : Nat → Prop} {Z : State → Prop} {post : Int32 → Mem → Prop} (C : Cx X g layM A cX12_line 6 RX12 2) (hr : 0 ≤ X.2.2.2.1.cells ∧ 0 ≤ X.2.2.2.1.slots) (hR : RetI X g layM A cX12_line 6 0 0 Z post)  (M : Mem) (h : P_M_line_73 post M) : At X g layM A 6 0 0 Z 73 [] [] M := by
  refine a_iconst C (0 : Int32) (tk T_cX12_line 38 rfl) kI_0 ?_
  exact hR _ _ _ _ (tk T_cX12_line 39 rfl) h
def P_M_line_66 (post : Int32 → Mem → Prop) (x1 x2 x3 s1 : Int32) (M : Mem) : Prop :=
  P_M_throwsIf (fun r1 M1 =>
  (r1 = 0 → (∀ x4_2, x4_2 = ((92 : Int32) + ((14 : Int32) * x1)) → P_M_lines (fun r3 M3 =>
  vp_in ((x4_2 + (2 : Int32)) + ((2 : Int32) * r3)) 5966 ∧ ∀ M4, M4 = ms M3 1 ((x4_2 + (2 : Int32)) + ((2 : Int32) * r3)).toNatClampNeg x2 → vp_in ((x4_2 + (3 : Int32)) + ((2 : Int32) * r3)) 5966 ∧ ∀ M5, M5 = ms M4 1 ((x4_2 + (3 : Int32)) + ((2 : Int32) * r3)).toNatClampNeg x3 → vp_in (x4_2 + (1 : Int32)) 5966 ∧ vp_in (x4_2 + (1 : Int32)) 5966 ∧ ∀ M6, M6 = ms M5 1 (x4_2 + (1 : Int32)).toNatClampNeg ((M5 1 (x4_2 + (1 : Int32)).toNatClampNeg) + (1 : Int32)) → post r3 M6) x1 M1)) ∧
  (¬ r1 = 0 → (P_M_line_73 post M1))) s1 (3 : Int32) M
theorem k_M_line_66 {X : FX} {g : GT} {A : Nat → Prop} {Z : State → Prop} {post : Int32 → Mem → Prop} (C : Cx X g layM A cX12_line 6 RX12 2) (hr : 0 ≤ X.2.2.2.1.cells ∧ 0 ≤ X.2.2.2.1.slots) (hR : RetI X g layM A cX12_line 6 0 0 Z post) (x1 x2 x3 s1 : Int32) (M : Mem) (h : P_M_line_66 post x1 x2 x3 s1 M) : At X g layM A 6 0 0 Z 66 [(0, .ref (ad g 0)), (1, .int x1), (2, .int x2), (3, .int x3)] [.int s1, .ref (ad g 0)] M := by
  refine a_iconst C (3 : Int32) (tk T_cX12_line 35 rfl) kI_3 ?_
  refine a_callI C [.int s1, .int (3 : Int32)] me_yX12_throwsIf lk_RX12_72 (ct_M_throwsIf h) (by decide) lm0 rfl rfl rfl (Nat.le_of_ble_eq_true rfl) (tk T_cX12_line 36 rfl) hr (fun r1 M1 h => ?_)
  refine a_if_eq C 75 (tk T_cX12_line 37 rfl) rfl (fun c => ?_) (fun c => ?_)
  · have h := h.1 c
    refine a_bipush C (92 : Int32) (tk T_cX12_line 40 rfl) kB_92 ?_
    refine a_bipush C (14 : Int32) (tk T_cX12_line 41 rfl) kB_14 ?_
    refine a_iload_n C (tk T_cX12_line 42 rfl) rfl ?_
    refine a_imul C (tk T_cX12_line 43 rfl) ?_
    refine a_iadd C (tk T_cX12_line 44 rfl) ?_
    refine a_top (fun x4_2 e_x4_2 => ?_)
    have h := h x4_2 e_x4_2
    refine a_istore C (tk T_cX12_line 45 rfl) (by decide) ?_
    refine a_aload_n C (tk T_cX12_line 46 rfl) rfl ?_
    refine a_iload_n C (tk T_cX12_line 47 rfl) rfl ?_
    refine a_callI C [.int x1] me_yX12_lines lk_RX12_125 (ct_M_lines h) (by decide) lm0 rfl rfl rfl (Nat.le_of_ble_eq_true rfl) (tk T_cX12_line 48 rfl) hr (fun r3 M3 h => ?_)
    refine a_istore C (tk T_cX12_line 49 rfl) (by decide) ?_
    refine a_aload_n C (tk T_cX12_line 50 rfl) rfl ?_
    refine a_getR C f_RX12_13 (tk T_cX12_line 51 rfl) lm0 rfl ?_
    refine a_iload C (tk T_cX12_line 52 rfl) rfl ?_
    refine a_iconst C (2 : Int32) (tk T_cX12_line 53 rfl) kI_2 ?_
    refine a_iadd C (tk T_cX12_line 54 rfl) ?_
    refine a_iconst C (2 : Int32) (tk T_cX12_line 55 rfl) kI_2 ?_
    refine a_iload C (tk T_cX12_line 56 rfl) rfl ?_
    refine a_imul C (tk T_cX12_line 57 rfl) ?_
    refine a_iadd C (tk T_cX12_line 58 rfl) ?_
    refine a_iload_n C (tk T_cX12_line 59 rfl) rfl ?_
    obtain ⟨hb, h⟩ := h
    refine a_iast C (tk T_cX12_line 60 rfl) lm1 hb ?_
    refine a_mem (fun M4 e_M4 => ?_)
    have h := h M4 e_M4
    refine a_aload_n C (tk T_cX12_line 61 rfl) rfl ?_
    refine a_getR C f_RX12_13 (tk T_cX12_line 62 rfl) lm0 rfl ?_
    refine a_iload C (tk T_cX12_line 63 rfl) rfl ?_
    refine a_iconst C (3 : Int32) (tk T_cX12_line 64 rfl) kI_3 ?_
    refine a_iadd C (tk T_cX12_line 65 rfl) ?_
    refine a_iconst C (2 : Int32) (tk T_cX12_line 66 rfl) kI_2 ?_
    refine a_iload C (tk T_cX12_line 67 rfl) rfl ?_
    refine a_imul C (tk T_cX12_line 68 rfl) ?_
    refine a_iadd C (tk T_cX12_line 69 rfl) ?_
    refine a_iload_n C (tk T_cX12_line 70 rfl) rfl ?_
    obtain ⟨hb, h⟩ := h
    refine a_iast C (tk T_cX12_line 71 rfl) lm1 hb ?_
    refine a_mem (fun M5 e_M5 => ?_)
    have h := h M5 e_M5
    refine a_aload_n C (tk T_cX12_line 72 rfl) rfl ?_
    refine a_getR C f_RX12_13 (tk T_cX12_line 73 rfl) lm0 rfl ?_
    refine a_iload C (tk T_cX12_line 74 rfl) rfl ?_
    refine a_iconst C (1 : Int32) (tk T_cX12_line 75 rfl) kI_1 ?_
    refine a_iadd C (tk T_cX12_line 76 rfl) ?_
    refine a_dup2ir C (tk T_cX12_line 77 rfl) ?_
    obtain ⟨hb, h⟩ := h
    refine a_iald C (tk T_cX12_line 78 rfl) lm1 hb ?_
    refine a_iconst C (1 : Int32) (tk T_cX12_line 79 rfl) kI_1 ?_
    refine a_iadd C (tk T_cX12_line 80 rfl) ?_
    obtain ⟨hb, h⟩ := h
    refine a_iast C (tk T_cX12_line 81 rfl) lm1 hb ?_
    refine a_mem (fun M6 e_M6 => ?_)
    have h := h M6 e_M6
    refine a_iload C (tk T_cX12_line 82 rfl) rfl ?_
    exact hR _ _ _ _ (tk T_cX12_line 83 rfl) h
  · have h := h.2 c
    exact a_to (k_M_line_73 C hr hR M1 h) rfl
def P_M_line_43 (post : Int32 → Mem → Prop) (x1 x2 x3 s1 : Int32) (M : Mem) : Prop :=
  P_M_throwsIf (fun r1 M1 =>
  (¬ r1 = 0 → (P_M_line_73 post M1)) ∧
  (r1 = 0 → (P_M_lines (fun r2 M2 =>
  (¬ r2 = (6 : Int32) → (P_M_line_66 post x1 x2 x3 (0 : Int32) M2)) ∧
  (r2 = (6 : Int32) → (P_M_line_66 post x1 x2 x3 (1 : Int32) M2))) x1 M1))) s1 (2 : Int32) M
theorem k_M_line_43 {X : FX} {g : GT} {A : Nat → Prop} {Z : State → Prop} {post : Int32 → Mem → Prop} (C : Cx X g layM A cX12_line 6 RX12 2) (hr : 0 ≤ X.2.2.2.1.cells ∧ 0 ≤ X.2.2.2.1.slots) (hR : RetI X g layM A cX12_line 6 0 0 Z post) (x1 x2 x3 s1 : Int32) (M : Mem) (h : P_M_line_43 post x1 x2 x3 s1 M) : At X g layM A 6 0 0 Z 43 [(0, .ref (ad g 0)), (1, .int x1), (2, .int x2), (3, .int x3)] [.int s1, .ref (ad g 0)] M := by
  refine a_iconst C (2 : Int32) (tk T_cX12_line 23 rfl) kI_2 ?_
  refine a_callI C [.int s1, .int (2 : Int32)] me_yX12_throwsIf lk_RX12_72 (ct_M_throwsIf h) (by decide) lm0 rfl rfl rfl (Nat.le_of_ble_eq_true rfl) (tk T_cX12_line 24 rfl) hr (fun r1 M1 h => ?_)
  refine a_if_ne C 73 (tk T_cX12_line 25 rfl) rfl (fun c => ?_) (fun c => ?_)
  · have h := h.1 c
    exact a_to (k_M_line_73 C hr hR M1 h) rfl
  · have h := h.2 c
    refine a_aload_n C (tk T_cX12_line 26 rfl) rfl ?_
    refine a_aload_n C (tk T_cX12_line 27 rfl) rfl ?_
    refine a_iload_n C (tk T_cX12_line 28 rfl) rfl ?_
    refine a_callI C [.int x1] me_yX12_lines lk_RX12_125 (ct_M_lines h) (by decide) lm0 rfl rfl rfl (Nat.le_of_ble_eq_true rfl) (tk T_cX12_line 29 rfl) hr (fun r2 M2 h => ?_)
    refine a_bipush C (6 : Int32) (tk T_cX12_line 30 rfl) kB_6 ?_
    refine a_icmp_ne C 65 (tk T_cX12_line 31 rfl) rfl (fun c => ?_) (fun c => ?_)
    · have h := h.1 c
      refine a_iconst C (0 : Int32) (tk T_cX12_line 34 rfl) kI_0 ?_
      exact a_to (k_M_line_66 C hr hR x1 x2 x3 (0 : Int32) M2 h) rfl
    · have h := h.2 c
      refine a_iconst C (1 : Int32) (tk T_cX12_line 32 rfl) kI_1 ?_
      refine a_goto C 66 (tk T_cX12_line 33 rfl) rfl ?_
      exact a_to (k_M_line_66 C hr hR x1 x2 x3 (1 : Int32) M2 h) rfl
def P_M_line_38 (post : Int32 → Mem → Prop) (x1 x2 x3 : Int32) (M : Mem) : Prop :=
  P_M_line_43 post x1 x2 x3 (1 : Int32) M
theorem k_M_line_38 {X : FX} {g : GT} {A : Nat → Prop} {Z : State → Prop} {post : Int32 → Mem → Prop} (C : Cx X g layM A cX12_line 6 RX12 2) (hr : 0 ≤ X.2.2.2.1.cells ∧ 0 ≤ X.2.2.2.1.slots) (hR : RetI X g layM A cX12_line 6 0 0 Z post) (x1 x2 x3 : Int32) (M : Mem) (h : P_M_line_38 post x1 x2 x3 M) : At X g layM A 6 0 0 Z 38 [(0, .ref (ad g 0)), (1, .int x1), (2, .int x2), (3, .int x3)] [.ref (ad g 0)] M := by
  refine a_iconst C (1 : Int32) (tk T_cX12_line 20 rfl) kI_1 ?_
  refine a_goto C 43 (tk T_cX12_line 21 rfl) rfl ?_
  exact a_to (k_M_line_43 C hr hR x1 x2 x3 (1 : Int32) M h) rfl
def P_M_line (post : Int32 → Mem → Prop) (x1 x2 x3 : Int32) (M : Mem) : Prop :=
  ∀ M1, M1 = ms M 0 0 (0 : Int32) → P_M_none (fun r2 M2 =>
  P_M_throwsIf (fun r3 M3 =>
  (¬ r3 = 0 → (P_M_line_73 post M3)) ∧
  (r3 = 0 → (P_M_noWave (fun r4 M4 =>
  (¬ r4 = 0 → (P_M_line_38 post x1 x2 x3 M4)) ∧
  (r4 = 0 → (P_M_in (fun r5 M5 =>
  (¬ r5 = 0 → (P_M_line_43 post x1 x2 x3 (0 : Int32) M5)) ∧
  (r5 = 0 → (P_M_line_38 post x1 x2 x3 M5))) x3 (1 : Int32) (9 : Int32) M4))) x2 M3))) r2 (1 : Int32) M2) x1 (7 : Int32) M1
theorem k_M_line {X : FX} {g : GT} {A : Nat → Prop} {Z : State → Prop} {post : Int32 → Mem → Prop} (C : Cx X g layM A cX12_line 6 RX12 2) (hr : 0 ≤ X.2.2.2.1.cells ∧ 0 ≤ X.2.2.2.1.slots) (hR : RetI X g layM A cX12_line 6 0 0 Z post) (x1 x2 x3 : Int32) (M : Mem) (h : P_M_line post x1 x2 x3 M) : At X g layM A 6 0 0 Z 0 [(0, .ref (ad g 0)), (1, .int x1), (2, .int x2), (3, .int x3)] [] M := by
  refine a_aload_n C (tk T_cX12_line 0 rfl) rfl ?_
  refine a_iconst C (0 : Int32) (tk T_cX12_line 1 rfl) kI_0 ?_
  refine a_put C f_RX12_3 f_RX12_3p rfl rfl (tk T_cX12_line 2 rfl) lm0 rfl ?_
  refine a_mem (fun M1 e_M1 => ?_)
  have h := h M1 e_M1
  refine a_aload_n C (tk T_cX12_line 3 rfl) rfl ?_
  refine a_aload_n C (tk T_cX12_line 4 rfl) rfl ?_
  refine a_iload_n C (tk T_cX12_line 5 rfl) rfl ?_
  refine a_bipush C (7 : Int32) (tk T_cX12_line 6 rfl) kB_7 ?_
  refine a_callI C [.int x1, .int (7 : Int32)] me_yX12_none lk_RX12_121 (ct_M_none h) (by decide) lm0 rfl rfl rfl (Nat.le_of_ble_eq_true rfl) (tk T_cX12_line 7 rfl) hr (fun r2 M2 h => ?_)
  refine a_iconst C (1 : Int32) (tk T_cX12_line 8 rfl) kI_1 ?_
  refine a_callI C [.int r2, .int (1 : Int32)] me_yX12_throwsIf lk_RX12_72 (ct_M_throwsIf h) (by decide) lm0 rfl rfl rfl (Nat.le_of_ble_eq_true rfl) (tk T_cX12_line 9 rfl) hr (fun r3 M3 h => ?_)
  refine a_if_ne C 73 (tk T_cX12_line 10 rfl) rfl (fun c => ?_) (fun c => ?_)
  · have h := h.1 c
    exact a_to (k_M_line_73 C hr hR M3 h) rfl
  · have h := h.2 c
    refine a_aload_n C (tk T_cX12_line 11 rfl) rfl ?_
    refine a_iload_n C (tk T_cX12_line 12 rfl) rfl ?_
    refine a_statI C [.int x2] me_yX12_noWave lk_RX12_97 (ct_M_noWave h) (by decide) rfl rfl (Nat.le_of_ble_eq_true rfl) (tk T_cX12_line 13 rfl) hr (fun r4 M4 h => ?_)
    refine a_if_ne C 38 (tk T_cX12_line 14 rfl) rfl (fun c => ?_) (fun c => ?_)
    · have h := h.1 c
      exact a_to (k_M_line_38 C hr hR x1 x2 x3 M4 h) rfl
    · have h := h.2 c
      refine a_iload_n C (tk T_cX12_line 15 rfl) rfl ?_
      refine a_iconst C (1 : Int32) (tk T_cX12_line 16 rfl) kI_1 ?_
      refine a_bipush C (9 : Int32) (tk T_cX12_line 17 rfl) kB_9 ?_
      refine a_statI C [.int x3, .int (1 : Int32), .int (9 : Int32)] me_yX12_in lk_RX12_58 (ct_M_in h) (by decide) rfl rfl (Nat.le_of_ble_eq_true rfl) (tk T_cX12_line 18 rfl) hr (fun r5 M5 h => ?_)
      refine a_if_ne C 42 (tk T_cX12_line 19 rfl) rfl (fun c => ?_) (fun c => ?_)
      · have h := h.1 c
        refine a_iconst C (0 : Int32) (tk T_cX12_line 22 rfl) kI_0 ?_
        exact a_to (k_M_line_43 C hr hR x1 x2 x3 (0 : Int32) M5 h) rfl
      · have h := h.2 c
        exact a_to (k_M_line_38 C hr hR x1 x2 x3 M5 h) rfl
theorem ct_M_line {l : Launch} {g : GT} {post : Int32 → Mem → Prop} {x1 x2 x3 : Int32} {M : Mem} (h : P_M_line post x1 x2 x3 M) : CI l g layM yX12_line cX12_line 6 (some .int) 2 [.ref (ad g 0), .int x1, .int x2, .int x3] M post :=
  ci_of (plainFor_of_name (by decide +kernel)) (Nat.le_of_ble_eq_true rfl) rfl (fun X A Z hl C hr hR => by subst hl; exact k_M_line C hr hR x1 x2 x3 M h)
def T_cX12_plateL : List (Nat × Instr × Nat) := [(0, .aload_n 0, 1), (1, .iconst 0, 1), (2, .putfield 3, 3), (5, .aload_n 0, 1), (6, .iload_n 1, 1), (7, .iconst 1, 1), (8, .bipush 9, 2), (10, .invokestatic 58, 3), (13, .ifCond .eq 45, 3), (16, .iload_n 2, 1), (17, .iconst 1, 1), (18, .iconst 5, 1), (19, .invokestatic 58, 3), (22, .ifCond .eq 36, 3), (25, .iload_n 3, 1), (26, .invokestatic 97, 3), (29, .ifCond .ne 29, 3), (32, .iload 4, 2), (34, .invokestatic 97, 3), (37, .ifCond .ne 21, 3), (40, .iload_n 3, 1), (41, .iload 4, 2), (43, .if_icmp .gt 15, 3), (46, .iload 5, 2), (48, .iconst 0, 1), (49, .sipush 500, 3), (52, .invokestatic 58, 3), (55, .ifCond .ne 7, 3), (58, .iconst 1, 1), (59, .goto 4, 3), (62, .iconst 0, 1), (63, .iconst 1, 1), (64, .invokevirtual 72, 3), (67, .ifCond .ne 27, 3), (70, .aload_n 0, 1), (71, .aload_n 0, 1), (72, .getfield 13, 3), (75, .bipush 8, 2), (77, .iaload, 1), (78, .iconst 3, 1), (79, .if_icmp .ne 7, 3), (82, .iconst 1, 1), (83, .goto 4, 3), (86, .iconst 0, 1), (87, .iconst 2, 1), (88, .invokevirtual 72, 3), (91, .ifCond .eq 5, 3), (94, .iconst 0, 1), (95, .ireturn, 1), (96, .aload_n 0, 1), (97, .bipush 8, 2), (99, .sipush 176, 3), (102, .iconst 5, 1), (103, .iload_n 1, 1), (104, .iload_n 2, 1), (105, .iload_n 3, 1), (106, .iload 4, 2), (108, .iload 5, 2), (110, .invokevirtual 83, 3), (113, .ireturn, 1)]
theorem T_cX12_plate : tabOK cX12_plate T_cX12_plateL = true := by decide +kernel
def P_M_plate_94 (post : Int32 → Mem → Prop) (M : Mem) : Prop :=
  post (0 : Int32) M
theorem k_M_plate_94 {X : FX} {g : GT} {A : Nat → Prop} {Z : State → Prop} {post : Int32 → Mem → Prop} (C : Cx X g layM A cX12_plate 6 RX12 2) (hr : 0 ≤ X.2.2.2.1.cells ∧ 0 ≤ X.2.2.2.1.slots) (hR : RetI X g layM A cX12_plate 6 0 0 Z post)  (M : Mem) (h : P_M_plate_94 post M) : At X g layM A 6 0 0 Z 94 [] [] M := by
  refine a_iconst C (0 : Int32) (tk T_cX12_plate 47 rfl) kI_0 ?_
  exact hR _ _ _ _ (tk T_cX12_plate 48 rfl) h
def P_M_plate_87 (post : Int32 → Mem → Prop) (x1 x2 x3 x4 x5 s1 : Int32) (M : Mem) : Prop :=
  P_M_throwsIf (fun r1 M1 =>
  (r1 = 0 → (P_M_puts (fun r2 M2 =>
  post r2 M2) (8 : Int32) (176 : Int32) (5 : Int32) x1 x2 x3 x4 x5 M1)) ∧
  (¬ r1 = 0 → (P_M_plate_94 post M1))) s1 (2 : Int32) M
theorem k_M_plate_87 {X : FX} {g : GT} {A : Nat → Prop} {Z : State → Prop} {post : Int32 → Mem → Prop} (C : Cx X g layM A cX12_plate 6 RX12 2) (hr : 0 ≤ X.2.2.2.1.cells ∧ 0 ≤ X.2.2.2.1.slots) (hR : RetI X g layM A cX12_plate 6 0 0 Z post) (x1 x2 x3 x4 x5 s1 : Int32) (M : Mem) (h : P_M_plate_87 post x1 x2 x3 x4 x5 s1 M) : At X g layM A 6 0 0 Z 87 [(0, .ref (ad g 0)), (1, .int x1), (2, .int x2), (3, .int x3), (4, .int x4), (5, .int x5)] [.int s1, .ref (ad g 0)] M := by
  refine a_iconst C (2 : Int32) (tk T_cX12_plate 44 rfl) kI_2 ?_
  refine a_callI C [.int s1, .int (2 : Int32)] me_yX12_throwsIf lk_RX12_72 (ct_M_throwsIf h) (by decide) lm0 rfl rfl rfl (Nat.le_of_ble_eq_true rfl) (tk T_cX12_plate 45 rfl) hr (fun r1 M1 h => ?_)
  refine a_if_eq C 96 (tk T_cX12_plate 46 rfl) rfl (fun c => ?_) (fun c => ?_)
  · have h := h.1 c
    refine a_aload_n C (tk T_cX12_plate 49 rfl) rfl ?_
    refine a_bipush C (8 : Int32) (tk T_cX12_plate 50 rfl) kB_8 ?_
    refine a_sipush C (176 : Int32) (tk T_cX12_plate 51 rfl) kS_176 ?_
    refine a_iconst C (5 : Int32) (tk T_cX12_plate 52 rfl) kI_5 ?_
    refine a_iload_n C (tk T_cX12_plate 53 rfl) rfl ?_
    refine a_iload_n C (tk T_cX12_plate 54 rfl) rfl ?_
    refine a_iload_n C (tk T_cX12_plate 55 rfl) rfl ?_
    refine a_iload C (tk T_cX12_plate 56 rfl) rfl ?_
    refine a_iload C (tk T_cX12_plate 57 rfl) rfl ?_
    refine a_callI C [.int (8 : Int32), .int (176 : Int32), .int (5 : Int32), .int x1, .int x2, .int x3, .int x4, .int x5] me_yX12_puts lk_RX12_83 (ct_M_puts h) (by decide) lm0 rfl rfl rfl (Nat.le_of_ble_eq_true rfl) (tk T_cX12_plate 58 rfl) hr (fun r2 M2 h => ?_)
    exact hR _ _ _ _ (tk T_cX12_plate 59 rfl) h
  · have h := h.2 c
    exact a_to (k_M_plate_94 C hr hR M1 h) rfl
def P_M_plate_63 (post : Int32 → Mem → Prop) (x1 x2 x3 x4 x5 s1 : Int32) (M : Mem) : Prop :=
  P_M_throwsIf (fun r1 M1 =>
  (¬ r1 = 0 → (P_M_plate_94 post M1)) ∧
  (r1 = 0 → (vp_in (8 : Int32) 5966 ∧ (¬ (M1 1 (8 : Int32).toNatClampNeg) = (3 : Int32) → (P_M_plate_87 post x1 x2 x3 x4 x5 (0 : Int32) M1)) ∧
  ((M1 1 (8 : Int32).toNatClampNeg) = (3 : Int32) → (P_M_plate_87 post x1 x2 x3 x4 x5 (1 : Int32) M1))))) s1 (1 : Int32) M
theorem k_M_plate_63 {X : FX} {g : GT} {A : Nat → Prop} {Z : State → Prop} {post : Int32 → Mem → Prop} (C : Cx X g layM A cX12_plate 6 RX12 2) (hr : 0 ≤ X.2.2.2.1.cells ∧ 0 ≤ X.2.2.2.1.slots) (hR : RetI X g layM A cX12_plate 6 0 0 Z post) (x1 x2 x3 x4 x5 s1 : Int32) (M : Mem) (h : P_M_plate_63 post x1 x2 x3 x4 x5 s1 M) : At X g layM A 6 0 0 Z 63 [(0, .ref (ad g 0)), (1, .int x1), (2, .int x2), (3, .int x3), (4, .int x4), (5, .int x5)] [.int s1, .ref (ad g 0)] M := by
  refine a_iconst C (1 : Int32) (tk T_cX12_plate 31 rfl) kI_1 ?_
  refine a_callI C [.int s1, .int (1 : Int32)] me_yX12_throwsIf lk_RX12_72 (ct_M_throwsIf h) (by decide) lm0 rfl rfl rfl (Nat.le_of_ble_eq_true rfl) (tk T_cX12_plate 32 rfl) hr (fun r1 M1 h => ?_)
  refine a_if_ne C 94 (tk T_cX12_plate 33 rfl) rfl (fun c => ?_) (fun c => ?_)
  · have h := h.1 c
    exact a_to (k_M_plate_94 C hr hR M1 h) rfl
  · have h := h.2 c
    refine a_aload_n C (tk T_cX12_plate 34 rfl) rfl ?_
    refine a_aload_n C (tk T_cX12_plate 35 rfl) rfl ?_
    refine a_getR C f_RX12_13 (tk T_cX12_plate 36 rfl) lm0 rfl ?_
    refine a_bipush C (8 : Int32) (tk T_cX12_plate 37 rfl) kB_8 ?_
    obtain ⟨hb, h⟩ := h
    refine a_iald C (tk T_cX12_plate 38 rfl) lm1 hb ?_
    refine a_iconst C (3 : Int32) (tk T_cX12_plate 39 rfl) kI_3 ?_
    refine a_icmp_ne C 86 (tk T_cX12_plate 40 rfl) rfl (fun c => ?_) (fun c => ?_)
    · have h := h.1 c
      refine a_iconst C (0 : Int32) (tk T_cX12_plate 43 rfl) kI_0 ?_
      exact a_to (k_M_plate_87 C hr hR x1 x2 x3 x4 x5 (0 : Int32) M1 h) rfl
    · have h := h.2 c
      refine a_iconst C (1 : Int32) (tk T_cX12_plate 41 rfl) kI_1 ?_
      refine a_goto C 87 (tk T_cX12_plate 42 rfl) rfl ?_
      exact a_to (k_M_plate_87 C hr hR x1 x2 x3 x4 x5 (1 : Int32) M1 h) rfl
def P_M_plate_58 (post : Int32 → Mem → Prop) (x1 x2 x3 x4 x5 : Int32) (M : Mem) : Prop :=
  P_M_plate_63 post x1 x2 x3 x4 x5 (1 : Int32) M
theorem k_M_plate_58 {X : FX} {g : GT} {A : Nat → Prop} {Z : State → Prop} {post : Int32 → Mem → Prop} (C : Cx X g layM A cX12_plate 6 RX12 2) (hr : 0 ≤ X.2.2.2.1.cells ∧ 0 ≤ X.2.2.2.1.slots) (hR : RetI X g layM A cX12_plate 6 0 0 Z post) (x1 x2 x3 x4 x5 : Int32) (M : Mem) (h : P_M_plate_58 post x1 x2 x3 x4 x5 M) : At X g layM A 6 0 0 Z 58 [(0, .ref (ad g 0)), (1, .int x1), (2, .int x2), (3, .int x3), (4, .int x4), (5, .int x5)] [.ref (ad g 0)] M := by
  refine a_iconst C (1 : Int32) (tk T_cX12_plate 28 rfl) kI_1 ?_
  refine a_goto C 63 (tk T_cX12_plate 29 rfl) rfl ?_
  exact a_to (k_M_plate_63 C hr hR x1 x2 x3 x4 x5 (1 : Int32) M h) rfl
def P_M_plate (post : Int32 → Mem → Prop) (x1 x2 x3 x4 x5 : Int32) (M : Mem) : Prop :=
  ∀ M1, M1 = ms M 0 0 (0 : Int32) → P_M_in (fun r2 M2 =>
  (r2 = 0 → (P_M_plate_58 post x1 x2 x3 x4 x5 M2)) ∧
  (¬ r2 = 0 → (P_M_in (fun r3 M3 =>
  (r3 = 0 → (P_M_plate_58 post x1 x2 x3 x4 x5 M3)) ∧
  (¬ r3 = 0 → (P_M_noWave (fun r4 M4 =>
  (¬ r4 = 0 → (P_M_plate_58 post x1 x2 x3 x4 x5 M4)) ∧
  (r4 = 0 → (P_M_noWave (fun r5 M5 =>
  (¬ r5 = 0 → (P_M_plate_58 post x1 x2 x3 x4 x5 M5)) ∧
  (r5 = 0 → ((x4 < x3 → (P_M_plate_58 post x1 x2 x3 x4 x5 M5)) ∧
  (¬ x4 < x3 → (P_M_in (fun r6 M6 =>
  (¬ r6 = 0 → (P_M_plate_63 post x1 x2 x3 x4 x5 (0 : Int32) M6)) ∧
  (r6 = 0 → (P_M_plate_58 post x1 x2 x3 x4 x5 M6))) x5 (0 : Int32) (500 : Int32) M5))))) x4 M4))) x3 M3))) x2 (1 : Int32) (5 : Int32) M2))) x1 (1 : Int32) (9 : Int32) M1
theorem k_M_plate {X : FX} {g : GT} {A : Nat → Prop} {Z : State → Prop} {post : Int32 → Mem → Prop} (C : Cx X g layM A cX12_plate 6 RX12 2) (hr : 0 ≤ X.2.2.2.1.cells ∧ 0 ≤ X.2.2.2.1.slots) (hR : RetI X g layM A cX12_plate 6 0 0 Z post) (x1 x2 x3 x4 x5 : Int32) (M : Mem) (h : P_M_plate post x1 x2 x3 x4 x5 M) : At X g layM A 6 0 0 Z 0 [(0, .ref (ad g 0)), (1, .int x1), (2, .int x2), (3, .int x3), (4, .int x4), (5, .int x5)] [] M := by
  refine a_aload_n C (tk T_cX12_plate 0 rfl) rfl ?_
  refine a_iconst C (0 : Int32) (tk T_cX12_plate 1 rfl) kI_0 ?_
  refine a_put C f_RX12_3 f_RX12_3p rfl rfl (tk T_cX12_plate 2 rfl) lm0 rfl ?_
  refine a_mem (fun M1 e_M1 => ?_)
  have h := h M1 e_M1
  refine a_aload_n C (tk T_cX12_plate 3 rfl) rfl ?_
  refine a_iload_n C (tk T_cX12_plate 4 rfl) rfl ?_
  refine a_iconst C (1 : Int32) (tk T_cX12_plate 5 rfl) kI_1 ?_
  refine a_bipush C (9 : Int32) (tk T_cX12_plate 6 rfl) kB_9 ?_
  refine a_statI C [.int x1, .int (1 : Int32), .int (9 : Int32)] me_yX12_in lk_RX12_58 (ct_M_in h) (by decide) rfl rfl (Nat.le_of_ble_eq_true rfl) (tk T_cX12_plate 7 rfl) hr (fun r2 M2 h => ?_)
  refine a_if_eq C 58 (tk T_cX12_plate 8 rfl) rfl (fun c => ?_) (fun c => ?_)
  · have h := h.1 c
    exact a_to (k_M_plate_58 C hr hR x1 x2 x3 x4 x5 M2 h) rfl
  · have h := h.2 c
    refine a_iload_n C (tk T_cX12_plate 9 rfl) rfl ?_
    refine a_iconst C (1 : Int32) (tk T_cX12_plate 10 rfl) kI_1 ?_
    refine a_iconst C (5 : Int32) (tk T_cX12_plate 11 rfl) kI_5 ?_
    refine a_statI C [.int x2, .int (1 : Int32), .int (5 : Int32)] me_yX12_in lk_RX12_58 (ct_M_in h) (by decide) rfl rfl (Nat.le_of_ble_eq_true rfl) (tk T_cX12_plate 12 rfl) hr (fun r3 M3 h => ?_)
    refine a_if_eq C 58 (tk T_cX12_plate 13 rfl) rfl (fun c => ?_) (fun c => ?_)
    · have h := h.1 c
      exact a_to (k_M_plate_58 C hr hR x1 x2 x3 x4 x5 M3 h) rfl
    · have h := h.2 c
      refine a_iload_n C (tk T_cX12_plate 14 rfl) rfl ?_
      refine a_statI C [.int x3] me_yX12_noWave lk_RX12_97 (ct_M_noWave h) (by decide) rfl rfl (Nat.le_of_ble_eq_true rfl) (tk T_cX12_plate 15 rfl) hr (fun r4 M4 h => ?_)
      refine a_if_ne C 58 (tk T_cX12_plate 16 rfl) rfl (fun c => ?_) (fun c => ?_)
      · have h := h.1 c
        exact a_to (k_M_plate_58 C hr hR x1 x2 x3 x4 x5 M4 h) rfl
      · have h := h.2 c
        refine a_iload C (tk T_cX12_plate 17 rfl) rfl ?_
        refine a_statI C [.int x4] me_yX12_noWave lk_RX12_97 (ct_M_noWave h) (by decide) rfl rfl (Nat.le_of_ble_eq_true rfl) (tk T_cX12_plate 18 rfl) hr (fun r5 M5 h => ?_)
        refine a_if_ne C 58 (tk T_cX12_plate 19 rfl) rfl (fun c => ?_) (fun c => ?_)
        · have h := h.1 c
          exact a_to (k_M_plate_58 C hr hR x1 x2 x3 x4 x5 M5 h) rfl
        · have h := h.2 c
          refine a_iload_n C (tk T_cX12_plate 20 rfl) rfl ?_
          refine a_iload C (tk T_cX12_plate 21 rfl) rfl ?_
          refine a_icmp_gt C 58 (tk T_cX12_plate 22 rfl) rfl (fun c => ?_) (fun c => ?_)
          · have h := h.1 c
            exact a_to (k_M_plate_58 C hr hR x1 x2 x3 x4 x5 M5 h) rfl
          · have h := h.2 c
            refine a_iload C (tk T_cX12_plate 23 rfl) rfl ?_
            refine a_iconst C (0 : Int32) (tk T_cX12_plate 24 rfl) kI_0 ?_
            refine a_sipush C (500 : Int32) (tk T_cX12_plate 25 rfl) kS_500 ?_
            refine a_statI C [.int x5, .int (0 : Int32), .int (500 : Int32)] me_yX12_in lk_RX12_58 (ct_M_in h) (by decide) rfl rfl (Nat.le_of_ble_eq_true rfl) (tk T_cX12_plate 26 rfl) hr (fun r6 M6 h => ?_)
            refine a_if_ne C 62 (tk T_cX12_plate 27 rfl) rfl (fun c => ?_) (fun c => ?_)
            · have h := h.1 c
              refine a_iconst C (0 : Int32) (tk T_cX12_plate 30 rfl) kI_0 ?_
              exact a_to (k_M_plate_63 C hr hR x1 x2 x3 x4 x5 (0 : Int32) M6 h) rfl
            · have h := h.2 c
              exact a_to (k_M_plate_58 C hr hR x1 x2 x3 x4 x5 M6 h) rfl
theorem ct_M_plate {l : Launch} {g : GT} {post : Int32 → Mem → Prop} {x1 x2 x3 x4 x5 : Int32} {M : Mem} (h : P_M_plate post x1 x2 x3 x4 x5 M) : CI l g layM yX12_plate cX12_plate 6 (some .int) 2 [.ref (ad g 0), .int x1, .int x2, .int x3, .int x4, .int x5] M post :=
  ci_of (plainFor_of_name (by decide +kernel)) (Nat.le_of_ble_eq_true rfl) rfl (fun X A Z hl C hr hR => by subst hl; exact k_M_plate C hr hR x1 x2 x3 x4 x5 M h)
def T_cX12_readingL : List (Nat × Instr × Nat) := [(0, .aload_n 0, 1), (1, .iconst 0, 1), (2, .putfield 3, 3), (5, .aload_n 0, 1), (6, .aload_n 0, 1), (7, .iload_n 1, 1), (8, .bipush 8, 2), (10, .invokevirtual 121, 3), (13, .iconst 1, 1), (14, .invokevirtual 72, 3), (17, .ifCond .ne 67, 3), (20, .aload_n 0, 1), (21, .iload_n 2, 1), (22, .invokestatic 76, 3), (25, .ifCond .ne 25, 3), (28, .iload 4, 2), (30, .iconst 1, 1), (31, .bipush 9, 2), (33, .invokestatic 58, 3), (36, .ifCond .eq 14, 3), (39, .iload 5, 2), (41, .iconst 1, 1), (42, .bipush 9, 2), (44, .invokestatic 58, 3), (47, .ifCond .ne 7, 3), (50, .iconst 1, 1), (51, .goto 4, 3), (54, .iconst 0, 1), (55, .iconst 2, 1), (56, .invokevirtual 72, 3), (59, .ifCond .ne 25, 3), (62, .aload_n 0, 1), (63, .aload_n 0, 1), (64, .invokevirtual 128, 3), (67, .bipush 24, 2), (69, .if_icmp .ne 7, 3), (72, .iconst 1, 1), (73, .goto 4, 3), (76, .iconst 0, 1), (77, .iconst 3, 1), (78, .invokevirtual 72, 3), (81, .ifCond .eq 5, 3), (84, .iconst 0, 1), (85, .ireturn, 1), (86, .aload_n 0, 1), (87, .bipush 9, 2), (89, .sipush 191, 3), (92, .iconst 5, 1), (93, .iload_n 1, 1), (94, .iload_n 2, 1), (95, .iload_n 3, 1), (96, .ifCond .eq 7, 3), (99, .iconst 1, 1), (100, .goto 4, 3), (103, .iconst 0, 1), (104, .iload 4, 2), (106, .iload 5, 2), (108, .invokevirtual 83, 3), (111, .ireturn, 1)]
theorem T_cX12_reading : tabOK cX12_reading T_cX12_readingL = true := by decide +kernel
def P_M_reading_104 (post : Int32 → Mem → Prop) (x4 x5 s1 s2 s3 s4 s5 s6 : Int32) (M : Mem) : Prop :=
  P_M_puts (fun r1 M1 =>
  post r1 M1) s1 s2 s3 s4 s5 s6 x4 x5 M
theorem k_M_reading_104 {X : FX} {g : GT} {A : Nat → Prop} {Z : State → Prop} {post : Int32 → Mem → Prop} (C : Cx X g layM A cX12_reading 6 RX12 2) (hr : 0 ≤ X.2.2.2.1.cells ∧ 0 ≤ X.2.2.2.1.slots) (hR : RetI X g layM A cX12_reading 6 0 0 Z post) (x4 x5 s1 s2 s3 s4 s5 s6 : Int32) (M : Mem) (h : P_M_reading_104 post x4 x5 s1 s2 s3 s4 s5 s6 M) : At X g layM A 6 0 0 Z 104 [(4, .int x4), (5, .int x5)] [.int s6, .int s5, .int s4, .int s3, .int s2, .int s1, .ref (ad g 0)] M := by
  refine a_iload C (tk T_cX12_reading 55 rfl) rfl ?_
  refine a_iload C (tk T_cX12_reading 56 rfl) rfl ?_
  refine a_callI C [.int s1, .int s2, .int s3, .int s4, .int s5, .int s6, .int x4, .int x5] me_yX12_puts lk_RX12_83 (ct_M_puts h) (by decide) lm0 rfl rfl rfl (Nat.le_of_ble_eq_true rfl) (tk T_cX12_reading 57 rfl) hr (fun r1 M1 h => ?_)
  exact hR _ _ _ _ (tk T_cX12_reading 58 rfl) h
def P_M_reading_84 (post : Int32 → Mem → Prop) (M : Mem) : Prop :=
  post (0 : Int32) M
theorem k_M_reading_84 {X : FX} {g : GT} {A : Nat → Prop} {Z : State → Prop} {post : Int32 → Mem → Prop} (C : Cx X g layM A cX12_reading 6 RX12 2) (hr : 0 ≤ X.2.2.2.1.cells ∧ 0 ≤ X.2.2.2.1.slots) (hR : RetI X g layM A cX12_reading 6 0 0 Z post)  (M : Mem) (h : P_M_reading_84 post M) : At X g layM A 6 0 0 Z 84 [] [] M := by
  refine a_iconst C (0 : Int32) (tk T_cX12_reading 42 rfl) kI_0 ?_
  exact hR _ _ _ _ (tk T_cX12_reading 43 rfl) h
def P_M_reading_77 (post : Int32 → Mem → Prop) (x1 x2 x3 x4 x5 s1 : Int32) (M : Mem) : Prop :=
  P_M_throwsIf (fun r1 M1 =>
  (r1 = 0 → ((x3 = 0 → (P_M_reading_104 post x4 x5 (9 : Int32) (191 : Int32) (5 : Int32) x1 x2 (0 : Int32) M1)) ∧
  (¬ x3 = 0 → (P_M_reading_104 post x4 x5 (9 : Int32) (191 : Int32) (5 : Int32) x1 x2 (1 : Int32) M1)))) ∧
  (¬ r1 = 0 → (P_M_reading_84 post M1))) s1 (3 : Int32) M
theorem k_M_reading_77 {X : FX} {g : GT} {A : Nat → Prop} {Z : State → Prop} {post : Int32 → Mem → Prop} (C : Cx X g layM A cX12_reading 6 RX12 2) (hr : 0 ≤ X.2.2.2.1.cells ∧ 0 ≤ X.2.2.2.1.slots) (hR : RetI X g layM A cX12_reading 6 0 0 Z post) (x1 x2 x3 x4 x5 s1 : Int32) (M : Mem) (h : P_M_reading_77 post x1 x2 x3 x4 x5 s1 M) : At X g layM A 6 0 0 Z 77 [(0, .ref (ad g 0)), (1, .int x1), (2, .int x2), (3, .int x3), (4, .int x4), (5, .int x5)] [.int s1, .ref (ad g 0)] M := by
  refine a_iconst C (3 : Int32) (tk T_cX12_reading 39 rfl) kI_3 ?_
  refine a_callI C [.int s1, .int (3 : Int32)] me_yX12_throwsIf lk_RX12_72 (ct_M_throwsIf h) (by decide) lm0 rfl rfl rfl (Nat.le_of_ble_eq_true rfl) (tk T_cX12_reading 40 rfl) hr (fun r1 M1 h => ?_)
  refine a_if_eq C 86 (tk T_cX12_reading 41 rfl) rfl (fun c => ?_) (fun c => ?_)
  · have h := h.1 c
    refine a_aload_n C (tk T_cX12_reading 44 rfl) rfl ?_
    refine a_bipush C (9 : Int32) (tk T_cX12_reading 45 rfl) kB_9 ?_
    refine a_sipush C (191 : Int32) (tk T_cX12_reading 46 rfl) kS_191 ?_
    refine a_iconst C (5 : Int32) (tk T_cX12_reading 47 rfl) kI_5 ?_
    refine a_iload_n C (tk T_cX12_reading 48 rfl) rfl ?_
    refine a_iload_n C (tk T_cX12_reading 49 rfl) rfl ?_
    refine a_iload_n C (tk T_cX12_reading 50 rfl) rfl ?_
    refine a_if_eq C 103 (tk T_cX12_reading 51 rfl) rfl (fun c => ?_) (fun c => ?_)
    · have h := h.1 c
      refine a_iconst C (0 : Int32) (tk T_cX12_reading 54 rfl) kI_0 ?_
      exact a_to (k_M_reading_104 C hr hR x4 x5 (9 : Int32) (191 : Int32) (5 : Int32) x1 x2 (0 : Int32) M1 h) rfl
    · have h := h.2 c
      refine a_iconst C (1 : Int32) (tk T_cX12_reading 52 rfl) kI_1 ?_
      refine a_goto C 104 (tk T_cX12_reading 53 rfl) rfl ?_
      exact a_to (k_M_reading_104 C hr hR x4 x5 (9 : Int32) (191 : Int32) (5 : Int32) x1 x2 (1 : Int32) M1 h) rfl
  · have h := h.2 c
    exact a_to (k_M_reading_84 C hr hR M1 h) rfl
def P_M_reading_55 (post : Int32 → Mem → Prop) (x1 x2 x3 x4 x5 s1 : Int32) (M : Mem) : Prop :=
  P_M_throwsIf (fun r1 M1 =>
  (¬ r1 = 0 → (P_M_reading_84 post M1)) ∧
  (r1 = 0 → (P_M_readings (fun r2 M2 =>
  (¬ r2 = (24 : Int32) → (P_M_reading_77 post x1 x2 x3 x4 x5 (0 : Int32) M2)) ∧
  (r2 = (24 : Int32) → (P_M_reading_77 post x1 x2 x3 x4 x5 (1 : Int32) M2))) M1))) s1 (2 : Int32) M
theorem k_M_reading_55 {X : FX} {g : GT} {A : Nat → Prop} {Z : State → Prop} {post : Int32 → Mem → Prop} (C : Cx X g layM A cX12_reading 6 RX12 2) (hr : 0 ≤ X.2.2.2.1.cells ∧ 0 ≤ X.2.2.2.1.slots) (hR : RetI X g layM A cX12_reading 6 0 0 Z post) (x1 x2 x3 x4 x5 s1 : Int32) (M : Mem) (h : P_M_reading_55 post x1 x2 x3 x4 x5 s1 M) : At X g layM A 6 0 0 Z 55 [(0, .ref (ad g 0)), (1, .int x1), (2, .int x2), (3, .int x3), (4, .int x4), (5, .int x5)] [.int s1, .ref (ad g 0)] M := by
  refine a_iconst C (2 : Int32) (tk T_cX12_reading 28 rfl) kI_2 ?_
  refine a_callI C [.int s1, .int (2 : Int32)] me_yX12_throwsIf lk_RX12_72 (ct_M_throwsIf h) (by decide) lm0 rfl rfl rfl (Nat.le_of_ble_eq_true rfl) (tk T_cX12_reading 29 rfl) hr (fun r1 M1 h => ?_)
  refine a_if_ne C 84 (tk T_cX12_reading 30 rfl) rfl (fun c => ?_) (fun c => ?_)
  · have h := h.1 c
    exact a_to (k_M_reading_84 C hr hR M1 h) rfl
  · have h := h.2 c
    refine a_aload_n C (tk T_cX12_reading 31 rfl) rfl ?_
    refine a_aload_n C (tk T_cX12_reading 32 rfl) rfl ?_
    refine a_callI C [] me_yX12_readings lk_RX12_128 (ct_M_readings h) (by decide) lm0 rfl rfl rfl (Nat.le_of_ble_eq_true rfl) (tk T_cX12_reading 33 rfl) hr (fun r2 M2 h => ?_)
    refine a_bipush C (24 : Int32) (tk T_cX12_reading 34 rfl) kB_24 ?_
    refine a_icmp_ne C 76 (tk T_cX12_reading 35 rfl) rfl (fun c => ?_) (fun c => ?_)
    · have h := h.1 c
      refine a_iconst C (0 : Int32) (tk T_cX12_reading 38 rfl) kI_0 ?_
      exact a_to (k_M_reading_77 C hr hR x1 x2 x3 x4 x5 (0 : Int32) M2 h) rfl
    · have h := h.2 c
      refine a_iconst C (1 : Int32) (tk T_cX12_reading 36 rfl) kI_1 ?_
      refine a_goto C 77 (tk T_cX12_reading 37 rfl) rfl ?_
      exact a_to (k_M_reading_77 C hr hR x1 x2 x3 x4 x5 (1 : Int32) M2 h) rfl
def P_M_reading_50 (post : Int32 → Mem → Prop) (x1 x2 x3 x4 x5 : Int32) (M : Mem) : Prop :=
  P_M_reading_55 post x1 x2 x3 x4 x5 (1 : Int32) M
theorem k_M_reading_50 {X : FX} {g : GT} {A : Nat → Prop} {Z : State → Prop} {post : Int32 → Mem → Prop} (C : Cx X g layM A cX12_reading 6 RX12 2) (hr : 0 ≤ X.2.2.2.1.cells ∧ 0 ≤ X.2.2.2.1.slots) (hR : RetI X g layM A cX12_reading 6 0 0 Z post) (x1 x2 x3 x4 x5 : Int32) (M : Mem) (h : P_M_reading_50 post x1 x2 x3 x4 x5 M) : At X g layM A 6 0 0 Z 50 [(0, .ref (ad g 0)), (1, .int x1), (2, .int x2), (3, .int x3), (4, .int x4), (5, .int x5)] [.ref (ad g 0)] M := by
  refine a_iconst C (1 : Int32) (tk T_cX12_reading 25 rfl) kI_1 ?_
  refine a_goto C 55 (tk T_cX12_reading 26 rfl) rfl ?_
  exact a_to (k_M_reading_55 C hr hR x1 x2 x3 x4 x5 (1 : Int32) M h) rfl
def P_M_reading (post : Int32 → Mem → Prop) (x1 x2 x3 x4 x5 : Int32) (M : Mem) : Prop :=
  ∀ M1, M1 = ms M 0 0 (0 : Int32) → P_M_none (fun r2 M2 =>
  P_M_throwsIf (fun r3 M3 =>
  (¬ r3 = 0 → (P_M_reading_84 post M3)) ∧
  (r3 = 0 → (P_M_noPlace (fun r4 M4 =>
  (¬ r4 = 0 → (P_M_reading_50 post x1 x2 x3 x4 x5 M4)) ∧
  (r4 = 0 → (P_M_in (fun r5 M5 =>
  (r5 = 0 → (P_M_reading_50 post x1 x2 x3 x4 x5 M5)) ∧
  (¬ r5 = 0 → (P_M_in (fun r6 M6 =>
  (¬ r6 = 0 → (P_M_reading_55 post x1 x2 x3 x4 x5 (0 : Int32) M6)) ∧
  (r6 = 0 → (P_M_reading_50 post x1 x2 x3 x4 x5 M6))) x5 (1 : Int32) (9 : Int32) M5))) x4 (1 : Int32) (9 : Int32) M4))) x2 M3))) r2 (1 : Int32) M2) x1 (8 : Int32) M1
theorem k_M_reading {X : FX} {g : GT} {A : Nat → Prop} {Z : State → Prop} {post : Int32 → Mem → Prop} (C : Cx X g layM A cX12_reading 6 RX12 2) (hr : 0 ≤ X.2.2.2.1.cells ∧ 0 ≤ X.2.2.2.1.slots) (hR : RetI X g layM A cX12_reading 6 0 0 Z post) (x1 x2 x3 x4 x5 : Int32) (M : Mem) (h : P_M_reading post x1 x2 x3 x4 x5 M) : At X g layM A 6 0 0 Z 0 [(0, .ref (ad g 0)), (1, .int x1), (2, .int x2), (3, .int x3), (4, .int x4), (5, .int x5)] [] M := by
  refine a_aload_n C (tk T_cX12_reading 0 rfl) rfl ?_
  refine a_iconst C (0 : Int32) (tk T_cX12_reading 1 rfl) kI_0 ?_
  refine a_put C f_RX12_3 f_RX12_3p rfl rfl (tk T_cX12_reading 2 rfl) lm0 rfl ?_
  refine a_mem (fun M1 e_M1 => ?_)
  have h := h M1 e_M1
  refine a_aload_n C (tk T_cX12_reading 3 rfl) rfl ?_
  refine a_aload_n C (tk T_cX12_reading 4 rfl) rfl ?_
  refine a_iload_n C (tk T_cX12_reading 5 rfl) rfl ?_
  refine a_bipush C (8 : Int32) (tk T_cX12_reading 6 rfl) kB_8 ?_
  refine a_callI C [.int x1, .int (8 : Int32)] me_yX12_none lk_RX12_121 (ct_M_none h) (by decide) lm0 rfl rfl rfl (Nat.le_of_ble_eq_true rfl) (tk T_cX12_reading 7 rfl) hr (fun r2 M2 h => ?_)
  refine a_iconst C (1 : Int32) (tk T_cX12_reading 8 rfl) kI_1 ?_
  refine a_callI C [.int r2, .int (1 : Int32)] me_yX12_throwsIf lk_RX12_72 (ct_M_throwsIf h) (by decide) lm0 rfl rfl rfl (Nat.le_of_ble_eq_true rfl) (tk T_cX12_reading 9 rfl) hr (fun r3 M3 h => ?_)
  refine a_if_ne C 84 (tk T_cX12_reading 10 rfl) rfl (fun c => ?_) (fun c => ?_)
  · have h := h.1 c
    exact a_to (k_M_reading_84 C hr hR M3 h) rfl
  · have h := h.2 c
    refine a_aload_n C (tk T_cX12_reading 11 rfl) rfl ?_
    refine a_iload_n C (tk T_cX12_reading 12 rfl) rfl ?_
    refine a_statI C [.int x2] me_yX12_noPlace lk_RX12_76 (ct_M_noPlace h) (by decide) rfl rfl (Nat.le_of_ble_eq_true rfl) (tk T_cX12_reading 13 rfl) hr (fun r4 M4 h => ?_)
    refine a_if_ne C 50 (tk T_cX12_reading 14 rfl) rfl (fun c => ?_) (fun c => ?_)
    · have h := h.1 c
      exact a_to (k_M_reading_50 C hr hR x1 x2 x3 x4 x5 M4 h) rfl
    · have h := h.2 c
      refine a_iload C (tk T_cX12_reading 15 rfl) rfl ?_
      refine a_iconst C (1 : Int32) (tk T_cX12_reading 16 rfl) kI_1 ?_
      refine a_bipush C (9 : Int32) (tk T_cX12_reading 17 rfl) kB_9 ?_
      refine a_statI C [.int x4, .int (1 : Int32), .int (9 : Int32)] me_yX12_in lk_RX12_58 (ct_M_in h) (by decide) rfl rfl (Nat.le_of_ble_eq_true rfl) (tk T_cX12_reading 18 rfl) hr (fun r5 M5 h => ?_)
      refine a_if_eq C 50 (tk T_cX12_reading 19 rfl) rfl (fun c => ?_) (fun c => ?_)
      · have h := h.1 c
        exact a_to (k_M_reading_50 C hr hR x1 x2 x3 x4 x5 M5 h) rfl
      · have h := h.2 c
        refine a_iload C (tk T_cX12_reading 20 rfl) rfl ?_
        refine a_iconst C (1 : Int32) (tk T_cX12_reading 21 rfl) kI_1 ?_
        refine a_bipush C (9 : Int32) (tk T_cX12_reading 22 rfl) kB_9 ?_
        refine a_statI C [.int x5, .int (1 : Int32), .int (9 : Int32)] me_yX12_in lk_RX12_58 (ct_M_in h) (by decide) rfl rfl (Nat.le_of_ble_eq_true rfl) (tk T_cX12_reading 23 rfl) hr (fun r6 M6 h => ?_)
        refine a_if_ne C 54 (tk T_cX12_reading 24 rfl) rfl (fun c => ?_) (fun c => ?_)
        · have h := h.1 c
          refine a_iconst C (0 : Int32) (tk T_cX12_reading 27 rfl) kI_0 ?_
          exact a_to (k_M_reading_55 C hr hR x1 x2 x3 x4 x5 (0 : Int32) M6 h) rfl
        · have h := h.2 c
          exact a_to (k_M_reading_50 C hr hR x1 x2 x3 x4 x5 M6 h) rfl
theorem ct_M_reading {l : Launch} {g : GT} {post : Int32 → Mem → Prop} {x1 x2 x3 x4 x5 : Int32} {M : Mem} (h : P_M_reading post x1 x2 x3 x4 x5 M) : CI l g layM yX12_reading cX12_reading 6 (some .int) 2 [.ref (ad g 0), .int x1, .int x2, .int x3, .int x4, .int x5] M post :=
  ci_of (plainFor_of_name (by decide +kernel)) (Nat.le_of_ble_eq_true rfl) rfl (fun X A Z hl C hr hR => by subst hl; exact k_M_reading C hr hR x1 x2 x3 x4 x5 M h)
