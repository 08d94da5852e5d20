def T_cX12_leavesL : List (Nat × Instr × Nat) := [(0, .bipush (-50), 2), (2, .istore 4, 2), (4, .iload 4, 2), (6, .bipush 50, 2), (8, .if_icmp .gt 44, 3), (11, .aload_n 0, 1), (12, .getfield 38, 3), (15, .iload_n 3, 1), (16, .iload 4, 2), (18, .iadd, 1), (19, .bipush 50, 2), (21, .iadd, 1), (22, .aload_n 0, 1), (23, .iload_n 1, 1), (24, .iload_n 2, 1), (25, .iload 4, 2), (27, .invokevirtual 191, 3), (30, .ifCond .ne 14, 3), (33, .aload_n 0, 1), (34, .iload_n 1, 1), (35, .iload_n 2, 1), (36, .iload 4, 2), (38, .invokevirtual 188, 3), (41, .goto 4, 3), (44, .iconst (-1), 1), (45, .iastore, 1), (46, .iinc 4 1, 3), (49, .goto (-45), 3), (52, .return_, 1)]
theorem T_cX12_leaves : tabOK cX12_leaves T_cX12_leavesL = true := by decide +kernel
def P_M_leaves_45 (post : Mem → Prop) (R4 : Int32 → Int32 → Int32 → Int32 → Mem → Prop) (x1 x2 x3 x4 s1 s2 : Int32) (M : Mem) : Prop :=
  vp_in s1 202 ∧ ∀ M1, M1 = ms M 9 s1.toNatClampNeg s2 → R4 x1 x2 x3 (x4 + (1 : Int32)) M1
theorem k_M_leaves_45 {X : FX} {g : GT} {A : Nat → Prop} {Z : State → Prop} {post : Mem → Prop} {R4 : Int32 → Int32 → Int32 → Int32 → Mem → Prop} (C : Cx X g layM A cX12_leaves 5 RX12 5) (hr : 0 ≤ X.2.2.2.1.cells ∧ 0 ≤ X.2.2.2.1.slots) (hR : RetV X g layM A cX12_leaves 5 0 0 Z post) (k4 : ∀ (y1 y2 y3 y4 : Int32) (M : Mem), R4 y1 y2 y3 y4 M → At X g layM A 5 0 0 Z 4 [(0, .ref (ad g 0)), (1, .int y1), (2, .int y2), (3, .int y3), (4, .int y4)] [] M) (x1 x2 x3 x4 s1 s2 : Int32) (M : Mem) (h : P_M_leaves_45 post R4 x1 x2 x3 x4 s1 s2 M) : At X g layM A 5 0 0 Z 45 [(0, .ref (ad g 0)), (1, .int x1), (2, .int x2), (3, .int x3), (4, .int x4)] [.int s2, .int s1, .ref (ad g 9)] M := by
  obtain ⟨hb, h⟩ := h
  refine a_iast C (tk T_cX12_leaves 25 rfl) lm9 hb ?_
  refine a_mem (fun M1 e_M1 => ?_)
  have h := h M1 e_M1
  refine a_iinc C (1 : Int32) (tk T_cX12_leaves 26 rfl) rfl kI_1 (by decide) ?_
  refine a_goto C 4 (tk T_cX12_leaves 27 rfl) rfl ?_
  exact a_to (k4 x1 x2 x3 (x4 + (1 : Int32)) M1 h) rfl
def P_M_leaves_4 (post : Mem → Prop) : Nat → Int32 → Int32 → Int32 → Int32 → Mem → Prop
  | 0, _, _, _, _, _ => False
  | n + 1, x1, x2, x3, x4, M =>
    ((50 : Int32) < x4 → (post M)) ∧
  (¬ (50 : Int32) < x4 → (P_M_missedOf (fun r1 M1 =>
  (¬ r1 = 0 → (P_M_leaves_45 post (P_M_leaves_4 post n) x1 x2 x3 x4 ((x3 + x4) + (50 : Int32)) (-1 : Int32) M1)) ∧
  (r1 = 0 → (P_M_leftOf (fun r2 M2 =>
  P_M_leaves_45 post (P_M_leaves_4 post n) x1 x2 x3 x4 ((x3 + x4) + (50 : Int32)) r2 M2) x1 x2 x4 M1))) x1 x2 x4 M))
theorem k_M_leaves_4 {X : FX} {g : GT} {A : Nat → Prop} {Z : State → Prop} {post : Mem → Prop} (C : Cx X g layM A cX12_leaves 5 RX12 5) (hr : 0 ≤ X.2.2.2.1.cells ∧ 0 ≤ X.2.2.2.1.slots) (hR : RetV X g layM A cX12_leaves 5 0 0 Z post) : ∀ (n : Nat) (x1 x2 x3 x4 : Int32) (M : Mem), P_M_leaves_4 post n x1 x2 x3 x4 M → At X g layM A 5 0 0 Z 4 [(0, .ref (ad g 0)), (1, .int x1), (2, .int x2), (3, .int x3), (4, .int x4)] [] M := by
  intro n
  induction n with
  | zero =>
    intro x1 x2 x3 x4 M h
    exact h.elim
  | succ n ih =>
    intro x1 x2 x3 x4 M h
    refine a_iload C (tk T_cX12_leaves 2 rfl) rfl ?_
    refine a_bipush C (50 : Int32) (tk T_cX12_leaves 3 rfl) kB_50 ?_
    refine a_icmp_gt C 52 (tk T_cX12_leaves 4 rfl) rfl (fun c => ?_) (fun c => ?_)
    · have h := h.1 c
      exact hR _ _ _ (tk T_cX12_leaves 28 rfl) h
    · have h := h.2 c
      refine a_aload_n C (tk T_cX12_leaves 5 rfl) rfl ?_
      refine a_getR C f_RX12_38 (tk T_cX12_leaves 6 rfl) lm0 rfl ?_
      refine a_iload_n C (tk T_cX12_leaves 7 rfl) rfl ?_
      refine a_iload C (tk T_cX12_leaves 8 rfl) rfl ?_
      refine a_iadd C (tk T_cX12_leaves 9 rfl) ?_
      refine a_bipush C (50 : Int32) (tk T_cX12_leaves 10 rfl) kB_50 ?_
      refine a_iadd C (tk T_cX12_leaves 11 rfl) ?_
      refine a_aload_n C (tk T_cX12_leaves 12 rfl) rfl ?_
      refine a_iload_n C (tk T_cX12_leaves 13 rfl) rfl ?_
      refine a_iload_n C (tk T_cX12_leaves 14 rfl) rfl ?_
      refine a_iload C (tk T_cX12_leaves 15 rfl) rfl ?_
      refine a_callI C [.int x1, .int x2, .int x4] me_yX12_missedOf lk_RX12_191 (ct_M_missedOf h) (by decide) lm0 rfl rfl rfl (Nat.le_of_ble_eq_true rfl) (tk T_cX12_leaves 16 rfl) hr (fun r1 M1 h => ?_)
      refine a_if_ne C 44 (tk T_cX12_leaves 17 rfl) rfl (fun c => ?_) (fun c => ?_)
      · have h := h.1 c
        refine a_iconst C (-1 : Int32) (tk T_cX12_leaves 24 rfl) kI_m1 ?_
        exact a_to (k_M_leaves_45 C hr hR ih x1 x2 x3 x4 ((x3 + x4) + (50 : Int32)) (-1 : Int32) M1 h) rfl
      · have h := h.2 c
        refine a_aload_n C (tk T_cX12_leaves 18 rfl) rfl ?_
        refine a_iload_n C (tk T_cX12_leaves 19 rfl) rfl ?_
        refine a_iload_n C (tk T_cX12_leaves 20 rfl) rfl ?_
        refine a_iload C (tk T_cX12_leaves 21 rfl) rfl ?_
        refine a_callI C [.int x1, .int x2, .int x4] me_yX12_leftOf lk_RX12_188 (ct_M_leftOf h) (by decide) lm0 rfl rfl rfl (Nat.le_of_ble_eq_true rfl) (tk T_cX12_leaves 22 rfl) hr (fun r2 M2 h => ?_)
        refine a_goto C 45 (tk T_cX12_leaves 23 rfl) rfl ?_
        exact a_to (k_M_leaves_45 C hr hR ih x1 x2 x3 x4 ((x3 + x4) + (50 : Int32)) r2 M2 h) rfl
def P_M_leaves (post : Mem → Prop) (x1 x2 x3 : Int32) (M : Mem) : Prop :=
  ∃ j4, P_M_leaves_4 post j4 x1 x2 x3 (-50 : Int32) M
theorem k_M_leaves {X : FX} {g : GT} {A : Nat → Prop} {Z : State → Prop} {post : Mem → Prop} (C : Cx X g layM A cX12_leaves 5 RX12 5) (hr : 0 ≤ X.2.2.2.1.cells ∧ 0 ≤ X.2.2.2.1.slots) (hR : RetV X g layM A cX12_leaves 5 0 0 Z post) (x1 x2 x3 : Int32) (M : Mem) (h : P_M_leaves post x1 x2 x3 M) : At X g layM A 5 0 0 Z 0 [(0, .ref (ad g 0)), (1, .int x1), (2, .int x2), (3, .int x3)] [] M := by
  refine a_bipush C (-50 : Int32) (tk T_cX12_leaves 0 rfl) kB_m50 ?_
  refine a_istore C (tk T_cX12_leaves 1 rfl) (by decide) ?_
  obtain ⟨n1, h⟩ := h
  exact a_to (k_M_leaves_4 C hr hR n1 x1 x2 x3 (-50 : Int32) M h) rfl
theorem ct_M_leaves {l : Launch} {g : GT} {post : Mem → Prop} {x1 x2 x3 : Int32} {M : Mem} (h : P_M_leaves post x1 x2 x3 M) : CV l g layM yX12_leaves cX12_leaves 5 none 5 [.ref (ad g 0), .int x1, .int x2, .int x3] M post :=
  cv_of (plainFor_of_name (by decide +kernel)) (Nat.le_of_ble_eq_true rfl) rfl (fun X A Z hl C hr hR => by subst hl; exact k_M_leaves C hr hR x1 x2 x3 M h)
def T_cX12_starsL : List (Nat × Instr × Nat) := [(0, .aload_n 0, 1), (1, .iconst 0, 1), (2, .putfield 3, 3), (5, .aload_n 0, 1), (6, .aload_n 0, 1), (7, .iload_n 1, 1), (8, .bipush 8, 2), (10, .invokevirtual 121, 3), (13, .iconst 1, 1), (14, .invokevirtual 72, 3), (17, .ifCond .ne 26, 3), (20, .aload_n 0, 1), (21, .iload 4, 2), (23, .iconst 0, 1), (24, .iconst 2, 1), (25, .invokestatic 58, 3), (28, .ifCond .ne 7, 3), (31, .iconst 1, 1), (32, .goto 4, 3), (35, .iconst 0, 1), (36, .iconst 2, 1), (37, .invokevirtual 72, 3), (40, .ifCond .eq 5, 3), (43, .iconst 0, 1), (44, .ireturn, 1), (45, .aload_n 0, 1), (46, .invokevirtual 197, 3), (49, .aload_n 0, 1), (50, .iload_n 1, 1), (51, .iload_n 2, 1), (52, .iconst 0, 1), (53, .invokevirtual 250, 3), (56, .aload_n 0, 1), (57, .iload_n 1, 1), (58, .iload_n 3, 1), (59, .bipush 101, 2), (61, .invokevirtual 250, 3), (64, .iconst 0, 1), (65, .istore 5, 2), (67, .bipush 99, 2), (69, .istore 6, 2), (71, .bipush 99, 2), (73, .istore 7, 2), (75, .iconst 0, 1), (76, .istore 8, 2), (78, .iload 8, 2), (80, .bipush 101, 2), (82, .if_icmp .ge 94, 3), (85, .iconst 0, 1), (86, .istore 9, 2), (88, .iload 9, 2), (90, .bipush 101, 2), (92, .if_icmp .ge 78, 3), (95, .aload_n 0, 1), (96, .getfield 38, 3), (99, .iload 8, 2), (101, .iaload, 1), (102, .ifCond .lt 62, 3), (105, .aload_n 0, 1), (106, .getfield 38, 3), (109, .bipush 101, 2), (111, .iload 9, 2), (113, .iadd, 1), (114, .iaload, 1), (115, .ifCond .lt 49, 3), (118, .aload_n 0, 1), (119, .getfield 38, 3), (122, .iload 8, 2), (124, .iaload, 1), (125, .aload_n 0, 1), (126, .getfield 38, 3), (129, .bipush 101, 2), (131, .iload 9, 2), (133, .iadd, 1), (134, .iaload, 1), (135, .iand, 1), (136, .ifCond .eq 6, 3), (139, .goto 25, 3), (142, .iload 5, 2), (144, .ifCond .ne 17, 3), (147, .iload 8, 2), (149, .bipush 50, 2), (151, .isub, 1), (152, .istore 6, 2), (154, .iload 9, 2), (156, .bipush 50, 2), (158, .isub, 1), (159, .istore 7, 2), (161, .iinc 5 1, 3), (164, .iinc 9 1, 3), (167, .goto (-79), 3), (170, .iinc 8 1, 3), (173, .goto (-95), 3), (176, .iload 4, 2), (178, .ifCond .ne 8, 3), (181, .iload 5, 2), (183, .goto 16, 3), (186, .iload 4, 2), (188, .iconst 1, 1), (189, .if_icmp .ne 8, 3), (192, .iload 6, 2), (194, .goto 5, 3), (197, .iload 7, 2), (199, .ireturn, 1)]
theorem T_cX12_stars : tabOK cX12_stars T_cX12_starsL = true := by decide +kernel
def P_M_stars_199 (post : Int32 → Mem → Prop) (s0 : Int32) (M : Mem) : Prop :=
  post s0 M
theorem k_M_stars_199 {X : FX} {g : GT} {A : Nat → Prop} {Z : State → Prop} {post : Int32 → Mem → Prop} (C : Cx X g layM A cX12_stars 10 RX12 6) (hr : 0 ≤ X.2.2.2.1.cells ∧ 0 ≤ X.2.2.2.1.slots) (hR : RetI X g layM A cX12_stars 10 0 0 Z post) (s0 : Int32) (M : Mem) (h : P_M_stars_199 post s0 M) : At X g layM A 10 0 0 Z 199 [] [.int s0] M := by
  exact hR _ _ _ _ (tk T_cX12_stars 103 rfl) h
def P_M_stars_164 (post : Int32 → Mem → Prop) (R78 : Int32 → Int32 → Int32 → Int32 → Int32 → Mem → Prop) (R88 : Int32 → Int32 → Int32 → Int32 → Int32 → Int32 → Mem → Prop) (x4 x5 x6 x7 x8 x9 : Int32) (M : Mem) : Prop :=
  R88 x4 x5 x6 x7 x8 (x9 + (1 : Int32)) M
theorem k_M_stars_164 {X : FX} {g : GT} {A : Nat → Prop} {Z : State → Prop} {post : Int32 → Mem → Prop} {R78 : Int32 → Int32 → Int32 → Int32 → Int32 → Mem → Prop} {R88 : Int32 → Int32 → Int32 → Int32 → Int32 → Int32 → Mem → Prop} (C : Cx X g layM A cX12_stars 10 RX12 6) (hr : 0 ≤ X.2.2.2.1.cells ∧ 0 ≤ X.2.2.2.1.slots) (hR : RetI X g layM A cX12_stars 10 0 0 Z post) (k78 : ∀ (y4 y5 y6 y7 y8 : Int32) (M : Mem), R78 y4 y5 y6 y7 y8 M → At X g layM A 10 0 0 Z 78 [(0, .ref (ad g 0)), (4, .int y4), (5, .int y5), (6, .int y6), (7, .int y7), (8, .int y8)] [] M) (k88 : ∀ (y4 y5 y6 y7 y8 y9 : Int32) (M : Mem), R88 y4 y5 y6 y7 y8 y9 M → At X g layM A 10 0 0 Z 88 [(0, .ref (ad g 0)), (4, .int y4), (5, .int y5), (6, .int y6), (7, .int y7), (8, .int y8), (9, .int y9)] [] M) (x4 x5 x6 x7 x8 x9 : Int32) (M : Mem) (h : P_M_stars_164 post R78 R88 x4 x5 x6 x7 x8 x9 M) : At X g layM A 10 0 0 Z 164 [(0, .ref (ad g 0)), (4, .int x4), (5, .int x5), (6, .int x6), (7, .int x7), (8, .int x8), (9, .int x9)] [] M := by
  refine a_iinc C (1 : Int32) (tk T_cX12_stars 89 rfl) rfl kI_1 (by decide) ?_
  refine a_goto C 88 (tk T_cX12_stars 90 rfl) rfl ?_
  exact a_to (k88 x4 x5 x6 x7 x8 (x9 + (1 : Int32)) M h) rfl
def P_M_stars_161 (post : Int32 → Mem → Prop) (R78 : Int32 → Int32 → Int32 → Int32 → Int32 → Mem → Prop) (R88 : Int32 → Int32 → Int32 → Int32 → Int32 → Int32 → Mem → Prop) (x4 x5 x6 x7 x8 x9 : Int32) (M : Mem) : Prop :=
  P_M_stars_164 post R78 R88 x4 (x5 + (1 : Int32)) x6 x7 x8 x9 M
theorem k_M_stars_161 {X : FX} {g : GT} {A : Nat → Prop} {Z : State → Prop} {post : Int32 → Mem → Prop} {R78 : Int32 → Int32 → Int32 → Int32 → Int32 → Mem → Prop} {R88 : Int32 → Int32 → Int32 → Int32 → Int32 → Int32 → Mem → Prop} (C : Cx X g layM A cX12_stars 10 RX12 6) (hr : 0 ≤ X.2.2.2.1.cells ∧ 0 ≤ X.2.2.2.1.slots) (hR : RetI X g layM A cX12_stars 10 0 0 Z post) (k78 : ∀ (y4 y5 y6 y7 y8 : Int32) (M : Mem), R78 y4 y5 y6 y7 y8 M → At X g layM A 10 0 0 Z 78 [(0, .ref (ad g 0)), (4, .int y4), (5, .int y5), (6, .int y6), (7, .int y7), (8, .int y8)] [] M) (k88 : ∀ (y4 y5 y6 y7 y8 y9 : Int32) (M : Mem), R88 y4 y5 y6 y7 y8 y9 M → At X g layM A 10 0 0 Z 88 [(0, .ref (ad g 0)), (4, .int y4), (5, .int y5), (6, .int y6), (7, .int y7), (8, .int y8), (9, .int y9)] [] M) (x4 x5 x6 x7 x8 x9 : Int32) (M : Mem) (h : P_M_stars_161 post R78 R88 x4 x5 x6 x7 x8 x9 M) : At X g layM A 10 0 0 Z 161 [(0, .ref (ad g 0)), (4, .int x4), (5, .int x5), (6, .int x6), (7, .int x7), (8, .int x8), (9, .int x9)] [] M := by
  refine a_iinc C (1 : Int32) (tk T_cX12_stars 88 rfl) rfl kI_1 (by decide) ?_
  exact a_to (k_M_stars_164 C hr hR k78 k88 x4 (x5 + (1 : Int32)) x6 x7 x8 x9 M h) rfl
def P_M_stars_88 (post : Int32 → Mem → Prop) (R78 : Int32 → Int32 → Int32 → Int32 → Int32 → Mem → Prop) : Nat → Int32 → Int32 → Int32 → Int32 → Int32 → Int32 → Mem → Prop
  | 0, _, _, _, _, _, _, _ => False
  | n + 1, x4, x5, x6, x7, x8, x9, M =>
    ((101 : Int32) ≤ x9 → (R78 x4 x5 x6 x7 (x8 + (1 : Int32)) M)) ∧
  (¬ (101 : Int32) ≤ x9 → (vp_in x8 202 ∧ ((M 9 x8.toNatClampNeg) < 0 → (P_M_stars_164 post R78 (P_M_stars_88 post R78 n) x4 x5 x6 x7 x8 x9 M)) ∧
  (¬ (M 9 x8.toNatClampNeg) < 0 → (vp_in ((101 : Int32) + x9) 202 ∧ ((M 9 ((101 : Int32) + x9).toNatClampNeg) < 0 → (P_M_stars_164 post R78 (P_M_stars_88 post R78 n) x4 x5 x6 x7 x8 x9 M)) ∧
  (¬ (M 9 ((101 : Int32) + x9).toNatClampNeg) < 0 → (vp_in x8 202 ∧ vp_in ((101 : Int32) + x9) 202 ∧ ∀ v1, v1 = ((M 9 x8.toNatClampNeg) &&& (M 9 ((101 : Int32) + x9).toNatClampNeg)) → (v1 = 0 → ((¬ x5 = 0 → (P_M_stars_161 post R78 (P_M_stars_88 post R78 n) x4 x5 x6 x7 x8 x9 M)) ∧
  (x5 = 0 → (∀ x6_2, x6_2 = (x8 - (50 : Int32)) → ∀ x7_3, x7_3 = (x9 - (50 : Int32)) → P_M_stars_161 post R78 (P_M_stars_88 post R78 n) x4 x5 x6_2 x7_3 x8 x9 M)))) ∧
  (¬ v1 = 0 → (P_M_stars_164 post R78 (P_M_stars_88 post R78 n) x4 x5 x6 x7 x8 x9 M))))))))
theorem k_M_stars_88 {X : FX} {g : GT} {A : Nat → Prop} {Z : State → Prop} {post : Int32 → Mem → Prop} {R78 : Int32 → Int32 → Int32 → Int32 → Int32 → Mem → Prop} (C : Cx X g layM A cX12_stars 10 RX12 6) (hr : 0 ≤ X.2.2.2.1.cells ∧ 0 ≤ X.2.2.2.1.slots) (hR : RetI X g layM A cX12_stars 10 0 0 Z post) (k78 : ∀ (y4 y5 y6 y7 y8 : Int32) (M : Mem), R78 y4 y5 y6 y7 y8 M → At X g layM A 10 0 0 Z 78 [(0, .ref (ad g 0)), (4, .int y4), (5, .int y5), (6, .int y6), (7, .int y7), (8, .int y8)] [] M) : ∀ (n : Nat) (x4 x5 x6 x7 x8 x9 : Int32) (M : Mem), P_M_stars_88 post R78 n x4 x5 x6 x7 x8 x9 M → At X g layM A 10 0 0 Z 88 [(0, .ref (ad g 0)), (4, .int x4), (5, .int x5), (6, .int x6), (7, .int x7), (8, .int x8), (9, .int x9)] [] M := by
  intro n
  induction n with
  | zero =>
    intro x4 x5 x6 x7 x8 x9 M h
    exact h.elim
  | succ n ih =>
    intro x4 x5 x6 x7 x8 x9 M h
    refine a_iload C (tk T_cX12_stars 50 rfl) rfl ?_
    refine a_bipush C (101 : Int32) (tk T_cX12_stars 51 rfl) kB_101 ?_
    refine a_icmp_ge C 170 (tk T_cX12_stars 52 rfl) rfl (fun c => ?_) (fun c => ?_)
    · have h := h.1 c
      refine a_iinc C (1 : Int32) (tk T_cX12_stars 91 rfl) rfl kI_1 (by decide) ?_
      refine a_goto C 78 (tk T_cX12_stars 92 rfl) rfl ?_
      exact a_to (k78 x4 x5 x6 x7 (x8 + (1 : Int32)) M h) rfl
    · have h := h.2 c
      refine a_aload_n C (tk T_cX12_stars 53 rfl) rfl ?_
      refine a_getR C f_RX12_38 (tk T_cX12_stars 54 rfl) lm0 rfl ?_
      refine a_iload C (tk T_cX12_stars 55 rfl) rfl ?_
      obtain ⟨hb, h⟩ := h
      refine a_iald C (tk T_cX12_stars 56 rfl) lm9 hb ?_
      refine a_if_lt C 164 (tk T_cX12_stars 57 rfl) rfl (fun c => ?_) (fun c => ?_)
      · have h := h.1 c
        exact a_to (k_M_stars_164 C hr hR k78 ih x4 x5 x6 x7 x8 x9 M h) rfl
      · have h := h.2 c
        refine a_aload_n C (tk T_cX12_stars 58 rfl) rfl ?_
        refine a_getR C f_RX12_38 (tk T_cX12_stars 59 rfl) lm0 rfl ?_
        refine a_bipush C (101 : Int32) (tk T_cX12_stars 60 rfl) kB_101 ?_
        refine a_iload C (tk T_cX12_stars 61 rfl) rfl ?_
        refine a_iadd C (tk T_cX12_stars 62 rfl) ?_
        obtain ⟨hb, h⟩ := h
        refine a_iald C (tk T_cX12_stars 63 rfl) lm9 hb ?_
        refine a_if_lt C 164 (tk T_cX12_stars 64 rfl) rfl (fun c => ?_) (fun c => ?_)
        · have h := h.1 c
          exact a_to (k_M_stars_164 C hr hR k78 ih x4 x5 x6 x7 x8 x9 M h) rfl
        · have h := h.2 c
          refine a_aload_n C (tk T_cX12_stars 65 rfl) rfl ?_
          refine a_getR C f_RX12_38 (tk T_cX12_stars 66 rfl) lm0 rfl ?_
          refine a_iload C (tk T_cX12_stars 67 rfl) rfl ?_
          obtain ⟨hb, h⟩ := h
          refine a_iald C (tk T_cX12_stars 68 rfl) lm9 hb ?_
          refine a_aload_n C (tk T_cX12_stars 69 rfl) rfl ?_
          refine a_getR C f_RX12_38 (tk T_cX12_stars 70 rfl) lm0 rfl ?_
          refine a_bipush C (101 : Int32) (tk T_cX12_stars 71 rfl) kB_101 ?_
          refine a_iload C (tk T_cX12_stars 72 rfl) rfl ?_
          refine a_iadd C (tk T_cX12_stars 73 rfl) ?_
          obtain ⟨hb, h⟩ := h
          refine a_iald C (tk T_cX12_stars 74 rfl) lm9 hb ?_
          refine a_iand C (tk T_cX12_stars 75 rfl) ?_
          refine a_top (fun v1 e_v1 => ?_)
          have h := h v1 e_v1
          refine a_if_eq C 142 (tk T_cX12_stars 76 rfl) rfl (fun c => ?_) (fun c => ?_)
          · have h := h.1 c
            refine a_iload C (tk T_cX12_stars 78 rfl) rfl ?_
            refine a_if_ne C 161 (tk T_cX12_stars 79 rfl) rfl (fun c => ?_) (fun c => ?_)
            · have h := h.1 c
              exact a_to (k_M_stars_161 C hr hR k78 ih x4 x5 x6 x7 x8 x9 M h) rfl
            · have h := h.2 c
              refine a_iload C (tk T_cX12_stars 80 rfl) rfl ?_
              refine a_bipush C (50 : Int32) (tk T_cX12_stars 81 rfl) kB_50 ?_
              refine a_isub C (tk T_cX12_stars 82 rfl) ?_
              refine a_top (fun x6_2 e_x6_2 => ?_)
              have h := h x6_2 e_x6_2
              refine a_istore C (tk T_cX12_stars 83 rfl) (by decide) ?_
              refine a_iload C (tk T_cX12_stars 84 rfl) rfl ?_
              refine a_bipush C (50 : Int32) (tk T_cX12_stars 85 rfl) kB_50 ?_
              refine a_isub C (tk T_cX12_stars 86 rfl) ?_
              refine a_top (fun x7_3 e_x7_3 => ?_)
              have h := h x7_3 e_x7_3
              refine a_istore C (tk T_cX12_stars 87 rfl) (by decide) ?_
              exact a_to (k_M_stars_161 C hr hR k78 ih x4 x5 x6_2 x7_3 x8 x9 M h) rfl
          · have h := h.2 c
            refine a_goto C 164 (tk T_cX12_stars 77 rfl) rfl ?_
            exact a_to (k_M_stars_164 C hr hR k78 ih x4 x5 x6 x7 x8 x9 M h) rfl
def P_M_stars_78 (post : Int32 → Mem → Prop) : Nat → Int32 → Int32 → Int32 → Int32 → Int32 → Mem → Prop
  | 0, _, _, _, _, _, _ => False
  | n + 1, x4, x5, x6, x7, x8, M =>
    ((101 : Int32) ≤ x8 → ((¬ x4 = 0 → ((¬ x4 = (1 : Int32) → (P_M_stars_199 post x7 M)) ∧
  (x4 = (1 : Int32) → (P_M_stars_199 post x6 M)))) ∧
  (x4 = 0 → (P_M_stars_199 post x5 M)))) ∧
  (¬ (101 : Int32) ≤ x8 → (∃ j88, P_M_stars_88 post (P_M_stars_78 post n) j88 x4 x5 x6 x7 x8 (0 : Int32) M))
theorem k_M_stars_78 {X : FX} {g : GT} {A : Nat → Prop} {Z : State → Prop} {post : Int32 → Mem → Prop} (C : Cx X g layM A cX12_stars 10 RX12 6) (hr : 0 ≤ X.2.2.2.1.cells ∧ 0 ≤ X.2.2.2.1.slots) (hR : RetI X g layM A cX12_stars 10 0 0 Z post) : ∀ (n : Nat) (x4 x5 x6 x7 x8 : Int32) (M : Mem), P_M_stars_78 post n x4 x5 x6 x7 x8 M → At X g layM A 10 0 0 Z 78 [(0, .ref (ad g 0)), (4, .int x4), (5, .int x5), (6, .int x6), (7, .int x7), (8, .int x8)] [] M := by
  intro n
  induction n with
  | zero =>
    intro x4 x5 x6 x7 x8 M h
    exact h.elim
  | succ n ih =>
    intro x4 x5 x6 x7 x8 M h
    refine a_iload C (tk T_cX12_stars 45 rfl) rfl ?_
    refine a_bipush C (101 : Int32) (tk T_cX12_stars 46 rfl) kB_101 ?_
    refine a_icmp_ge C 176 (tk T_cX12_stars 47 rfl) rfl (fun c => ?_) (fun c => ?_)
    · have h := h.1 c
      refine a_iload C (tk T_cX12_stars 93 rfl) rfl ?_
      refine a_if_ne C 186 (tk T_cX12_stars 94 rfl) rfl (fun c => ?_) (fun c => ?_)
      · have h := h.1 c
        refine a_iload C (tk T_cX12_stars 97 rfl) rfl ?_
        refine a_iconst C (1 : Int32) (tk T_cX12_stars 98 rfl) kI_1 ?_
        refine a_icmp_ne C 197 (tk T_cX12_stars 99 rfl) rfl (fun c => ?_) (fun c => ?_)
        · have h := h.1 c
          refine a_iload C (tk T_cX12_stars 102 rfl) rfl ?_
          exact a_to (k_M_stars_199 C hr hR x7 M h) rfl
        · have h := h.2 c
          refine a_iload C (tk T_cX12_stars 100 rfl) rfl ?_
          refine a_goto C 199 (tk T_cX12_stars 101 rfl) rfl ?_
          exact a_to (k_M_stars_199 C hr hR x6 M h) rfl
      · have h := h.2 c
        refine a_iload C (tk T_cX12_stars 95 rfl) rfl ?_
        refine a_goto C 199 (tk T_cX12_stars 96 rfl) rfl ?_
        exact a_to (k_M_stars_199 C hr hR x5 M h) rfl
    · have h := h.2 c
      refine a_iconst C (0 : Int32) (tk T_cX12_stars 48 rfl) kI_0 ?_
      refine a_istore C (tk T_cX12_stars 49 rfl) (by decide) ?_
      obtain ⟨n1, h⟩ := h
      exact a_to (k_M_stars_88 C hr hR ih n1 x4 x5 x6 x7 x8 (0 : Int32) M h) rfl
def P_M_stars_43 (post : Int32 → Mem → Prop) (M : Mem) : Prop :=
  post (0 : Int32) M
theorem k_M_stars_43 {X : FX} {g : GT} {A : Nat → Prop} {Z : State → Prop} {post : Int32 → Mem → Prop} (C : Cx X g layM A cX12_stars 10 RX12 6) (hr : 0 ≤ X.2.2.2.1.cells ∧ 0 ≤ X.2.2.2.1.slots) (hR : RetI X g layM A cX12_stars 10 0 0 Z post)  (M : Mem) (h : P_M_stars_43 post M) : At X g layM A 10 0 0 Z 43 [] [] M := by
  refine a_iconst C (0 : Int32) (tk T_cX12_stars 23 rfl) kI_0 ?_
  exact hR _ _ _ _ (tk T_cX12_stars 24 rfl) h
def P_M_stars_36 (post : Int32 → Mem → Prop) (x1 x2 x3 x4 s1 : Int32) (M : Mem) : Prop :=
  P_M_throwsIf (fun r1 M1 =>
  (r1 = 0 → (P_M_spans (fun M2 =>
  P_M_leaves (fun M3 =>
  P_M_leaves (fun M4 =>
  ∃ j78, P_M_stars_78 post j78 x4 (0 : Int32) (99 : Int32) (99 : Int32) (0 : Int32) M4) x1 x3 (101 : Int32) M3) x1 x2 (0 : Int32) M2) M1)) ∧
  (¬ r1 = 0 → (P_M_stars_43 post M1))) s1 (2 : Int32) M
theorem k_M_stars_36 {X : FX} {g : GT} {A : Nat → Prop} {Z : State → Prop} {post : Int32 → Mem → Prop} (C : Cx X g layM A cX12_stars 10 RX12 6) (hr : 0 ≤ X.2.2.2.1.cells ∧ 0 ≤ X.2.2.2.1.slots) (hR : RetI X g layM A cX12_stars 10 0 0 Z post) (x1 x2 x3 x4 s1 : Int32) (M : Mem) (h : P_M_stars_36 post x1 x2 x3 x4 s1 M) : At X g layM A 10 0 0 Z 36 [(0, .ref (ad g 0)), (1, .int x1), (2, .int x2), (3, .int x3), (4, .int x4)] [.int s1, .ref (ad g 0)] M := by
  refine a_iconst C (2 : Int32) (tk T_cX12_stars 20 rfl) kI_2 ?_
  refine a_callI C [.int s1, .int (2 : Int32)] me_yX12_throwsIf lk_RX12_72 (ct_M_throwsIf h) (by decide) lm0 rfl rfl rfl (Nat.le_of_ble_eq_true rfl) (tk T_cX12_stars 21 rfl) hr (fun r1 M1 h => ?_)
  refine a_if_eq C 45 (tk T_cX12_stars 22 rfl) rfl (fun c => ?_) (fun c => ?_)
  · have h := h.1 c
    refine a_aload_n C (tk T_cX12_stars 25 rfl) rfl ?_
    refine a_callV C [] me_yX12_spans lk_RX12_197 (ct_M_spans h) (by decide) lm0 rfl rfl rfl (Nat.le_of_ble_eq_true rfl) (tk T_cX12_stars 26 rfl) hr (fun M2 h => ?_)
    refine a_aload_n C (tk T_cX12_stars 27 rfl) rfl ?_
    refine a_iload_n C (tk T_cX12_stars 28 rfl) rfl ?_
    refine a_iload_n C (tk T_cX12_stars 29 rfl) rfl ?_
    refine a_iconst C (0 : Int32) (tk T_cX12_stars 30 rfl) kI_0 ?_
    refine a_callV C [.int x1, .int x2, .int (0 : Int32)] me_yX12_leaves lk_RX12_250 (ct_M_leaves h) (by decide) lm0 rfl rfl rfl (Nat.le_of_ble_eq_true rfl) (tk T_cX12_stars 31 rfl) hr (fun M3 h => ?_)
    refine a_aload_n C (tk T_cX12_stars 32 rfl) rfl ?_
    refine a_iload_n C (tk T_cX12_stars 33 rfl) rfl ?_
    refine a_iload_n C (tk T_cX12_stars 34 rfl) rfl ?_
    refine a_bipush C (101 : Int32) (tk T_cX12_stars 35 rfl) kB_101 ?_
    refine a_callV C [.int x1, .int x3, .int (101 : Int32)] me_yX12_leaves lk_RX12_250 (ct_M_leaves h) (by decide) lm0 rfl rfl rfl (Nat.le_of_ble_eq_true rfl) (tk T_cX12_stars 36 rfl) hr (fun M4 h => ?_)
    refine a_iconst C (0 : Int32) (tk T_cX12_stars 37 rfl) kI_0 ?_
    refine a_istore C (tk T_cX12_stars 38 rfl) (by decide) ?_
    refine a_bipush C (99 : Int32) (tk T_cX12_stars 39 rfl) kB_99 ?_
    refine a_istore C (tk T_cX12_stars 40 rfl) (by decide) ?_
    refine a_bipush C (99 : Int32) (tk T_cX12_stars 41 rfl) kB_99 ?_
    refine a_istore C (tk T_cX12_stars 42 rfl) (by decide) ?_
    refine a_iconst C (0 : Int32) (tk T_cX12_stars 43 rfl) kI_0 ?_
    refine a_istore C (tk T_cX12_stars 44 rfl) (by decide) ?_
    obtain ⟨n1, h⟩ := h
    exact a_to (k_M_stars_78 C hr hR n1 x4 (0 : Int32) (99 : Int32) (99 : Int32) (0 : Int32) M4 h) rfl
  · have h := h.2 c
    exact a_to (k_M_stars_43 C hr hR M1 h) rfl
def P_M_stars (post : Int32 → Mem → Prop) (x1 x2 x3 x4 : Int32) (M : Mem) : Prop :=
  ∀ M1, M1 = ms M 0 0 (0 : Int32) → P_M_none (fun r2 M2 =>
  P_M_throwsIf (fun r3 M3 =>
  (¬ r3 = 0 → (P_M_stars_43 post M3)) ∧
  (r3 = 0 → (P_M_in (fun r4 M4 =>
  (¬ r4 = 0 → (P_M_stars_36 post x1 x2 x3 x4 (0 : Int32) M4)) ∧
  (r4 = 0 → (P_M_stars_36 post x1 x2 x3 x4 (1 : Int32) M4))) x4 (0 : Int32) (2 : Int32) M3))) r2 (1 : Int32) M2) x1 (8 : Int32) M1
theorem k_M_stars {X : FX} {g : GT} {A : Nat → Prop} {Z : State → Prop} {post : Int32 → Mem → Prop} (C : Cx X g layM A cX12_stars 10 RX12 6) (hr : 0 ≤ X.2.2.2.1.cells ∧ 0 ≤ X.2.2.2.1.slots) (hR : RetI X g layM A cX12_stars 10 0 0 Z post) (x1 x2 x3 x4 : Int32) (M : Mem) (h : P_M_stars post x1 x2 x3 x4 M) : At X g layM A 10 0 0 Z 0 [(0, .ref (ad g 0)), (1, .int x1), (2, .int x2), (3, .int x3), (4, .int x4)] [] M := by
  refine a_aload_n C (tk T_cX12_stars 0 rfl) rfl ?_
  refine a_iconst C (0 : Int32) (tk T_cX12_stars 1 rfl) kI_0 ?_
  refine a_put C f_RX12_3 f_RX12_3p rfl rfl (tk T_cX12_stars 2 rfl) lm0 rfl ?_
  refine a_mem (fun M1 e_M1 => ?_)
  have h := h M1 e_M1
  refine a_aload_n C (tk T_cX12_stars 3 rfl) rfl ?_
  refine a_aload_n C (tk T_cX12_stars 4 rfl) rfl ?_
  refine a_iload_n C (tk T_cX12_stars 5 rfl) rfl ?_
  refine a_bipush C (8 : Int32) (tk T_cX12_stars 6 rfl) kB_8 ?_
  refine a_callI C [.int x1, .int (8 : Int32)] me_yX12_none lk_RX12_121 (ct_M_none h) (by decide) lm0 rfl rfl rfl (Nat.le_of_ble_eq_true rfl) (tk T_cX12_stars 7 rfl) hr (fun r2 M2 h => ?_)
  refine a_iconst C (1 : Int32) (tk T_cX12_stars 8 rfl) kI_1 ?_
  refine a_callI C [.int r2, .int (1 : Int32)] me_yX12_throwsIf lk_RX12_72 (ct_M_throwsIf h) (by decide) lm0 rfl rfl rfl (Nat.le_of_ble_eq_true rfl) (tk T_cX12_stars 9 rfl) hr (fun r3 M3 h => ?_)
  refine a_if_ne C 43 (tk T_cX12_stars 10 rfl) rfl (fun c => ?_) (fun c => ?_)
  · have h := h.1 c
    exact a_to (k_M_stars_43 C hr hR M3 h) rfl
  · have h := h.2 c
    refine a_aload_n C (tk T_cX12_stars 11 rfl) rfl ?_
    refine a_iload C (tk T_cX12_stars 12 rfl) rfl ?_
    refine a_iconst C (0 : Int32) (tk T_cX12_stars 13 rfl) kI_0 ?_
    refine a_iconst C (2 : Int32) (tk T_cX12_stars 14 rfl) kI_2 ?_
    refine a_statI C [.int x4, .int (0 : Int32), .int (2 : Int32)] me_yX12_in lk_RX12_58 (ct_M_in h) (by decide) rfl rfl (Nat.le_of_ble_eq_true rfl) (tk T_cX12_stars 15 rfl) hr (fun r4 M4 h => ?_)
    refine a_if_ne C 35 (tk T_cX12_stars 16 rfl) rfl (fun c => ?_) (fun c => ?_)
    · have h := h.1 c
      refine a_iconst C (0 : Int32) (tk T_cX12_stars 19 rfl) kI_0 ?_
      exact a_to (k_M_stars_36 C hr hR x1 x2 x3 x4 (0 : Int32) M4 h) rfl
    · have h := h.2 c
      refine a_iconst C (1 : Int32) (tk T_cX12_stars 17 rfl) kI_1 ?_
      refine a_goto C 36 (tk T_cX12_stars 18 rfl) rfl ?_
      exact a_to (k_M_stars_36 C hr hR x1 x2 x3 x4 (1 : Int32) M4 h) rfl
theorem ct_M_stars {l : Launch} {g : GT} {post : Int32 → Mem → Prop} {x1 x2 x3 x4 : Int32} {M : Mem} (h : P_M_stars post x1 x2 x3 x4 M) : CI l g layM yX12_stars cX12_stars 10 (some .int) 6 [.ref (ad g 0), .int x1, .int x2, .int x3, .int x4] M post :=
  ci_of (plainFor_of_name (by decide +kernel)) (Nat.le_of_ble_eq_true rfl) rfl (fun X A Z hl C hr hR => by subst hl; exact k_M_stars C hr hR x1 x2 x3 x4 M h)
def T_cX12_driftL : List (Nat × Instr × Nat) := [(0, .aload_n 0, 1), (1, .iconst 0, 1), (2, .putfield 3, 3), (5, .aload_n 0, 1), (6, .aload_n 0, 1), (7, .iload_n 1, 1), (8, .bipush 8, 2), (10, .invokevirtual 121, 3), (13, .iconst 1, 1), (14, .invokevirtual 72, 3), (17, .ifCond .eq 5, 3), (20, .iconst 0, 1), (21, .ireturn, 1), (22, .aload_n 0, 1), (23, .iconst 0, 1), (24, .invokevirtual 112, 3), (27, .pop, 1), (28, .iconst 0, 1), (29, .istore 4, 2), (31, .bipush 99, 2), (33, .istore 5, 2), (35, .bipush (-30), 2), (37, .istore 6, 2), (39, .iload 6, 2), (41, .bipush 30, 2), (43, .if_icmp .gt 49, 3), (46, .aload_n 0, 1), (47, .iload_n 1, 1), (48, .iload 6, 2), (50, .invokevirtual 138, 3), (53, .aload_n 0, 1), (54, .iload_n 1, 1), (55, .iload_n 2, 1), (56, .iconst 0, 1), (57, .invokevirtual 200, 3), (60, .ifCond .ne 6, 3), (63, .goto 23, 3), (66, .iinc 4 1, 3), (69, .iload 6, 2), (71, .invokestatic 87, 3), (74, .iload 5, 2), (76, .invokestatic 87, 3), (79, .if_icmp .ge 7, 3), (82, .iload 6, 2), (84, .istore 5, 2), (86, .iinc 6 1, 3), (89, .goto (-50), 3), (92, .iload_n 3, 1), (93, .ifCond .eq 8, 3), (96, .iload 5, 2), (98, .goto 5, 3), (101, .iload 4, 2), (103, .ireturn, 1)]
theorem T_cX12_drift : tabOK cX12_drift T_cX12_driftL = true := by decide +kernel
def P_M_drift_103 (post : Int32 → Mem → Prop) (s0 : Int32) (M : Mem) : Prop :=
  post s0 M
theorem k_M_drift_103 {X : FX} {g : GT} {A : Nat → Prop} {Z : State → Prop} {post : Int32 → Mem → Prop} (C : Cx X g layM A cX12_drift 7 RX12 6) (hr : 0 ≤ X.2.2.2.1.cells ∧ 0 ≤ X.2.2.2.1.slots) (hR : RetI X g layM A cX12_drift 7 0 0 Z post) (s0 : Int32) (M : Mem) (h : P_M_drift_103 post s0 M) : At X g layM A 7 0 0 Z 103 [] [.int s0] M := by
  exact hR _ _ _ _ (tk T_cX12_drift 52 rfl) h
def P_M_drift_86 (post : Int32 → Mem → Prop) (R39 : Int32 → Int32 → Int32 → Int32 → Int32 → Int32 → Mem → Prop) (x1 x2 x3 x4 x5 x6 : Int32) (M : Mem) : Prop :=
  R39 x1 x2 x3 x4 x5 (x6 + (1 : Int32)) M
theorem k_M_drift_86 {X : FX} {g : GT} {A : Nat → Prop} {Z : State → Prop} {post : Int32 → Mem → Prop} {R39 : Int32 → Int32 → Int32 → Int32 → Int32 → Int32 → Mem → Prop} (C : Cx X g layM A cX12_drift 7 RX12 6) (hr : 0 ≤ X.2.2.2.1.cells ∧ 0 ≤ X.2.2.2.1.slots) (hR : RetI X g layM A cX12_drift 7 0 0 Z post) (k39 : ∀ (y1 y2 y3 y4 y5 y6 : Int32) (M : Mem), R39 y1 y2 y3 y4 y5 y6 M → At X g layM A 7 0 0 Z 39 [(0, .ref (ad g 0)), (1, .int y1), (2, .int y2), (3, .int y3), (4, .int y4), (5, .int y5), (6, .int y6)] [] M) (x1 x2 x3 x4 x5 x6 : Int32) (M : Mem) (h : P_M_drift_86 post R39 x1 x2 x3 x4 x5 x6 M) : At X g layM A 7 0 0 Z 86 [(0, .ref (ad g 0)), (1, .int x1), (2, .int x2), (3, .int x3), (4, .int x4), (5, .int x5), (6, .int x6)] [] M := by
  refine a_iinc C (1 : Int32) (tk T_cX12_drift 45 rfl) rfl kI_1 (by decide) ?_
  refine a_goto C 39 (tk T_cX12_drift 46 rfl) rfl ?_
  exact a_to (k39 x1 x2 x3 x4 x5 (x6 + (1 : Int32)) M h) rfl
def P_M_drift_39 (post : Int32 → Mem → Prop) : Nat → Int32 → Int32 → Int32 → Int32 → Int32 → Int32 → Mem → Prop
  | 0, _, _, _, _, _, _, _ => False
  | n + 1, x1, x2, x3, x4, x5, x6, M =>
    ((30 : Int32) < x6 → ((x3 = 0 → (P_M_drift_103 post x4 M)) ∧
  (¬ x3 = 0 → (P_M_drift_103 post x5 M)))) ∧
  (¬ (30 : Int32) < x6 → (P_M_drifts (fun M1 =>
  P_M_explainsBy (fun r2 M2 =>
  (¬ r2 = 0 → (P_Math_abs (fun r3 M3 =>
  P_Math_abs (fun r4 M4 =>
  (r4 ≤ r3 → (P_M_drift_86 post (P_M_drift_39 post n) x1 x2 x3 (x4 + (1 : Int32)) x5 x6 M4)) ∧
  (¬ r4 ≤ r3 → (P_M_drift_86 post (P_M_drift_39 post n) x1 x2 x3 (x4 + (1 : Int32)) x6 x6 M4))) x5 M3) x6 M2)) ∧
  (r2 = 0 → (P_M_drift_86 post (P_M_drift_39 post n) x1 x2 x3 x4 x5 x6 M2))) x1 x2 (0 : Int32) M1) x1 x6 M))
theorem k_M_drift_39 {X : FX} {g : GT} {A : Nat → Prop} {Z : State → Prop} {post : Int32 → Mem → Prop} (C : Cx X g layM A cX12_drift 7 RX12 6) (hr : 0 ≤ X.2.2.2.1.cells ∧ 0 ≤ X.2.2.2.1.slots) (hR : RetI X g layM A cX12_drift 7 0 0 Z post) : ∀ (n : Nat) (x1 x2 x3 x4 x5 x6 : Int32) (M : Mem), P_M_drift_39 post n x1 x2 x3 x4 x5 x6 M → At X g layM A 7 0 0 Z 39 [(0, .ref (ad g 0)), (1, .int x1), (2, .int x2), (3, .int x3), (4, .int x4), (5, .int x5), (6, .int x6)] [] M := by
  intro n
  induction n with
  | zero =>
    intro x1 x2 x3 x4 x5 x6 M h
    exact h.elim
  | succ n ih =>
    intro x1 x2 x3 x4 x5 x6 M h
    refine a_iload C (tk T_cX12_drift 23 rfl) rfl ?_
    refine a_bipush C (30 : Int32) (tk T_cX12_drift 24 rfl) kB_30 ?_
    refine a_icmp_gt C 92 (tk T_cX12_drift 25 rfl) rfl (fun c => ?_) (fun c => ?_)
    · have h := h.1 c
      refine a_iload_n C (tk T_cX12_drift 47 rfl) rfl ?_
      refine a_if_eq C 101 (tk T_cX12_drift 48 rfl) rfl (fun c => ?_) (fun c => ?_)
      · have h := h.1 c
        refine a_iload C (tk T_cX12_drift 51 rfl) rfl ?_
        exact a_to (k_M_drift_103 C hr hR x4 M h) rfl
      · have h := h.2 c
        refine a_iload C (tk T_cX12_drift 49 rfl) rfl ?_
        refine a_goto C 103 (tk T_cX12_drift 50 rfl) rfl ?_
        exact a_to (k_M_drift_103 C hr hR x5 M h) rfl
    · have h := h.2 c
      refine a_aload_n C (tk T_cX12_drift 26 rfl) rfl ?_
      refine a_iload_n C (tk T_cX12_drift 27 rfl) rfl ?_
      refine a_iload C (tk T_cX12_drift 28 rfl) rfl ?_
      refine a_callV C [.int x1, .int x6] me_yX12_drifts lk_RX12_138 (ct_M_drifts h) (by decide) lm0 rfl rfl rfl (Nat.le_of_ble_eq_true rfl) (tk T_cX12_drift 29 rfl) hr (fun M1 h => ?_)
      refine a_aload_n C (tk T_cX12_drift 30 rfl) rfl ?_
      refine a_iload_n C (tk T_cX12_drift 31 rfl) rfl ?_
      refine a_iload_n C (tk T_cX12_drift 32 rfl) rfl ?_
      refine a_iconst C (0 : Int32) (tk T_cX12_drift 33 rfl) kI_0 ?_
      refine a_callI C [.int x1, .int x2, .int (0 : Int32)] me_yX12_explainsBy lk_RX12_200 (ct_M_explainsBy h) (by decide) lm0 rfl rfl rfl (Nat.le_of_ble_eq_true rfl) (tk T_cX12_drift 34 rfl) hr (fun r2 M2 h => ?_)
      refine a_if_ne C 66 (tk T_cX12_drift 35 rfl) rfl (fun c => ?_) (fun c => ?_)
      · have h := h.1 c
        refine a_iinc C (1 : Int32) (tk T_cX12_drift 37 rfl) rfl kI_1 (by decide) ?_
        refine a_iload C (tk T_cX12_drift 38 rfl) rfl ?_
        refine a_statI C [.int x6] me_yJ9_abs_0f7a4 lk_RX12_87 (ct_Math_abs h) (by decide) rfl rfl (Nat.le_of_ble_eq_true rfl) (tk T_cX12_drift 39 rfl) hr (fun r3 M3 h => ?_)
        refine a_iload C (tk T_cX12_drift 40 rfl) rfl ?_
        refine a_statI C [.int x5] me_yJ9_abs_0f7a4 lk_RX12_87 (ct_Math_abs h) (by decide) rfl rfl (Nat.le_of_ble_eq_true rfl) (tk T_cX12_drift 41 rfl) hr (fun r4 M4 h => ?_)
        refine a_icmp_ge C 86 (tk T_cX12_drift 42 rfl) rfl (fun c => ?_) (fun c => ?_)
        · have h := h.1 c
          exact a_to (k_M_drift_86 C hr hR ih x1 x2 x3 (x4 + (1 : Int32)) x5 x6 M4 h) rfl
        · have h := h.2 c
          refine a_iload C (tk T_cX12_drift 43 rfl) rfl ?_
          refine a_istore C (tk T_cX12_drift 44 rfl) (by decide) ?_
          exact a_to (k_M_drift_86 C hr hR ih x1 x2 x3 (x4 + (1 : Int32)) x6 x6 M4 h) rfl
      · have h := h.2 c
        refine a_goto C 86 (tk T_cX12_drift 36 rfl) rfl ?_
        exact a_to (k_M_drift_86 C hr hR ih x1 x2 x3 x4 x5 x6 M2 h) rfl
def P_M_drift (post : Int32 → Mem → Prop) (x1 x2 x3 : Int32) (M : Mem) : Prop :=
  ∀ M1, M1 = ms M 0 0 (0 : Int32) → P_M_none (fun r2 M2 =>
  P_M_throwsIf (fun r3 M3 =>
  (r3 = 0 → (P_M_lays (fun r4 M4 =>
  ∃ j39, P_M_drift_39 post j39 x1 x2 x3 (0 : Int32) (99 : Int32) (-30 : Int32) M4) (0 : Int32) M3)) ∧
  (¬ r3 = 0 → (post (0 : Int32) M3))) r2 (1 : Int32) M2) x1 (8 : Int32) M1
theorem k_M_drift {X : FX} {g : GT} {A : Nat → Prop} {Z : State → Prop} {post : Int32 → Mem → Prop} (C : Cx X g layM A cX12_drift 7 RX12 6) (hr : 0 ≤ X.2.2.2.1.cells ∧ 0 ≤ X.2.2.2.1.slots) (hR : RetI X g layM A cX12_drift 7 0 0 Z post) (x1 x2 x3 : Int32) (M : Mem) (h : P_M_drift post x1 x2 x3 M) : At X g layM A 7 0 0 Z 0 [(0, .ref (ad g 0)), (1, .int x1), (2, .int x2), (3, .int x3)] [] M := by
  refine a_aload_n C (tk T_cX12_drift 0 rfl) rfl ?_
  refine a_iconst C (0 : Int32) (tk T_cX12_drift 1 rfl) kI_0 ?_
  refine a_put C f_RX12_3 f_RX12_3p rfl rfl (tk T_cX12_drift 2 rfl) lm0 rfl ?_
  refine a_mem (fun M1 e_M1 => ?_)
  have h := h M1 e_M1
  refine a_aload_n C (tk T_cX12_drift 3 rfl) rfl ?_
  refine a_aload_n C (tk T_cX12_drift 4 rfl) rfl ?_
  refine a_iload_n C (tk T_cX12_drift 5 rfl) rfl ?_
  refine a_bipush C (8 : Int32) (tk T_cX12_drift 6 rfl) kB_8 ?_
  refine a_callI C [.int x1, .int (8 : Int32)] me_yX12_none lk_RX12_121 (ct_M_none h) (by decide) lm0 rfl rfl rfl (Nat.le_of_ble_eq_true rfl) (tk T_cX12_drift 7 rfl) hr (fun r2 M2 h => ?_)
  refine a_iconst C (1 : Int32) (tk T_cX12_drift 8 rfl) kI_1 ?_
  refine a_callI C [.int r2, .int (1 : Int32)] me_yX12_throwsIf lk_RX12_72 (ct_M_throwsIf h) (by decide) lm0 rfl rfl rfl (Nat.le_of_ble_eq_true rfl) (tk T_cX12_drift 9 rfl) hr (fun r3 M3 h => ?_)
  refine a_if_eq C 22 (tk T_cX12_drift 10 rfl) rfl (fun c => ?_) (fun c => ?_)
  · have h := h.1 c
    refine a_aload_n C (tk T_cX12_drift 13 rfl) rfl ?_
    refine a_iconst C (0 : Int32) (tk T_cX12_drift 14 rfl) kI_0 ?_
    refine a_callI C [.int (0 : Int32)] me_yX12_lays lk_RX12_112 (ct_M_lays h) (by decide) lm0 rfl rfl rfl (Nat.le_of_ble_eq_true rfl) (tk T_cX12_drift 15 rfl) hr (fun r4 M4 h => ?_)
    refine a_popi C (tk T_cX12_drift 16 rfl) ?_
    refine a_iconst C (0 : Int32) (tk T_cX12_drift 17 rfl) kI_0 ?_
    refine a_istore C (tk T_cX12_drift 18 rfl) (by decide) ?_
    refine a_bipush C (99 : Int32) (tk T_cX12_drift 19 rfl) kB_99 ?_
    refine a_istore C (tk T_cX12_drift 20 rfl) (by decide) ?_
    refine a_bipush C (-30 : Int32) (tk T_cX12_drift 21 rfl) kB_m30 ?_
    refine a_istore C (tk T_cX12_drift 22 rfl) (by decide) ?_
    obtain ⟨n1, h⟩ := h
    exact a_to (k_M_drift_39 C hr hR n1 x1 x2 x3 (0 : Int32) (99 : Int32) (-30 : Int32) M4 h) rfl
  · have h := h.2 c
    refine a_iconst C (0 : Int32) (tk T_cX12_drift 11 rfl) kI_0 ?_
    exact hR _ _ _ _ (tk T_cX12_drift 12 rfl) h
theorem ct_M_drift {l : Launch} {g : GT} {post : Int32 → Mem → Prop} {x1 x2 x3 : Int32} {M : Mem} (h : P_M_drift post x1 x2 x3 M) : CI l g layM yX12_drift cX12_drift 7 (some .int) 6 [.ref (ad g 0), .int x1, .int x2, .int x3] M post :=
  ci_of (plainFor_of_name (by decide +kernel)) (Nat.le_of_ble_eq_true rfl) rfl (fun X A Z hl C hr hR => by subst hl; exact k_M_drift C hr hR x1 x2 x3 M h)
def T_cX12_makerL : List (Nat × Instr × Nat) := [(0, .aload_n 0, 1), (1, .iconst 0, 1), (2, .putfield 3, 3), (5, .aload_n 0, 1), (6, .aload_n 0, 1), (7, .getfield 13, 3), (10, .bipush 11, 2), (12, .iaload, 1), (13, .iconst 4, 1), (14, .if_icmp .ne 7, 3), (17, .iconst 1, 1), (18, .goto 4, 3), (21, .iconst 0, 1), (22, .iconst 1, 1), (23, .invokevirtual 72, 3), (26, .ifCond .eq 5, 3), (29, .iconst 0, 1), (30, .ireturn, 1), (31, .aload_n 0, 1), (32, .getfield 13, 3), (35, .bipush 11, 2), (37, .iaload, 1), (38, .istore_n 1, 1), (39, .aload_n 0, 1), (40, .getfield 13, 3), (43, .bipush 11, 2), (45, .dup2, 1), (46, .iaload, 1), (47, .iconst 1, 1), (48, .iadd, 1), (49, .iastore, 1), (50, .iconst 0, 1), (51, .istore_n 2, 1), (52, .iload_n 2, 1), (53, .bipush 6, 2), (55, .if_icmp .ge 48, 3), (58, .aload_n 0, 1), (59, .getfield 13, 3), (62, .sipush 311, 3), (65, .iconst 2, 1), (66, .bipush 6, 2), (68, .iload_n 1, 1), (69, .imul, 1), (70, .iload_n 2, 1), (71, .iadd, 1), (72, .imul, 1), (73, .iadd, 1), (74, .iconst 0, 1), (75, .iastore, 1), (76, .aload_n 0, 1), (77, .getfield 13, 3), (80, .sipush 311, 3), (83, .iconst 2, 1), (84, .bipush 6, 2), (86, .iload_n 1, 1), (87, .imul, 1), (88, .iload_n 2, 1), (89, .iadd, 1), (90, .imul, 1), (91, .iadd, 1), (92, .iconst 1, 1), (93, .iadd, 1), (94, .bipush 9, 2), (96, .iastore, 1), (97, .iinc 2 1, 3), (100, .goto (-48), 3), (103, .iload_n 1, 1), (104, .ireturn, 1)]
theorem T_cX12_maker : tabOK cX12_maker T_cX12_makerL = true := by decide +kernel
def P_M_maker_52 (post : Int32 → Mem → Prop) : Nat → Int32 → Int32 → Mem → Prop
  | 0, _, _, _ => False
  | n + 1, x1, x2, M =>
    ((6 : Int32) ≤ x2 → (post x1 M)) ∧
  (¬ (6 : Int32) ≤ x2 → (vp_in ((311 : Int32) + ((2 : Int32) * (((6 : Int32) * x1) + x2))) 5966 ∧ ∀ M1, M1 = ms M 1 ((311 : Int32) + ((2 : Int32) * (((6 : Int32) * x1) + x2))).toNatClampNeg (0 : Int32) → ∀ v2, v2 = (((311 : Int32) + ((2 : Int32) * (((6 : Int32) * x1) + x2))) + (1 : Int32)) → vp_in v2 5966 ∧ ∀ M3, M3 = ms M1 1 v2.toNatClampNeg (9 : Int32) → P_M_maker_52 post n x1 (x2 + (1 : Int32)) M3))
theorem k_M_maker_52 {X : FX} {g : GT} {A : Nat → Prop} {Z : State → Prop} {post : Int32 → Mem → Prop} (C : Cx X g layM A cX12_maker 3 RX12 1) (hr : 0 ≤ X.2.2.2.1.cells ∧ 0 ≤ X.2.2.2.1.slots) (hR : RetI X g layM A cX12_maker 3 0 0 Z post) : ∀ (n : Nat) (x1 x2 : Int32) (M : Mem), P_M_maker_52 post n x1 x2 M → At X g layM A 3 0 0 Z 52 [(0, .ref (ad g 0)), (1, .int x1), (2, .int x2)] [] M := by
  intro n
  induction n with
  | zero =>
    intro x1 x2 M h
    exact h.elim
  | succ n ih =>
    intro x1 x2 M h
    refine a_iload_n C (tk T_cX12_maker 33 rfl) rfl ?_
    refine a_bipush C (6 : Int32) (tk T_cX12_maker 34 rfl) kB_6 ?_
    refine a_icmp_ge C 103 (tk T_cX12_maker 35 rfl) rfl (fun c => ?_) (fun c => ?_)
    · have h := h.1 c
      refine a_iload_n C (tk T_cX12_maker 66 rfl) rfl ?_
      exact hR _ _ _ _ (tk T_cX12_maker 67 rfl) h
    · have h := h.2 c
      refine a_aload_n C (tk T_cX12_maker 36 rfl) rfl ?_
      refine a_getR C f_RX12_13 (tk T_cX12_maker 37 rfl) lm0 rfl ?_
      refine a_sipush C (311 : Int32) (tk T_cX12_maker 38 rfl) kS_311 ?_
      refine a_iconst C (2 : Int32) (tk T_cX12_maker 39 rfl) kI_2 ?_
      refine a_bipush C (6 : Int32) (tk T_cX12_maker 40 rfl) kB_6 ?_
      refine a_iload_n C (tk T_cX12_maker 41 rfl) rfl ?_
      refine a_imul C (tk T_cX12_maker 42 rfl) ?_
      refine a_iload_n C (tk T_cX12_maker 43 rfl) rfl ?_
      refine a_iadd C (tk T_cX12_maker 44 rfl) ?_
      refine a_imul C (tk T_cX12_maker 45 rfl) ?_
      refine a_iadd C (tk T_cX12_maker 46 rfl) ?_
      refine a_iconst C (0 : Int32) (tk T_cX12_maker 47 rfl) kI_0 ?_
      obtain ⟨hb, h⟩ := h
      refine a_iast C (tk T_cX12_maker 48 rfl) lm1 hb ?_
      refine a_mem (fun M1 e_M1 => ?_)
      have h := h M1 e_M1
      refine a_aload_n C (tk T_cX12_maker 49 rfl) rfl ?_
      refine a_getR C f_RX12_13 (tk T_cX12_maker 50 rfl) lm0 rfl ?_
      refine a_sipush C (311 : Int32) (tk T_cX12_maker 51 rfl) kS_311 ?_
      refine a_iconst C (2 : Int32) (tk T_cX12_maker 52 rfl) kI_2 ?_
      refine a_bipush C (6 : Int32) (tk T_cX12_maker 53 rfl) kB_6 ?_
      refine a_iload_n C (tk T_cX12_maker 54 rfl) rfl ?_
      refine a_imul C (tk T_cX12_maker 55 rfl) ?_
      refine a_iload_n C (tk T_cX12_maker 56 rfl) rfl ?_
      refine a_iadd C (tk T_cX12_maker 57 rfl) ?_
      refine a_imul C (tk T_cX12_maker 58 rfl) ?_
      refine a_iadd C (tk T_cX12_maker 59 rfl) ?_
      refine a_iconst C (1 : Int32) (tk T_cX12_maker 60 rfl) kI_1 ?_
      refine a_iadd C (tk T_cX12_maker 61 rfl) ?_
      refine a_top (fun v2 e_v2 => ?_)
      have h := h v2 e_v2
      refine a_bipush C (9 : Int32) (tk T_cX12_maker 62 rfl) kB_9 ?_
      obtain ⟨hb, h⟩ := h
      refine a_iast C (tk T_cX12_maker 63 rfl) lm1 hb ?_
      refine a_mem (fun M3 e_M3 => ?_)
      have h := h M3 e_M3
      refine a_iinc C (1 : Int32) (tk T_cX12_maker 64 rfl) rfl kI_1 (by decide) ?_
      refine a_goto C 52 (tk T_cX12_maker 65 rfl) rfl ?_
      exact a_to (ih x1 (x2 + (1 : Int32)) M3 h) rfl
def P_M_maker_22 (post : Int32 → Mem → Prop) (s1 : Int32) (M : Mem) : Prop :=
  P_M_throwsIf (fun r1 M1 =>
  (r1 = 0 → (vp_in (11 : Int32) 5966 ∧ ∀ x1_2, x1_2 = (M1 1 (11 : Int32).toNatClampNeg) → vp_in (11 : Int32) 5966 ∧ vp_in (11 : Int32) 5966 ∧ ∀ M3, M3 = ms M1 1 (11 : Int32).toNatClampNeg ((M1 1 (11 : Int32).toNatClampNeg) + (1 : Int32)) → ∃ j52, P_M_maker_52 post j52 x1_2 (0 : Int32) M3)) ∧
  (¬ r1 = 0 → (post (0 : Int32) M1))) s1 (1 : Int32) M
theorem k_M_maker_22 {X : FX} {g : GT} {A : Nat → Prop} {Z : State → Prop} {post : Int32 → Mem → Prop} (C : Cx X g layM A cX12_maker 3 RX12 1) (hr : 0 ≤ X.2.2.2.1.cells ∧ 0 ≤ X.2.2.2.1.slots) (hR : RetI X g layM A cX12_maker 3 0 0 Z post) (s1 : Int32) (M : Mem) (h : P_M_maker_22 post s1 M) : At X g layM A 3 0 0 Z 22 [(0, .ref (ad g 0))] [.int s1, .ref (ad g 0)] M := by
  refine a_iconst C (1 : Int32) (tk T_cX12_maker 13 rfl) kI_1 ?_
  refine a_callI C [.int s1, .int (1 : Int32)] me_yX12_throwsIf lk_RX12_72 (ct_M_throwsIf h) (by decide) lm0 rfl rfl rfl (Nat.le_of_ble_eq_true rfl) (tk T_cX12_maker 14 rfl) hr (fun r1 M1 h => ?_)
  refine a_if_eq C 31 (tk T_cX12_maker 15 rfl) rfl (fun c => ?_) (fun c => ?_)
  · have h := h.1 c
    refine a_aload_n C (tk T_cX12_maker 18 rfl) rfl ?_
    refine a_getR C f_RX12_13 (tk T_cX12_maker 19 rfl) lm0 rfl ?_
    refine a_bipush C (11 : Int32) (tk T_cX12_maker 20 rfl) kB_11 ?_
    obtain ⟨hb, h⟩ := h
    refine a_iald C (tk T_cX12_maker 21 rfl) lm1 hb ?_
    refine a_top (fun x1_2 e_x1_2 => ?_)
    have h := h x1_2 e_x1_2
    refine a_istore_n C (tk T_cX12_maker 22 rfl) (by decide) ?_
    refine a_aload_n C (tk T_cX12_maker 23 rfl) rfl ?_
    refine a_getR C f_RX12_13 (tk T_cX12_maker 24 rfl) lm0 rfl ?_
    refine a_bipush C (11 : Int32) (tk T_cX12_maker 25 rfl) kB_11 ?_
    refine a_dup2ir C (tk T_cX12_maker 26 rfl) ?_
    obtain ⟨hb, h⟩ := h
    refine a_iald C (tk T_cX12_maker 27 rfl) lm1 hb ?_
    refine a_iconst C (1 : Int32) (tk T_cX12_maker 28 rfl) kI_1 ?_
    refine a_iadd C (tk T_cX12_maker 29 rfl) ?_
    obtain ⟨hb, h⟩ := h
    refine a_iast C (tk T_cX12_maker 30 rfl) lm1 hb ?_
    refine a_mem (fun M3 e_M3 => ?_)
    have h := h M3 e_M3
    refine a_iconst C (0 : Int32) (tk T_cX12_maker 31 rfl) kI_0 ?_
    refine a_istore_n C (tk T_cX12_maker 32 rfl) (by decide) ?_
    obtain ⟨n1, h⟩ := h
    exact a_to (k_M_maker_52 C hr hR n1 x1_2 (0 : Int32) M3 h) rfl
  · have h := h.2 c
    refine a_iconst C (0 : Int32) (tk T_cX12_maker 16 rfl) kI_0 ?_
    exact hR _ _ _ _ (tk T_cX12_maker 17 rfl) h
def P_M_maker (post : Int32 → Mem → Prop) (M : Mem) : Prop :=
  ∀ M1, M1 = ms M 0 0 (0 : Int32) → vp_in (11 : Int32) 5966 ∧ (¬ (M1 1 (11 : Int32).toNatClampNeg) = (4 : Int32) → (P_M_maker_22 post (0 : Int32) M1)) ∧
  ((M1 1 (11 : Int32).toNatClampNeg) = (4 : Int32) → (P_M_maker_22 post (1 : Int32) M1))
theorem k_M_maker {X : FX} {g : GT} {A : Nat → Prop} {Z : State → Prop} {post : Int32 → Mem → Prop} (C : Cx X g layM A cX12_maker 3 RX12 1) (hr : 0 ≤ X.2.2.2.1.cells ∧ 0 ≤ X.2.2.2.1.slots) (hR : RetI X g layM A cX12_maker 3 0 0 Z post) (M : Mem) (h : P_M_maker post M) : At X g layM A 3 0 0 Z 0 [(0, .ref (ad g 0))] [] M := by
  refine a_aload_n C (tk T_cX12_maker 0 rfl) rfl ?_
  refine a_iconst C (0 : Int32) (tk T_cX12_maker 1 rfl) kI_0 ?_
  refine a_put C f_RX12_3 f_RX12_3p rfl rfl (tk T_cX12_maker 2 rfl) lm0 rfl ?_
  refine a_mem (fun M1 e_M1 => ?_)
  have h := h M1 e_M1
  refine a_aload_n C (tk T_cX12_maker 3 rfl) rfl ?_
  refine a_aload_n C (tk T_cX12_maker 4 rfl) rfl ?_
  refine a_getR C f_RX12_13 (tk T_cX12_maker 5 rfl) lm0 rfl ?_
  refine a_bipush C (11 : Int32) (tk T_cX12_maker 6 rfl) kB_11 ?_
  obtain ⟨hb, h⟩ := h
  refine a_iald C (tk T_cX12_maker 7 rfl) lm1 hb ?_
  refine a_iconst C (4 : Int32) (tk T_cX12_maker 8 rfl) kI_4 ?_
  refine a_icmp_ne C 21 (tk T_cX12_maker 9 rfl) rfl (fun c => ?_) (fun c => ?_)
  · have h := h.1 c
    refine a_iconst C (0 : Int32) (tk T_cX12_maker 12 rfl) kI_0 ?_
    exact a_to (k_M_maker_22 C hr hR (0 : Int32) M1 h) rfl
  · have h := h.2 c
    refine a_iconst C (1 : Int32) (tk T_cX12_maker 10 rfl) kI_1 ?_
    refine a_goto C 22 (tk T_cX12_maker 11 rfl) rfl ?_
    exact a_to (k_M_maker_22 C hr hR (1 : Int32) M1 h) rfl
theorem ct_M_maker {l : Launch} {g : GT} {post : Int32 → Mem → Prop} {M : Mem} (h : P_M_maker post M) : CI l g layM yX12_maker cX12_maker 3 (some .int) 1 [.ref (ad g 0)] M post :=
  ci_of (plainFor_of_name (by decide +kernel)) (Nat.le_of_ble_eq_true rfl) rfl (fun X A Z hl C hr hR => by subst hl; exact k_M_maker C hr hR  M h)
def T_cX12_recipeL : List (Nat × Instr × Nat) := [(0, .aload_n 0, 1), (1, .iconst 0, 1), (2, .putfield 3, 3), (5, .aload_n 0, 1), (6, .aload_n 0, 1), (7, .iload_n 1, 1), (8, .bipush 11, 2), (10, .invokevirtual 121, 3), (13, .ifCond .ne 12, 3), (16, .iload_n 2, 1), (17, .iconst 0, 1), (18, .iconst 5, 1), (19, .invokestatic 58, 3), (22, .ifCond .ne 7, 3), (25, .iconst 1, 1), (26, .goto 4, 3), (29, .iconst 0, 1), (30, .iconst 1, 1), (31, .invokevirtual 72, 3), (34, .ifCond .ne 33, 3), (37, .aload_n 0, 1), (38, .iload_n 3, 1), (39, .iconst 0, 1), (40, .iload 4, 2), (42, .invokestatic 58, 3), (45, .ifCond .eq 10, 3), (48, .iload 4, 2), (50, .bipush 9, 2), (52, .if_icmp .le 7, 3), (55, .iconst 1, 1), (56, .goto 4, 3), (59, .iconst 0, 1), (60, .iconst 2, 1), (61, .invokevirtual 72, 3), (64, .ifCond .eq 4, 3), (67, .return_, 1), (68, .aload_n 0, 1), (69, .getfield 13, 3), (72, .sipush 311, 3), (75, .iconst 2, 1), (76, .bipush 6, 2), (78, .iload_n 1, 1), (79, .imul, 1), (80, .iload_n 2, 1), (81, .iadd, 1), (82, .imul, 1), (83, .iadd, 1), (84, .iload_n 3, 1), (85, .iastore, 1), (86, .aload_n 0, 1), (87, .getfield 13, 3), (90, .sipush 311, 3), (93, .iconst 2, 1), (94, .bipush 6, 2), (96, .iload_n 1, 1), (97, .imul, 1), (98, .iload_n 2, 1), (99, .iadd, 1), (100, .imul, 1), (101, .iadd, 1), (102, .iconst 1, 1), (103, .iadd, 1), (104, .iload 4, 2), (106, .iastore, 1), (107, .return_, 1)]
theorem T_cX12_recipe : tabOK cX12_recipe T_cX12_recipeL = true := by decide +kernel
def P_M_recipe_67 (post : Mem → Prop) (M : Mem) : Prop :=
  post M
theorem k_M_recipe_67 {X : FX} {g : GT} {A : Nat → Prop} {Z : State → Prop} {post : Mem → Prop} (C : Cx X g layM A cX12_recipe 5 RX12 2) (hr : 0 ≤ X.2.2.2.1.cells ∧ 0 ≤ X.2.2.2.1.slots) (hR : RetV X g layM A cX12_recipe 5 0 0 Z post)  (M : Mem) (h : P_M_recipe_67 post M) : At X g layM A 5 0 0 Z 67 [] [] M := by
  exact hR _ _ _ (tk T_cX12_recipe 35 rfl) h
def P_M_recipe_60 (post : Mem → Prop) (x1 x2 x3 x4 s1 : Int32) (M : Mem) : Prop :=
  P_M_throwsIf (fun r1 M1 =>
  (r1 = 0 → (vp_in ((311 : Int32) + ((2 : Int32) * (((6 : Int32) * x1) + x2))) 5966 ∧ ∀ M2, M2 = ms M1 1 ((311 : Int32) + ((2 : Int32) * (((6 : Int32) * x1) + x2))).toNatClampNeg x3 → ∀ v3, v3 = (((311 : Int32) + ((2 : Int32) * (((6 : Int32) * x1) + x2))) + (1 : Int32)) → vp_in v3 5966 ∧ ∀ M4, M4 = ms M2 1 v3.toNatClampNeg x4 → post M4)) ∧
  (¬ r1 = 0 → (P_M_recipe_67 post M1))) s1 (2 : Int32) M
theorem k_M_recipe_60 {X : FX} {g : GT} {A : Nat → Prop} {Z : State → Prop} {post : Mem → Prop} (C : Cx X g layM A cX12_recipe 5 RX12 2) (hr : 0 ≤ X.2.2.2.1.cells ∧ 0 ≤ X.2.2.2.1.slots) (hR : RetV X g layM A cX12_recipe 5 0 0 Z post) (x1 x2 x3 x4 s1 : Int32) (M : Mem) (h : P_M_recipe_60 post x1 x2 x3 x4 s1 M) : At X g layM A 5 0 0 Z 60 [(0, .ref (ad g 0)), (1, .int x1), (2, .int x2), (3, .int x3), (4, .int x4)] [.int s1, .ref (ad g 0)] M := by
  refine a_iconst C (2 : Int32) (tk T_cX12_recipe 32 rfl) kI_2 ?_
  refine a_callI C [.int s1, .int (2 : Int32)] me_yX12_throwsIf lk_RX12_72 (ct_M_throwsIf h) (by decide) lm0 rfl rfl rfl (Nat.le_of_ble_eq_true rfl) (tk T_cX12_recipe 33 rfl) hr (fun r1 M1 h => ?_)
  refine a_if_eq C 68 (tk T_cX12_recipe 34 rfl) rfl (fun c => ?_) (fun c => ?_)
  · have h := h.1 c
    refine a_aload_n C (tk T_cX12_recipe 36 rfl) rfl ?_
    refine a_getR C f_RX12_13 (tk T_cX12_recipe 37 rfl) lm0 rfl ?_
    refine a_sipush C (311 : Int32) (tk T_cX12_recipe 38 rfl) kS_311 ?_
    refine a_iconst C (2 : Int32) (tk T_cX12_recipe 39 rfl) kI_2 ?_
    refine a_bipush C (6 : Int32) (tk T_cX12_recipe 40 rfl) kB_6 ?_
    refine a_iload_n C (tk T_cX12_recipe 41 rfl) rfl ?_
    refine a_imul C (tk T_cX12_recipe 42 rfl) ?_
    refine a_iload_n C (tk T_cX12_recipe 43 rfl) rfl ?_
    refine a_iadd C (tk T_cX12_recipe 44 rfl) ?_
    refine a_imul C (tk T_cX12_recipe 45 rfl) ?_
    refine a_iadd C (tk T_cX12_recipe 46 rfl) ?_
    refine a_iload_n C (tk T_cX12_recipe 47 rfl) rfl ?_
    obtain ⟨hb, h⟩ := h
    refine a_iast C (tk T_cX12_recipe 48 rfl) lm1 hb ?_
    refine a_mem (fun M2 e_M2 => ?_)
    have h := h M2 e_M2
    refine a_aload_n C (tk T_cX12_recipe 49 rfl) rfl ?_
    refine a_getR C f_RX12_13 (tk T_cX12_recipe 50 rfl) lm0 rfl ?_
    refine a_sipush C (311 : Int32) (tk T_cX12_recipe 51 rfl) kS_311 ?_
    refine a_iconst C (2 : Int32) (tk T_cX12_recipe 52 rfl) kI_2 ?_
    refine a_bipush C (6 : Int32) (tk T_cX12_recipe 53 rfl) kB_6 ?_
    refine a_iload_n C (tk T_cX12_recipe 54 rfl) rfl ?_
    refine a_imul C (tk T_cX12_recipe 55 rfl) ?_
    refine a_iload_n C (tk T_cX12_recipe 56 rfl) rfl ?_
    refine a_iadd C (tk T_cX12_recipe 57 rfl) ?_
    refine a_imul C (tk T_cX12_recipe 58 rfl) ?_
    refine a_iadd C (tk T_cX12_recipe 59 rfl) ?_
    refine a_iconst C (1 : Int32) (tk T_cX12_recipe 60 rfl) kI_1 ?_
    refine a_iadd C (tk T_cX12_recipe 61 rfl) ?_
    refine a_top (fun v3 e_v3 => ?_)
    have h := h v3 e_v3
    refine a_iload C (tk T_cX12_recipe 62 rfl) rfl ?_
    obtain ⟨hb, h⟩ := h
    refine a_iast C (tk T_cX12_recipe 63 rfl) lm1 hb ?_
    refine a_mem (fun M4 e_M4 => ?_)
    have h := h M4 e_M4
    exact hR _ _ _ (tk T_cX12_recipe 64 rfl) h
  · have h := h.2 c
    exact a_to (k_M_recipe_67 C hr hR M1 h) rfl
def P_M_recipe_55 (post : Mem → Prop) (x1 x2 x3 x4 : Int32) (M : Mem) : Prop :=
  P_M_recipe_60 post x1 x2 x3 x4 (1 : Int32) M
theorem k_M_recipe_55 {X : FX} {g : GT} {A : Nat → Prop} {Z : State → Prop} {post : Mem → Prop} (C : Cx X g layM A cX12_recipe 5 RX12 2) (hr : 0 ≤ X.2.2.2.1.cells ∧ 0 ≤ X.2.2.2.1.slots) (hR : RetV X g layM A cX12_recipe 5 0 0 Z post) (x1 x2 x3 x4 : Int32) (M : Mem) (h : P_M_recipe_55 post x1 x2 x3 x4 M) : At X g layM A 5 0 0 Z 55 [(0, .ref (ad g 0)), (1, .int x1), (2, .int x2), (3, .int x3), (4, .int x4)] [.ref (ad g 0)] M := by
  refine a_iconst C (1 : Int32) (tk T_cX12_recipe 29 rfl) kI_1 ?_
  refine a_goto C 60 (tk T_cX12_recipe 30 rfl) rfl ?_
  exact a_to (k_M_recipe_60 C hr hR x1 x2 x3 x4 (1 : Int32) M h) rfl
def P_M_recipe_30 (post : Mem → Prop) (x1 x2 x3 x4 s1 : Int32) (M : Mem) : Prop :=
  P_M_throwsIf (fun r1 M1 =>
  (¬ r1 = 0 → (P_M_recipe_67 post M1)) ∧
  (r1 = 0 → (P_M_in (fun r2 M2 =>
  (r2 = 0 → (P_M_recipe_55 post x1 x2 x3 x4 M2)) ∧
  (¬ r2 = 0 → ((x4 ≤ (9 : Int32) → (P_M_recipe_60 post x1 x2 x3 x4 (0 : Int32) M2)) ∧
  (¬ x4 ≤ (9 : Int32) → (P_M_recipe_55 post x1 x2 x3 x4 M2))))) x3 (0 : Int32) x4 M1))) s1 (1 : Int32) M
theorem k_M_recipe_30 {X : FX} {g : GT} {A : Nat → Prop} {Z : State → Prop} {post : Mem → Prop} (C : Cx X g layM A cX12_recipe 5 RX12 2) (hr : 0 ≤ X.2.2.2.1.cells ∧ 0 ≤ X.2.2.2.1.slots) (hR : RetV X g layM A cX12_recipe 5 0 0 Z post) (x1 x2 x3 x4 s1 : Int32) (M : Mem) (h : P_M_recipe_30 post x1 x2 x3 x4 s1 M) : At X g layM A 5 0 0 Z 30 [(0, .ref (ad g 0)), (1, .int x1), (2, .int x2), (3, .int x3), (4, .int x4)] [.int s1, .ref (ad g 0)] M := by
  refine a_iconst C (1 : Int32) (tk T_cX12_recipe 17 rfl) kI_1 ?_
  refine a_callI C [.int s1, .int (1 : Int32)] me_yX12_throwsIf lk_RX12_72 (ct_M_throwsIf h) (by decide) lm0 rfl rfl rfl (Nat.le_of_ble_eq_true rfl) (tk T_cX12_recipe 18 rfl) hr (fun r1 M1 h => ?_)
  refine a_if_ne C 67 (tk T_cX12_recipe 19 rfl) rfl (fun c => ?_) (fun c => ?_)
  · have h := h.1 c
    exact a_to (k_M_recipe_67 C hr hR M1 h) rfl
  · have h := h.2 c
    refine a_aload_n C (tk T_cX12_recipe 20 rfl) rfl ?_
    refine a_iload_n C (tk T_cX12_recipe 21 rfl) rfl ?_
    refine a_iconst C (0 : Int32) (tk T_cX12_recipe 22 rfl) kI_0 ?_
    refine a_iload C (tk T_cX12_recipe 23 rfl) rfl ?_
    refine a_statI C [.int x3, .int (0 : Int32), .int x4] me_yX12_in lk_RX12_58 (ct_M_in h) (by decide) rfl rfl (Nat.le_of_ble_eq_true rfl) (tk T_cX12_recipe 24 rfl) hr (fun r2 M2 h => ?_)
    refine a_if_eq C 55 (tk T_cX12_recipe 25 rfl) rfl (fun c => ?_) (fun c => ?_)
    · have h := h.1 c
      exact a_to (k_M_recipe_55 C hr hR x1 x2 x3 x4 M2 h) rfl
    · have h := h.2 c
      refine a_iload C (tk T_cX12_recipe 26 rfl) rfl ?_
      refine a_bipush C (9 : Int32) (tk T_cX12_recipe 27 rfl) kB_9 ?_
      refine a_icmp_le C 59 (tk T_cX12_recipe 28 rfl) rfl (fun c => ?_) (fun c => ?_)
      · have h := h.1 c
        refine a_iconst C (0 : Int32) (tk T_cX12_recipe 31 rfl) kI_0 ?_
        exact a_to (k_M_recipe_60 C hr hR x1 x2 x3 x4 (0 : Int32) M2 h) rfl
      · have h := h.2 c
        exact a_to (k_M_recipe_55 C hr hR x1 x2 x3 x4 M2 h) rfl
def P_M_recipe_25 (post : Mem → Prop) (x1 x2 x3 x4 : Int32) (M : Mem) : Prop :=
  P_M_recipe_30 post x1 x2 x3 x4 (1 : Int32) M
theorem k_M_recipe_25 {X : FX} {g : GT} {A : Nat → Prop} {Z : State → Prop} {post : Mem → Prop} (C : Cx X g layM A cX12_recipe 5 RX12 2) (hr : 0 ≤ X.2.2.2.1.cells ∧ 0 ≤ X.2.2.2.1.slots) (hR : RetV X g layM A cX12_recipe 5 0 0 Z post) (x1 x2 x3 x4 : Int32) (M : Mem) (h : P_M_recipe_25 post x1 x2 x3 x4 M) : At X g layM A 5 0 0 Z 25 [(0, .ref (ad g 0)), (1, .int x1), (2, .int x2), (3, .int x3), (4, .int x4)] [.ref (ad g 0)] M := by
  refine a_iconst C (1 : Int32) (tk T_cX12_recipe 14 rfl) kI_1 ?_
  refine a_goto C 30 (tk T_cX12_recipe 15 rfl) rfl ?_
  exact a_to (k_M_recipe_30 C hr hR x1 x2 x3 x4 (1 : Int32) M h) rfl
def P_M_recipe (post : Mem → Prop) (x1 x2 x3 x4 : Int32) (M : Mem) : Prop :=
  ∀ M1, M1 = ms M 0 0 (0 : Int32) → P_M_none (fun r2 M2 =>
  (¬ r2 = 0 → (P_M_recipe_25 post x1 x2 x3 x4 M2)) ∧
  (r2 = 0 → (P_M_in (fun r3 M3 =>
  (¬ r3 = 0 → (P_M_recipe_30 post x1 x2 x3 x4 (0 : Int32) M3)) ∧
  (r3 = 0 → (P_M_recipe_25 post x1 x2 x3 x4 M3))) x2 (0 : Int32) (5 : Int32) M2))) x1 (11 : Int32) M1
theorem k_M_recipe {X : FX} {g : GT} {A : Nat → Prop} {Z : State → Prop} {post : Mem → Prop} (C : Cx X g layM A cX12_recipe 5 RX12 2) (hr : 0 ≤ X.2.2.2.1.cells ∧ 0 ≤ X.2.2.2.1.slots) (hR : RetV X g layM A cX12_recipe 5 0 0 Z post) (x1 x2 x3 x4 : Int32) (M : Mem) (h : P_M_recipe post x1 x2 x3 x4 M) : At X g layM A 5 0 0 Z 0 [(0, .ref (ad g 0)), (1, .int x1), (2, .int x2), (3, .int x3), (4, .int x4)] [] M := by
  refine a_aload_n C (tk T_cX12_recipe 0 rfl) rfl ?_
  refine a_iconst C (0 : Int32) (tk T_cX12_recipe 1 rfl) kI_0 ?_
  refine a_put C f_RX12_3 f_RX12_3p rfl rfl (tk T_cX12_recipe 2 rfl) lm0 rfl ?_
  refine a_mem (fun M1 e_M1 => ?_)
  have h := h M1 e_M1
  refine a_aload_n C (tk T_cX12_recipe 3 rfl) rfl ?_
  refine a_aload_n C (tk T_cX12_recipe 4 rfl) rfl ?_
  refine a_iload_n C (tk T_cX12_recipe 5 rfl) rfl ?_
  refine a_bipush C (11 : Int32) (tk T_cX12_recipe 6 rfl) kB_11 ?_
  refine a_callI C [.int x1, .int (11 : Int32)] me_yX12_none lk_RX12_121 (ct_M_none h) (by decide) lm0 rfl rfl rfl (Nat.le_of_ble_eq_true rfl) (tk T_cX12_recipe 7 rfl) hr (fun r2 M2 h => ?_)
  refine a_if_ne C 25 (tk T_cX12_recipe 8 rfl) rfl (fun c => ?_) (fun c => ?_)
  · have h := h.1 c
    exact a_to (k_M_recipe_25 C hr hR x1 x2 x3 x4 M2 h) rfl
  · have h := h.2 c
    refine a_iload_n C (tk T_cX12_recipe 9 rfl) rfl ?_
    refine a_iconst C (0 : Int32) (tk T_cX12_recipe 10 rfl) kI_0 ?_
    refine a_iconst C (5 : Int32) (tk T_cX12_recipe 11 rfl) kI_5 ?_
    refine a_statI C [.int x2, .int (0 : Int32), .int (5 : Int32)] me_yX12_in lk_RX12_58 (ct_M_in h) (by decide) rfl rfl (Nat.le_of_ble_eq_true rfl) (tk T_cX12_recipe 12 rfl) hr (fun r3 M3 h => ?_)
    refine a_if_ne C 29 (tk T_cX12_recipe 13 rfl) rfl (fun c => ?_) (fun c => ?_)
    · have h := h.1 c
      refine a_iconst C (0 : Int32) (tk T_cX12_recipe 16 rfl) kI_0 ?_
      exact a_to (k_M_recipe_30 C hr hR x1 x2 x3 x4 (0 : Int32) M3 h) rfl
    · have h := h.2 c
      exact a_to (k_M_recipe_25 C hr hR x1 x2 x3 x4 M3 h) rfl
theorem ct_M_recipe {l : Launch} {g : GT} {post : Mem → Prop} {x1 x2 x3 x4 : Int32} {M : Mem} (h : P_M_recipe post x1 x2 x3 x4 M) : CV l g layM yX12_recipe cX12_recipe 5 none 2 [.ref (ad g 0), .int x1, .int x2, .int x3, .int x4] M post :=
  cv_of (plainFor_of_name (by decide +kernel)) (Nat.le_of_ble_eq_true rfl) rfl (fun X A Z hl C hr hR => by subst hl; exact k_M_recipe C hr hR x1 x2 x3 x4 M h)
def T_cX12_commonL : List (Nat × Instr × Nat) := [(0, .iload_n 0, 1), (1, .istore_n 2, 1), (2, .iload_n 1, 1), (3, .istore_n 3, 1), (4, .iload_n 3, 1), (5, .ifCond .le 16, 3), (8, .iload_n 2, 1), (9, .iload_n 3, 1), (10, .irem, 1), (11, .istore 4, 2), (13, .iload_n 3, 1), (14, .istore_n 2, 1), (15, .iload 4, 2), (17, .istore_n 3, 1), (18, .goto (-14), 3), (21, .iload_n 2, 1), (22, .ireturn, 1)]
theorem T_cX12_common : tabOK cX12_common T_cX12_commonL = true := by decide +kernel
def P_M_common_4 (post : Int32 → Mem → Prop) : Nat → Int32 → Int32 → Mem → Prop
  | 0, _, _, _ => False
  | n + 1, x2, x3, M =>
    (x3 ≤ 0 → (post x2 M)) ∧
  (¬ x3 ≤ 0 → ((¬ x3 = 0) ∧ ∀ x4_1, x4_1 = (irm x2 x3) → P_M_common_4 post n x3 x4_1 M))
theorem k_M_common_4 {X : FX} {g : GT} {A : Nat → Prop} {Z : State → Prop} {post : Int32 → Mem → Prop} (C : Cx X g layM A cX12_common 5 RX12 0) (hr : 0 ≤ X.2.2.2.1.cells ∧ 0 ≤ X.2.2.2.1.slots) (hR : RetI X g layM A cX12_common 5 0 0 Z post) : ∀ (n : Nat) (x2 x3 : Int32) (M : Mem), P_M_common_4 post n x2 x3 M → At X g layM A 5 0 0 Z 4 [(2, .int x2), (3, .int x3)] [] M := by
  intro n
  induction n with
  | zero =>
    intro x2 x3 M h
    exact h.elim
  | succ n ih =>
    intro x2 x3 M h
    refine a_iload_n C (tk T_cX12_common 4 rfl) rfl ?_
    refine a_if_le C 21 (tk T_cX12_common 5 rfl) rfl (fun c => ?_) (fun c => ?_)
    · have h := h.1 c
      refine a_iload_n C (tk T_cX12_common 15 rfl) rfl ?_
      exact hR _ _ _ _ (tk T_cX12_common 16 rfl) h
    · have h := h.2 c
      refine a_iload_n C (tk T_cX12_common 6 rfl) rfl ?_
      refine a_iload_n C (tk T_cX12_common 7 rfl) rfl ?_
      obtain ⟨hy, h⟩ := h
      refine a_irem C (tk T_cX12_common 8 rfl) hy ?_
      refine a_top (fun x4_1 e_x4_1 => ?_)
      have h := h x4_1 e_x4_1
      refine a_istore C (tk T_cX12_common 9 rfl) (by decide) ?_
      refine a_iload_n C (tk T_cX12_common 10 rfl) rfl ?_
      refine a_istore_n C (tk T_cX12_common 11 rfl) (by decide) ?_
      refine a_iload C (tk T_cX12_common 12 rfl) rfl ?_
      refine a_istore_n C (tk T_cX12_common 13 rfl) (by decide) ?_
      refine a_goto C 4 (tk T_cX12_common 14 rfl) rfl ?_
      exact a_to (ih x3 x4_1 M h) rfl
def P_M_common (post : Int32 → Mem → Prop) (x0 x1 : Int32) (M : Mem) : Prop :=
  ∃ j4, P_M_common_4 post j4 x0 x1 M
theorem k_M_common {X : FX} {g : GT} {A : Nat → Prop} {Z : State → Prop} {post : Int32 → Mem → Prop} (C : Cx X g layM A cX12_common 5 RX12 0) (hr : 0 ≤ X.2.2.2.1.cells ∧ 0 ≤ X.2.2.2.1.slots) (hR : RetI X g layM A cX12_common 5 0 0 Z post) (x0 x1 : Int32) (M : Mem) (h : P_M_common post x0 x1 M) : At X g layM A 5 0 0 Z 0 [(0, .int x0), (1, .int x1)] [] M := by
  refine a_iload_n C (tk T_cX12_common 0 rfl) rfl ?_
  refine a_istore_n C (tk T_cX12_common 1 rfl) (by decide) ?_
  refine a_iload_n C (tk T_cX12_common 2 rfl) rfl ?_
  refine a_istore_n C (tk T_cX12_common 3 rfl) (by decide) ?_
  obtain ⟨n1, h⟩ := h
  exact a_to (k_M_common_4 C hr hR n1 x0 x1 M h) rfl
theorem ct_M_common {l : Launch} {g : GT} {post : Int32 → Mem → Prop} {x0 x1 : Int32} {M : Mem} (h : P_M_common post x0 x1 M) : CI l g layM yX12_common cX12_common 5 (some .int) 0 [.int x0, .int x1] M post :=
  ci_of (plainFor_of_name (by decide +kernel)) (Nat.le_of_ble_eq_true rfl) rfl (fun X A Z hl C hr hR => by subst hl; exact k_M_common C hr hR x0 x1 M h)
def T_cX12_chancesL : List (Nat × Instr × Nat) := [(0, .aload_n 0, 1), (1, .iconst 1, 1), (2, .putfield 254, 3), (5, .aload_n 0, 1), (6, .iconst 1, 1), (7, .putfield 257, 3), (10, .iconst 0, 1), (11, .istore 4, 2), (13, .iload 4, 2), (15, .aload_n 0, 1), (16, .getfield 13, 3), (19, .bipush 7, 2), (21, .iaload, 1), (22, .if_icmp .ge 181, 3), (25, .aload_n 0, 1), (26, .iload 4, 2), (28, .invokevirtual 148, 3), (31, .ifCond .eq 6, 3), (34, .goto 163, 3), (37, .aload_n 0, 1), (38, .getfield 13, 3), (41, .sipush 311, 3), (44, .iconst 2, 1), (45, .bipush 6, 2), (47, .iload_n 3, 1), (48, .imul, 1), (49, .iload 4, 2), (51, .iadd, 1), (52, .imul, 1), (53, .iadd, 1), (54, .iaload, 1), (55, .istore 5, 2), (57, .aload_n 0, 1), (58, .getfield 13, 3), (61, .sipush 311, 3), (64, .iconst 2, 1), (65, .bipush 6, 2), (67, .iload_n 3, 1), (68, .imul, 1), (69, .iload 4, 2), (71, .iadd, 1), (72, .imul, 1), (73, .iadd, 1), (74, .iconst 1, 1), (75, .iadd, 1), (76, .iaload, 1), (77, .istore 6, 2), (79, .iload_n 2, 1), (80, .iload 4, 2), (82, .ishr, 1), (83, .iconst 1, 1), (84, .iand, 1), (85, .ifCond .ne 23, 3), (88, .aload_n 0, 1), (89, .iload 5, 2), (91, .ifCond .le 7, 3), (94, .iconst 0, 1), (95, .goto 7, 3), (98, .aload_n 0, 1), (99, .getfield 254, 3), (102, .putfield 254, 3), (105, .goto 92, 3), (108, .iconst 0, 1), (109, .istore 7, 2), (111, .iconst 0, 1), (112, .istore 8, 2), (114, .iconst 1, 1), (115, .istore 9, 2), (117, .iload 9, 2), (119, .bipush 10, 2), (121, .if_icmp .ge 50, 3), (124, .aload_n 0, 1), (125, .iload_n 1, 1), (126, .iload_n 2, 1), (127, .iload 4, 2), (129, .iload 9, 2), (131, .invokevirtual 227, 3), (134, .ifCond .ne 6, 3), (137, .goto 28, 3), (140, .iinc 7 1, 3), (143, .iload 8, 2), (145, .iload 9, 2), (147, .iload 5, 2), (149, .iload 6, 2), (151, .invokestatic 58, 3), (154, .ifCond .eq 7, 3), (157, .iconst 1, 1), (158, .goto 4, 3), (161, .iconst 0, 1), (162, .iadd, 1), (163, .istore 8, 2), (165, .iinc 9 1, 3), (168, .goto (-51), 3), (171, .aload_n 0, 1), (172, .dup, 1), (173, .getfield 254, 3), (176, .iload 8, 2), (178, .imul, 1), (179, .putfield 254, 3), (182, .aload_n 0, 1), (183, .dup, 1), (184, .getfield 257, 3), (187, .iconst 1, 1), (188, .iload 7, 2), (190, .invokestatic 106, 3), (193, .imul, 1), (194, .putfield 257, 3), (197, .iinc 4 1, 3), (200, .goto (-187), 3), (203, .aload_n 0, 1), (204, .getfield 254, 3), (207, .aload_n 0, 1), (208, .getfield 257, 3), (211, .invokestatic 260, 3), (214, .istore 4, 2), (216, .aload_n 0, 1), (217, .dup, 1), (218, .getfield 254, 3), (221, .iload 4, 2), (223, .idiv, 1), (224, .putfield 254, 3), (227, .aload_n 0, 1), (228, .dup, 1), (229, .getfield 257, 3), (232, .iload 4, 2), (234, .idiv, 1), (235, .putfield 257, 3), (238, .return_, 1)]
theorem T_cX12_chances : tabOK cX12_chances T_cX12_chancesL = true := by decide +kernel
def P_M_chances_197 (post : Mem → Prop) (R13 : Int32 → Int32 → Int32 → Int32 → Mem → Prop) (x1 x2 x3 x4 : Int32) (M : Mem) : Prop :=
  R13 x1 x2 x3 (x4 + (1 : Int32)) M
theorem k_M_chances_197 {X : FX} {g : GT} {A : Nat → Prop} {Z : State → Prop} {post : Mem → Prop} {R13 : Int32 → Int32 → Int32 → Int32 → Mem → Prop} (C : Cx X g layM A cX12_chances 10 RX12 5) (hr : 0 ≤ X.2.2.2.1.cells ∧ 0 ≤ X.2.2.2.1.slots) (hR : RetV X g layM A cX12_chances 10 0 0 Z post) (k13 : ∀ (y1 y2 y3 y4 : Int32) (M : Mem), R13 y1 y2 y3 y4 M → At X g layM A 10 0 0 Z 13 [(0, .ref (ad g 0)), (1, .int y1), (2, .int y2), (3, .int y3), (4, .int y4)] [] M) (x1 x2 x3 x4 : Int32) (M : Mem) (h : P_M_chances_197 post R13 x1 x2 x3 x4 M) : At X g layM A 10 0 0 Z 197 [(0, .ref (ad g 0)), (1, .int x1), (2, .int x2), (3, .int x3), (4, .int x4)] [] M := by
  refine a_iinc C (1 : Int32) (tk T_cX12_chances 107 rfl) rfl kI_1 (by decide) ?_
  refine a_goto C 13 (tk T_cX12_chances 108 rfl) rfl ?_
  exact a_to (k13 x1 x2 x3 (x4 + (1 : Int32)) M h) rfl
def P_M_chances_165 (post : Mem → Prop) (R13 : Int32 → Int32 → Int32 → Int32 → Mem → Prop) (R117 : Int32 → Int32 → Int32 → Int32 → Int32 → Int32 → Int32 → Int32 → Int32 → Mem → Prop) (x1 x2 x3 x4 x5 x6 x7 x8 x9 : Int32) (M : Mem) : Prop :=
  R117 x1 x2 x3 x4 x5 x6 x7 x8 (x9 + (1 : Int32)) M
theorem k_M_chances_165 {X : FX} {g : GT} {A : Nat → Prop} {Z : State → Prop} {post : Mem → Prop} {R13 : Int32 → Int32 → Int32 → Int32 → Mem → Prop} {R117 : Int32 → Int32 → Int32 → Int32 → Int32 → Int32 → Int32 → Int32 → Int32 → Mem → Prop} (C : Cx X g layM A cX12_chances 10 RX12 5) (hr : 0 ≤ X.2.2.2.1.cells ∧ 0 ≤ X.2.2.2.1.slots) (hR : RetV X g layM A cX12_chances 10 0 0 Z post) (k13 : ∀ (y1 y2 y3 y4 : Int32) (M : Mem), R13 y1 y2 y3 y4 M → At X g layM A 10 0 0 Z 13 [(0, .ref (ad g 0)), (1, .int y1), (2, .int y2), (3, .int y3), (4, .int y4)] [] M) (k117 : ∀ (y1 y2 y3 y4 y5 y6 y7 y8 y9 : Int32) (M : Mem), R117 y1 y2 y3 y4 y5 y6 y7 y8 y9 M → At X g layM A 10 0 0 Z 117 [(0, .ref (ad g 0)), (1, .int y1), (2, .int y2), (3, .int y3), (4, .int y4), (5, .int y5), (6, .int y6), (7, .int y7), (8, .int y8), (9, .int y9)] [] M) (x1 x2 x3 x4 x5 x6 x7 x8 x9 : Int32) (M : Mem) (h : P_M_chances_165 post R13 R117 x1 x2 x3 x4 x5 x6 x7 x8 x9 M) : At X g layM A 10 0 0 Z 165 [(0, .ref (ad g 0)), (1, .int x1), (2, .int x2), (3, .int x3), (4, .int x4), (5, .int x5), (6, .int x6), (7, .int x7), (8, .int x8), (9, .int x9)] [] M := by
  refine a_iinc C (1 : Int32) (tk T_cX12_chances 91 rfl) rfl kI_1 (by decide) ?_
  refine a_goto C 117 (tk T_cX12_chances 92 rfl) rfl ?_
  exact a_to (k117 x1 x2 x3 x4 x5 x6 x7 x8 (x9 + (1 : Int32)) M h) rfl
def P_M_chances_162 (post : Mem → Prop) (R13 : Int32 → Int32 → Int32 → Int32 → Mem → Prop) (R117 : Int32 → Int32 → Int32 → Int32 → Int32 → Int32 → Int32 → Int32 → Int32 → Mem → Prop) (x1 x2 x3 x4 x5 x6 x7 x9 s0 s1 : Int32) (M : Mem) : Prop :=
  ∀ x8_1, x8_1 = (s0 + s1) → P_M_chances_165 post R13 R117 x1 x2 x3 x4 x5 x6 x7 x8_1 x9 M
theorem k_M_chances_162 {X : FX} {g : GT} {A : Nat → Prop} {Z : State → Prop} {post : Mem → Prop} {R13 : Int32 → Int32 → Int32 → Int32 → Mem → Prop} {R117 : Int32 → Int32 → Int32 → Int32 → Int32 → Int32 → Int32 → Int32 → Int32 → Mem → Prop} (C : Cx X g layM A cX12_chances 10 RX12 5) (hr : 0 ≤ X.2.2.2.1.cells ∧ 0 ≤ X.2.2.2.1.slots) (hR : RetV X g layM A cX12_chances 10 0 0 Z post) (k13 : ∀ (y1 y2 y3 y4 : Int32) (M : Mem), R13 y1 y2 y3 y4 M → At X g layM A 10 0 0 Z 13 [(0, .ref (ad g 0)), (1, .int y1), (2, .int y2), (3, .int y3), (4, .int y4)] [] M) (k117 : ∀ (y1 y2 y3 y4 y5 y6 y7 y8 y9 : Int32) (M : Mem), R117 y1 y2 y3 y4 y5 y6 y7 y8 y9 M → At X g layM A 10 0 0 Z 117 [(0, .ref (ad g 0)), (1, .int y1), (2, .int y2), (3, .int y3), (4, .int y4), (5, .int y5), (6, .int y6), (7, .int y7), (8, .int y8), (9, .int y9)] [] M) (x1 x2 x3 x4 x5 x6 x7 x9 s0 s1 : Int32) (M : Mem) (h : P_M_chances_162 post R13 R117 x1 x2 x3 x4 x5 x6 x7 x9 s0 s1 M) : At X g layM A 10 0 0 Z 162 [(0, .ref (ad g 0)), (1, .int x1), (2, .int x2), (3, .int x3), (4, .int x4), (5, .int x5), (6, .int x6), (7, .int x7), (9, .int x9)] [.int s1, .int s0] M := by
  refine a_iadd C (tk T_cX12_chances 89 rfl) ?_
  refine a_top (fun x8_1 e_x8_1 => ?_)
  have h := h x8_1 e_x8_1
  refine a_istore C (tk T_cX12_chances 90 rfl) (by decide) ?_
  exact a_to (k_M_chances_165 C hr hR k13 k117 x1 x2 x3 x4 x5 x6 x7 x8_1 x9 M h) rfl
def P_M_chances_117 (post : Mem → Prop) (R13 : Int32 → Int32 → Int32 → Int32 → Mem → Prop) : Nat → Int32 → Int32 → Int32 → Int32 → Int32 → Int32 → Int32 → Int32 → Int32 → Mem → Prop
  | 0, _, _, _, _, _, _, _, _, _, _ => False
  | n + 1, x1, x2, x3, x4, x5, x6, x7, x8, x9, M =>
    ((10 : Int32) ≤ x9 → (∀ M1, M1 = ms M 0 16 ((M 0 16) * x8) → P_Math_max (fun r2 M2 =>
  ∀ M3, M3 = ms M2 0 17 ((M1 0 17) * r2) → P_M_chances_197 post R13 x1 x2 x3 x4 M3) (1 : Int32) x7 M1)) ∧
  (¬ (10 : Int32) ≤ x9 → (P_M_isAmount (fun r4 M4 =>
  (¬ r4 = 0 → (P_M_in (fun r5 M5 =>
  (r5 = 0 → (P_M_chances_162 post R13 (P_M_chances_117 post R13 n) x1 x2 x3 x4 x5 x6 (x7 + (1 : Int32)) x9 x8 (0 : Int32) M5)) ∧
  (¬ r5 = 0 → (P_M_chances_162 post R13 (P_M_chances_117 post R13 n) x1 x2 x3 x4 x5 x6 (x7 + (1 : Int32)) x9 x8 (1 : Int32) M5))) x9 x5 x6 M4)) ∧
  (r4 = 0 → (P_M_chances_165 post R13 (P_M_chances_117 post R13 n) x1 x2 x3 x4 x5 x6 x7 x8 x9 M4))) x1 x2 x4 x9 M))
theorem k_M_chances_117 {X : FX} {g : GT} {A : Nat → Prop} {Z : State → Prop} {post : Mem → Prop} {R13 : Int32 → Int32 → Int32 → Int32 → Mem → Prop} (C : Cx X g layM A cX12_chances 10 RX12 5) (hr : 0 ≤ X.2.2.2.1.cells ∧ 0 ≤ X.2.2.2.1.slots) (hR : RetV X g layM A cX12_chances 10 0 0 Z post) (k13 : ∀ (y1 y2 y3 y4 : Int32) (M : Mem), R13 y1 y2 y3 y4 M → At X g layM A 10 0 0 Z 13 [(0, .ref (ad g 0)), (1, .int y1), (2, .int y2), (3, .int y3), (4, .int y4)] [] M) : ∀ (n : Nat) (x1 x2 x3 x4 x5 x6 x7 x8 x9 : Int32) (M : Mem), P_M_chances_117 post R13 n x1 x2 x3 x4 x5 x6 x7 x8 x9 M → At X g layM A 10 0 0 Z 117 [(0, .ref (ad g 0)), (1, .int x1), (2, .int x2), (3, .int x3), (4, .int x4), (5, .int x5), (6, .int x6), (7, .int x7), (8, .int x8), (9, .int x9)] [] M := by
  intro n
  induction n with
  | zero =>
    intro x1 x2 x3 x4 x5 x6 x7 x8 x9 M h
    exact h.elim
  | succ n ih =>
    intro x1 x2 x3 x4 x5 x6 x7 x8 x9 M h
    refine a_iload C (tk T_cX12_chances 68 rfl) rfl ?_
    refine a_bipush C (10 : Int32) (tk T_cX12_chances 69 rfl) kB_10 ?_
    refine a_icmp_ge C 171 (tk T_cX12_chances 70 rfl) rfl (fun c => ?_) (fun c => ?_)
    · have h := h.1 c
      refine a_aload_n C (tk T_cX12_chances 93 rfl) rfl ?_
      refine a_dupr C (tk T_cX12_chances 94 rfl) ?_
      refine a_getI C f_RX12_254 (tk T_cX12_chances 95 rfl) lm0 rfl ?_
      refine a_iload C (tk T_cX12_chances 96 rfl) rfl ?_
      refine a_imul C (tk T_cX12_chances 97 rfl) ?_
      refine a_put C f_RX12_254 f_RX12_254p rfl rfl (tk T_cX12_chances 98 rfl) lm0 rfl ?_
      refine a_mem (fun M1 e_M1 => ?_)
      have h := h M1 e_M1
      refine a_aload_n C (tk T_cX12_chances 99 rfl) rfl ?_
      refine a_dupr C (tk T_cX12_chances 100 rfl) ?_
      refine a_getI C f_RX12_257 (tk T_cX12_chances 101 rfl) lm0 rfl ?_
      refine a_iconst C (1 : Int32) (tk T_cX12_chances 102 rfl) kI_1 ?_
      refine a_iload C (tk T_cX12_chances 103 rfl) rfl ?_
      refine a_statI C [.int (1 : Int32), .int x7] me_yJ9_max_7cf53 lk_RX12_106 (ct_Math_max h) (by decide) rfl rfl (Nat.le_of_ble_eq_true rfl) (tk T_cX12_chances 104 rfl) hr (fun r2 M2 h => ?_)
      refine a_imul C (tk T_cX12_chances 105 rfl) ?_
      refine a_put C f_RX12_257 f_RX12_257p rfl rfl (tk T_cX12_chances 106 rfl) lm0 rfl ?_
      refine a_mem (fun M3 e_M3 => ?_)
      have h := h M3 e_M3
      exact a_to (k_M_chances_197 C hr hR k13 x1 x2 x3 x4 M3 h) rfl
    · have h := h.2 c
      refine a_aload_n C (tk T_cX12_chances 71 rfl) rfl ?_
      refine a_iload_n C (tk T_cX12_chances 72 rfl) rfl ?_
      refine a_iload_n C (tk T_cX12_chances 73 rfl) rfl ?_
      refine a_iload C (tk T_cX12_chances 74 rfl) rfl ?_
      refine a_iload C (tk T_cX12_chances 75 rfl) rfl ?_
      refine a_callI C [.int x1, .int x2, .int x4, .int x9] me_yX12_isAmount lk_RX12_227 (ct_M_isAmount h) (by decide) lm0 rfl rfl rfl (Nat.le_of_ble_eq_true rfl) (tk T_cX12_chances 76 rfl) hr (fun r4 M4 h => ?_)
      refine a_if_ne C 140 (tk T_cX12_chances 77 rfl) rfl (fun c => ?_) (fun c => ?_)
      · have h := h.1 c
        refine a_iinc C (1 : Int32) (tk T_cX12_chances 79 rfl) rfl kI_1 (by decide) ?_
        refine a_iload C (tk T_cX12_chances 80 rfl) rfl ?_
        refine a_iload C (tk T_cX12_chances 81 rfl) rfl ?_
        refine a_iload C (tk T_cX12_chances 82 rfl) rfl ?_
        refine a_iload C (tk T_cX12_chances 83 rfl) rfl ?_
        refine a_statI C [.int x9, .int x5, .int x6] me_yX12_in lk_RX12_58 (ct_M_in h) (by decide) rfl rfl (Nat.le_of_ble_eq_true rfl) (tk T_cX12_chances 84 rfl) hr (fun r5 M5 h => ?_)
        refine a_if_eq C 161 (tk T_cX12_chances 85 rfl) rfl (fun c => ?_) (fun c => ?_)
        · have h := h.1 c
          refine a_iconst C (0 : Int32) (tk T_cX12_chances 88 rfl) kI_0 ?_
          exact a_to (k_M_chances_162 C hr hR k13 ih x1 x2 x3 x4 x5 x6 (x7 + (1 : Int32)) x9 x8 (0 : Int32) M5 h) rfl
        · have h := h.2 c
          refine a_iconst C (1 : Int32) (tk T_cX12_chances 86 rfl) kI_1 ?_
          refine a_goto C 162 (tk T_cX12_chances 87 rfl) rfl ?_
          exact a_to (k_M_chances_162 C hr hR k13 ih x1 x2 x3 x4 x5 x6 (x7 + (1 : Int32)) x9 x8 (1 : Int32) M5 h) rfl
      · have h := h.2 c
        refine a_goto C 165 (tk T_cX12_chances 78 rfl) rfl ?_
        exact a_to (k_M_chances_165 C hr hR k13 ih x1 x2 x3 x4 x5 x6 x7 x8 x9 M4 h) rfl
def P_M_chances_102 (post : Mem → Prop) (R13 : Int32 → Int32 → Int32 → Int32 → Mem → Prop) (x1 x2 x3 x4 s1 : Int32) (M : Mem) : Prop :=
  ∀ M1, M1 = ms M 0 16 s1 → P_M_chances_197 post R13 x1 x2 x3 x4 M1
theorem k_M_chances_102 {X : FX} {g : GT} {A : Nat → Prop} {Z : State → Prop} {post : Mem → Prop} {R13 : Int32 → Int32 → Int32 → Int32 → Mem → Prop} (C : Cx X g layM A cX12_chances 10 RX12 5) (hr : 0 ≤ X.2.2.2.1.cells ∧ 0 ≤ X.2.2.2.1.slots) (hR : RetV X g layM A cX12_chances 10 0 0 Z post) (k13 : ∀ (y1 y2 y3 y4 : Int32) (M : Mem), R13 y1 y2 y3 y4 M → At X g layM A 10 0 0 Z 13 [(0, .ref (ad g 0)), (1, .int y1), (2, .int y2), (3, .int y3), (4, .int y4)] [] M) (x1 x2 x3 x4 s1 : Int32) (M : Mem) (h : P_M_chances_102 post R13 x1 x2 x3 x4 s1 M) : At X g layM A 10 0 0 Z 102 [(0, .ref (ad g 0)), (1, .int x1), (2, .int x2), (3, .int x3), (4, .int x4)] [.int s1, .ref (ad g 0)] M := by
  refine a_put C f_RX12_254 f_RX12_254p rfl rfl (tk T_cX12_chances 60 rfl) lm0 rfl ?_
  refine a_mem (fun M1 e_M1 => ?_)
  have h := h M1 e_M1
  refine a_goto C 197 (tk T_cX12_chances 61 rfl) rfl ?_
  exact a_to (k_M_chances_197 C hr hR k13 x1 x2 x3 x4 M1 h) rfl
def P_M_chances_13 (post : Mem → Prop) : Nat → Int32 → Int32 → Int32 → Int32 → Mem → Prop
  | 0, _, _, _, _, _ => False
  | n + 1, x1, x2, x3, x4, M =>
    vp_in (7 : Int32) 5966 ∧ ((M 1 (7 : Int32).toNatClampNeg) ≤ x4 → (P_M_common (fun r1 M1 =>
  (¬ r1 = 0) ∧ ∀ M2, M2 = ms M1 0 16 ((M1 0 16) / r1) → (¬ r1 = 0) ∧ ∀ M3, M3 = ms M2 0 17 ((M2 0 17) / r1) → post M3) (M 0 16) (M 0 17) M)) ∧
  (¬ (M 1 (7 : Int32).toNatClampNeg) ≤ x4 → (P_M_isAir (fun r4 M4 =>
  (r4 = 0 → (∀ i5, i5 = ((311 : Int32) + ((2 : Int32) * (((6 : Int32) * x3) + x4))) → vp_in i5 5966 ∧ ∀ v6, v6 = (((311 : Int32) + ((2 : Int32) * (((6 : Int32) * x3) + x4))) + (1 : Int32)) → vp_in v6 5966 ∧ (¬ ((x2 >>> (x4 &&& 31)) &&& (1 : Int32)) = 0 → (∃ j117, P_M_chances_117 post (P_M_chances_13 post n) j117 x1 x2 x3 x4 (M4 1 i5.toNatClampNeg) (M4 1 v6.toNatClampNeg) (0 : Int32) (0 : Int32) (1 : Int32) M4)) ∧
  (((x2 >>> (x4 &&& 31)) &&& (1 : Int32)) = 0 → (((M4 1 i5.toNatClampNeg) ≤ 0 → (P_M_chances_102 post (P_M_chances_13 post n) x1 x2 x3 x4 (M4 0 16) M4)) ∧
  (¬ (M4 1 i5.toNatClampNeg) ≤ 0 → (P_M_chances_102 post (P_M_chances_13 post n) x1 x2 x3 x4 (0 : Int32) M4)))))) ∧
  (¬ r4 = 0 → (P_M_chances_197 post (P_M_chances_13 post n) x1 x2 x3 x4 M4))) x4 M))
theorem k_M_chances_13 {X : FX} {g : GT} {A : Nat → Prop} {Z : State → Prop} {post : Mem → Prop} (C : Cx X g layM A cX12_chances 10 RX12 5) (hr : 0 ≤ X.2.2.2.1.cells ∧ 0 ≤ X.2.2.2.1.slots) (hR : RetV X g layM A cX12_chances 10 0 0 Z post) : ∀ (n : Nat) (x1 x2 x3 x4 : Int32) (M : Mem), P_M_chances_13 post n x1 x2 x3 x4 M → At X g layM A 10 0 0 Z 13 [(0, .ref (ad g 0)), (1, .int x1), (2, .int x2), (3, .int x3), (4, .int x4)] [] M := by
  intro n
  induction n with
  | zero =>
    intro x1 x2 x3 x4 M h
    exact h.elim
  | succ n ih =>
    intro x1 x2 x3 x4 M h
    refine a_iload C (tk T_cX12_chances 8 rfl) rfl ?_
    refine a_aload_n C (tk T_cX12_chances 9 rfl) rfl ?_
    refine a_getR C f_RX12_13 (tk T_cX12_chances 10 rfl) lm0 rfl ?_
    refine a_bipush C (7 : Int32) (tk T_cX12_chances 11 rfl) kB_7 ?_
    obtain ⟨hb, h⟩ := h
    refine a_iald C (tk T_cX12_chances 12 rfl) lm1 hb ?_
    refine a_icmp_ge C 203 (tk T_cX12_chances 13 rfl) rfl (fun c => ?_) (fun c => ?_)
    · have h := h.1 c
      refine a_aload_n C (tk T_cX12_chances 109 rfl) rfl ?_
      refine a_getI C f_RX12_254 (tk T_cX12_chances 110 rfl) lm0 rfl ?_
      refine a_aload_n C (tk T_cX12_chances 111 rfl) rfl ?_
      refine a_getI C f_RX12_257 (tk T_cX12_chances 112 rfl) lm0 rfl ?_
      refine a_statI C [.int (M 0 16), .int (M 0 17)] me_yX12_common lk_RX12_260 (ct_M_common h) (by decide) rfl rfl (Nat.le_of_ble_eq_true rfl) (tk T_cX12_chances 113 rfl) hr (fun r1 M1 h => ?_)
      refine a_istore C (tk T_cX12_chances 114 rfl) (by decide) ?_
      refine a_aload_n C (tk T_cX12_chances 115 rfl) rfl ?_
      refine a_dupr C (tk T_cX12_chances 116 rfl) ?_
      refine a_getI C f_RX12_254 (tk T_cX12_chances 117 rfl) lm0 rfl ?_
      refine a_iload C (tk T_cX12_chances 118 rfl) rfl ?_
      obtain ⟨hy, h⟩ := h
      refine a_idiv C (tk T_cX12_chances 119 rfl) hy ?_
      refine a_put C f_RX12_254 f_RX12_254p rfl rfl (tk T_cX12_chances 120 rfl) lm0 rfl ?_
      refine a_mem (fun M2 e_M2 => ?_)
      have h := h M2 e_M2
      refine a_aload_n C (tk T_cX12_chances 121 rfl) rfl ?_
      refine a_dupr C (tk T_cX12_chances 122 rfl) ?_
      refine a_getI C f_RX12_257 (tk T_cX12_chances 123 rfl) lm0 rfl ?_
      refine a_iload C (tk T_cX12_chances 124 rfl) rfl ?_
      obtain ⟨hy, h⟩ := h
      refine a_idiv C (tk T_cX12_chances 125 rfl) hy ?_
      refine a_put C f_RX12_257 f_RX12_257p rfl rfl (tk T_cX12_chances 126 rfl) lm0 rfl ?_
      refine a_mem (fun M3 e_M3 => ?_)
      have h := h M3 e_M3
      exact hR _ _ _ (tk T_cX12_chances 127 rfl) h
    · have h := h.2 c
      refine a_aload_n C (tk T_cX12_chances 14 rfl) rfl ?_
      refine a_iload C (tk T_cX12_chances 15 rfl) rfl ?_
      refine a_callI C [.int x4] me_yX12_isAir lk_RX12_148 (ct_M_isAir h) (by decide) lm0 rfl rfl rfl (Nat.le_of_ble_eq_true rfl) (tk T_cX12_chances 16 rfl) hr (fun r4 M4 h => ?_)
      refine a_if_eq C 37 (tk T_cX12_chances 17 rfl) rfl (fun c => ?_) (fun c => ?_)
      · have h := h.1 c
        refine a_aload_n C (tk T_cX12_chances 19 rfl) rfl ?_
        refine a_getR C f_RX12_13 (tk T_cX12_chances 20 rfl) lm0 rfl ?_
        refine a_sipush C (311 : Int32) (tk T_cX12_chances 21 rfl) kS_311 ?_
        refine a_iconst C (2 : Int32) (tk T_cX12_chances 22 rfl) kI_2 ?_
        refine a_bipush C (6 : Int32) (tk T_cX12_chances 23 rfl) kB_6 ?_
        refine a_iload_n C (tk T_cX12_chances 24 rfl) rfl ?_
        refine a_imul C (tk T_cX12_chances 25 rfl) ?_
        refine a_iload C (tk T_cX12_chances 26 rfl) rfl ?_
        refine a_iadd C (tk T_cX12_chances 27 rfl) ?_
        refine a_imul C (tk T_cX12_chances 28 rfl) ?_
        refine a_iadd C (tk T_cX12_chances 29 rfl) ?_
        refine a_top (fun i5 e_i5 => ?_)
        have h := h i5 e_i5
        obtain ⟨hb, h⟩ := h
        refine a_iald C (tk T_cX12_chances 30 rfl) lm1 hb ?_
        refine a_istore C (tk T_cX12_chances 31 rfl) (by decide) ?_
        refine a_aload_n C (tk T_cX12_chances 32 rfl) rfl ?_
        refine a_getR C f_RX12_13 (tk T_cX12_chances 33 rfl) lm0 rfl ?_
        refine a_sipush C (311 : Int32) (tk T_cX12_chances 34 rfl) kS_311 ?_
        refine a_iconst C (2 : Int32) (tk T_cX12_chances 35 rfl) kI_2 ?_
        refine a_bipush C (6 : Int32) (tk T_cX12_chances 36 rfl) kB_6 ?_
        refine a_iload_n C (tk T_cX12_chances 37 rfl) rfl ?_
        refine a_imul C (tk T_cX12_chances 38 rfl) ?_
        refine a_iload C (tk T_cX12_chances 39 rfl) rfl ?_
        refine a_iadd C (tk T_cX12_chances 40 rfl) ?_
        refine a_imul C (tk T_cX12_chances 41 rfl) ?_
        refine a_iadd C (tk T_cX12_chances 42 rfl) ?_
        refine a_iconst C (1 : Int32) (tk T_cX12_chances 43 rfl) kI_1 ?_
        refine a_iadd C (tk T_cX12_chances 44 rfl) ?_
        refine a_top (fun v6 e_v6 => ?_)
        have h := h v6 e_v6
        obtain ⟨hb, h⟩ := h
        refine a_iald C (tk T_cX12_chances 45 rfl) lm1 hb ?_
        refine a_istore C (tk T_cX12_chances 46 rfl) (by decide) ?_
        refine a_iload_n C (tk T_cX12_chances 47 rfl) rfl ?_
        refine a_iload C (tk T_cX12_chances 48 rfl) rfl ?_
        refine a_ishr C (tk T_cX12_chances 49 rfl) ?_
        refine a_iconst C (1 : Int32) (tk T_cX12_chances 50 rfl) kI_1 ?_
        refine a_iand C (tk T_cX12_chances 51 rfl) ?_
        refine a_if_ne C 108 (tk T_cX12_chances 52 rfl) rfl (fun c => ?_) (fun c => ?_)
        · have h := h.1 c
          refine a_iconst C (0 : Int32) (tk T_cX12_chances 62 rfl) kI_0 ?_
          refine a_istore C (tk T_cX12_chances 63 rfl) (by decide) ?_
          refine a_iconst C (0 : Int32) (tk T_cX12_chances 64 rfl) kI_0 ?_
          refine a_istore C (tk T_cX12_chances 65 rfl) (by decide) ?_
          refine a_iconst C (1 : Int32) (tk T_cX12_chances 66 rfl) kI_1 ?_
          refine a_istore C (tk T_cX12_chances 67 rfl) (by decide) ?_
          obtain ⟨n1, h⟩ := h
          exact a_to (k_M_chances_117 C hr hR ih n1 x1 x2 x3 x4 (M4 1 i5.toNatClampNeg) (M4 1 v6.toNatClampNeg) (0 : Int32) (0 : Int32) (1 : Int32) M4 h) rfl
        · have h := h.2 c
          refine a_aload_n C (tk T_cX12_chances 53 rfl) rfl ?_
          refine a_iload C (tk T_cX12_chances 54 rfl) rfl ?_
          refine a_if_le C 98 (tk T_cX12_chances 55 rfl) rfl (fun c => ?_) (fun c => ?_)
          · have h := h.1 c
            refine a_aload_n C (tk T_cX12_chances 58 rfl) rfl ?_
            refine a_getI C f_RX12_254 (tk T_cX12_chances 59 rfl) lm0 rfl ?_
            exact a_to (k_M_chances_102 C hr hR ih x1 x2 x3 x4 (M4 0 16) M4 h) rfl
          · have h := h.2 c
            refine a_iconst C (0 : Int32) (tk T_cX12_chances 56 rfl) kI_0 ?_
            refine a_goto C 102 (tk T_cX12_chances 57 rfl) rfl ?_
            exact a_to (k_M_chances_102 C hr hR ih x1 x2 x3 x4 (0 : Int32) M4 h) rfl
      · have h := h.2 c
        refine a_goto C 197 (tk T_cX12_chances 18 rfl) rfl ?_
        exact a_to (k_M_chances_197 C hr hR ih x1 x2 x3 x4 M4 h) rfl
def P_M_chances (post : Mem → Prop) (x1 x2 x3 : Int32) (M : Mem) : Prop :=
  ∀ M1, M1 = ms M 0 16 (1 : Int32) → ∀ M2, M2 = ms M1 0 17 (1 : Int32) → ∃ j13, P_M_chances_13 post j13 x1 x2 x3 (0 : Int32) M2
theorem k_M_chances {X : FX} {g : GT} {A : Nat → Prop} {Z : State → Prop} {post : Mem → Prop} (C : Cx X g layM A cX12_chances 10 RX12 5) (hr : 0 ≤ X.2.2.2.1.cells ∧ 0 ≤ X.2.2.2.1.slots) (hR : RetV X g layM A cX12_chances 10 0 0 Z post) (x1 x2 x3 : Int32) (M : Mem) (h : P_M_chances post x1 x2 x3 M) : At X g layM A 10 0 0 Z 0 [(0, .ref (ad g 0)), (1, .int x1), (2, .int x2), (3, .int x3)] [] M := by
  refine a_aload_n C (tk T_cX12_chances 0 rfl) rfl ?_
  refine a_iconst C (1 : Int32) (tk T_cX12_chances 1 rfl) kI_1 ?_
  refine a_put C f_RX12_254 f_RX12_254p rfl rfl (tk T_cX12_chances 2 rfl) lm0 rfl ?_
  refine a_mem (fun M1 e_M1 => ?_)
  have h := h M1 e_M1
  refine a_aload_n C (tk T_cX12_chances 3 rfl) rfl ?_
  refine a_iconst C (1 : Int32) (tk T_cX12_chances 4 rfl) kI_1 ?_
  refine a_put C f_RX12_257 f_RX12_257p rfl rfl (tk T_cX12_chances 5 rfl) lm0 rfl ?_
  refine a_mem (fun M2 e_M2 => ?_)
  have h := h M2 e_M2
  refine a_iconst C (0 : Int32) (tk T_cX12_chances 6 rfl) kI_0 ?_
  refine a_istore C (tk T_cX12_chances 7 rfl) (by decide) ?_
  obtain ⟨n1, h⟩ := h
  exact a_to (k_M_chances_13 C hr hR n1 x1 x2 x3 (0 : Int32) M2 h) rfl
theorem ct_M_chances {l : Launch} {g : GT} {post : Mem → Prop} {x1 x2 x3 : Int32} {M : Mem} (h : P_M_chances post x1 x2 x3 M) : CV l g layM yX12_chances cX12_chances 10 none 5 [.ref (ad g 0), .int x1, .int x2, .int x3] M post :=
  cv_of (plainFor_of_name (by decide +kernel)) (Nat.le_of_ble_eq_true rfl) rfl (fun X A Z hl C hr hR => by subst hl; exact k_M_chances C hr hR x1 x2 x3 M h)
def T_cX12_noChanceL : List (Nat × Instr × Nat) := [(0, .aload_n 0, 1), (1, .aload_n 0, 1), (2, .iload_n 1, 1), (3, .bipush 8, 2), (5, .invokevirtual 121, 3), (8, .ifCond .ne 13, 3), (11, .aload_n 0, 1), (12, .iload_n 2, 1), (13, .bipush 11, 2), (15, .invokevirtual 121, 3), (18, .ifCond .eq 7, 3), (21, .iconst 1, 1), (22, .goto 4, 3), (25, .iconst 0, 1), (26, .iconst 1, 1), (27, .invokevirtual 72, 3), (30, .ireturn, 1)]
theorem T_cX12_noChance : tabOK cX12_noChance T_cX12_noChanceL = true := by decide +kernel
def P_M_noChance_26 (post : Int32 → Mem → Prop) (s1 : Int32) (M : Mem) : Prop :=
  P_M_throwsIf (fun r1 M1 =>
  (r1 = 0 ∨ r1 = 1) ∧ post r1 M1) s1 (1 : Int32) M
theorem k_M_noChance_26 {X : FX} {g : GT} {A : Nat → Prop} {Z : State → Prop} {post : Int32 → Mem → Prop} (C : Cx X g layM A cX12_noChance 3 RX12 2) (hr : 0 ≤ X.2.2.2.1.cells ∧ 0 ≤ X.2.2.2.1.slots) (hR : RetZ X g layM A cX12_noChance 3 0 0 Z post) (s1 : Int32) (M : Mem) (h : P_M_noChance_26 post s1 M) : At X g layM A 3 0 0 Z 26 [] [.int s1, .ref (ad g 0)] M := by
  refine a_iconst C (1 : Int32) (tk T_cX12_noChance 14 rfl) kI_1 ?_
  refine a_callI C [.int s1, .int (1 : Int32)] me_yX12_throwsIf lk_RX12_72 (ct_M_throwsIf h) (by decide) lm0 rfl rfl rfl (Nat.le_of_ble_eq_true rfl) (tk T_cX12_noChance 15 rfl) hr (fun r1 M1 h => ?_)
  exact hR _ _ _ _ (tk T_cX12_noChance 16 rfl) h
def P_M_noChance_21 (post : Int32 → Mem → Prop) (M : Mem) : Prop :=
  P_M_noChance_26 post (1 : Int32) M
theorem k_M_noChance_21 {X : FX} {g : GT} {A : Nat → Prop} {Z : State → Prop} {post : Int32 → Mem → Prop} (C : Cx X g layM A cX12_noChance 3 RX12 2) (hr : 0 ≤ X.2.2.2.1.cells ∧ 0 ≤ X.2.2.2.1.slots) (hR : RetZ X g layM A cX12_noChance 3 0 0 Z post)  (M : Mem) (h : P_M_noChance_21 post M) : At X g layM A 3 0 0 Z 21 [] [.ref (ad g 0)] M := by
  refine a_iconst C (1 : Int32) (tk T_cX12_noChance 11 rfl) kI_1 ?_
  refine a_goto C 26 (tk T_cX12_noChance 12 rfl) rfl ?_
  exact a_to (k_M_noChance_26 C hr hR (1 : Int32) M h) rfl
def P_M_noChance (post : Int32 → Mem → Prop) (x1 x2 : Int32) (M : Mem) : Prop :=
  P_M_none (fun r1 M1 =>
  (¬ r1 = 0 → (P_M_noChance_21 post M1)) ∧
  (r1 = 0 → (P_M_none (fun r2 M2 =>
  (r2 = 0 → (P_M_noChance_26 post (0 : Int32) M2)) ∧
  (¬ r2 = 0 → (P_M_noChance_21 post M2))) x2 (11 : Int32) M1))) x1 (8 : Int32) M
theorem k_M_noChance {X : FX} {g : GT} {A : Nat → Prop} {Z : State → Prop} {post : Int32 → Mem → Prop} (C : Cx X g layM A cX12_noChance 3 RX12 2) (hr : 0 ≤ X.2.2.2.1.cells ∧ 0 ≤ X.2.2.2.1.slots) (hR : RetZ X g layM A cX12_noChance 3 0 0 Z post) (x1 x2 : Int32) (M : Mem) (h : P_M_noChance post x1 x2 M) : At X g layM A 3 0 0 Z 0 [(0, .ref (ad g 0)), (1, .int x1), (2, .int x2)] [] M := by
  refine a_aload_n C (tk T_cX12_noChance 0 rfl) rfl ?_
  refine a_aload_n C (tk T_cX12_noChance 1 rfl) rfl ?_
  refine a_iload_n C (tk T_cX12_noChance 2 rfl) rfl ?_
  refine a_bipush C (8 : Int32) (tk T_cX12_noChance 3 rfl) kB_8 ?_
  refine a_callI C [.int x1, .int (8 : Int32)] me_yX12_none lk_RX12_121 (ct_M_none h) (by decide) lm0 rfl rfl rfl (Nat.le_of_ble_eq_true rfl) (tk T_cX12_noChance 4 rfl) hr (fun r1 M1 h => ?_)
  refine a_if_ne C 21 (tk T_cX12_noChance 5 rfl) rfl (fun c => ?_) (fun c => ?_)
  · have h := h.1 c
    exact a_to (k_M_noChance_21 C hr hR M1 h) rfl
  · have h := h.2 c
    refine a_aload_n C (tk T_cX12_noChance 6 rfl) rfl ?_
    refine a_iload_n C (tk T_cX12_noChance 7 rfl) rfl ?_
    refine a_bipush C (11 : Int32) (tk T_cX12_noChance 8 rfl) kB_11 ?_
    refine a_callI C [.int x2, .int (11 : Int32)] me_yX12_none lk_RX12_121 (ct_M_none h) (by decide) lm0 rfl rfl rfl (Nat.le_of_ble_eq_true rfl) (tk T_cX12_noChance 9 rfl) hr (fun r2 M2 h => ?_)
    refine a_if_eq C 25 (tk T_cX12_noChance 10 rfl) rfl (fun c => ?_) (fun c => ?_)
    · have h := h.1 c
      refine a_iconst C (0 : Int32) (tk T_cX12_noChance 13 rfl) kI_0 ?_
      exact a_to (k_M_noChance_26 C hr hR (0 : Int32) M2 h) rfl
    · have h := h.2 c
      exact a_to (k_M_noChance_21 C hr hR M2 h) rfl
theorem ct_M_noChance {l : Launch} {g : GT} {post : Int32 → Mem → Prop} {x1 x2 : Int32} {M : Mem} (h : P_M_noChance post x1 x2 M) : CI l g layM yX12_noChance cX12_noChance 3 (some .boolean) 2 [.ref (ad g 0), .int x1, .int x2] M post :=
  cz_of (plainFor_of_name (by decide +kernel)) (Nat.le_of_ble_eq_true rfl) rfl (fun X A Z hl C hr hR => by subst hl; exact k_M_noChance C hr hR x1 x2 M h)
def T_cX12_chanceL : List (Nat × Instr × Nat) := [(0, .aload_n 0, 1), (1, .iconst 0, 1), (2, .putfield 3, 3), (5, .aload_n 0, 1), (6, .iload_n 1, 1), (7, .iload_n 3, 1), (8, .invokevirtual 263, 3), (11, .ifCond .eq 5, 3), (14, .iconst 0, 1), (15, .ireturn, 1), (16, .aload_n 0, 1), (17, .invokevirtual 197, 3), (20, .aload_n 0, 1), (21, .iload_n 1, 1), (22, .iload_n 2, 1), (23, .iload_n 3, 1), (24, .invokevirtual 266, 3), (27, .iload 4, 2), (29, .ifCond .eq 10, 3), (32, .aload_n 0, 1), (33, .getfield 257, 3), (36, .goto 7, 3), (39, .aload_n 0, 1), (40, .getfield 254, 3), (43, .ireturn, 1)]
theorem T_cX12_chance : tabOK cX12_chance T_cX12_chanceL = true := by decide +kernel
def P_M_chance_43 (post : Int32 → Mem → Prop) (s0 : Int32) (M : Mem) : Prop :=
  post s0 M
theorem k_M_chance_43 {X : FX} {g : GT} {A : Nat → Prop} {Z : State → Prop} {post : Int32 → Mem → Prop} (C : Cx X g layM A cX12_chance 5 RX12 6) (hr : 0 ≤ X.2.2.2.1.cells ∧ 0 ≤ X.2.2.2.1.slots) (hR : RetI X g layM A cX12_chance 5 0 0 Z post) (s0 : Int32) (M : Mem) (h : P_M_chance_43 post s0 M) : At X g layM A 5 0 0 Z 43 [] [.int s0] M := by
  exact hR _ _ _ _ (tk T_cX12_chance 24 rfl) h
def P_M_chance (post : Int32 → Mem → Prop) (x1 x2 x3 x4 : Int32) (M : Mem) : Prop :=
  ∀ M1, M1 = ms M 0 0 (0 : Int32) → P_M_noChance (fun r2 M2 =>
  (r2 = 0 → (P_M_spans (fun M3 =>
  P_M_chances (fun M4 =>
  (x4 = 0 → (P_M_chance_43 post (M4 0 16) M4)) ∧
  (¬ x4 = 0 → (P_M_chance_43 post (M4 0 17) M4))) x1 x2 x3 M3) M2)) ∧
  (¬ r2 = 0 → (post (0 : Int32) M2))) x1 x3 M1
theorem k_M_chance {X : FX} {g : GT} {A : Nat → Prop} {Z : State → Prop} {post : Int32 → Mem → Prop} (C : Cx X g layM A cX12_chance 5 RX12 6) (hr : 0 ≤ X.2.2.2.1.cells ∧ 0 ≤ X.2.2.2.1.slots) (hR : RetI X g layM A cX12_chance 5 0 0 Z post) (x1 x2 x3 x4 : Int32) (M : Mem) (h : P_M_chance post x1 x2 x3 x4 M) : At X g layM A 5 0 0 Z 0 [(0, .ref (ad g 0)), (1, .int x1), (2, .int x2), (3, .int x3), (4, .int x4)] [] M := by
  refine a_aload_n C (tk T_cX12_chance 0 rfl) rfl ?_
  refine a_iconst C (0 : Int32) (tk T_cX12_chance 1 rfl) kI_0 ?_
  refine a_put C f_RX12_3 f_RX12_3p rfl rfl (tk T_cX12_chance 2 rfl) lm0 rfl ?_
  refine a_mem (fun M1 e_M1 => ?_)
  have h := h M1 e_M1
  refine a_aload_n C (tk T_cX12_chance 3 rfl) rfl ?_
  refine a_iload_n C (tk T_cX12_chance 4 rfl) rfl ?_
  refine a_iload_n C (tk T_cX12_chance 5 rfl) rfl ?_
  refine a_callI C [.int x1, .int x3] me_yX12_noChance lk_RX12_263 (ct_M_noChance h) (by decide) lm0 rfl rfl rfl (Nat.le_of_ble_eq_true rfl) (tk T_cX12_chance 6 rfl) hr (fun r2 M2 h => ?_)
  refine a_if_eq C 16 (tk T_cX12_chance 7 rfl) rfl (fun c => ?_) (fun c => ?_)
  · have h := h.1 c
    refine a_aload_n C (tk T_cX12_chance 10 rfl) rfl ?_
    refine a_callV C [] me_yX12_spans lk_RX12_197 (ct_M_spans h) (by decide) lm0 rfl rfl rfl (Nat.le_of_ble_eq_true rfl) (tk T_cX12_chance 11 rfl) hr (fun M3 h => ?_)
    refine a_aload_n C (tk T_cX12_chance 12 rfl) rfl ?_
    refine a_iload_n C (tk T_cX12_chance 13 rfl) rfl ?_
    refine a_iload_n C (tk T_cX12_chance 14 rfl) rfl ?_
    refine a_iload_n C (tk T_cX12_chance 15 rfl) rfl ?_
    refine a_callV C [.int x1, .int x2, .int x3] me_yX12_chances lk_RX12_266 (ct_M_chances h) (by decide) lm0 rfl rfl rfl (Nat.le_of_ble_eq_true rfl) (tk T_cX12_chance 16 rfl) hr (fun M4 h => ?_)
    refine a_iload C (tk T_cX12_chance 17 rfl) rfl ?_
    refine a_if_eq C 39 (tk T_cX12_chance 18 rfl) rfl (fun c => ?_) (fun c => ?_)
    · have h := h.1 c
      refine a_aload_n C (tk T_cX12_chance 22 rfl) rfl ?_
      refine a_getI C f_RX12_254 (tk T_cX12_chance 23 rfl) lm0 rfl ?_
      exact a_to (k_M_chance_43 C hr hR (M4 0 16) M4 h) rfl
    · have h := h.2 c
      refine a_aload_n C (tk T_cX12_chance 19 rfl) rfl ?_
      refine a_getI C f_RX12_257 (tk T_cX12_chance 20 rfl) lm0 rfl ?_
      refine a_goto C 43 (tk T_cX12_chance 21 rfl) rfl ?_
      exact a_to (k_M_chance_43 C hr hR (M4 0 17) M4 h) rfl
  · have h := h.2 c
    refine a_iconst C (0 : Int32) (tk T_cX12_chance 8 rfl) kI_0 ?_
    exact hR _ _ _ _ (tk T_cX12_chance 9 rfl) h
theorem ct_M_chance {l : Launch} {g : GT} {post : Int32 → Mem → Prop} {x1 x2 x3 x4 : Int32} {M : Mem} (h : P_M_chance post x1 x2 x3 x4 M) : CI l g layM yX12_chance cX12_chance 5 (some .int) 6 [.ref (ad g 0), .int x1, .int x2, .int x3, .int x4] M post :=
  ci_of (plainFor_of_name (by decide +kernel)) (Nat.le_of_ble_eq_true rfl) rfl (fun X A Z hl C hr hR => by subst hl; exact k_M_chance C hr hR x1 x2 x3 x4 M h)
def T_cX12_greatestChanceL : List (Nat × Instr × Nat) := [(0, .iconst (-1), 1), (1, .istore_n 3, 1), (2, .iconst 0, 1), (3, .istore 4, 2), (5, .iconst 1, 1), (6, .istore 5, 2), (8, .iconst 0, 1), (9, .istore 6, 2), (11, .iload 6, 2), (13, .aload_n 0, 1), (14, .getfield 13, 3), (17, .bipush 11, 2), (19, .iaload, 1), (20, .if_icmp .ge 57, 3), (23, .aload_n 0, 1), (24, .iload_n 1, 1), (25, .iload_n 2, 1), (26, .iload 6, 2), (28, .invokevirtual 266, 3), (31, .aload_n 0, 1), (32, .getfield 254, 3), (35, .i2l, 1), (36, .iload 5, 2), (38, .i2l, 1), (39, .lmul, 1), (40, .iload 4, 2), (42, .i2l, 1), (43, .aload_n 0, 1), (44, .getfield 257, 3), (47, .i2l, 1), (48, .lmul, 1), (49, .lcmp, 1), (50, .ifCond .gt 6, 3), (53, .goto 18, 3), (56, .iload 6, 2), (58, .istore_n 3, 1), (59, .aload_n 0, 1), (60, .getfield 254, 3), (63, .istore 4, 2), (65, .aload_n 0, 1), (66, .getfield 257, 3), (69, .istore 5, 2), (71, .iinc 6 1, 3), (74, .goto (-63), 3), (77, .aload_n 0, 1), (78, .iload 4, 2), (80, .putfield 254, 3), (83, .aload_n 0, 1), (84, .iload 5, 2), (86, .putfield 257, 3), (89, .iload_n 3, 1), (90, .ireturn, 1)]
theorem T_cX12_greatestChance : tabOK cX12_greatestChance T_cX12_greatestChanceL = true := by decide +kernel
def P_M_greatestChance_71 (post : Int32 → Mem → Prop) (R11 : Int32 → Int32 → Int32 → Int32 → Int32 → Int32 → Mem → Prop) (x1 x2 x3 x4 x5 x6 : Int32) (M : Mem) : Prop :=
  R11 x1 x2 x3 x4 x5 (x6 + (1 : Int32)) M
theorem k_M_greatestChance_71 {X : FX} {g : GT} {A : Nat → Prop} {Z : State → Prop} {post : Int32 → Mem → Prop} {R11 : Int32 → Int32 → Int32 → Int32 → Int32 → Int32 → Mem → Prop} (C : Cx X g layM A cX12_greatestChance 7 RX12 6) (hr : 0 ≤ X.2.2.2.1.cells ∧ 0 ≤ X.2.2.2.1.slots) (hR : RetI X g layM A cX12_greatestChance 7 0 0 Z post) (k11 : ∀ (y1 y2 y3 y4 y5 y6 : Int32) (M : Mem), R11 y1 y2 y3 y4 y5 y6 M → At X g layM A 7 0 0 Z 11 [(0, .ref (ad g 0)), (1, .int y1), (2, .int y2), (3, .int y3), (4, .int y4), (5, .int y5), (6, .int y6)] [] M) (x1 x2 x3 x4 x5 x6 : Int32) (M : Mem) (h : P_M_greatestChance_71 post R11 x1 x2 x3 x4 x5 x6 M) : At X g layM A 7 0 0 Z 71 [(0, .ref (ad g 0)), (1, .int x1), (2, .int x2), (3, .int x3), (4, .int x4), (5, .int x5), (6, .int x6)] [] M := by
  refine a_iinc C (1 : Int32) (tk T_cX12_greatestChance 42 rfl) rfl kI_1 (by decide) ?_
  refine a_goto C 11 (tk T_cX12_greatestChance 43 rfl) rfl ?_
  exact a_to (k11 x1 x2 x3 x4 x5 (x6 + (1 : Int32)) M h) rfl
def P_M_greatestChance_11 (post : Int32 → Mem → Prop) : Nat → Int32 → Int32 → Int32 → Int32 → Int32 → Int32 → Mem → Prop
  | 0, _, _, _, _, _, _, _ => False
  | n + 1, x1, x2, x3, x4, x5, x6, M =>
    vp_in (11 : Int32) 5966 ∧ ((M 1 (11 : Int32).toNatClampNeg) ≤ x6 → (∀ M1, M1 = ms M 0 16 x4 → ∀ M2, M2 = ms M1 0 17 x5 → post x3 M2)) ∧
  (¬ (M 1 (11 : Int32).toNatClampNeg) ≤ x6 → (P_M_chances (fun M3 =>
  (0 < (lg_cmp ((M3 0 16).toInt64 * x5.toInt64) (x4.toInt64 * (M3 0 17).toInt64)) → (P_M_greatestChance_71 post (P_M_greatestChance_11 post n) x1 x2 x6 (M3 0 16) (M3 0 17) x6 M3)) ∧
  (¬ 0 < (lg_cmp ((M3 0 16).toInt64 * x5.toInt64) (x4.toInt64 * (M3 0 17).toInt64)) → (P_M_greatestChance_71 post (P_M_greatestChance_11 post n) x1 x2 x3 x4 x5 x6 M3))) x1 x2 x6 M))
theorem k_M_greatestChance_11 {X : FX} {g : GT} {A : Nat → Prop} {Z : State → Prop} {post : Int32 → Mem → Prop} (C : Cx X g layM A cX12_greatestChance 7 RX12 6) (hr : 0 ≤ X.2.2.2.1.cells ∧ 0 ≤ X.2.2.2.1.slots) (hR : RetI X g layM A cX12_greatestChance 7 0 0 Z post) : ∀ (n : Nat) (x1 x2 x3 x4 x5 x6 : Int32) (M : Mem), P_M_greatestChance_11 post n x1 x2 x3 x4 x5 x6 M → At X g layM A 7 0 0 Z 11 [(0, .ref (ad g 0)), (1, .int x1), (2, .int x2), (3, .int x3), (4, .int x4), (5, .int x5), (6, .int x6)] [] M := by
  intro n
  induction n with
  | zero =>
    intro x1 x2 x3 x4 x5 x6 M h
    exact h.elim
  | succ n ih =>
    intro x1 x2 x3 x4 x5 x6 M h
    refine a_iload C (tk T_cX12_greatestChance 8 rfl) rfl ?_
    refine a_aload_n C (tk T_cX12_greatestChance 9 rfl) rfl ?_
    refine a_getR C f_RX12_13 (tk T_cX12_greatestChance 10 rfl) lm0 rfl ?_
    refine a_bipush C (11 : Int32) (tk T_cX12_greatestChance 11 rfl) kB_11 ?_
    obtain ⟨hb, h⟩ := h
    refine a_iald C (tk T_cX12_greatestChance 12 rfl) lm1 hb ?_
    refine a_icmp_ge C 77 (tk T_cX12_greatestChance 13 rfl) rfl (fun c => ?_) (fun c => ?_)
    · have h := h.1 c
      refine a_aload_n C (tk T_cX12_greatestChance 44 rfl) rfl ?_
      refine a_iload C (tk T_cX12_greatestChance 45 rfl) rfl ?_
      refine a_put C f_RX12_254 f_RX12_254p rfl rfl (tk T_cX12_greatestChance 46 rfl) lm0 rfl ?_
      refine a_mem (fun M1 e_M1 => ?_)
      have h := h M1 e_M1
      refine a_aload_n C (tk T_cX12_greatestChance 47 rfl) rfl ?_
      refine a_iload C (tk T_cX12_greatestChance 48 rfl) rfl ?_
      refine a_put C f_RX12_257 f_RX12_257p rfl rfl (tk T_cX12_greatestChance 49 rfl) lm0 rfl ?_
      refine a_mem (fun M2 e_M2 => ?_)
      have h := h M2 e_M2
      refine a_iload_n C (tk T_cX12_greatestChance 50 rfl) rfl ?_
      exact hR _ _ _ _ (tk T_cX12_greatestChance 51 rfl) h
    · have h := h.2 c
      refine a_aload_n C (tk T_cX12_greatestChance 14 rfl) rfl ?_
      refine a_iload_n C (tk T_cX12_greatestChance 15 rfl) rfl ?_
      refine a_iload_n C (tk T_cX12_greatestChance 16 rfl) rfl ?_
      refine a_iload C (tk T_cX12_greatestChance 17 rfl) rfl ?_
      refine a_callV C [.int x1, .int x2, .int x6] me_yX12_chances lk_RX12_266 (ct_M_chances h) (by decide) lm0 rfl rfl rfl (Nat.le_of_ble_eq_true rfl) (tk T_cX12_greatestChance 18 rfl) hr (fun M3 h => ?_)
      refine a_aload_n C (tk T_cX12_greatestChance 19 rfl) rfl ?_
      refine a_getI C f_RX12_254 (tk T_cX12_greatestChance 20 rfl) lm0 rfl ?_
      refine a_i2l C (tk T_cX12_greatestChance 21 rfl) ?_
      refine a_iload C (tk T_cX12_greatestChance 22 rfl) rfl ?_
      refine a_i2l C (tk T_cX12_greatestChance 23 rfl) ?_
      refine a_lmul C (tk T_cX12_greatestChance 24 rfl) ?_
      refine a_iload C (tk T_cX12_greatestChance 25 rfl) rfl ?_
      refine a_i2l C (tk T_cX12_greatestChance 26 rfl) ?_
      refine a_aload_n C (tk T_cX12_greatestChance 27 rfl) rfl ?_
      refine a_getI C f_RX12_257 (tk T_cX12_greatestChance 28 rfl) lm0 rfl ?_
      refine a_i2l C (tk T_cX12_greatestChance 29 rfl) ?_
      refine a_lmul C (tk T_cX12_greatestChance 30 rfl) ?_
      refine a_lcmp C (tk T_cX12_greatestChance 31 rfl) ?_
      refine a_if_gt C 56 (tk T_cX12_greatestChance 32 rfl) rfl (fun c => ?_) (fun c => ?_)
      · have h := h.1 c
        refine a_iload C (tk T_cX12_greatestChance 34 rfl) rfl ?_
        refine a_istore_n C (tk T_cX12_greatestChance 35 rfl) (by decide) ?_
        refine a_aload_n C (tk T_cX12_greatestChance 36 rfl) rfl ?_
        refine a_getI C f_RX12_254 (tk T_cX12_greatestChance 37 rfl) lm0 rfl ?_
        refine a_istore C (tk T_cX12_greatestChance 38 rfl) (by decide) ?_
        refine a_aload_n C (tk T_cX12_greatestChance 39 rfl) rfl ?_
        refine a_getI C f_RX12_257 (tk T_cX12_greatestChance 40 rfl) lm0 rfl ?_
        refine a_istore C (tk T_cX12_greatestChance 41 rfl) (by decide) ?_
        exact a_to (k_M_greatestChance_71 C hr hR ih x1 x2 x6 (M3 0 16) (M3 0 17) x6 M3 h) rfl
      · have h := h.2 c
        refine a_goto C 71 (tk T_cX12_greatestChance 33 rfl) rfl ?_
        exact a_to (k_M_greatestChance_71 C hr hR ih x1 x2 x3 x4 x5 x6 M3 h) rfl
def P_M_greatestChance (post : Int32 → Mem → Prop) (x1 x2 : Int32) (M : Mem) : Prop :=
  ∃ j11, P_M_greatestChance_11 post j11 x1 x2 (-1 : Int32) (0 : Int32) (1 : Int32) (0 : Int32) M
theorem k_M_greatestChance {X : FX} {g : GT} {A : Nat → Prop} {Z : State → Prop} {post : Int32 → Mem → Prop} (C : Cx X g layM A cX12_greatestChance 7 RX12 6) (hr : 0 ≤ X.2.2.2.1.cells ∧ 0 ≤ X.2.2.2.1.slots) (hR : RetI X g layM A cX12_greatestChance 7 0 0 Z post) (x1 x2 : Int32) (M : Mem) (h : P_M_greatestChance post x1 x2 M) : At X g layM A 7 0 0 Z 0 [(0, .ref (ad g 0)), (1, .int x1), (2, .int x2)] [] M := by
  refine a_iconst C (-1 : Int32) (tk T_cX12_greatestChance 0 rfl) kI_m1 ?_
  refine a_istore_n C (tk T_cX12_greatestChance 1 rfl) (by decide) ?_
  refine a_iconst C (0 : Int32) (tk T_cX12_greatestChance 2 rfl) kI_0 ?_
  refine a_istore C (tk T_cX12_greatestChance 3 rfl) (by decide) ?_
  refine a_iconst C (1 : Int32) (tk T_cX12_greatestChance 4 rfl) kI_1 ?_
  refine a_istore C (tk T_cX12_greatestChance 5 rfl) (by decide) ?_
  refine a_iconst C (0 : Int32) (tk T_cX12_greatestChance 6 rfl) kI_0 ?_
  refine a_istore C (tk T_cX12_greatestChance 7 rfl) (by decide) ?_
  obtain ⟨n1, h⟩ := h
  exact a_to (k_M_greatestChance_11 C hr hR n1 x1 x2 (-1 : Int32) (0 : Int32) (1 : Int32) (0 : Int32) M h) rfl
theorem ct_M_greatestChance {l : Launch} {g : GT} {post : Int32 → Mem → Prop} {x1 x2 : Int32} {M : Mem} (h : P_M_greatestChance post x1 x2 M) : CI l g layM yX12_greatestChance cX12_greatestChance 7 (some .int) 6 [.ref (ad g 0), .int x1, .int x2] M post :=
  ci_of (plainFor_of_name (by decide +kernel)) (Nat.le_of_ble_eq_true rfl) rfl (fun X A Z hl C hr hR => by subst hl; exact k_M_greatestChance C hr hR x1 x2 M h)
def T_cX12_likelyL : List (Nat × Instr × Nat) := [(0, .aload_n 0, 1), (1, .iconst 0, 1), (2, .putfield 3, 3), (5, .aload_n 0, 1), (6, .aload_n 0, 1), (7, .iload_n 1, 1), (8, .bipush 8, 2), (10, .invokevirtual 121, 3), (13, .iconst 1, 1), (14, .invokevirtual 72, 3), (17, .ifCond .eq 5, 3), (20, .iconst 0, 1), (21, .ireturn, 1), (22, .aload_n 0, 1), (23, .invokevirtual 197, 3), (26, .aload_n 0, 1), (27, .iload_n 1, 1), (28, .iload_n 2, 1), (29, .invokevirtual 269, 3), (32, .ireturn, 1)]
theorem T_cX12_likely : tabOK cX12_likely T_cX12_likelyL = true := by decide +kernel
def P_M_likely (post : Int32 → Mem → Prop) (x1 x2 : Int32) (M : Mem) : Prop :=
  ∀ M1, M1 = ms M 0 0 (0 : Int32) → P_M_none (fun r2 M2 =>
  P_M_throwsIf (fun r3 M3 =>
  (r3 = 0 → (P_M_spans (fun M4 =>
  P_M_greatestChance (fun r5 M5 =>
  post r5 M5) x1 x2 M4) M3)) ∧
  (¬ r3 = 0 → (post (0 : Int32) M3))) r2 (1 : Int32) M2) x1 (8 : Int32) M1
theorem k_M_likely {X : FX} {g : GT} {A : Nat → Prop} {Z : State → Prop} {post : Int32 → Mem → Prop} (C : Cx X g layM A cX12_likely 3 RX12 7) (hr : 0 ≤ X.2.2.2.1.cells ∧ 0 ≤ X.2.2.2.1.slots) (hR : RetI X g layM A cX12_likely 3 0 0 Z post) (x1 x2 : Int32) (M : Mem) (h : P_M_likely post x1 x2 M) : At X g layM A 3 0 0 Z 0 [(0, .ref (ad g 0)), (1, .int x1), (2, .int x2)] [] M := by
  refine a_aload_n C (tk T_cX12_likely 0 rfl) rfl ?_
  refine a_iconst C (0 : Int32) (tk T_cX12_likely 1 rfl) kI_0 ?_
  refine a_put C f_RX12_3 f_RX12_3p rfl rfl (tk T_cX12_likely 2 rfl) lm0 rfl ?_
  refine a_mem (fun M1 e_M1 => ?_)
  have h := h M1 e_M1
  refine a_aload_n C (tk T_cX12_likely 3 rfl) rfl ?_
  refine a_aload_n C (tk T_cX12_likely 4 rfl) rfl ?_
  refine a_iload_n C (tk T_cX12_likely 5 rfl) rfl ?_
  refine a_bipush C (8 : Int32) (tk T_cX12_likely 6 rfl) kB_8 ?_
  refine a_callI C [.int x1, .int (8 : Int32)] me_yX12_none lk_RX12_121 (ct_M_none h) (by decide) lm0 rfl rfl rfl (Nat.le_of_ble_eq_true rfl) (tk T_cX12_likely 7 rfl) hr (fun r2 M2 h => ?_)
  refine a_iconst C (1 : Int32) (tk T_cX12_likely 8 rfl) kI_1 ?_
  refine a_callI C [.int r2, .int (1 : Int32)] me_yX12_throwsIf lk_RX12_72 (ct_M_throwsIf h) (by decide) lm0 rfl rfl rfl (Nat.le_of_ble_eq_true rfl) (tk T_cX12_likely 9 rfl) hr (fun r3 M3 h => ?_)
  refine a_if_eq C 22 (tk T_cX12_likely 10 rfl) rfl (fun c => ?_) (fun c => ?_)
  · have h := h.1 c
    refine a_aload_n C (tk T_cX12_likely 13 rfl) rfl ?_
    refine a_callV C [] me_yX12_spans lk_RX12_197 (ct_M_spans h) (by decide) lm0 rfl rfl rfl (Nat.le_of_ble_eq_true rfl) (tk T_cX12_likely 14 rfl) hr (fun M4 h => ?_)
    refine a_aload_n C (tk T_cX12_likely 15 rfl) rfl ?_
    refine a_iload_n C (tk T_cX12_likely 16 rfl) rfl ?_
    refine a_iload_n C (tk T_cX12_likely 17 rfl) rfl ?_
    refine a_callI C [.int x1, .int x2] me_yX12_greatestChance lk_RX12_269 (ct_M_greatestChance h) (by decide) lm0 rfl rfl rfl (Nat.le_of_ble_eq_true rfl) (tk T_cX12_likely 18 rfl) hr (fun r5 M5 h => ?_)
    exact hR _ _ _ _ (tk T_cX12_likely 19 rfl) h
  · have h := h.2 c
    refine a_iconst C (0 : Int32) (tk T_cX12_likely 11 rfl) kI_0 ?_
    exact hR _ _ _ _ (tk T_cX12_likely 12 rfl) h
theorem ct_M_likely {l : Launch} {g : GT} {post : Int32 → Mem → Prop} {x1 x2 : Int32} {M : Mem} (h : P_M_likely post x1 x2 M) : CI l g layM yX12_likely cX12_likely 3 (some .int) 7 [.ref (ad g 0), .int x1, .int x2] M post :=
  ci_of (plainFor_of_name (by decide +kernel)) (Nat.le_of_ble_eq_true rfl) rfl (fun X A Z hl C hr hR => by subst hl; exact k_M_likely C hr hR x1 x2 M h)
def T_cX12_forgedL : List (Nat × Instr × Nat) := [(0, .aload_n 0, 1), (1, .iconst 0, 1), (2, .putfield 3, 3), (5, .aload_n 0, 1), (6, .iload_n 1, 1), (7, .iload_n 3, 1), (8, .invokevirtual 263, 3), (11, .ifCond .eq 5, 3), (14, .iconst 0, 1), (15, .ireturn, 1), (16, .aload_n 0, 1), (17, .invokevirtual 197, 3), (20, .aload_n 0, 1), (21, .iload_n 1, 1), (22, .iload_n 2, 1), (23, .invokevirtual 269, 3), (26, .pop, 1), (27, .aload_n 0, 1), (28, .getfield 254, 3), (31, .istore 4, 2), (33, .aload_n 0, 1), (34, .getfield 257, 3), (37, .istore 5, 2), (39, .aload_n 0, 1), (40, .iload_n 1, 1), (41, .iload_n 2, 1), (42, .iload_n 3, 1), (43, .invokevirtual 266, 3), (46, .aload_n 0, 1), (47, .getfield 254, 3), (50, .iload 4, 2), (52, .if_icmp .ne 12, 3), (55, .aload_n 0, 1), (56, .getfield 257, 3), (59, .iload 5, 2), (61, .if_icmp .eq 7, 3), (64, .iconst 1, 1), (65, .goto 4, 3), (68, .iconst 0, 1), (69, .ireturn, 1)]
theorem T_cX12_forged : tabOK cX12_forged T_cX12_forgedL = true := by decide +kernel
def P_M_forged_69 (post : Int32 → Mem → Prop) (s0 : Int32) (M : Mem) : Prop :=
  (s0 = 0 ∨ s0 = 1) ∧ post s0 M
theorem k_M_forged_69 {X : FX} {g : GT} {A : Nat → Prop} {Z : State → Prop} {post : Int32 → Mem → Prop} (C : Cx X g layM A cX12_forged 6 RX12 7) (hr : 0 ≤ X.2.2.2.1.cells ∧ 0 ≤ X.2.2.2.1.slots) (hR : RetZ X g layM A cX12_forged 6 0 0 Z post) (s0 : Int32) (M : Mem) (h : P_M_forged_69 post s0 M) : At X g layM A 6 0 0 Z 69 [] [.int s0] M := by
  exact hR _ _ _ _ (tk T_cX12_forged 39 rfl) h
def P_M_forged_64 (post : Int32 → Mem → Prop) (M : Mem) : Prop :=
  P_M_forged_69 post (1 : Int32) M
theorem k_M_forged_64 {X : FX} {g : GT} {A : Nat → Prop} {Z : State → Prop} {post : Int32 → Mem → Prop} (C : Cx X g layM A cX12_forged 6 RX12 7) (hr : 0 ≤ X.2.2.2.1.cells ∧ 0 ≤ X.2.2.2.1.slots) (hR : RetZ X g layM A cX12_forged 6 0 0 Z post)  (M : Mem) (h : P_M_forged_64 post M) : At X g layM A 6 0 0 Z 64 [] [] M := by
  refine a_iconst C (1 : Int32) (tk T_cX12_forged 36 rfl) kI_1 ?_
  refine a_goto C 69 (tk T_cX12_forged 37 rfl) rfl ?_
  exact a_to (k_M_forged_69 C hr hR (1 : Int32) M h) rfl
def P_M_forged (post : Int32 → Mem → Prop) (x1 x2 x3 : Int32) (M : Mem) : Prop :=
  ∀ M1, M1 = ms M 0 0 (0 : Int32) → P_M_noChance (fun r2 M2 =>
  (r2 = 0 → (P_M_spans (fun M3 =>
  P_M_greatestChance (fun r4 M4 =>
  P_M_chances (fun M5 =>
  (¬ (M5 0 16) = (M4 0 16) → (P_M_forged_64 post M5)) ∧
  ((M5 0 16) = (M4 0 16) → (((M5 0 17) = (M4 0 17) → (P_M_forged_69 post (0 : Int32) M5)) ∧
  (¬ (M5 0 17) = (M4 0 17) → (P_M_forged_64 post M5))))) x1 x2 x3 M4) x1 x2 M3) M2)) ∧
  (¬ r2 = 0 → (post (0 : Int32) M2))) x1 x3 M1
theorem k_M_forged {X : FX} {g : GT} {A : Nat → Prop} {Z : State → Prop} {post : Int32 → Mem → Prop} (C : Cx X g layM A cX12_forged 6 RX12 7) (hr : 0 ≤ X.2.2.2.1.cells ∧ 0 ≤ X.2.2.2.1.slots) (hR : RetZ X g layM A cX12_forged 6 0 0 Z post) (x1 x2 x3 : Int32) (M : Mem) (h : P_M_forged post x1 x2 x3 M) : At X g layM A 6 0 0 Z 0 [(0, .ref (ad g 0)), (1, .int x1), (2, .int x2), (3, .int x3)] [] M := by
  refine a_aload_n C (tk T_cX12_forged 0 rfl) rfl ?_
  refine a_iconst C (0 : Int32) (tk T_cX12_forged 1 rfl) kI_0 ?_
  refine a_put C f_RX12_3 f_RX12_3p rfl rfl (tk T_cX12_forged 2 rfl) lm0 rfl ?_
  refine a_mem (fun M1 e_M1 => ?_)
  have h := h M1 e_M1
  refine a_aload_n C (tk T_cX12_forged 3 rfl) rfl ?_
  refine a_iload_n C (tk T_cX12_forged 4 rfl) rfl ?_
  refine a_iload_n C (tk T_cX12_forged 5 rfl) rfl ?_
  refine a_callI C [.int x1, .int x3] me_yX12_noChance lk_RX12_263 (ct_M_noChance h) (by decide) lm0 rfl rfl rfl (Nat.le_of_ble_eq_true rfl) (tk T_cX12_forged 6 rfl) hr (fun r2 M2 h => ?_)
  refine a_if_eq C 16 (tk T_cX12_forged 7 rfl) rfl (fun c => ?_) (fun c => ?_)
  · have h := h.1 c
    refine a_aload_n C (tk T_cX12_forged 10 rfl) rfl ?_
    refine a_callV C [] me_yX12_spans lk_RX12_197 (ct_M_spans h) (by decide) lm0 rfl rfl rfl (Nat.le_of_ble_eq_true rfl) (tk T_cX12_forged 11 rfl) hr (fun M3 h => ?_)
    refine a_aload_n C (tk T_cX12_forged 12 rfl) rfl ?_
    refine a_iload_n C (tk T_cX12_forged 13 rfl) rfl ?_
    refine a_iload_n C (tk T_cX12_forged 14 rfl) rfl ?_
    refine a_callI C [.int x1, .int x2] me_yX12_greatestChance lk_RX12_269 (ct_M_greatestChance h) (by decide) lm0 rfl rfl rfl (Nat.le_of_ble_eq_true rfl) (tk T_cX12_forged 15 rfl) hr (fun r4 M4 h => ?_)
    refine a_popi C (tk T_cX12_forged 16 rfl) ?_
    refine a_aload_n C (tk T_cX12_forged 17 rfl) rfl ?_
    refine a_getI C f_RX12_254 (tk T_cX12_forged 18 rfl) lm0 rfl ?_
    refine a_istore C (tk T_cX12_forged 19 rfl) (by decide) ?_
    refine a_aload_n C (tk T_cX12_forged 20 rfl) rfl ?_
    refine a_getI C f_RX12_257 (tk T_cX12_forged 21 rfl) lm0 rfl ?_
    refine a_istore C (tk T_cX12_forged 22 rfl) (by decide) ?_
    refine a_aload_n C (tk T_cX12_forged 23 rfl) rfl ?_
    refine a_iload_n C (tk T_cX12_forged 24 rfl) rfl ?_
    refine a_iload_n C (tk T_cX12_forged 25 rfl) rfl ?_
    refine a_iload_n C (tk T_cX12_forged 26 rfl) rfl ?_
    refine a_callV C [.int x1, .int x2, .int x3] me_yX12_chances lk_RX12_266 (ct_M_chances h) (by decide) lm0 rfl rfl rfl (Nat.le_of_ble_eq_true rfl) (tk T_cX12_forged 27 rfl) hr (fun M5 h => ?_)
    refine a_aload_n C (tk T_cX12_forged 28 rfl) rfl ?_
    refine a_getI C f_RX12_254 (tk T_cX12_forged 29 rfl) lm0 rfl ?_
    refine a_iload C (tk T_cX12_forged 30 rfl) rfl ?_
    refine a_icmp_ne C 64 (tk T_cX12_forged 31 rfl) rfl (fun c => ?_) (fun c => ?_)
    · have h := h.1 c
      exact a_to (k_M_forged_64 C hr hR M5 h) rfl
    · have h := h.2 c
      refine a_aload_n C (tk T_cX12_forged 32 rfl) rfl ?_
      refine a_getI C f_RX12_257 (tk T_cX12_forged 33 rfl) lm0 rfl ?_
      refine a_iload C (tk T_cX12_forged 34 rfl) rfl ?_
      refine a_icmp_eq C 68 (tk T_cX12_forged 35 rfl) rfl (fun c => ?_) (fun c => ?_)
      · have h := h.1 c
        refine a_iconst C (0 : Int32) (tk T_cX12_forged 38 rfl) kI_0 ?_
        exact a_to (k_M_forged_69 C hr hR (0 : Int32) M5 h) rfl
      · have h := h.2 c
        exact a_to (k_M_forged_64 C hr hR M5 h) rfl
  · have h := h.2 c
    refine a_iconst C (0 : Int32) (tk T_cX12_forged 8 rfl) kI_0 ?_
    exact hR _ _ _ _ (tk T_cX12_forged 9 rfl) ⟨Or.inl rfl, h⟩
theorem ct_M_forged {l : Launch} {g : GT} {post : Int32 → Mem → Prop} {x1 x2 x3 : Int32} {M : Mem} (h : P_M_forged post x1 x2 x3 M) : CI l g layM yX12_forged cX12_forged 6 (some .boolean) 7 [.ref (ad g 0), .int x1, .int x2, .int x3] M post :=
  cz_of (plainFor_of_name (by decide +kernel)) (Nat.le_of_ble_eq_true rfl) rfl (fun X A Z hl C hr hR => by subst hl; exact k_M_forged C hr hR x1 x2 x3 M h)
