def T_cX12_gathersL : List (Nat × Instr × Nat) := [(0, .aload_n 0, 1), (1, .iconst 0, 1), (2, .putfield 230, 3), (5, .aload_n 0, 1), (6, .iload_n 1, 1), (7, .iload_n 2, 1), (8, .iconst 0, 1), (9, .invokevirtual 188, 3), (12, .istore_n 3, 1), (13, .iconst 0, 1), (14, .istore 4, 2), (16, .iload 4, 2), (18, .aload_n 0, 1), (19, .invokevirtual 128, 3), (22, .if_icmp .ge 93, 3), (25, .aload_n 0, 1), (26, .getfield 230, 3), (29, .bipush 10, 2), (31, .if_icmp .ge 84, 3), (34, .iload_n 3, 1), (35, .iload 4, 2), (37, .ishr, 1), (38, .iconst 1, 1), (39, .iand, 1), (40, .ifCond .eq 69, 3), (43, .aload_n 0, 1), (44, .iload 4, 2), (46, .invokevirtual 142, 3), (49, .ifCond .ne 6, 3), (52, .goto 57, 3), (55, .aload_n 0, 1), (56, .getfield 26, 3), (59, .iload 4, 2), (61, .iaload, 1), (62, .aload_n 0, 1), (63, .getfield 29, 3), (66, .iload 4, 2), (68, .iaload, 1), (69, .iadd, 1), (70, .iconst 2, 1), (71, .invokestatic 100, 3), (74, .istore 5, 2), (76, .iload 5, 2), (78, .iconst 1, 1), (79, .if_icmp .ge 6, 3), (82, .goto 27, 3), (85, .aload_n 0, 1), (86, .getfield 32, 3), (89, .aload_n 0, 1), (90, .getfield 230, 3), (93, .ldc 233, 2), (95, .iload 5, 2), (97, .idiv, 1), (98, .iastore, 1), (99, .aload_n 0, 1), (100, .dup, 1), (101, .getfield 230, 3), (104, .iconst 1, 1), (105, .iadd, 1), (106, .putfield 230, 3), (109, .iinc 4 1, 3), (112, .goto (-96), 3), (115, .return_, 1)]
theorem T_cX12_gathers : tabOK cX12_gathers T_cX12_gathersL = true := by decide +kernel
def P_M_gathers_115 (post : Mem → Prop) (M : Mem) : Prop :=
  post M
theorem k_M_gathers_115 {X : FX} {g : GT} {A : Nat → Prop} {Z : State → Prop} {post : Mem → Prop} (C : Cx X g layM A cX12_gathers 6 RX12 4) (hr : 0 ≤ X.2.2.2.1.cells ∧ 0 ≤ X.2.2.2.1.slots) (hR : RetV X g layM A cX12_gathers 6 0 0 Z post)  (M : Mem) (h : P_M_gathers_115 post M) : AtX X g layM A 6 0 0 Z 115 [] [] M := by
  exact hR _ _ _ (tk T_cX12_gathers 62 rfl) h
def P_M_gathers_109 (post : Mem → Prop) (R16 : Int32 → Int32 → Mem → Prop) (x3 x4 : Int32) (M : Mem) : Prop :=
  R16 x3 (x4 + (1 : Int32)) M
theorem k_M_gathers_109 {X : FX} {g : GT} {A : Nat → Prop} {Z : State → Prop} {post : Mem → Prop} {R16 : Int32 → Int32 → Mem → Prop} (C : Cx X g layM A cX12_gathers 6 RX12 4) (hr : 0 ≤ X.2.2.2.1.cells ∧ 0 ≤ X.2.2.2.1.slots) (hR : RetV X g layM A cX12_gathers 6 0 0 Z post) (k16 : ∀ (y3 y4 : Int32) (M : Mem), R16 y3 y4 M → AtX X g layM A 6 0 0 Z 16 [(0, .ref (ad g 0)), (3, .int y3), (4, .int y4)] [] M) (x3 x4 : Int32) (M : Mem) (h : P_M_gathers_109 post R16 x3 x4 M) : AtX X g layM A 6 0 0 Z 109 [(0, .ref (ad g 0)), (3, .int x3), (4, .int x4)] [] M := by
  refine a_iinc C (1 : Int32) (tk T_cX12_gathers 60 rfl) rfl kI_1 (by decide) rfl ?_
  refine a_goto C 16 (tk T_cX12_gathers 61 rfl) rfl ?_
  exact a_to (k16 x3 (x4 + (1 : Int32)) M h) rfl
def P_M_gathers_16 (post : Mem → Prop) : Nat → Int32 → Int32 → Mem → Prop
  | 0, _, _, _ => False
  | n + 1, x3, x4, M =>
    P_M_readings (fun r1 M1 =>
  (r1 ≤ x4 → (P_M_gathers_115 post M1)) ∧
  (¬ r1 ≤ x4 → (((10 : Int32) ≤ (M1 0 14) → (P_M_gathers_115 post M1)) ∧
  (¬ (10 : Int32) ≤ (M1 0 14) → ((((x3 >>> (x4 &&& 31)) &&& (1 : Int32)) = 0 → (P_M_gathers_109 post (P_M_gathers_16 post n) x3 x4 M1)) ∧
  (¬ ((x3 >>> (x4 &&& 31)) &&& (1 : Int32)) = 0 → (P_M_hasSpan (fun r2 M2 =>
  (¬ r2 = 0 → (vp_in x4 24 ∧ vp_in x4 24 ∧ P_Math_floorDiv (fun r3 M3 =>
  ((1 : Int32) ≤ r3 → ((¬ r3 = 0) ∧ vp_in (M3 0 14) 10 ∧ ∀ M4, M4 = ms M3 7 (M3 0 14).toNatClampNeg ((10000000 : Int32) / r3) → ∀ M5, M5 = ms M4 0 14 ((M4 0 14) + (1 : Int32)) → P_M_gathers_109 post (P_M_gathers_16 post n) x3 x4 M5)) ∧
  (¬ (1 : Int32) ≤ r3 → (P_M_gathers_109 post (P_M_gathers_16 post n) x3 x4 M3))) ((M2 5 x4.toNatClampNeg) + (M2 6 x4.toNatClampNeg)) (2 : Int32) M2)) ∧
  (r2 = 0 → (P_M_gathers_109 post (P_M_gathers_16 post n) x3 x4 M2))) x4 M1))))))) M
theorem k_M_gathers_16 {X : FX} {g : GT} {A : Nat → Prop} {Z : State → Prop} {post : Mem → Prop} (C : Cx X g layM A cX12_gathers 6 RX12 4) (hr : 0 ≤ X.2.2.2.1.cells ∧ 0 ≤ X.2.2.2.1.slots) (hR : RetV X g layM A cX12_gathers 6 0 0 Z post) : ∀ (n : Nat) (x3 x4 : Int32) (M : Mem), P_M_gathers_16 post n x3 x4 M → AtX X g layM A 6 0 0 Z 16 [(0, .ref (ad g 0)), (3, .int x3), (4, .int x4)] [] M := by
  intro n
  induction n with
  | zero =>
    intro x3 x4 M h
    exact h.elim
  | succ n ih =>
    intro x3 x4 M h
    refine a_iload C (tk T_cX12_gathers 11 rfl) rfl ?_
    refine a_aload_n C (tk T_cX12_gathers 12 rfl) rfl ?_
    refine a_callI C [] me_yX12_readings lk_RX12_128 (ct_M_readings h) (by decide) lm0 rfl rfl rfl (Nat.le_of_ble_eq_true rfl) (tk T_cX12_gathers 13 rfl) hr (fun r1 M1 h => ?_)
    refine a_icmp_ge C 115 (tk T_cX12_gathers 14 rfl) rfl (fun c => ?_) (fun c => ?_)
    · have h := h.1 c
      exact a_to (k_M_gathers_115 C hr hR M1 h) rfl
    · have h := h.2 c
      refine a_aload_n C (tk T_cX12_gathers 15 rfl) rfl ?_
      refine a_getI C f_RX12_230 (tk T_cX12_gathers 16 rfl) lm0 rfl ?_
      refine a_bipush C (10 : Int32) (tk T_cX12_gathers 17 rfl) kB_10 ?_
      refine a_icmp_ge C 115 (tk T_cX12_gathers 18 rfl) rfl (fun c => ?_) (fun c => ?_)
      · have h := h.1 c
        exact a_to (k_M_gathers_115 C hr hR M1 h) rfl
      · have h := h.2 c
        refine a_iload_n C (tk T_cX12_gathers 19 rfl) rfl ?_
        refine a_iload C (tk T_cX12_gathers 20 rfl) rfl ?_
        refine a_ishr C (tk T_cX12_gathers 21 rfl) ?_
        refine a_iconst C (1 : Int32) (tk T_cX12_gathers 22 rfl) kI_1 ?_
        refine a_iand C (tk T_cX12_gathers 23 rfl) ?_
        refine a_if_eq C 109 (tk T_cX12_gathers 24 rfl) rfl (fun c => ?_) (fun c => ?_)
        · have h := h.1 c
          exact a_to (k_M_gathers_109 C hr hR ih x3 x4 M1 h) rfl
        · have h := h.2 c
          refine a_aload_n C (tk T_cX12_gathers 25 rfl) rfl ?_
          refine a_iload C (tk T_cX12_gathers 26 rfl) rfl ?_
          refine a_callI C [.int x4] me_yX12_hasSpan lk_RX12_142 (ct_M_hasSpan h) (by decide) lm0 rfl rfl rfl (Nat.le_of_ble_eq_true rfl) (tk T_cX12_gathers 27 rfl) hr (fun r2 M2 h => ?_)
          refine a_if_ne C 55 (tk T_cX12_gathers 28 rfl) rfl (fun c => ?_) (fun c => ?_)
          · have h := h.1 c
            refine a_aload_n C (tk T_cX12_gathers 30 rfl) rfl ?_
            refine a_getR C f_RX12_26 (tk T_cX12_gathers 31 rfl) lm0 rfl ?_
            refine a_iload C (tk T_cX12_gathers 32 rfl) rfl ?_
            obtain ⟨hb, h⟩ := h
            refine a_iald C (tk T_cX12_gathers 33 rfl) lm5 hb ?_
            refine a_aload_n C (tk T_cX12_gathers 34 rfl) rfl ?_
            refine a_getR C f_RX12_29 (tk T_cX12_gathers 35 rfl) lm0 rfl ?_
            refine a_iload C (tk T_cX12_gathers 36 rfl) rfl ?_
            obtain ⟨hb, h⟩ := h
            refine a_iald C (tk T_cX12_gathers 37 rfl) lm6 hb ?_
            refine a_iadd C (tk T_cX12_gathers 38 rfl) ?_
            refine a_iconst C (2 : Int32) (tk T_cX12_gathers 39 rfl) kI_2 ?_
            refine a_statI C [.int ((M2 5 x4.toNatClampNeg) + (M2 6 x4.toNatClampNeg)), .int (2 : Int32)] me_yJ9_floorDiv_7cf53 lk_RX12_100 (ct_Math_floorDiv h) (by decide) rfl rfl (Nat.le_of_ble_eq_true rfl) (tk T_cX12_gathers 40 rfl) hr (fun r3 M3 h => ?_)
            refine a_istore C (tk T_cX12_gathers 41 rfl) (by decide) rfl ?_
            refine a_iload C (tk T_cX12_gathers 42 rfl) rfl ?_
            refine a_iconst C (1 : Int32) (tk T_cX12_gathers 43 rfl) kI_1 ?_
            refine a_icmp_ge C 85 (tk T_cX12_gathers 44 rfl) rfl (fun c => ?_) (fun c => ?_)
            · have h := h.1 c
              refine a_aload_n C (tk T_cX12_gathers 46 rfl) rfl ?_
              refine a_getR C f_RX12_32 (tk T_cX12_gathers 47 rfl) lm0 rfl ?_
              refine a_aload_n C (tk T_cX12_gathers 48 rfl) rfl ?_
              refine a_getI C f_RX12_230 (tk T_cX12_gathers 49 rfl) lm0 rfl ?_
              refine a_ldc C c_RX12_233 (tk T_cX12_gathers 50 rfl) ?_
              refine a_iload C (tk T_cX12_gathers 51 rfl) rfl ?_
              obtain ⟨hy, h⟩ := h
              refine a_idiv C (tk T_cX12_gathers 52 rfl) hy ?_
              obtain ⟨hb, h⟩ := h
              refine a_iast C (tk T_cX12_gathers 53 rfl) lm7 hb ?_
              refine a_mem (fun M4 e_M4 => ?_)
              have h := h M4 e_M4
              refine a_aload_n C (tk T_cX12_gathers 54 rfl) rfl ?_
              refine a_dupr C (tk T_cX12_gathers 55 rfl) ?_
              refine a_getI C f_RX12_230 (tk T_cX12_gathers 56 rfl) lm0 rfl ?_
              refine a_iconst C (1 : Int32) (tk T_cX12_gathers 57 rfl) kI_1 ?_
              refine a_iadd C (tk T_cX12_gathers 58 rfl) ?_
              refine a_put C f_RX12_230 f_RX12_230p rfl rfl (tk T_cX12_gathers 59 rfl) lm0 rfl ?_
              refine a_mem (fun M5 e_M5 => ?_)
              have h := h M5 e_M5
              exact a_to (k_M_gathers_109 C hr hR ih x3 x4 M5 h) rfl
            · have h := h.2 c
              refine a_goto C 109 (tk T_cX12_gathers 45 rfl) rfl ?_
              exact a_to (k_M_gathers_109 C hr hR ih x3 x4 M3 h) rfl
          · have h := h.2 c
            refine a_goto C 109 (tk T_cX12_gathers 29 rfl) rfl ?_
            exact a_to (k_M_gathers_109 C hr hR ih x3 x4 M2 h) rfl
def P_M_gathers (post : Mem → Prop) (x1 x2 : Int32) (M : Mem) : Prop :=
  ∀ M1, M1 = ms M 0 14 (0 : Int32) → P_M_leftOf (fun r2 M2 =>
  ∃ j16, P_M_gathers_16 post j16 r2 (0 : Int32) M2) x1 x2 (0 : Int32) M1
theorem k_M_gathers {X : FX} {g : GT} {A : Nat → Prop} {Z : State → Prop} {post : Mem → Prop} (C : Cx X g layM A cX12_gathers 6 RX12 4) (hr : 0 ≤ X.2.2.2.1.cells ∧ 0 ≤ X.2.2.2.1.slots) (hR : RetV X g layM A cX12_gathers 6 0 0 Z post) (x1 x2 : Int32) (M : Mem) (h : P_M_gathers post x1 x2 M) : AtX X g layM A 6 0 0 Z 0 [(0, .ref (ad g 0)), (1, .int x1), (2, .int x2)] [] M := by
  refine a_aload_n C (tk T_cX12_gathers 0 rfl) rfl ?_
  refine a_iconst C (0 : Int32) (tk T_cX12_gathers 1 rfl) kI_0 ?_
  refine a_put C f_RX12_230 f_RX12_230p rfl rfl (tk T_cX12_gathers 2 rfl) lm0 rfl ?_
  refine a_mem (fun M1 e_M1 => ?_)
  have h := h M1 e_M1
  refine a_aload_n C (tk T_cX12_gathers 3 rfl) rfl ?_
  refine a_iload_n C (tk T_cX12_gathers 4 rfl) rfl ?_
  refine a_iload_n C (tk T_cX12_gathers 5 rfl) rfl ?_
  refine a_iconst C (0 : Int32) (tk T_cX12_gathers 6 rfl) kI_0 ?_
  refine a_callI C [.int x1, .int x2, .int (0 : Int32)] me_yX12_leftOf lk_RX12_188 (ct_M_leftOf h) (by decide) lm0 rfl rfl rfl (Nat.le_of_ble_eq_true rfl) (tk T_cX12_gathers 7 rfl) hr (fun r2 M2 h => ?_)
  refine a_istore_n C (tk T_cX12_gathers 8 rfl) (by decide) rfl ?_
  refine a_iconst C (0 : Int32) (tk T_cX12_gathers 9 rfl) kI_0 ?_
  refine a_istore C (tk T_cX12_gathers 10 rfl) (by decide) rfl ?_
  obtain ⟨n1, h⟩ := h
  exact a_to (k_M_gathers_16 C hr hR n1 r2 (0 : Int32) M2 h) rfl
theorem ct_M_gathers {l : Launch} {g : GT} {post : Mem → Prop} {x1 x2 : Int32} {M : Mem} (h : P_M_gathers post x1 x2 M) : CV l g layM yX12_gathers cX12_gathers 6 none 4 [.ref (ad g 0), .int x1, .int x2] M post :=
  cv_of (plainFor_of_name (by decide +kernel)) (Nat.le_of_ble_eq_true rfl) (fun X A Z hl C hr hR => by subst hl; exact k_M_gathers C hr hR x1 x2 M h)
def T_cX12_mostPairsL : List (Nat × Instr × Nat) := [(0, .iconst 1, 1), (1, .aload_n 0, 1), (2, .getfield 230, 3), (5, .ishl, 1), (6, .istore_n 3, 1), (7, .aload_n 0, 1), (8, .getfield 35, 3), (11, .iconst 0, 1), (12, .iconst 0, 1), (13, .iastore, 1), (14, .iconst 1, 1), (15, .istore 4, 2), (17, .iload 4, 2), (19, .iload_n 3, 1), (20, .if_icmp .ge 132, 3), (23, .iload 4, 2), (25, .invokestatic 234, 3), (28, .istore 5, 2), (30, .iload 4, 2), (32, .iload 4, 2), (34, .iconst 1, 1), (35, .isub, 1), (36, .iand, 1), (37, .istore 6, 2), (39, .aload_n 0, 1), (40, .getfield 35, 3), (43, .iload 4, 2), (45, .aload_n 0, 1), (46, .getfield 35, 3), (49, .iload 6, 2), (51, .iaload, 1), (52, .iastore, 1), (53, .iload 5, 2), (55, .iconst 1, 1), (56, .iadd, 1), (57, .istore 7, 2), (59, .iload 7, 2), (61, .aload_n 0, 1), (62, .getfield 230, 3), (65, .if_icmp .ge 81, 3), (68, .iload 6, 2), (70, .iload 7, 2), (72, .ishr, 1), (73, .iconst 1, 1), (74, .iand, 1), (75, .ifCond .eq 65, 3), (78, .aload_n 0, 1), (79, .getfield 32, 3), (82, .iload 5, 2), (84, .iaload, 1), (85, .aload_n 0, 1), (86, .getfield 32, 3), (89, .iload 7, 2), (91, .iaload, 1), (92, .isub, 1), (93, .invokestatic 87, 3), (96, .iload_n 1, 1), (97, .iload_n 2, 1), (98, .invokestatic 58, 3), (101, .ifCond .ne 6, 3), (104, .goto 36, 3), (107, .aload_n 0, 1), (108, .getfield 35, 3), (111, .iload 4, 2), (113, .aload_n 0, 1), (114, .getfield 35, 3), (117, .iload 4, 2), (119, .iaload, 1), (120, .iconst 1, 1), (121, .aload_n 0, 1), (122, .getfield 35, 3), (125, .iload 6, 2), (127, .iconst 1, 1), (128, .iload 7, 2), (130, .ishl, 1), (131, .iconst (-1), 1), (132, .ixor, 1), (133, .iand, 1), (134, .iaload, 1), (135, .iadd, 1), (136, .invokestatic 106, 3), (139, .iastore, 1), (140, .iinc 7 1, 3), (143, .goto (-84), 3), (146, .iinc 4 1, 3), (149, .goto (-132), 3), (152, .aload_n 0, 1), (153, .getfield 35, 3), (156, .iload_n 3, 1), (157, .iconst 1, 1), (158, .isub, 1), (159, .iaload, 1), (160, .ireturn, 1)]
theorem T_cX12_mostPairs : tabOK cX12_mostPairs T_cX12_mostPairsL = true := by decide +kernel
def P_M_mostPairs_140 (post : Int32 → Mem → Prop) (R17 : Int32 → Int32 → Int32 → Int32 → Mem → Prop) (R59 : Int32 → Int32 → Int32 → Int32 → Int32 → Int32 → Int32 → Mem → Prop) (x1 x2 x3 x4 x5 x6 x7 : Int32) (M : Mem) : Prop :=
  R59 x1 x2 x3 x4 x5 x6 (x7 + (1 : Int32)) M
theorem k_M_mostPairs_140 {X : FX} {g : GT} {A : Nat → Prop} {Z : State → Prop} {post : Int32 → Mem → Prop} {R17 : Int32 → Int32 → Int32 → Int32 → Mem → Prop} {R59 : Int32 → Int32 → Int32 → Int32 → Int32 → Int32 → Int32 → Mem → Prop} (C : Cx X g layM A cX12_mostPairs 8 RX12 1) (hr : 0 ≤ X.2.2.2.1.cells ∧ 0 ≤ X.2.2.2.1.slots) (hR : RetI X g layM A cX12_mostPairs 8 0 0 Z post) (k17 : ∀ (y1 y2 y3 y4 : Int32) (M : Mem), R17 y1 y2 y3 y4 M → AtX X g layM A 8 0 0 Z 17 [(0, .ref (ad g 0)), (1, .int y1), (2, .int y2), (3, .int y3), (4, .int y4)] [] M) (k59 : ∀ (y1 y2 y3 y4 y5 y6 y7 : Int32) (M : Mem), R59 y1 y2 y3 y4 y5 y6 y7 M → AtX X g layM A 8 0 0 Z 59 [(0, .ref (ad g 0)), (1, .int y1), (2, .int y2), (3, .int y3), (4, .int y4), (5, .int y5), (6, .int y6), (7, .int y7)] [] M) (x1 x2 x3 x4 x5 x6 x7 : Int32) (M : Mem) (h : P_M_mostPairs_140 post R17 R59 x1 x2 x3 x4 x5 x6 x7 M) : AtX X g layM A 8 0 0 Z 140 [(0, .ref (ad g 0)), (1, .int x1), (2, .int x2), (3, .int x3), (4, .int x4), (5, .int x5), (6, .int x6), (7, .int x7)] [] M := by
  refine a_iinc C (1 : Int32) (tk T_cX12_mostPairs 82 rfl) rfl kI_1 (by decide) rfl ?_
  refine a_goto C 59 (tk T_cX12_mostPairs 83 rfl) rfl ?_
  exact a_to (k59 x1 x2 x3 x4 x5 x6 (x7 + (1 : Int32)) M h) rfl
def P_M_mostPairs_59 (post : Int32 → Mem → Prop) (R17 : Int32 → Int32 → Int32 → Int32 → Mem → Prop) : Nat → Int32 → Int32 → Int32 → Int32 → Int32 → Int32 → Int32 → Mem → Prop
  | 0, _, _, _, _, _, _, _, _ => False
  | n + 1, x1, x2, x3, x4, x5, x6, x7, M =>
    ((M 0 14) ≤ x7 → (R17 x1 x2 x3 (x4 + (1 : Int32)) M)) ∧
  (¬ (M 0 14) ≤ x7 → ((((x6 >>> (x7 &&& 31)) &&& (1 : Int32)) = 0 → (P_M_mostPairs_140 post R17 (P_M_mostPairs_59 post R17 n) x1 x2 x3 x4 x5 x6 x7 M)) ∧
  (¬ ((x6 >>> (x7 &&& 31)) &&& (1 : Int32)) = 0 → (vp_in x5 10 ∧ vp_in x7 10 ∧ P_Math_abs (fun r1 M1 =>
  P_M_in (fun r2 M2 =>
  (¬ r2 = 0 → (vp_in x4 1024 ∧ ∀ i3, i3 = (x6 &&& (((1 : Int32) <<< (x7 &&& 31)) ^^^ (-1 : Int32))) → vp_in i3 1024 ∧ P_Math_max (fun r4 M4 =>
  vp_in x4 1024 ∧ ∀ M5, M5 = ms M4 8 x4.toNatClampNeg r4 → P_M_mostPairs_140 post R17 (P_M_mostPairs_59 post R17 n) x1 x2 x3 x4 x5 x6 x7 M5) (M2 8 x4.toNatClampNeg) ((1 : Int32) + (M2 8 i3.toNatClampNeg)) M2)) ∧
  (r2 = 0 → (P_M_mostPairs_140 post R17 (P_M_mostPairs_59 post R17 n) x1 x2 x3 x4 x5 x6 x7 M2))) r1 x1 x2 M1) ((M 7 x5.toNatClampNeg) - (M 7 x7.toNatClampNeg)) M))))
theorem k_M_mostPairs_59 {X : FX} {g : GT} {A : Nat → Prop} {Z : State → Prop} {post : Int32 → Mem → Prop} {R17 : Int32 → Int32 → Int32 → Int32 → Mem → Prop} (C : Cx X g layM A cX12_mostPairs 8 RX12 1) (hr : 0 ≤ X.2.2.2.1.cells ∧ 0 ≤ X.2.2.2.1.slots) (hR : RetI X g layM A cX12_mostPairs 8 0 0 Z post) (k17 : ∀ (y1 y2 y3 y4 : Int32) (M : Mem), R17 y1 y2 y3 y4 M → AtX X g layM A 8 0 0 Z 17 [(0, .ref (ad g 0)), (1, .int y1), (2, .int y2), (3, .int y3), (4, .int y4)] [] M) : ∀ (n : Nat) (x1 x2 x3 x4 x5 x6 x7 : Int32) (M : Mem), P_M_mostPairs_59 post R17 n x1 x2 x3 x4 x5 x6 x7 M → AtX X g layM A 8 0 0 Z 59 [(0, .ref (ad g 0)), (1, .int x1), (2, .int x2), (3, .int x3), (4, .int x4), (5, .int x5), (6, .int x6), (7, .int x7)] [] M := by
  intro n
  induction n with
  | zero =>
    intro x1 x2 x3 x4 x5 x6 x7 M h
    exact h.elim
  | succ n ih =>
    intro x1 x2 x3 x4 x5 x6 x7 M h
    refine a_iload C (tk T_cX12_mostPairs 36 rfl) rfl ?_
    refine a_aload_n C (tk T_cX12_mostPairs 37 rfl) rfl ?_
    refine a_getI C f_RX12_230 (tk T_cX12_mostPairs 38 rfl) lm0 rfl ?_
    refine a_icmp_ge C 146 (tk T_cX12_mostPairs 39 rfl) rfl (fun c => ?_) (fun c => ?_)
    · have h := h.1 c
      refine a_iinc C (1 : Int32) (tk T_cX12_mostPairs 84 rfl) rfl kI_1 (by decide) rfl ?_
      refine a_goto C 17 (tk T_cX12_mostPairs 85 rfl) rfl ?_
      exact a_to (k17 x1 x2 x3 (x4 + (1 : Int32)) M h) rfl
    · have h := h.2 c
      refine a_iload C (tk T_cX12_mostPairs 40 rfl) rfl ?_
      refine a_iload C (tk T_cX12_mostPairs 41 rfl) rfl ?_
      refine a_ishr C (tk T_cX12_mostPairs 42 rfl) ?_
      refine a_iconst C (1 : Int32) (tk T_cX12_mostPairs 43 rfl) kI_1 ?_
      refine a_iand C (tk T_cX12_mostPairs 44 rfl) ?_
      refine a_if_eq C 140 (tk T_cX12_mostPairs 45 rfl) rfl (fun c => ?_) (fun c => ?_)
      · have h := h.1 c
        exact a_to (k_M_mostPairs_140 C hr hR k17 ih x1 x2 x3 x4 x5 x6 x7 M h) rfl
      · have h := h.2 c
        refine a_aload_n C (tk T_cX12_mostPairs 46 rfl) rfl ?_
        refine a_getR C f_RX12_32 (tk T_cX12_mostPairs 47 rfl) lm0 rfl ?_
        refine a_iload C (tk T_cX12_mostPairs 48 rfl) rfl ?_
        obtain ⟨hb, h⟩ := h
        refine a_iald C (tk T_cX12_mostPairs 49 rfl) lm7 hb ?_
        refine a_aload_n C (tk T_cX12_mostPairs 50 rfl) rfl ?_
        refine a_getR C f_RX12_32 (tk T_cX12_mostPairs 51 rfl) lm0 rfl ?_
        refine a_iload C (tk T_cX12_mostPairs 52 rfl) rfl ?_
        obtain ⟨hb, h⟩ := h
        refine a_iald C (tk T_cX12_mostPairs 53 rfl) lm7 hb ?_
        refine a_isub C (tk T_cX12_mostPairs 54 rfl) ?_
        refine a_statI C [.int ((M 7 x5.toNatClampNeg) - (M 7 x7.toNatClampNeg))] me_yJ9_abs_0f7a4 lk_RX12_87 (ct_Math_abs h) (by decide) rfl rfl (Nat.le_of_ble_eq_true rfl) (tk T_cX12_mostPairs 55 rfl) hr (fun r1 M1 h => ?_)
        refine a_iload_n C (tk T_cX12_mostPairs 56 rfl) rfl ?_
        refine a_iload_n C (tk T_cX12_mostPairs 57 rfl) rfl ?_
        refine a_statI C [.int r1, .int x1, .int x2] me_yX12_in lk_RX12_58 (ct_M_in h) (by decide) rfl rfl (Nat.le_of_ble_eq_true rfl) (tk T_cX12_mostPairs 58 rfl) hr (fun r2 M2 h => ?_)
        refine a_if_ne C 107 (tk T_cX12_mostPairs 59 rfl) rfl (fun c => ?_) (fun c => ?_)
        · have h := h.1 c
          refine a_aload_n C (tk T_cX12_mostPairs 61 rfl) rfl ?_
          refine a_getR C f_RX12_35 (tk T_cX12_mostPairs 62 rfl) lm0 rfl ?_
          refine a_iload C (tk T_cX12_mostPairs 63 rfl) rfl ?_
          refine a_aload_n C (tk T_cX12_mostPairs 64 rfl) rfl ?_
          refine a_getR C f_RX12_35 (tk T_cX12_mostPairs 65 rfl) lm0 rfl ?_
          refine a_iload C (tk T_cX12_mostPairs 66 rfl) rfl ?_
          obtain ⟨hb, h⟩ := h
          refine a_iald C (tk T_cX12_mostPairs 67 rfl) lm8 hb ?_
          refine a_iconst C (1 : Int32) (tk T_cX12_mostPairs 68 rfl) kI_1 ?_
          refine a_aload_n C (tk T_cX12_mostPairs 69 rfl) rfl ?_
          refine a_getR C f_RX12_35 (tk T_cX12_mostPairs 70 rfl) lm0 rfl ?_
          refine a_iload C (tk T_cX12_mostPairs 71 rfl) rfl ?_
          refine a_iconst C (1 : Int32) (tk T_cX12_mostPairs 72 rfl) kI_1 ?_
          refine a_iload C (tk T_cX12_mostPairs 73 rfl) rfl ?_
          refine a_ishl C (tk T_cX12_mostPairs 74 rfl) ?_
          refine a_iconst C (-1 : Int32) (tk T_cX12_mostPairs 75 rfl) kI_m1 ?_
          refine a_ixor C (tk T_cX12_mostPairs 76 rfl) ?_
          refine a_iand C (tk T_cX12_mostPairs 77 rfl) ?_
          refine a_top (fun i3 e_i3 => ?_)
          have h := h i3 e_i3
          obtain ⟨hb, h⟩ := h
          refine a_iald C (tk T_cX12_mostPairs 78 rfl) lm8 hb ?_
          refine a_iadd C (tk T_cX12_mostPairs 79 rfl) ?_
          refine a_statI C [.int (M2 8 x4.toNatClampNeg), .int ((1 : Int32) + (M2 8 i3.toNatClampNeg))] me_yJ9_max_7cf53 lk_RX12_106 (ct_Math_max h) (by decide) rfl rfl (Nat.le_of_ble_eq_true rfl) (tk T_cX12_mostPairs 80 rfl) hr (fun r4 M4 h => ?_)
          obtain ⟨hb, h⟩ := h
          refine a_iast C (tk T_cX12_mostPairs 81 rfl) lm8 hb ?_
          refine a_mem (fun M5 e_M5 => ?_)
          have h := h M5 e_M5
          exact a_to (k_M_mostPairs_140 C hr hR k17 ih x1 x2 x3 x4 x5 x6 x7 M5 h) rfl
        · have h := h.2 c
          refine a_goto C 140 (tk T_cX12_mostPairs 60 rfl) rfl ?_
          exact a_to (k_M_mostPairs_140 C hr hR k17 ih x1 x2 x3 x4 x5 x6 x7 M2 h) rfl
def P_M_mostPairs_17 (post : Int32 → Mem → Prop) : Nat → Int32 → Int32 → Int32 → Int32 → Mem → Prop
  | 0, _, _, _, _, _ => False
  | n + 1, x1, x2, x3, x4, M =>
    (x3 ≤ x4 → (vp_in (x3 - (1 : Int32)) 1024 ∧ post (M 8 (x3 - (1 : Int32)).toNatClampNeg) M)) ∧
  (¬ x3 ≤ x4 → (P_Integer_numberOfTrailingZeros (fun r1 M1 =>
  ∀ x6_2, x6_2 = (x4 &&& (x4 - (1 : Int32))) → vp_in x6_2 1024 ∧ vp_in x4 1024 ∧ ∀ M3, M3 = ms M1 8 x4.toNatClampNeg (M1 8 x6_2.toNatClampNeg) → ∀ x7_4, x7_4 = (r1 + (1 : Int32)) → ∃ j59, P_M_mostPairs_59 post (P_M_mostPairs_17 post n) j59 x1 x2 x3 x4 r1 x6_2 x7_4 M3) x4 M))
theorem k_M_mostPairs_17 {X : FX} {g : GT} {A : Nat → Prop} {Z : State → Prop} {post : Int32 → Mem → Prop} (C : Cx X g layM A cX12_mostPairs 8 RX12 1) (hr : 0 ≤ X.2.2.2.1.cells ∧ 0 ≤ X.2.2.2.1.slots) (hR : RetI X g layM A cX12_mostPairs 8 0 0 Z post) : ∀ (n : Nat) (x1 x2 x3 x4 : Int32) (M : Mem), P_M_mostPairs_17 post n x1 x2 x3 x4 M → AtX X g layM A 8 0 0 Z 17 [(0, .ref (ad g 0)), (1, .int x1), (2, .int x2), (3, .int x3), (4, .int x4)] [] M := by
  intro n
  induction n with
  | zero =>
    intro x1 x2 x3 x4 M h
    exact h.elim
  | succ n ih =>
    intro x1 x2 x3 x4 M h
    refine a_iload C (tk T_cX12_mostPairs 12 rfl) rfl ?_
    refine a_iload_n C (tk T_cX12_mostPairs 13 rfl) rfl ?_
    refine a_icmp_ge C 152 (tk T_cX12_mostPairs 14 rfl) rfl (fun c => ?_) (fun c => ?_)
    · have h := h.1 c
      refine a_aload_n C (tk T_cX12_mostPairs 86 rfl) rfl ?_
      refine a_getR C f_RX12_35 (tk T_cX12_mostPairs 87 rfl) lm0 rfl ?_
      refine a_iload_n C (tk T_cX12_mostPairs 88 rfl) rfl ?_
      refine a_iconst C (1 : Int32) (tk T_cX12_mostPairs 89 rfl) kI_1 ?_
      refine a_isub C (tk T_cX12_mostPairs 90 rfl) ?_
      obtain ⟨hb, h⟩ := h
      refine a_iald C (tk T_cX12_mostPairs 91 rfl) lm8 hb ?_
      exact hR _ _ _ _ (tk T_cX12_mostPairs 92 rfl) h
    · have h := h.2 c
      refine a_iload C (tk T_cX12_mostPairs 15 rfl) rfl ?_
      refine a_statI C [.int x4] me_yJ6_numberOfTrailingZeros_0f7a4 lk_RX12_234 (ct_Integer_numberOfTrailingZeros h) (by decide) rfl rfl (Nat.le_of_ble_eq_true rfl) (tk T_cX12_mostPairs 16 rfl) hr (fun r1 M1 h => ?_)
      refine a_istore C (tk T_cX12_mostPairs 17 rfl) (by decide) rfl ?_
      refine a_iload C (tk T_cX12_mostPairs 18 rfl) rfl ?_
      refine a_iload C (tk T_cX12_mostPairs 19 rfl) rfl ?_
      refine a_iconst C (1 : Int32) (tk T_cX12_mostPairs 20 rfl) kI_1 ?_
      refine a_isub C (tk T_cX12_mostPairs 21 rfl) ?_
      refine a_iand C (tk T_cX12_mostPairs 22 rfl) ?_
      refine a_top (fun x6_2 e_x6_2 => ?_)
      have h := h x6_2 e_x6_2
      refine a_istore C (tk T_cX12_mostPairs 23 rfl) (by decide) rfl ?_
      refine a_aload_n C (tk T_cX12_mostPairs 24 rfl) rfl ?_
      refine a_getR C f_RX12_35 (tk T_cX12_mostPairs 25 rfl) lm0 rfl ?_
      refine a_iload C (tk T_cX12_mostPairs 26 rfl) rfl ?_
      refine a_aload_n C (tk T_cX12_mostPairs 27 rfl) rfl ?_
      refine a_getR C f_RX12_35 (tk T_cX12_mostPairs 28 rfl) lm0 rfl ?_
      refine a_iload C (tk T_cX12_mostPairs 29 rfl) rfl ?_
      obtain ⟨hb, h⟩ := h
      refine a_iald C (tk T_cX12_mostPairs 30 rfl) lm8 hb ?_
      obtain ⟨hb, h⟩ := h
      refine a_iast C (tk T_cX12_mostPairs 31 rfl) lm8 hb ?_
      refine a_mem (fun M3 e_M3 => ?_)
      have h := h M3 e_M3
      refine a_iload C (tk T_cX12_mostPairs 32 rfl) rfl ?_
      refine a_iconst C (1 : Int32) (tk T_cX12_mostPairs 33 rfl) kI_1 ?_
      refine a_iadd C (tk T_cX12_mostPairs 34 rfl) ?_
      refine a_top (fun x7_4 e_x7_4 => ?_)
      have h := h x7_4 e_x7_4
      refine a_istore C (tk T_cX12_mostPairs 35 rfl) (by decide) rfl ?_
      obtain ⟨n1, h⟩ := h
      exact a_to (k_M_mostPairs_59 C hr hR ih n1 x1 x2 x3 x4 r1 x6_2 x7_4 M3 h) rfl
def P_M_mostPairs (post : Int32 → Mem → Prop) (x1 x2 : Int32) (M : Mem) : Prop :=
  ∀ x3_1, x3_1 = ((1 : Int32) <<< ((M 0 14) &&& 31)) → vp_in (0 : Int32) 1024 ∧ ∀ M2, M2 = ms M 8 (0 : Int32).toNatClampNeg (0 : Int32) → ∃ j17, P_M_mostPairs_17 post j17 x1 x2 x3_1 (1 : Int32) M2
theorem k_M_mostPairs {X : FX} {g : GT} {A : Nat → Prop} {Z : State → Prop} {post : Int32 → Mem → Prop} (C : Cx X g layM A cX12_mostPairs 8 RX12 1) (hr : 0 ≤ X.2.2.2.1.cells ∧ 0 ≤ X.2.2.2.1.slots) (hR : RetI X g layM A cX12_mostPairs 8 0 0 Z post) (x1 x2 : Int32) (M : Mem) (h : P_M_mostPairs post x1 x2 M) : AtX X g layM A 8 0 0 Z 0 [(0, .ref (ad g 0)), (1, .int x1), (2, .int x2)] [] M := by
  refine a_iconst C (1 : Int32) (tk T_cX12_mostPairs 0 rfl) kI_1 ?_
  refine a_aload_n C (tk T_cX12_mostPairs 1 rfl) rfl ?_
  refine a_getI C f_RX12_230 (tk T_cX12_mostPairs 2 rfl) lm0 rfl ?_
  refine a_ishl C (tk T_cX12_mostPairs 3 rfl) ?_
  refine a_top (fun x3_1 e_x3_1 => ?_)
  have h := h x3_1 e_x3_1
  refine a_istore_n C (tk T_cX12_mostPairs 4 rfl) (by decide) rfl ?_
  refine a_aload_n C (tk T_cX12_mostPairs 5 rfl) rfl ?_
  refine a_getR C f_RX12_35 (tk T_cX12_mostPairs 6 rfl) lm0 rfl ?_
  refine a_iconst C (0 : Int32) (tk T_cX12_mostPairs 7 rfl) kI_0 ?_
  refine a_iconst C (0 : Int32) (tk T_cX12_mostPairs 8 rfl) kI_0 ?_
  obtain ⟨hb, h⟩ := h
  refine a_iast C (tk T_cX12_mostPairs 9 rfl) lm8 hb ?_
  refine a_mem (fun M2 e_M2 => ?_)
  have h := h M2 e_M2
  refine a_iconst C (1 : Int32) (tk T_cX12_mostPairs 10 rfl) kI_1 ?_
  refine a_istore C (tk T_cX12_mostPairs 11 rfl) (by decide) rfl ?_
  obtain ⟨n1, h⟩ := h
  exact a_to (k_M_mostPairs_17 C hr hR n1 x1 x2 x3_1 (1 : Int32) M2 h) rfl
theorem ct_M_mostPairs {l : Launch} {g : GT} {post : Int32 → Mem → Prop} {x1 x2 : Int32} {M : Mem} (h : P_M_mostPairs post x1 x2 M) : CI l g layM yX12_mostPairs cX12_mostPairs 8 (some .int) 1 [.ref (ad g 0), .int x1, .int x2] M post :=
  ci_of (plainFor_of_name (by decide +kernel)) (Nat.le_of_ble_eq_true rfl) (fun X A Z hl C hr hR => by subst hl; exact k_M_mostPairs C hr hR x1 x2 M h)
def T_cX12_rowsL : List (Nat × Instr × Nat) := [(0, .aload_n 0, 1), (1, .iconst 0, 1), (2, .putfield 3, 3), (5, .aload_n 0, 1), (6, .aload_n 0, 1), (7, .iload_n 1, 1), (8, .bipush 8, 2), (10, .invokevirtual 121, 3), (13, .iconst 1, 1), (14, .invokevirtual 72, 3), (17, .ifCond .ne 27, 3), (20, .aload_n 0, 1), (21, .iload_n 3, 1), (22, .iconst 0, 1), (23, .sipush 999, 3), (26, .invokestatic 58, 3), (29, .ifCond .ne 7, 3), (32, .iconst 1, 1), (33, .goto 4, 3), (36, .iconst 0, 1), (37, .iconst 2, 1), (38, .invokevirtual 72, 3), (41, .ifCond .eq 5, 3), (44, .iconst 0, 1), (45, .ireturn, 1), (46, .aload_n 0, 1), (47, .invokevirtual 197, 3), (50, .aload_n 0, 1), (51, .iload_n 1, 1), (52, .iload_n 2, 1), (53, .invokevirtual 237, 3), (56, .iconst 0, 1), (57, .istore 5, 2), (59, .iconst (-1), 1), (60, .istore 6, 2), (62, .iconst 0, 1), (63, .istore 7, 2), (65, .iload 7, 2), (67, .aload_n 0, 1), (68, .getfield 230, 3), (71, .if_icmp .ge 97, 3), (74, .iconst 0, 1), (75, .istore 8, 2), (77, .iload 8, 2), (79, .iload 7, 2), (81, .if_icmp .ge 81, 3), (84, .aload_n 0, 1), (85, .getfield 32, 3), (88, .iload 7, 2), (90, .iaload, 1), (91, .aload_n 0, 1), (92, .getfield 32, 3), (95, .iload 8, 2), (97, .iaload, 1), (98, .isub, 1), (99, .invokestatic 87, 3), (102, .istore 9, 2), (104, .iload 9, 2), (106, .ifCond .ne 6, 3), (109, .goto 47, 3), (112, .aload_n 0, 1), (113, .iload 9, 2), (115, .iload 9, 2), (117, .iload_n 3, 1), (118, .iadd, 1), (119, .invokevirtual 240, 3), (122, .istore 10, 2), (124, .iload 10, 2), (126, .iload 5, 2), (128, .if_icmp .lt 28, 3), (131, .iload 10, 2), (133, .iload 5, 2), (135, .if_icmp .ne 13, 3), (138, .iload 9, 2), (140, .iload 6, 2), (142, .if_icmp .lt 6, 3), (145, .goto 11, 3), (148, .iload 10, 2), (150, .istore 5, 2), (152, .iload 9, 2), (154, .istore 6, 2), (156, .iinc 8 1, 3), (159, .goto (-82), 3), (162, .iinc 7 1, 3), (165, .goto (-100), 3), (168, .iload 4, 2), (170, .ifCond .eq 8, 3), (173, .iload 6, 2), (175, .goto 5, 3), (178, .iload 5, 2), (180, .ireturn, 1)]
theorem T_cX12_rows : tabOK cX12_rows T_cX12_rowsL = true := by decide +kernel
def P_M_rows_180 (post : Int32 → Mem → Prop) (s0 : Int32) (M : Mem) : Prop :=
  post s0 M
theorem k_M_rows_180 {X : FX} {g : GT} {A : Nat → Prop} {Z : State → Prop} {post : Int32 → Mem → Prop} (C : Cx X g layM A cX12_rows 11 RX12 5) (hr : 0 ≤ X.2.2.2.1.cells ∧ 0 ≤ X.2.2.2.1.slots) (hR : RetI X g layM A cX12_rows 11 0 0 Z post) (s0 : Int32) (M : Mem) (h : P_M_rows_180 post s0 M) : AtX X g layM A 11 0 0 Z 180 [] [.int s0] M := by
  exact hR _ _ _ _ (tk T_cX12_rows 90 rfl) h
def P_M_rows_156 (post : Int32 → Mem → Prop) (R65 : Int32 → Int32 → Int32 → Int32 → Int32 → Mem → Prop) (R77 : Int32 → Int32 → Int32 → Int32 → Int32 → Int32 → Mem → Prop) (x3 x4 x5 x6 x7 x8 : Int32) (M : Mem) : Prop :=
  R77 x3 x4 x5 x6 x7 (x8 + (1 : Int32)) M
theorem k_M_rows_156 {X : FX} {g : GT} {A : Nat → Prop} {Z : State → Prop} {post : Int32 → Mem → Prop} {R65 : Int32 → Int32 → Int32 → Int32 → Int32 → Mem → Prop} {R77 : Int32 → Int32 → Int32 → Int32 → Int32 → Int32 → Mem → Prop} (C : Cx X g layM A cX12_rows 11 RX12 5) (hr : 0 ≤ X.2.2.2.1.cells ∧ 0 ≤ X.2.2.2.1.slots) (hR : RetI X g layM A cX12_rows 11 0 0 Z post) (k65 : ∀ (y3 y4 y5 y6 y7 : Int32) (M : Mem), R65 y3 y4 y5 y6 y7 M → AtX X g layM A 11 0 0 Z 65 [(0, .ref (ad g 0)), (3, .int y3), (4, .int y4), (5, .int y5), (6, .int y6), (7, .int y7)] [] M) (k77 : ∀ (y3 y4 y5 y6 y7 y8 : Int32) (M : Mem), R77 y3 y4 y5 y6 y7 y8 M → AtX X g layM A 11 0 0 Z 77 [(0, .ref (ad g 0)), (3, .int y3), (4, .int y4), (5, .int y5), (6, .int y6), (7, .int y7), (8, .int y8)] [] M) (x3 x4 x5 x6 x7 x8 : Int32) (M : Mem) (h : P_M_rows_156 post R65 R77 x3 x4 x5 x6 x7 x8 M) : AtX X g layM A 11 0 0 Z 156 [(0, .ref (ad g 0)), (3, .int x3), (4, .int x4), (5, .int x5), (6, .int x6), (7, .int x7), (8, .int x8)] [] M := by
  refine a_iinc C (1 : Int32) (tk T_cX12_rows 81 rfl) rfl kI_1 (by decide) rfl ?_
  refine a_goto C 77 (tk T_cX12_rows 82 rfl) rfl ?_
  exact a_to (k77 x3 x4 x5 x6 x7 (x8 + (1 : Int32)) M h) rfl
def P_M_rows_148 (post : Int32 → Mem → Prop) (R65 : Int32 → Int32 → Int32 → Int32 → Int32 → Mem → Prop) (R77 : Int32 → Int32 → Int32 → Int32 → Int32 → Int32 → Mem → Prop) (x3 x4 x7 x8 x9 x10 : Int32) (M : Mem) : Prop :=
  P_M_rows_156 post R65 R77 x3 x4 x10 x9 x7 x8 M
theorem k_M_rows_148 {X : FX} {g : GT} {A : Nat → Prop} {Z : State → Prop} {post : Int32 → Mem → Prop} {R65 : Int32 → Int32 → Int32 → Int32 → Int32 → Mem → Prop} {R77 : Int32 → Int32 → Int32 → Int32 → Int32 → Int32 → Mem → Prop} (C : Cx X g layM A cX12_rows 11 RX12 5) (hr : 0 ≤ X.2.2.2.1.cells ∧ 0 ≤ X.2.2.2.1.slots) (hR : RetI X g layM A cX12_rows 11 0 0 Z post) (k65 : ∀ (y3 y4 y5 y6 y7 : Int32) (M : Mem), R65 y3 y4 y5 y6 y7 M → AtX X g layM A 11 0 0 Z 65 [(0, .ref (ad g 0)), (3, .int y3), (4, .int y4), (5, .int y5), (6, .int y6), (7, .int y7)] [] M) (k77 : ∀ (y3 y4 y5 y6 y7 y8 : Int32) (M : Mem), R77 y3 y4 y5 y6 y7 y8 M → AtX X g layM A 11 0 0 Z 77 [(0, .ref (ad g 0)), (3, .int y3), (4, .int y4), (5, .int y5), (6, .int y6), (7, .int y7), (8, .int y8)] [] M) (x3 x4 x7 x8 x9 x10 : Int32) (M : Mem) (h : P_M_rows_148 post R65 R77 x3 x4 x7 x8 x9 x10 M) : AtX X g layM A 11 0 0 Z 148 [(0, .ref (ad g 0)), (3, .int x3), (4, .int x4), (7, .int x7), (8, .int x8), (9, .int x9), (10, .int x10)] [] M := by
  refine a_iload C (tk T_cX12_rows 77 rfl) rfl ?_
  refine a_istore C (tk T_cX12_rows 78 rfl) (by decide) rfl ?_
  refine a_iload C (tk T_cX12_rows 79 rfl) rfl ?_
  refine a_istore C (tk T_cX12_rows 80 rfl) (by decide) rfl ?_
  exact a_to (k_M_rows_156 C hr hR k65 k77 x3 x4 x10 x9 x7 x8 M h) rfl
def P_M_rows_77 (post : Int32 → Mem → Prop) (R65 : Int32 → Int32 → Int32 → Int32 → Int32 → Mem → Prop) : Nat → Int32 → Int32 → Int32 → Int32 → Int32 → Int32 → Mem → Prop
  | 0, _, _, _, _, _, _, _ => False
  | n + 1, x3, x4, x5, x6, x7, x8, M =>
    (x7 ≤ x8 → (R65 x3 x4 x5 x6 (x7 + (1 : Int32)) M)) ∧
  (¬ x7 ≤ x8 → (vp_in x7 10 ∧ vp_in x8 10 ∧ P_Math_abs (fun r1 M1 =>
  (¬ r1 = 0 → (P_M_mostPairs (fun r2 M2 =>
  (r2 < x5 → (P_M_rows_156 post R65 (P_M_rows_77 post R65 n) x3 x4 x5 x6 x7 x8 M2)) ∧
  (¬ r2 < x5 → ((¬ r2 = x5 → (P_M_rows_148 post R65 (P_M_rows_77 post R65 n) x3 x4 x7 x8 r1 r2 M2)) ∧
  (r2 = x5 → ((r1 < x6 → (P_M_rows_148 post R65 (P_M_rows_77 post R65 n) x3 x4 x7 x8 r1 r2 M2)) ∧
  (¬ r1 < x6 → (P_M_rows_156 post R65 (P_M_rows_77 post R65 n) x3 x4 x5 x6 x7 x8 M2))))))) r1 (r1 + x3) M1)) ∧
  (r1 = 0 → (P_M_rows_156 post R65 (P_M_rows_77 post R65 n) x3 x4 x5 x6 x7 x8 M1))) ((M 7 x7.toNatClampNeg) - (M 7 x8.toNatClampNeg)) M))
theorem k_M_rows_77 {X : FX} {g : GT} {A : Nat → Prop} {Z : State → Prop} {post : Int32 → Mem → Prop} {R65 : Int32 → Int32 → Int32 → Int32 → Int32 → Mem → Prop} (C : Cx X g layM A cX12_rows 11 RX12 5) (hr : 0 ≤ X.2.2.2.1.cells ∧ 0 ≤ X.2.2.2.1.slots) (hR : RetI X g layM A cX12_rows 11 0 0 Z post) (k65 : ∀ (y3 y4 y5 y6 y7 : Int32) (M : Mem), R65 y3 y4 y5 y6 y7 M → AtX X g layM A 11 0 0 Z 65 [(0, .ref (ad g 0)), (3, .int y3), (4, .int y4), (5, .int y5), (6, .int y6), (7, .int y7)] [] M) : ∀ (n : Nat) (x3 x4 x5 x6 x7 x8 : Int32) (M : Mem), P_M_rows_77 post R65 n x3 x4 x5 x6 x7 x8 M → AtX X g layM A 11 0 0 Z 77 [(0, .ref (ad g 0)), (3, .int x3), (4, .int x4), (5, .int x5), (6, .int x6), (7, .int x7), (8, .int x8)] [] M := by
  intro n
  induction n with
  | zero =>
    intro x3 x4 x5 x6 x7 x8 M h
    exact h.elim
  | succ n ih =>
    intro x3 x4 x5 x6 x7 x8 M h
    refine a_iload C (tk T_cX12_rows 43 rfl) rfl ?_
    refine a_iload C (tk T_cX12_rows 44 rfl) rfl ?_
    refine a_icmp_ge C 162 (tk T_cX12_rows 45 rfl) rfl (fun c => ?_) (fun c => ?_)
    · have h := h.1 c
      refine a_iinc C (1 : Int32) (tk T_cX12_rows 83 rfl) rfl kI_1 (by decide) rfl ?_
      refine a_goto C 65 (tk T_cX12_rows 84 rfl) rfl ?_
      exact a_to (k65 x3 x4 x5 x6 (x7 + (1 : Int32)) M h) rfl
    · have h := h.2 c
      refine a_aload_n C (tk T_cX12_rows 46 rfl) rfl ?_
      refine a_getR C f_RX12_32 (tk T_cX12_rows 47 rfl) lm0 rfl ?_
      refine a_iload C (tk T_cX12_rows 48 rfl) rfl ?_
      obtain ⟨hb, h⟩ := h
      refine a_iald C (tk T_cX12_rows 49 rfl) lm7 hb ?_
      refine a_aload_n C (tk T_cX12_rows 50 rfl) rfl ?_
      refine a_getR C f_RX12_32 (tk T_cX12_rows 51 rfl) lm0 rfl ?_
      refine a_iload C (tk T_cX12_rows 52 rfl) rfl ?_
      obtain ⟨hb, h⟩ := h
      refine a_iald C (tk T_cX12_rows 53 rfl) lm7 hb ?_
      refine a_isub C (tk T_cX12_rows 54 rfl) ?_
      refine a_statI C [.int ((M 7 x7.toNatClampNeg) - (M 7 x8.toNatClampNeg))] me_yJ9_abs_0f7a4 lk_RX12_87 (ct_Math_abs h) (by decide) rfl rfl (Nat.le_of_ble_eq_true rfl) (tk T_cX12_rows 55 rfl) hr (fun r1 M1 h => ?_)
      refine a_istore C (tk T_cX12_rows 56 rfl) (by decide) rfl ?_
      refine a_iload C (tk T_cX12_rows 57 rfl) rfl ?_
      refine a_if_ne C 112 (tk T_cX12_rows 58 rfl) rfl (fun c => ?_) (fun c => ?_)
      · have h := h.1 c
        refine a_aload_n C (tk T_cX12_rows 60 rfl) rfl ?_
        refine a_iload C (tk T_cX12_rows 61 rfl) rfl ?_
        refine a_iload C (tk T_cX12_rows 62 rfl) rfl ?_
        refine a_iload_n C (tk T_cX12_rows 63 rfl) rfl ?_
        refine a_iadd C (tk T_cX12_rows 64 rfl) ?_
        refine a_callI C [.int r1, .int (r1 + x3)] me_yX12_mostPairs lk_RX12_240 (ct_M_mostPairs h) (by decide) lm0 rfl rfl rfl (Nat.le_of_ble_eq_true rfl) (tk T_cX12_rows 65 rfl) hr (fun r2 M2 h => ?_)
        refine a_istore C (tk T_cX12_rows 66 rfl) (by decide) rfl ?_
        refine a_iload C (tk T_cX12_rows 67 rfl) rfl ?_
        refine a_iload C (tk T_cX12_rows 68 rfl) rfl ?_
        refine a_icmp_lt C 156 (tk T_cX12_rows 69 rfl) rfl (fun c => ?_) (fun c => ?_)
        · have h := h.1 c
          exact a_to (k_M_rows_156 C hr hR k65 ih x3 x4 x5 x6 x7 x8 M2 h) rfl
        · have h := h.2 c
          refine a_iload C (tk T_cX12_rows 70 rfl) rfl ?_
          refine a_iload C (tk T_cX12_rows 71 rfl) rfl ?_
          refine a_icmp_ne C 148 (tk T_cX12_rows 72 rfl) rfl (fun c => ?_) (fun c => ?_)
          · have h := h.1 c
            exact a_to (k_M_rows_148 C hr hR k65 ih x3 x4 x7 x8 r1 r2 M2 h) rfl
          · have h := h.2 c
            refine a_iload C (tk T_cX12_rows 73 rfl) rfl ?_
            refine a_iload C (tk T_cX12_rows 74 rfl) rfl ?_
            refine a_icmp_lt C 148 (tk T_cX12_rows 75 rfl) rfl (fun c => ?_) (fun c => ?_)
            · have h := h.1 c
              exact a_to (k_M_rows_148 C hr hR k65 ih x3 x4 x7 x8 r1 r2 M2 h) rfl
            · have h := h.2 c
              refine a_goto C 156 (tk T_cX12_rows 76 rfl) rfl ?_
              exact a_to (k_M_rows_156 C hr hR k65 ih x3 x4 x5 x6 x7 x8 M2 h) rfl
      · have h := h.2 c
        refine a_goto C 156 (tk T_cX12_rows 59 rfl) rfl ?_
        exact a_to (k_M_rows_156 C hr hR k65 ih x3 x4 x5 x6 x7 x8 M1 h) rfl
def P_M_rows_65 (post : Int32 → Mem → Prop) : Nat → Int32 → Int32 → Int32 → Int32 → Int32 → Mem → Prop
  | 0, _, _, _, _, _, _ => False
  | n + 1, x3, x4, x5, x6, x7, M =>
    ((M 0 14) ≤ x7 → ((x4 = 0 → (P_M_rows_180 post x5 M)) ∧
  (¬ x4 = 0 → (P_M_rows_180 post x6 M)))) ∧
  (¬ (M 0 14) ≤ x7 → (∃ j77, P_M_rows_77 post (P_M_rows_65 post n) j77 x3 x4 x5 x6 x7 (0 : Int32) M))
theorem k_M_rows_65 {X : FX} {g : GT} {A : Nat → Prop} {Z : State → Prop} {post : Int32 → Mem → Prop} (C : Cx X g layM A cX12_rows 11 RX12 5) (hr : 0 ≤ X.2.2.2.1.cells ∧ 0 ≤ X.2.2.2.1.slots) (hR : RetI X g layM A cX12_rows 11 0 0 Z post) : ∀ (n : Nat) (x3 x4 x5 x6 x7 : Int32) (M : Mem), P_M_rows_65 post n x3 x4 x5 x6 x7 M → AtX X g layM A 11 0 0 Z 65 [(0, .ref (ad g 0)), (3, .int x3), (4, .int x4), (5, .int x5), (6, .int x6), (7, .int x7)] [] M := by
  intro n
  induction n with
  | zero =>
    intro x3 x4 x5 x6 x7 M h
    exact h.elim
  | succ n ih =>
    intro x3 x4 x5 x6 x7 M h
    refine a_iload C (tk T_cX12_rows 37 rfl) rfl ?_
    refine a_aload_n C (tk T_cX12_rows 38 rfl) rfl ?_
    refine a_getI C f_RX12_230 (tk T_cX12_rows 39 rfl) lm0 rfl ?_
    refine a_icmp_ge C 168 (tk T_cX12_rows 40 rfl) rfl (fun c => ?_) (fun c => ?_)
    · have h := h.1 c
      refine a_iload C (tk T_cX12_rows 85 rfl) rfl ?_
      refine a_if_eq C 178 (tk T_cX12_rows 86 rfl) rfl (fun c => ?_) (fun c => ?_)
      · have h := h.1 c
        refine a_iload C (tk T_cX12_rows 89 rfl) rfl ?_
        exact a_to (k_M_rows_180 C hr hR x5 M h) rfl
      · have h := h.2 c
        refine a_iload C (tk T_cX12_rows 87 rfl) rfl ?_
        refine a_goto C 180 (tk T_cX12_rows 88 rfl) rfl ?_
        exact a_to (k_M_rows_180 C hr hR x6 M h) rfl
    · have h := h.2 c
      refine a_iconst C (0 : Int32) (tk T_cX12_rows 41 rfl) kI_0 ?_
      refine a_istore C (tk T_cX12_rows 42 rfl) (by decide) rfl ?_
      obtain ⟨n1, h⟩ := h
      exact a_to (k_M_rows_77 C hr hR ih n1 x3 x4 x5 x6 x7 (0 : Int32) M h) rfl
def P_M_rows_44 (post : Int32 → Mem → Prop) (M : Mem) : Prop :=
  post (0 : Int32) M
theorem k_M_rows_44 {X : FX} {g : GT} {A : Nat → Prop} {Z : State → Prop} {post : Int32 → Mem → Prop} (C : Cx X g layM A cX12_rows 11 RX12 5) (hr : 0 ≤ X.2.2.2.1.cells ∧ 0 ≤ X.2.2.2.1.slots) (hR : RetI X g layM A cX12_rows 11 0 0 Z post)  (M : Mem) (h : P_M_rows_44 post M) : AtX X g layM A 11 0 0 Z 44 [] [] M := by
  refine a_iconst C (0 : Int32) (tk T_cX12_rows 23 rfl) kI_0 ?_
  exact hR _ _ _ _ (tk T_cX12_rows 24 rfl) h
def P_M_rows_37 (post : Int32 → Mem → Prop) (x1 x2 x3 x4 s1 : Int32) (M : Mem) : Prop :=
  P_M_throwsIf (fun r1 M1 =>
  (r1 = 0 → (P_M_spans (fun M2 =>
  P_M_gathers (fun M3 =>
  ∃ j65, P_M_rows_65 post j65 x3 x4 (0 : Int32) (-1 : Int32) (0 : Int32) M3) x1 x2 M2) M1)) ∧
  (¬ r1 = 0 → (P_M_rows_44 post M1))) s1 (2 : Int32) M
theorem k_M_rows_37 {X : FX} {g : GT} {A : Nat → Prop} {Z : State → Prop} {post : Int32 → Mem → Prop} (C : Cx X g layM A cX12_rows 11 RX12 5) (hr : 0 ≤ X.2.2.2.1.cells ∧ 0 ≤ X.2.2.2.1.slots) (hR : RetI X g layM A cX12_rows 11 0 0 Z post) (x1 x2 x3 x4 s1 : Int32) (M : Mem) (h : P_M_rows_37 post x1 x2 x3 x4 s1 M) : AtX X g layM A 11 0 0 Z 37 [(0, .ref (ad g 0)), (1, .int x1), (2, .int x2), (3, .int x3), (4, .int x4)] [.int s1, .ref (ad g 0)] M := by
  refine a_iconst C (2 : Int32) (tk T_cX12_rows 20 rfl) kI_2 ?_
  refine a_callI C [.int s1, .int (2 : Int32)] me_yX12_throwsIf lk_RX12_72 (ct_M_throwsIf h) (by decide) lm0 rfl rfl rfl (Nat.le_of_ble_eq_true rfl) (tk T_cX12_rows 21 rfl) hr (fun r1 M1 h => ?_)
  refine a_if_eq C 46 (tk T_cX12_rows 22 rfl) rfl (fun c => ?_) (fun c => ?_)
  · have h := h.1 c
    refine a_aload_n C (tk T_cX12_rows 25 rfl) rfl ?_
    refine a_callV C [] me_yX12_spans lk_RX12_197 (ct_M_spans h) (by decide) lm0 rfl rfl rfl (Nat.le_of_ble_eq_true rfl) (tk T_cX12_rows 26 rfl) hr (fun M2 h => ?_)
    refine a_aload_n C (tk T_cX12_rows 27 rfl) rfl ?_
    refine a_iload_n C (tk T_cX12_rows 28 rfl) rfl ?_
    refine a_iload_n C (tk T_cX12_rows 29 rfl) rfl ?_
    refine a_callV C [.int x1, .int x2] me_yX12_gathers lk_RX12_237 (ct_M_gathers h) (by decide) lm0 rfl rfl rfl (Nat.le_of_ble_eq_true rfl) (tk T_cX12_rows 30 rfl) hr (fun M3 h => ?_)
    refine a_iconst C (0 : Int32) (tk T_cX12_rows 31 rfl) kI_0 ?_
    refine a_istore C (tk T_cX12_rows 32 rfl) (by decide) rfl ?_
    refine a_iconst C (-1 : Int32) (tk T_cX12_rows 33 rfl) kI_m1 ?_
    refine a_istore C (tk T_cX12_rows 34 rfl) (by decide) rfl ?_
    refine a_iconst C (0 : Int32) (tk T_cX12_rows 35 rfl) kI_0 ?_
    refine a_istore C (tk T_cX12_rows 36 rfl) (by decide) rfl ?_
    obtain ⟨n1, h⟩ := h
    exact a_to (k_M_rows_65 C hr hR n1 x3 x4 (0 : Int32) (-1 : Int32) (0 : Int32) M3 h) rfl
  · have h := h.2 c
    exact a_to (k_M_rows_44 C hr hR M1 h) rfl
def P_M_rows (post : Int32 → Mem → Prop) (x1 x2 x3 x4 : Int32) (M : Mem) : Prop :=
  ∀ M1, M1 = ms M 0 0 (0 : Int32) → P_M_none (fun r2 M2 =>
  P_M_throwsIf (fun r3 M3 =>
  (¬ r3 = 0 → (P_M_rows_44 post M3)) ∧
  (r3 = 0 → (P_M_in (fun r4 M4 =>
  (¬ r4 = 0 → (P_M_rows_37 post x1 x2 x3 x4 (0 : Int32) M4)) ∧
  (r4 = 0 → (P_M_rows_37 post x1 x2 x3 x4 (1 : Int32) M4))) x3 (0 : Int32) (999 : Int32) M3))) r2 (1 : Int32) M2) x1 (8 : Int32) M1
theorem k_M_rows {X : FX} {g : GT} {A : Nat → Prop} {Z : State → Prop} {post : Int32 → Mem → Prop} (C : Cx X g layM A cX12_rows 11 RX12 5) (hr : 0 ≤ X.2.2.2.1.cells ∧ 0 ≤ X.2.2.2.1.slots) (hR : RetI X g layM A cX12_rows 11 0 0 Z post) (x1 x2 x3 x4 : Int32) (M : Mem) (h : P_M_rows post x1 x2 x3 x4 M) : AtX X g layM A 11 0 0 Z 0 [(0, .ref (ad g 0)), (1, .int x1), (2, .int x2), (3, .int x3), (4, .int x4)] [] M := by
  refine a_aload_n C (tk T_cX12_rows 0 rfl) rfl ?_
  refine a_iconst C (0 : Int32) (tk T_cX12_rows 1 rfl) kI_0 ?_
  refine a_put C f_RX12_3 f_RX12_3p rfl rfl (tk T_cX12_rows 2 rfl) lm0 rfl ?_
  refine a_mem (fun M1 e_M1 => ?_)
  have h := h M1 e_M1
  refine a_aload_n C (tk T_cX12_rows 3 rfl) rfl ?_
  refine a_aload_n C (tk T_cX12_rows 4 rfl) rfl ?_
  refine a_iload_n C (tk T_cX12_rows 5 rfl) rfl ?_
  refine a_bipush C (8 : Int32) (tk T_cX12_rows 6 rfl) kB_8 ?_
  refine a_callI C [.int x1, .int (8 : Int32)] me_yX12_none lk_RX12_121 (ct_M_none h) (by decide) lm0 rfl rfl rfl (Nat.le_of_ble_eq_true rfl) (tk T_cX12_rows 7 rfl) hr (fun r2 M2 h => ?_)
  refine a_iconst C (1 : Int32) (tk T_cX12_rows 8 rfl) kI_1 ?_
  refine a_callI C [.int r2, .int (1 : Int32)] me_yX12_throwsIf lk_RX12_72 (ct_M_throwsIf h) (by decide) lm0 rfl rfl rfl (Nat.le_of_ble_eq_true rfl) (tk T_cX12_rows 9 rfl) hr (fun r3 M3 h => ?_)
  refine a_if_ne C 44 (tk T_cX12_rows 10 rfl) rfl (fun c => ?_) (fun c => ?_)
  · have h := h.1 c
    exact a_to (k_M_rows_44 C hr hR M3 h) rfl
  · have h := h.2 c
    refine a_aload_n C (tk T_cX12_rows 11 rfl) rfl ?_
    refine a_iload_n C (tk T_cX12_rows 12 rfl) rfl ?_
    refine a_iconst C (0 : Int32) (tk T_cX12_rows 13 rfl) kI_0 ?_
    refine a_sipush C (999 : Int32) (tk T_cX12_rows 14 rfl) kS_999 ?_
    refine a_statI C [.int x3, .int (0 : Int32), .int (999 : Int32)] me_yX12_in lk_RX12_58 (ct_M_in h) (by decide) rfl rfl (Nat.le_of_ble_eq_true rfl) (tk T_cX12_rows 15 rfl) hr (fun r4 M4 h => ?_)
    refine a_if_ne C 36 (tk T_cX12_rows 16 rfl) rfl (fun c => ?_) (fun c => ?_)
    · have h := h.1 c
      refine a_iconst C (0 : Int32) (tk T_cX12_rows 19 rfl) kI_0 ?_
      exact a_to (k_M_rows_37 C hr hR x1 x2 x3 x4 (0 : Int32) M4 h) rfl
    · have h := h.2 c
      refine a_iconst C (1 : Int32) (tk T_cX12_rows 17 rfl) kI_1 ?_
      refine a_goto C 37 (tk T_cX12_rows 18 rfl) rfl ?_
      exact a_to (k_M_rows_37 C hr hR x1 x2 x3 x4 (1 : Int32) M4 h) rfl
theorem ct_M_rows {l : Launch} {g : GT} {post : Int32 → Mem → Prop} {x1 x2 x3 x4 : Int32} {M : Mem} (h : P_M_rows post x1 x2 x3 x4 M) : CI l g layM yX12_rows cX12_rows 11 (some .int) 5 [.ref (ad g 0), .int x1, .int x2, .int x3, .int x4] M post :=
  ci_of (plainFor_of_name (by decide +kernel)) (Nat.le_of_ble_eq_true rfl) (fun X A Z hl C hr hR => by subst hl; exact k_M_rows C hr hR x1 x2 x3 x4 M h)
def T_cX12_partsL : List (Nat × Instr × Nat) := [(0, .iconst 0, 1), (1, .istore 7, 2), (3, .iload 7, 2), (5, .aload_n 0, 1), (6, .getfield 13, 3), (9, .bipush 7, 2), (11, .iaload, 1), (12, .if_icmp .ge 160, 3), (15, .iconst 0, 1), (16, .istore 8, 2), (18, .iload 8, 2), (20, .aload_n 0, 1), (21, .iload 7, 2), (23, .invokevirtual 125, 3), (26, .if_icmp .ge 140, 3), (29, .iload_n 1, 1), (30, .iload 7, 2), (32, .ishr, 1), (33, .iconst 1, 1), (34, .iand, 1), (35, .ifCond .eq 125, 3), (38, .aload_n 0, 1), (39, .iload 7, 2), (41, .iload 8, 2), (43, .iconst 0, 1), (44, .iload_n 3, 1), (45, .iload 4, 2), (47, .iload 5, 2), (49, .iload 6, 2), (51, .invokevirtual 167, 3), (54, .ifCond .ne 6, 3), (57, .goto 103, 3), (60, .iconst 1, 1), (61, .istore 9, 2), (63, .iconst 0, 1), (64, .istore 10, 2), (66, .iload 10, 2), (68, .aload_n 0, 1), (69, .getfield 13, 3), (72, .bipush 7, 2), (74, .iaload, 1), (75, .if_icmp .ge 78, 3), (78, .iconst 0, 1), (79, .istore 11, 2), (81, .iload 11, 2), (83, .aload_n 0, 1), (84, .iload 10, 2), (86, .invokevirtual 125, 3), (89, .if_icmp .ge 58, 3), (92, .iload 9, 2), (94, .ifCond .eq 44, 3), (97, .aload_n 0, 1), (98, .iload_n 2, 1), (99, .iload 10, 2), (101, .invokevirtual 175, 3), (104, .ifCond .eq 30, 3), (107, .aload_n 0, 1), (108, .iload 10, 2), (110, .iload 11, 2), (112, .invokevirtual 151, 3), (115, .aload_n 0, 1), (116, .iload 7, 2), (118, .iload 8, 2), (120, .invokevirtual 151, 3), (123, .isub, 1), (124, .invokestatic 87, 3), (127, .iconst 2, 1), (128, .iload 4, 2), (130, .imul, 1), (131, .if_icmp .le 7, 3), (134, .iconst 1, 1), (135, .goto 4, 3), (138, .iconst 0, 1), (139, .istore 9, 2), (141, .iinc 11 1, 3), (144, .goto (-63), 3), (147, .iinc 10 1, 3), (150, .goto (-84), 3), (153, .iload 9, 2), (155, .ifCond .eq 5, 3), (158, .iconst 1, 1), (159, .ireturn, 1), (160, .iinc 8 1, 3), (163, .goto (-145), 3), (166, .iinc 7 1, 3), (169, .goto (-166), 3), (172, .iconst 0, 1), (173, .ireturn, 1)]
theorem T_cX12_parts : tabOK cX12_parts T_cX12_partsL = true := by decide +kernel
def P_M_parts_160 (post : Int32 → Mem → Prop) (R3 : Int32 → Int32 → Int32 → Int32 → Int32 → Int32 → Int32 → Mem → Prop) (R18 : Int32 → Int32 → Int32 → Int32 → Int32 → Int32 → Int32 → Int32 → Mem → Prop) (x1 x2 x3 x4 x5 x6 x7 x8 : Int32) (M : Mem) : Prop :=
  R18 x1 x2 x3 x4 x5 x6 x7 (x8 + (1 : Int32)) M
theorem k_M_parts_160 {X : FX} {g : GT} {A : Nat → Prop} {Z : State → Prop} {post : Int32 → Mem → Prop} {R3 : Int32 → Int32 → Int32 → Int32 → Int32 → Int32 → Int32 → Mem → Prop} {R18 : Int32 → Int32 → Int32 → Int32 → Int32 → Int32 → Int32 → Int32 → Mem → Prop} (C : Cx X g layM A cX12_parts 12 RX12 3) (hr : 0 ≤ X.2.2.2.1.cells ∧ 0 ≤ X.2.2.2.1.slots) (hR : RetZ X g layM A cX12_parts 12 0 0 Z post) (k3 : ∀ (y1 y2 y3 y4 y5 y6 y7 : Int32) (M : Mem), R3 y1 y2 y3 y4 y5 y6 y7 M → AtX X g layM A 12 0 0 Z 3 [(0, .ref (ad g 0)), (1, .int y1), (2, .int y2), (3, .int y3), (4, .int y4), (5, .int y5), (6, .int y6), (7, .int y7)] [] M) (k18 : ∀ (y1 y2 y3 y4 y5 y6 y7 y8 : Int32) (M : Mem), R18 y1 y2 y3 y4 y5 y6 y7 y8 M → AtX X g layM A 12 0 0 Z 18 [(0, .ref (ad g 0)), (1, .int y1), (2, .int y2), (3, .int y3), (4, .int y4), (5, .int y5), (6, .int y6), (7, .int y7), (8, .int y8)] [] M) (x1 x2 x3 x4 x5 x6 x7 x8 : Int32) (M : Mem) (h : P_M_parts_160 post R3 R18 x1 x2 x3 x4 x5 x6 x7 x8 M) : AtX X g layM A 12 0 0 Z 160 [(0, .ref (ad g 0)), (1, .int x1), (2, .int x2), (3, .int x3), (4, .int x4), (5, .int x5), (6, .int x6), (7, .int x7), (8, .int x8)] [] M := by
  refine a_iinc C (1 : Int32) (tk T_cX12_parts 82 rfl) rfl kI_1 (by decide) rfl ?_
  refine a_goto C 18 (tk T_cX12_parts 83 rfl) rfl ?_
  exact a_to (k18 x1 x2 x3 x4 x5 x6 x7 (x8 + (1 : Int32)) M h) rfl
def P_M_parts_139 (post : Int32 → Mem → Prop) (R3 : Int32 → Int32 → Int32 → Int32 → Int32 → Int32 → Int32 → Mem → Prop) (R18 : Int32 → Int32 → Int32 → Int32 → Int32 → Int32 → Int32 → Int32 → Mem → Prop) (R66 : Int32 → Int32 → Int32 → Int32 → Int32 → Int32 → Int32 → Int32 → Int32 → Int32 → Mem → Prop) (R81 : Int32 → Int32 → Int32 → Int32 → Int32 → Int32 → Int32 → Int32 → Int32 → Int32 → Int32 → Mem → Prop) (x1 x2 x3 x4 x5 x6 x7 x8 x10 x11 s0 : Int32) (M : Mem) : Prop :=
  R81 x1 x2 x3 x4 x5 x6 x7 x8 s0 x10 (x11 + (1 : Int32)) M
theorem k_M_parts_139 {X : FX} {g : GT} {A : Nat → Prop} {Z : State → Prop} {post : Int32 → Mem → Prop} {R3 : Int32 → Int32 → Int32 → Int32 → Int32 → Int32 → Int32 → Mem → Prop} {R18 : Int32 → Int32 → Int32 → Int32 → Int32 → Int32 → Int32 → Int32 → Mem → Prop} {R66 : Int32 → Int32 → Int32 → Int32 → Int32 → Int32 → Int32 → Int32 → Int32 → Int32 → Mem → Prop} {R81 : Int32 → Int32 → Int32 → Int32 → Int32 → Int32 → Int32 → Int32 → Int32 → Int32 → Int32 → Mem → Prop} (C : Cx X g layM A cX12_parts 12 RX12 3) (hr : 0 ≤ X.2.2.2.1.cells ∧ 0 ≤ X.2.2.2.1.slots) (hR : RetZ X g layM A cX12_parts 12 0 0 Z post) (k3 : ∀ (y1 y2 y3 y4 y5 y6 y7 : Int32) (M : Mem), R3 y1 y2 y3 y4 y5 y6 y7 M → AtX X g layM A 12 0 0 Z 3 [(0, .ref (ad g 0)), (1, .int y1), (2, .int y2), (3, .int y3), (4, .int y4), (5, .int y5), (6, .int y6), (7, .int y7)] [] M) (k18 : ∀ (y1 y2 y3 y4 y5 y6 y7 y8 : Int32) (M : Mem), R18 y1 y2 y3 y4 y5 y6 y7 y8 M → AtX X g layM A 12 0 0 Z 18 [(0, .ref (ad g 0)), (1, .int y1), (2, .int y2), (3, .int y3), (4, .int y4), (5, .int y5), (6, .int y6), (7, .int y7), (8, .int y8)] [] M) (k66 : ∀ (y1 y2 y3 y4 y5 y6 y7 y8 y9 y10 : Int32) (M : Mem), R66 y1 y2 y3 y4 y5 y6 y7 y8 y9 y10 M → AtX X g layM A 12 0 0 Z 66 [(0, .ref (ad g 0)), (1, .int y1), (2, .int y2), (3, .int y3), (4, .int y4), (5, .int y5), (6, .int y6), (7, .int y7), (8, .int y8), (9, .int y9), (10, .int y10)] [] M) (k81 : ∀ (y1 y2 y3 y4 y5 y6 y7 y8 y9 y10 y11 : Int32) (M : Mem), R81 y1 y2 y3 y4 y5 y6 y7 y8 y9 y10 y11 M → AtX X g layM A 12 0 0 Z 81 [(0, .ref (ad g 0)), (1, .int y1), (2, .int y2), (3, .int y3), (4, .int y4), (5, .int y5), (6, .int y6), (7, .int y7), (8, .int y8), (9, .int y9), (10, .int y10), (11, .int y11)] [] M) (x1 x2 x3 x4 x5 x6 x7 x8 x10 x11 s0 : Int32) (M : Mem) (h : P_M_parts_139 post R3 R18 R66 R81 x1 x2 x3 x4 x5 x6 x7 x8 x10 x11 s0 M) : AtX X g layM A 12 0 0 Z 139 [(0, .ref (ad g 0)), (1, .int x1), (2, .int x2), (3, .int x3), (4, .int x4), (5, .int x5), (6, .int x6), (7, .int x7), (8, .int x8), (10, .int x10), (11, .int x11)] [.int s0] M := by
  refine a_istore C (tk T_cX12_parts 73 rfl) (by decide) rfl ?_
  refine a_iinc C (1 : Int32) (tk T_cX12_parts 74 rfl) rfl kI_1 (by decide) rfl ?_
  refine a_goto C 81 (tk T_cX12_parts 75 rfl) rfl ?_
  exact a_to (k81 x1 x2 x3 x4 x5 x6 x7 x8 s0 x10 (x11 + (1 : Int32)) M h) rfl
def P_M_parts_138 (post : Int32 → Mem → Prop) (R3 : Int32 → Int32 → Int32 → Int32 → Int32 → Int32 → Int32 → Mem → Prop) (R18 : Int32 → Int32 → Int32 → Int32 → Int32 → Int32 → Int32 → Int32 → Mem → Prop) (R66 : Int32 → Int32 → Int32 → Int32 → Int32 → Int32 → Int32 → Int32 → Int32 → Int32 → Mem → Prop) (R81 : Int32 → Int32 → Int32 → Int32 → Int32 → Int32 → Int32 → Int32 → Int32 → Int32 → Int32 → Mem → Prop) (x1 x2 x3 x4 x5 x6 x7 x8 x10 x11 : Int32) (M : Mem) : Prop :=
  P_M_parts_139 post R3 R18 R66 R81 x1 x2 x3 x4 x5 x6 x7 x8 x10 x11 (0 : Int32) M
theorem k_M_parts_138 {X : FX} {g : GT} {A : Nat → Prop} {Z : State → Prop} {post : Int32 → Mem → Prop} {R3 : Int32 → Int32 → Int32 → Int32 → Int32 → Int32 → Int32 → Mem → Prop} {R18 : Int32 → Int32 → Int32 → Int32 → Int32 → Int32 → Int32 → Int32 → Mem → Prop} {R66 : Int32 → Int32 → Int32 → Int32 → Int32 → Int32 → Int32 → Int32 → Int32 → Int32 → Mem → Prop} {R81 : Int32 → Int32 → Int32 → Int32 → Int32 → Int32 → Int32 → Int32 → Int32 → Int32 → Int32 → Mem → Prop} (C : Cx X g layM A cX12_parts 12 RX12 3) (hr : 0 ≤ X.2.2.2.1.cells ∧ 0 ≤ X.2.2.2.1.slots) (hR : RetZ X g layM A cX12_parts 12 0 0 Z post) (k3 : ∀ (y1 y2 y3 y4 y5 y6 y7 : Int32) (M : Mem), R3 y1 y2 y3 y4 y5 y6 y7 M → AtX X g layM A 12 0 0 Z 3 [(0, .ref (ad g 0)), (1, .int y1), (2, .int y2), (3, .int y3), (4, .int y4), (5, .int y5), (6, .int y6), (7, .int y7)] [] M) (k18 : ∀ (y1 y2 y3 y4 y5 y6 y7 y8 : Int32) (M : Mem), R18 y1 y2 y3 y4 y5 y6 y7 y8 M → AtX X g layM A 12 0 0 Z 18 [(0, .ref (ad g 0)), (1, .int y1), (2, .int y2), (3, .int y3), (4, .int y4), (5, .int y5), (6, .int y6), (7, .int y7), (8, .int y8)] [] M) (k66 : ∀ (y1 y2 y3 y4 y5 y6 y7 y8 y9 y10 : Int32) (M : Mem), R66 y1 y2 y3 y4 y5 y6 y7 y8 y9 y10 M → AtX X g layM A 12 0 0 Z 66 [(0, .ref (ad g 0)), (1, .int y1), (2, .int y2), (3, .int y3), (4, .int y4), (5, .int y5), (6, .int y6), (7, .int y7), (8, .int y8), (9, .int y9), (10, .int y10)] [] M) (k81 : ∀ (y1 y2 y3 y4 y5 y6 y7 y8 y9 y10 y11 : Int32) (M : Mem), R81 y1 y2 y3 y4 y5 y6 y7 y8 y9 y10 y11 M → AtX X g layM A 12 0 0 Z 81 [(0, .ref (ad g 0)), (1, .int y1), (2, .int y2), (3, .int y3), (4, .int y4), (5, .int y5), (6, .int y6), (7, .int y7), (8, .int y8), (9, .int y9), (10, .int y10), (11, .int y11)] [] M) (x1 x2 x3 x4 x5 x6 x7 x8 x10 x11 : Int32) (M : Mem) (h : P_M_parts_138 post R3 R18 R66 R81 x1 x2 x3 x4 x5 x6 x7 x8 x10 x11 M) : AtX X g layM A 12 0 0 Z 138 [(0, .ref (ad g 0)), (1, .int x1), (2, .int x2), (3, .int x3), (4, .int x4), (5, .int x5), (6, .int x6), (7, .int x7), (8, .int x8), (10, .int x10), (11, .int x11)] [] M := by
  refine a_iconst C (0 : Int32) (tk T_cX12_parts 72 rfl) kI_0 ?_
  exact a_to (k_M_parts_139 C hr hR k3 k18 k66 k81 x1 x2 x3 x4 x5 x6 x7 x8 x10 x11 (0 : Int32) M h) rfl
def P_M_parts_134 (post : Int32 → Mem → Prop) (R3 : Int32 → Int32 → Int32 → Int32 → Int32 → Int32 → Int32 → Mem → Prop) (R18 : Int32 → Int32 → Int32 → Int32 → Int32 → Int32 → Int32 → Int32 → Mem → Prop) (R66 : Int32 → Int32 → Int32 → Int32 → Int32 → Int32 → Int32 → Int32 → Int32 → Int32 → Mem → Prop) (R81 : Int32 → Int32 → Int32 → Int32 → Int32 → Int32 → Int32 → Int32 → Int32 → Int32 → Int32 → Mem → Prop) (x1 x2 x3 x4 x5 x6 x7 x8 x10 x11 : Int32) (M : Mem) : Prop :=
  P_M_parts_139 post R3 R18 R66 R81 x1 x2 x3 x4 x5 x6 x7 x8 x10 x11 (1 : Int32) M
theorem k_M_parts_134 {X : FX} {g : GT} {A : Nat → Prop} {Z : State → Prop} {post : Int32 → Mem → Prop} {R3 : Int32 → Int32 → Int32 → Int32 → Int32 → Int32 → Int32 → Mem → Prop} {R18 : Int32 → Int32 → Int32 → Int32 → Int32 → Int32 → Int32 → Int32 → Mem → Prop} {R66 : Int32 → Int32 → Int32 → Int32 → Int32 → Int32 → Int32 → Int32 → Int32 → Int32 → Mem → Prop} {R81 : Int32 → Int32 → Int32 → Int32 → Int32 → Int32 → Int32 → Int32 → Int32 → Int32 → Int32 → Mem → Prop} (C : Cx X g layM A cX12_parts 12 RX12 3) (hr : 0 ≤ X.2.2.2.1.cells ∧ 0 ≤ X.2.2.2.1.slots) (hR : RetZ X g layM A cX12_parts 12 0 0 Z post) (k3 : ∀ (y1 y2 y3 y4 y5 y6 y7 : Int32) (M : Mem), R3 y1 y2 y3 y4 y5 y6 y7 M → AtX X g layM A 12 0 0 Z 3 [(0, .ref (ad g 0)), (1, .int y1), (2, .int y2), (3, .int y3), (4, .int y4), (5, .int y5), (6, .int y6), (7, .int y7)] [] M) (k18 : ∀ (y1 y2 y3 y4 y5 y6 y7 y8 : Int32) (M : Mem), R18 y1 y2 y3 y4 y5 y6 y7 y8 M → AtX X g layM A 12 0 0 Z 18 [(0, .ref (ad g 0)), (1, .int y1), (2, .int y2), (3, .int y3), (4, .int y4), (5, .int y5), (6, .int y6), (7, .int y7), (8, .int y8)] [] M) (k66 : ∀ (y1 y2 y3 y4 y5 y6 y7 y8 y9 y10 : Int32) (M : Mem), R66 y1 y2 y3 y4 y5 y6 y7 y8 y9 y10 M → AtX X g layM A 12 0 0 Z 66 [(0, .ref (ad g 0)), (1, .int y1), (2, .int y2), (3, .int y3), (4, .int y4), (5, .int y5), (6, .int y6), (7, .int y7), (8, .int y8), (9, .int y9), (10, .int y10)] [] M) (k81 : ∀ (y1 y2 y3 y4 y5 y6 y7 y8 y9 y10 y11 : Int32) (M : Mem), R81 y1 y2 y3 y4 y5 y6 y7 y8 y9 y10 y11 M → AtX X g layM A 12 0 0 Z 81 [(0, .ref (ad g 0)), (1, .int y1), (2, .int y2), (3, .int y3), (4, .int y4), (5, .int y5), (6, .int y6), (7, .int y7), (8, .int y8), (9, .int y9), (10, .int y10), (11, .int y11)] [] M) (x1 x2 x3 x4 x5 x6 x7 x8 x10 x11 : Int32) (M : Mem) (h : P_M_parts_134 post R3 R18 R66 R81 x1 x2 x3 x4 x5 x6 x7 x8 x10 x11 M) : AtX X g layM A 12 0 0 Z 134 [(0, .ref (ad g 0)), (1, .int x1), (2, .int x2), (3, .int x3), (4, .int x4), (5, .int x5), (6, .int x6), (7, .int x7), (8, .int x8), (10, .int x10), (11, .int x11)] [] M := by
  refine a_iconst C (1 : Int32) (tk T_cX12_parts 70 rfl) kI_1 ?_
  refine a_goto C 139 (tk T_cX12_parts 71 rfl) rfl ?_
  exact a_to (k_M_parts_139 C hr hR k3 k18 k66 k81 x1 x2 x3 x4 x5 x6 x7 x8 x10 x11 (1 : Int32) M h) rfl
def P_M_parts_81 (post : Int32 → Mem → Prop) (R3 : Int32 → Int32 → Int32 → Int32 → Int32 → Int32 → Int32 → Mem → Prop) (R18 : Int32 → Int32 → Int32 → Int32 → Int32 → Int32 → Int32 → Int32 → Mem → Prop) (R66 : Int32 → Int32 → Int32 → Int32 → Int32 → Int32 → Int32 → Int32 → Int32 → Int32 → Mem → Prop) : Nat → Int32 → Int32 → Int32 → Int32 → Int32 → Int32 → Int32 → Int32 → Int32 → Int32 → Int32 → Mem → Prop
  | 0, _, _, _, _, _, _, _, _, _, _, _, _ => False
  | n + 1, x1, x2, x3, x4, x5, x6, x7, x8, x9, x10, x11, M =>
    P_M_lines (fun r1 M1 =>
  (r1 ≤ x11 → (R66 x1 x2 x3 x4 x5 x6 x7 x8 x9 (x10 + (1 : Int32)) M1)) ∧
  (¬ r1 ≤ x11 → ((x9 = 0 → (P_M_parts_138 post R3 R18 R66 (P_M_parts_81 post R3 R18 R66 n) x1 x2 x3 x4 x5 x6 x7 x8 x10 x11 M1)) ∧
  (¬ x9 = 0 → (P_M_isInSet (fun r2 M2 =>
  (r2 = 0 → (P_M_parts_134 post R3 R18 R66 (P_M_parts_81 post R3 R18 R66 n) x1 x2 x3 x4 x5 x6 x7 x8 x10 x11 M2)) ∧
  (¬ r2 = 0 → (P_M_waveOf (fun r3 M3 =>
  P_M_waveOf (fun r4 M4 =>
  P_Math_abs (fun r5 M5 =>
  (r5 ≤ ((2 : Int32) * x4) → (P_M_parts_138 post R3 R18 R66 (P_M_parts_81 post R3 R18 R66 n) x1 x2 x3 x4 x5 x6 x7 x8 x10 x11 M5)) ∧
  (¬ r5 ≤ ((2 : Int32) * x4) → (P_M_parts_134 post R3 R18 R66 (P_M_parts_81 post R3 R18 R66 n) x1 x2 x3 x4 x5 x6 x7 x8 x10 x11 M5))) (r3 - r4) M4) x7 x8 M3) x10 x11 M2))) x2 x10 M1))))) x10 M
theorem k_M_parts_81 {X : FX} {g : GT} {A : Nat → Prop} {Z : State → Prop} {post : Int32 → Mem → Prop} {R3 : Int32 → Int32 → Int32 → Int32 → Int32 → Int32 → Int32 → Mem → Prop} {R18 : Int32 → Int32 → Int32 → Int32 → Int32 → Int32 → Int32 → Int32 → Mem → Prop} {R66 : Int32 → Int32 → Int32 → Int32 → Int32 → Int32 → Int32 → Int32 → Int32 → Int32 → Mem → Prop} (C : Cx X g layM A cX12_parts 12 RX12 3) (hr : 0 ≤ X.2.2.2.1.cells ∧ 0 ≤ X.2.2.2.1.slots) (hR : RetZ X g layM A cX12_parts 12 0 0 Z post) (k3 : ∀ (y1 y2 y3 y4 y5 y6 y7 : Int32) (M : Mem), R3 y1 y2 y3 y4 y5 y6 y7 M → AtX X g layM A 12 0 0 Z 3 [(0, .ref (ad g 0)), (1, .int y1), (2, .int y2), (3, .int y3), (4, .int y4), (5, .int y5), (6, .int y6), (7, .int y7)] [] M) (k18 : ∀ (y1 y2 y3 y4 y5 y6 y7 y8 : Int32) (M : Mem), R18 y1 y2 y3 y4 y5 y6 y7 y8 M → AtX X g layM A 12 0 0 Z 18 [(0, .ref (ad g 0)), (1, .int y1), (2, .int y2), (3, .int y3), (4, .int y4), (5, .int y5), (6, .int y6), (7, .int y7), (8, .int y8)] [] M) (k66 : ∀ (y1 y2 y3 y4 y5 y6 y7 y8 y9 y10 : Int32) (M : Mem), R66 y1 y2 y3 y4 y5 y6 y7 y8 y9 y10 M → AtX X g layM A 12 0 0 Z 66 [(0, .ref (ad g 0)), (1, .int y1), (2, .int y2), (3, .int y3), (4, .int y4), (5, .int y5), (6, .int y6), (7, .int y7), (8, .int y8), (9, .int y9), (10, .int y10)] [] M) : ∀ (n : Nat) (x1 x2 x3 x4 x5 x6 x7 x8 x9 x10 x11 : Int32) (M : Mem), P_M_parts_81 post R3 R18 R66 n x1 x2 x3 x4 x5 x6 x7 x8 x9 x10 x11 M → AtX X g layM A 12 0 0 Z 81 [(0, .ref (ad g 0)), (1, .int x1), (2, .int x2), (3, .int x3), (4, .int x4), (5, .int x5), (6, .int x6), (7, .int x7), (8, .int x8), (9, .int x9), (10, .int x10), (11, .int x11)] [] M := by
  intro n
  induction n with
  | zero =>
    intro x1 x2 x3 x4 x5 x6 x7 x8 x9 x10 x11 M h
    exact h.elim
  | succ n ih =>
    intro x1 x2 x3 x4 x5 x6 x7 x8 x9 x10 x11 M h
    refine a_iload C (tk T_cX12_parts 44 rfl) rfl ?_
    refine a_aload_n C (tk T_cX12_parts 45 rfl) rfl ?_
    refine a_iload C (tk T_cX12_parts 46 rfl) rfl ?_
    refine a_callI C [.int x10] me_yX12_lines lk_RX12_125 (ct_M_lines h) (by decide) lm0 rfl rfl rfl (Nat.le_of_ble_eq_true rfl) (tk T_cX12_parts 47 rfl) hr (fun r1 M1 h => ?_)
    refine a_icmp_ge C 147 (tk T_cX12_parts 48 rfl) rfl (fun c => ?_) (fun c => ?_)
    · have h := h.1 c
      refine a_iinc C (1 : Int32) (tk T_cX12_parts 76 rfl) rfl kI_1 (by decide) rfl ?_
      refine a_goto C 66 (tk T_cX12_parts 77 rfl) rfl ?_
      exact a_to (k66 x1 x2 x3 x4 x5 x6 x7 x8 x9 (x10 + (1 : Int32)) M1 h) rfl
    · have h := h.2 c
      refine a_iload C (tk T_cX12_parts 49 rfl) rfl ?_
      refine a_if_eq C 138 (tk T_cX12_parts 50 rfl) rfl (fun c => ?_) (fun c => ?_)
      · have h := h.1 c
        exact a_to (k_M_parts_138 C hr hR k3 k18 k66 ih x1 x2 x3 x4 x5 x6 x7 x8 x10 x11 M1 h) rfl
      · have h := h.2 c
        refine a_aload_n C (tk T_cX12_parts 51 rfl) rfl ?_
        refine a_iload_n C (tk T_cX12_parts 52 rfl) rfl ?_
        refine a_iload C (tk T_cX12_parts 53 rfl) rfl ?_
        refine a_callI C [.int x2, .int x10] me_yX12_isInSet lk_RX12_175 (ct_M_isInSet h) (by decide) lm0 rfl rfl rfl (Nat.le_of_ble_eq_true rfl) (tk T_cX12_parts 54 rfl) hr (fun r2 M2 h => ?_)
        refine a_if_eq C 134 (tk T_cX12_parts 55 rfl) rfl (fun c => ?_) (fun c => ?_)
        · have h := h.1 c
          exact a_to (k_M_parts_134 C hr hR k3 k18 k66 ih x1 x2 x3 x4 x5 x6 x7 x8 x10 x11 M2 h) rfl
        · have h := h.2 c
          refine a_aload_n C (tk T_cX12_parts 56 rfl) rfl ?_
          refine a_iload C (tk T_cX12_parts 57 rfl) rfl ?_
          refine a_iload C (tk T_cX12_parts 58 rfl) rfl ?_
          refine a_callI C [.int x10, .int x11] me_yX12_waveOf lk_RX12_151 (ct_M_waveOf h) (by decide) lm0 rfl rfl rfl (Nat.le_of_ble_eq_true rfl) (tk T_cX12_parts 59 rfl) hr (fun r3 M3 h => ?_)
          refine a_aload_n C (tk T_cX12_parts 60 rfl) rfl ?_
          refine a_iload C (tk T_cX12_parts 61 rfl) rfl ?_
          refine a_iload C (tk T_cX12_parts 62 rfl) rfl ?_
          refine a_callI C [.int x7, .int x8] me_yX12_waveOf lk_RX12_151 (ct_M_waveOf h) (by decide) lm0 rfl rfl rfl (Nat.le_of_ble_eq_true rfl) (tk T_cX12_parts 63 rfl) hr (fun r4 M4 h => ?_)
          refine a_isub C (tk T_cX12_parts 64 rfl) ?_
          refine a_statI C [.int (r3 - r4)] me_yJ9_abs_0f7a4 lk_RX12_87 (ct_Math_abs h) (by decide) rfl rfl (Nat.le_of_ble_eq_true rfl) (tk T_cX12_parts 65 rfl) hr (fun r5 M5 h => ?_)
          refine a_iconst C (2 : Int32) (tk T_cX12_parts 66 rfl) kI_2 ?_
          refine a_iload C (tk T_cX12_parts 67 rfl) rfl ?_
          refine a_imul C (tk T_cX12_parts 68 rfl) ?_
          refine a_icmp_le C 138 (tk T_cX12_parts 69 rfl) rfl (fun c => ?_) (fun c => ?_)
          · have h := h.1 c
            exact a_to (k_M_parts_138 C hr hR k3 k18 k66 ih x1 x2 x3 x4 x5 x6 x7 x8 x10 x11 M5 h) rfl
          · have h := h.2 c
            exact a_to (k_M_parts_134 C hr hR k3 k18 k66 ih x1 x2 x3 x4 x5 x6 x7 x8 x10 x11 M5 h) rfl
def P_M_parts_66 (post : Int32 → Mem → Prop) (R3 : Int32 → Int32 → Int32 → Int32 → Int32 → Int32 → Int32 → Mem → Prop) (R18 : Int32 → Int32 → Int32 → Int32 → Int32 → Int32 → Int32 → Int32 → Mem → Prop) : Nat → Int32 → Int32 → Int32 → Int32 → Int32 → Int32 → Int32 → Int32 → Int32 → Int32 → Mem → Prop
  | 0, _, _, _, _, _, _, _, _, _, _, _ => False
  | n + 1, x1, x2, x3, x4, x5, x6, x7, x8, x9, x10, M =>
    vp_in (7 : Int32) 5966 ∧ ((M 1 (7 : Int32).toNatClampNeg) ≤ x10 → ((x9 = 0 → (P_M_parts_160 post R3 R18 x1 x2 x3 x4 x5 x6 x7 x8 M)) ∧
  (¬ x9 = 0 → (post (1 : Int32) M)))) ∧
  (¬ (M 1 (7 : Int32).toNatClampNeg) ≤ x10 → (∃ j81, P_M_parts_81 post R3 R18 (P_M_parts_66 post R3 R18 n) j81 x1 x2 x3 x4 x5 x6 x7 x8 x9 x10 (0 : Int32) M))
theorem k_M_parts_66 {X : FX} {g : GT} {A : Nat → Prop} {Z : State → Prop} {post : Int32 → Mem → Prop} {R3 : Int32 → Int32 → Int32 → Int32 → Int32 → Int32 → Int32 → Mem → Prop} {R18 : Int32 → Int32 → Int32 → Int32 → Int32 → Int32 → Int32 → Int32 → Mem → Prop} (C : Cx X g layM A cX12_parts 12 RX12 3) (hr : 0 ≤ X.2.2.2.1.cells ∧ 0 ≤ X.2.2.2.1.slots) (hR : RetZ X g layM A cX12_parts 12 0 0 Z post) (k3 : ∀ (y1 y2 y3 y4 y5 y6 y7 : Int32) (M : Mem), R3 y1 y2 y3 y4 y5 y6 y7 M → AtX X g layM A 12 0 0 Z 3 [(0, .ref (ad g 0)), (1, .int y1), (2, .int y2), (3, .int y3), (4, .int y4), (5, .int y5), (6, .int y6), (7, .int y7)] [] M) (k18 : ∀ (y1 y2 y3 y4 y5 y6 y7 y8 : Int32) (M : Mem), R18 y1 y2 y3 y4 y5 y6 y7 y8 M → AtX X g layM A 12 0 0 Z 18 [(0, .ref (ad g 0)), (1, .int y1), (2, .int y2), (3, .int y3), (4, .int y4), (5, .int y5), (6, .int y6), (7, .int y7), (8, .int y8)] [] M) : ∀ (n : Nat) (x1 x2 x3 x4 x5 x6 x7 x8 x9 x10 : Int32) (M : Mem), P_M_parts_66 post R3 R18 n x1 x2 x3 x4 x5 x6 x7 x8 x9 x10 M → AtX X g layM A 12 0 0 Z 66 [(0, .ref (ad g 0)), (1, .int x1), (2, .int x2), (3, .int x3), (4, .int x4), (5, .int x5), (6, .int x6), (7, .int x7), (8, .int x8), (9, .int x9), (10, .int x10)] [] M := by
  intro n
  induction n with
  | zero =>
    intro x1 x2 x3 x4 x5 x6 x7 x8 x9 x10 M h
    exact h.elim
  | succ n ih =>
    intro x1 x2 x3 x4 x5 x6 x7 x8 x9 x10 M h
    refine a_iload C (tk T_cX12_parts 36 rfl) rfl ?_
    refine a_aload_n C (tk T_cX12_parts 37 rfl) rfl ?_
    refine a_getR C f_RX12_13 (tk T_cX12_parts 38 rfl) lm0 rfl ?_
    refine a_bipush C (7 : Int32) (tk T_cX12_parts 39 rfl) kB_7 ?_
    obtain ⟨hb, h⟩ := h
    refine a_iald C (tk T_cX12_parts 40 rfl) lm1 hb ?_
    refine a_icmp_ge C 153 (tk T_cX12_parts 41 rfl) rfl (fun c => ?_) (fun c => ?_)
    · have h := h.1 c
      refine a_iload C (tk T_cX12_parts 78 rfl) rfl ?_
      refine a_if_eq C 160 (tk T_cX12_parts 79 rfl) rfl (fun c => ?_) (fun c => ?_)
      · have h := h.1 c
        exact a_to (k_M_parts_160 C hr hR k3 k18 x1 x2 x3 x4 x5 x6 x7 x8 M h) rfl
      · have h := h.2 c
        refine a_iconst C (1 : Int32) (tk T_cX12_parts 80 rfl) kI_1 ?_
        exact hR _ _ _ _ (tk T_cX12_parts 81 rfl) ⟨Or.inr rfl, h⟩
    · have h := h.2 c
      refine a_iconst C (0 : Int32) (tk T_cX12_parts 42 rfl) kI_0 ?_
      refine a_istore C (tk T_cX12_parts 43 rfl) (by decide) rfl ?_
      obtain ⟨n1, h⟩ := h
      exact a_to (k_M_parts_81 C hr hR k3 k18 ih n1 x1 x2 x3 x4 x5 x6 x7 x8 x9 x10 (0 : Int32) M h) rfl
def P_M_parts_18 (post : Int32 → Mem → Prop) (R3 : Int32 → Int32 → Int32 → Int32 → Int32 → Int32 → Int32 → Mem → Prop) : Nat → Int32 → Int32 → Int32 → Int32 → Int32 → Int32 → Int32 → Int32 → Mem → Prop
  | 0, _, _, _, _, _, _, _, _, _ => False
  | n + 1, x1, x2, x3, x4, x5, x6, x7, x8, M =>
    P_M_lines (fun r1 M1 =>
  (r1 ≤ x8 → (R3 x1 x2 x3 x4 x5 x6 (x7 + (1 : Int32)) M1)) ∧
  (¬ r1 ≤ x8 → ((((x1 >>> (x7 &&& 31)) &&& (1 : Int32)) = 0 → (P_M_parts_160 post R3 (P_M_parts_18 post R3 n) x1 x2 x3 x4 x5 x6 x7 x8 M1)) ∧
  (¬ ((x1 >>> (x7 &&& 31)) &&& (1 : Int32)) = 0 → (P_M_mustBe (fun r2 M2 =>
  (¬ r2 = 0 → (∃ j66, P_M_parts_66 post R3 (P_M_parts_18 post R3 n) j66 x1 x2 x3 x4 x5 x6 x7 x8 (1 : Int32) (0 : Int32) M2)) ∧
  (r2 = 0 → (P_M_parts_160 post R3 (P_M_parts_18 post R3 n) x1 x2 x3 x4 x5 x6 x7 x8 M2))) x7 x8 (0 : Int32) x3 x4 x5 x6 M1))))) x7 M
theorem k_M_parts_18 {X : FX} {g : GT} {A : Nat → Prop} {Z : State → Prop} {post : Int32 → Mem → Prop} {R3 : Int32 → Int32 → Int32 → Int32 → Int32 → Int32 → Int32 → Mem → Prop} (C : Cx X g layM A cX12_parts 12 RX12 3) (hr : 0 ≤ X.2.2.2.1.cells ∧ 0 ≤ X.2.2.2.1.slots) (hR : RetZ X g layM A cX12_parts 12 0 0 Z post) (k3 : ∀ (y1 y2 y3 y4 y5 y6 y7 : Int32) (M : Mem), R3 y1 y2 y3 y4 y5 y6 y7 M → AtX X g layM A 12 0 0 Z 3 [(0, .ref (ad g 0)), (1, .int y1), (2, .int y2), (3, .int y3), (4, .int y4), (5, .int y5), (6, .int y6), (7, .int y7)] [] M) : ∀ (n : Nat) (x1 x2 x3 x4 x5 x6 x7 x8 : Int32) (M : Mem), P_M_parts_18 post R3 n x1 x2 x3 x4 x5 x6 x7 x8 M → AtX X g layM A 12 0 0 Z 18 [(0, .ref (ad g 0)), (1, .int x1), (2, .int x2), (3, .int x3), (4, .int x4), (5, .int x5), (6, .int x6), (7, .int x7), (8, .int x8)] [] M := by
  intro n
  induction n with
  | zero =>
    intro x1 x2 x3 x4 x5 x6 x7 x8 M h
    exact h.elim
  | succ n ih =>
    intro x1 x2 x3 x4 x5 x6 x7 x8 M h
    refine a_iload C (tk T_cX12_parts 10 rfl) rfl ?_
    refine a_aload_n C (tk T_cX12_parts 11 rfl) rfl ?_
    refine a_iload C (tk T_cX12_parts 12 rfl) rfl ?_
    refine a_callI C [.int x7] me_yX12_lines lk_RX12_125 (ct_M_lines h) (by decide) lm0 rfl rfl rfl (Nat.le_of_ble_eq_true rfl) (tk T_cX12_parts 13 rfl) hr (fun r1 M1 h => ?_)
    refine a_icmp_ge C 166 (tk T_cX12_parts 14 rfl) rfl (fun c => ?_) (fun c => ?_)
    · have h := h.1 c
      refine a_iinc C (1 : Int32) (tk T_cX12_parts 84 rfl) rfl kI_1 (by decide) rfl ?_
      refine a_goto C 3 (tk T_cX12_parts 85 rfl) rfl ?_
      exact a_to (k3 x1 x2 x3 x4 x5 x6 (x7 + (1 : Int32)) M1 h) rfl
    · have h := h.2 c
      refine a_iload_n C (tk T_cX12_parts 15 rfl) rfl ?_
      refine a_iload C (tk T_cX12_parts 16 rfl) rfl ?_
      refine a_ishr C (tk T_cX12_parts 17 rfl) ?_
      refine a_iconst C (1 : Int32) (tk T_cX12_parts 18 rfl) kI_1 ?_
      refine a_iand C (tk T_cX12_parts 19 rfl) ?_
      refine a_if_eq C 160 (tk T_cX12_parts 20 rfl) rfl (fun c => ?_) (fun c => ?_)
      · have h := h.1 c
        exact a_to (k_M_parts_160 C hr hR k3 ih x1 x2 x3 x4 x5 x6 x7 x8 M1 h) rfl
      · have h := h.2 c
        refine a_aload_n C (tk T_cX12_parts 21 rfl) rfl ?_
        refine a_iload C (tk T_cX12_parts 22 rfl) rfl ?_
        refine a_iload C (tk T_cX12_parts 23 rfl) rfl ?_
        refine a_iconst C (0 : Int32) (tk T_cX12_parts 24 rfl) kI_0 ?_
        refine a_iload_n C (tk T_cX12_parts 25 rfl) rfl ?_
        refine a_iload C (tk T_cX12_parts 26 rfl) rfl ?_
        refine a_iload C (tk T_cX12_parts 27 rfl) rfl ?_
        refine a_iload C (tk T_cX12_parts 28 rfl) rfl ?_
        refine a_callI C [.int x7, .int x8, .int (0 : Int32), .int x3, .int x4, .int x5, .int x6] me_yX12_mustBe lk_RX12_167 (ct_M_mustBe h) (by decide) lm0 rfl rfl rfl (Nat.le_of_ble_eq_true rfl) (tk T_cX12_parts 29 rfl) hr (fun r2 M2 h => ?_)
        refine a_if_ne C 60 (tk T_cX12_parts 30 rfl) rfl (fun c => ?_) (fun c => ?_)
        · have h := h.1 c
          refine a_iconst C (1 : Int32) (tk T_cX12_parts 32 rfl) kI_1 ?_
          refine a_istore C (tk T_cX12_parts 33 rfl) (by decide) rfl ?_
          refine a_iconst C (0 : Int32) (tk T_cX12_parts 34 rfl) kI_0 ?_
          refine a_istore C (tk T_cX12_parts 35 rfl) (by decide) rfl ?_
          obtain ⟨n1, h⟩ := h
          exact a_to (k_M_parts_66 C hr hR k3 ih n1 x1 x2 x3 x4 x5 x6 x7 x8 (1 : Int32) (0 : Int32) M2 h) rfl
        · have h := h.2 c
          refine a_goto C 160 (tk T_cX12_parts 31 rfl) rfl ?_
          exact a_to (k_M_parts_160 C hr hR k3 ih x1 x2 x3 x4 x5 x6 x7 x8 M2 h) rfl
def P_M_parts_3 (post : Int32 → Mem → Prop) : Nat → Int32 → Int32 → Int32 → Int32 → Int32 → Int32 → Int32 → Mem → Prop
  | 0, _, _, _, _, _, _, _, _ => False
  | n + 1, x1, x2, x3, x4, x5, x6, x7, M =>
    vp_in (7 : Int32) 5966 ∧ ((M 1 (7 : Int32).toNatClampNeg) ≤ x7 → (post (0 : Int32) M)) ∧
  (¬ (M 1 (7 : Int32).toNatClampNeg) ≤ x7 → (∃ j18, P_M_parts_18 post (P_M_parts_3 post n) j18 x1 x2 x3 x4 x5 x6 x7 (0 : Int32) M))
theorem k_M_parts_3 {X : FX} {g : GT} {A : Nat → Prop} {Z : State → Prop} {post : Int32 → Mem → Prop} (C : Cx X g layM A cX12_parts 12 RX12 3) (hr : 0 ≤ X.2.2.2.1.cells ∧ 0 ≤ X.2.2.2.1.slots) (hR : RetZ X g layM A cX12_parts 12 0 0 Z post) : ∀ (n : Nat) (x1 x2 x3 x4 x5 x6 x7 : Int32) (M : Mem), P_M_parts_3 post n x1 x2 x3 x4 x5 x6 x7 M → AtX X g layM A 12 0 0 Z 3 [(0, .ref (ad g 0)), (1, .int x1), (2, .int x2), (3, .int x3), (4, .int x4), (5, .int x5), (6, .int x6), (7, .int x7)] [] M := by
  intro n
  induction n with
  | zero =>
    intro x1 x2 x3 x4 x5 x6 x7 M h
    exact h.elim
  | succ n ih =>
    intro x1 x2 x3 x4 x5 x6 x7 M h
    refine a_iload C (tk T_cX12_parts 2 rfl) rfl ?_
    refine a_aload_n C (tk T_cX12_parts 3 rfl) rfl ?_
    refine a_getR C f_RX12_13 (tk T_cX12_parts 4 rfl) lm0 rfl ?_
    refine a_bipush C (7 : Int32) (tk T_cX12_parts 5 rfl) kB_7 ?_
    obtain ⟨hb, h⟩ := h
    refine a_iald C (tk T_cX12_parts 6 rfl) lm1 hb ?_
    refine a_icmp_ge C 172 (tk T_cX12_parts 7 rfl) rfl (fun c => ?_) (fun c => ?_)
    · have h := h.1 c
      refine a_iconst C (0 : Int32) (tk T_cX12_parts 86 rfl) kI_0 ?_
      exact hR _ _ _ _ (tk T_cX12_parts 87 rfl) ⟨Or.inl rfl, h⟩
    · have h := h.2 c
      refine a_iconst C (0 : Int32) (tk T_cX12_parts 8 rfl) kI_0 ?_
      refine a_istore C (tk T_cX12_parts 9 rfl) (by decide) rfl ?_
      obtain ⟨n1, h⟩ := h
      exact a_to (k_M_parts_18 C hr hR ih n1 x1 x2 x3 x4 x5 x6 x7 (0 : Int32) M h) rfl
def P_M_parts (post : Int32 → Mem → Prop) (x1 x2 x3 x4 x5 x6 : Int32) (M : Mem) : Prop :=
  ∃ j3, P_M_parts_3 post j3 x1 x2 x3 x4 x5 x6 (0 : Int32) M
theorem k_M_parts {X : FX} {g : GT} {A : Nat → Prop} {Z : State → Prop} {post : Int32 → Mem → Prop} (C : Cx X g layM A cX12_parts 12 RX12 3) (hr : 0 ≤ X.2.2.2.1.cells ∧ 0 ≤ X.2.2.2.1.slots) (hR : RetZ X g layM A cX12_parts 12 0 0 Z post) (x1 x2 x3 x4 x5 x6 : Int32) (M : Mem) (h : P_M_parts post x1 x2 x3 x4 x5 x6 M) : AtX X g layM A 12 0 0 Z 0 [(0, .ref (ad g 0)), (1, .int x1), (2, .int x2), (3, .int x3), (4, .int x4), (5, .int x5), (6, .int x6)] [] M := by
  refine a_iconst C (0 : Int32) (tk T_cX12_parts 0 rfl) kI_0 ?_
  refine a_istore C (tk T_cX12_parts 1 rfl) (by decide) rfl ?_
  obtain ⟨n1, h⟩ := h
  exact a_to (k_M_parts_3 C hr hR n1 x1 x2 x3 x4 x5 x6 (0 : Int32) M h) rfl
theorem ct_M_parts {l : Launch} {g : GT} {post : Int32 → Mem → Prop} {x1 x2 x3 x4 x5 x6 : Int32} {M : Mem} (h : P_M_parts post x1 x2 x3 x4 x5 x6 M) : CI l g layM yX12_parts cX12_parts 12 (some .boolean) 3 [.ref (ad g 0), .int x1, .int x2, .int x3, .int x4, .int x5, .int x6] M post :=
  cz_of (plainFor_of_name (by decide +kernel)) (Nat.le_of_ble_eq_true rfl) (fun X A Z hl C hr hR => by subst hl; exact k_M_parts C hr hR x1 x2 x3 x4 x5 x6 M h)
def T_cX12_nextL : List (Nat × Instr × Nat) := [(0, .aload_n 0, 1), (1, .iconst 0, 1), (2, .putfield 3, 3), (5, .aload_n 0, 1), (6, .iload_n 3, 1), (7, .invokestatic 97, 3), (10, .ifCond .ne 17, 3), (13, .iload 4, 2), (15, .invokestatic 97, 3), (18, .ifCond .ne 9, 3), (21, .iload_n 3, 1), (22, .iload 4, 2), (24, .if_icmp .le 7, 3), (27, .iconst 1, 1), (28, .goto 4, 3), (31, .iconst 0, 1), (32, .iconst 1, 1), (33, .invokevirtual 72, 3), (36, .ifCond .eq 5, 3), (39, .iconst 0, 1), (40, .ireturn, 1), (41, .iconst 1, 1), (42, .istore 5, 2), (44, .iload 5, 2), (46, .bipush 10, 2), (48, .if_icmp .ge 66, 3), (51, .iconst 1, 1), (52, .istore 6, 2), (54, .iload 6, 2), (56, .bipush 6, 2), (58, .if_icmp .ge 50, 3), (61, .aload_n 0, 1), (62, .iload_n 1, 1), (63, .iload_n 2, 1), (64, .iload 5, 2), (66, .iload 6, 2), (68, .iload_n 3, 1), (69, .iload 4, 2), (71, .invokevirtual 243, 3), (74, .ifCond .ne 19, 3), (77, .aload_n 0, 1), (78, .iload_n 2, 1), (79, .iload_n 1, 1), (80, .iload 5, 2), (82, .iload 6, 2), (84, .iload_n 3, 1), (85, .iload 4, 2), (87, .invokevirtual 243, 3), (90, .ifCond .eq 12, 3), (93, .bipush 10, 2), (95, .iload 5, 2), (97, .imul, 1), (98, .iload 6, 2), (100, .iadd, 1), (101, .ireturn, 1), (102, .iinc 6 1, 3), (105, .goto (-51), 3), (108, .iinc 5 1, 3), (111, .goto (-67), 3), (114, .iconst (-1), 1), (115, .ireturn, 1)]
theorem T_cX12_next : tabOK cX12_next T_cX12_nextL = true := by decide +kernel
def P_M_next_93 (post : Int32 → Mem → Prop) (R44 : Int32 → Int32 → Int32 → Int32 → Int32 → Mem → Prop) (R54 : Int32 → Int32 → Int32 → Int32 → Int32 → Int32 → Mem → Prop) (x5 x6 : Int32) (M : Mem) : Prop :=
  post (((10 : Int32) * x5) + x6) M
theorem k_M_next_93 {X : FX} {g : GT} {A : Nat → Prop} {Z : State → Prop} {post : Int32 → Mem → Prop} {R44 : Int32 → Int32 → Int32 → Int32 → Int32 → Mem → Prop} {R54 : Int32 → Int32 → Int32 → Int32 → Int32 → Int32 → Mem → Prop} (C : Cx X g layM A cX12_next 7 RX12 4) (hr : 0 ≤ X.2.2.2.1.cells ∧ 0 ≤ X.2.2.2.1.slots) (hR : RetI X g layM A cX12_next 7 0 0 Z post) (k44 : ∀ (y1 y2 y3 y4 y5 : Int32) (M : Mem), R44 y1 y2 y3 y4 y5 M → AtX X g layM A 7 0 0 Z 44 [(0, .ref (ad g 0)), (1, .int y1), (2, .int y2), (3, .int y3), (4, .int y4), (5, .int y5)] [] M) (k54 : ∀ (y1 y2 y3 y4 y5 y6 : Int32) (M : Mem), R54 y1 y2 y3 y4 y5 y6 M → AtX X g layM A 7 0 0 Z 54 [(0, .ref (ad g 0)), (1, .int y1), (2, .int y2), (3, .int y3), (4, .int y4), (5, .int y5), (6, .int y6)] [] M) (x5 x6 : Int32) (M : Mem) (h : P_M_next_93 post R44 R54 x5 x6 M) : AtX X g layM A 7 0 0 Z 93 [(5, .int x5), (6, .int x6)] [] M := by
  refine a_bipush C (10 : Int32) (tk T_cX12_next 49 rfl) kB_10 ?_
  refine a_iload C (tk T_cX12_next 50 rfl) rfl ?_
  refine a_imul C (tk T_cX12_next 51 rfl) ?_
  refine a_iload C (tk T_cX12_next 52 rfl) rfl ?_
  refine a_iadd C (tk T_cX12_next 53 rfl) ?_
  exact hR _ _ _ _ (tk T_cX12_next 54 rfl) h
def P_M_next_54 (post : Int32 → Mem → Prop) (R44 : Int32 → Int32 → Int32 → Int32 → Int32 → Mem → Prop) : Nat → Int32 → Int32 → Int32 → Int32 → Int32 → Int32 → Mem → Prop
  | 0, _, _, _, _, _, _, _ => False
  | n + 1, x1, x2, x3, x4, x5, x6, M =>
    ((6 : Int32) ≤ x6 → (R44 x1 x2 x3 x4 (x5 + (1 : Int32)) M)) ∧
  (¬ (6 : Int32) ≤ x6 → (P_M_parts (fun r1 M1 =>
  (¬ r1 = 0 → (P_M_next_93 post R44 (P_M_next_54 post R44 n) x5 x6 M1)) ∧
  (r1 = 0 → (P_M_parts (fun r2 M2 =>
  (r2 = 0 → (P_M_next_54 post R44 n x1 x2 x3 x4 x5 (x6 + (1 : Int32)) M2)) ∧
  (¬ r2 = 0 → (P_M_next_93 post R44 (P_M_next_54 post R44 n) x5 x6 M2))) x2 x1 x5 x6 x3 x4 M1))) x1 x2 x5 x6 x3 x4 M))
theorem k_M_next_54 {X : FX} {g : GT} {A : Nat → Prop} {Z : State → Prop} {post : Int32 → Mem → Prop} {R44 : Int32 → Int32 → Int32 → Int32 → Int32 → Mem → Prop} (C : Cx X g layM A cX12_next 7 RX12 4) (hr : 0 ≤ X.2.2.2.1.cells ∧ 0 ≤ X.2.2.2.1.slots) (hR : RetI X g layM A cX12_next 7 0 0 Z post) (k44 : ∀ (y1 y2 y3 y4 y5 : Int32) (M : Mem), R44 y1 y2 y3 y4 y5 M → AtX X g layM A 7 0 0 Z 44 [(0, .ref (ad g 0)), (1, .int y1), (2, .int y2), (3, .int y3), (4, .int y4), (5, .int y5)] [] M) : ∀ (n : Nat) (x1 x2 x3 x4 x5 x6 : Int32) (M : Mem), P_M_next_54 post R44 n x1 x2 x3 x4 x5 x6 M → AtX X g layM A 7 0 0 Z 54 [(0, .ref (ad g 0)), (1, .int x1), (2, .int x2), (3, .int x3), (4, .int x4), (5, .int x5), (6, .int x6)] [] M := by
  intro n
  induction n with
  | zero =>
    intro x1 x2 x3 x4 x5 x6 M h
    exact h.elim
  | succ n ih =>
    intro x1 x2 x3 x4 x5 x6 M h
    refine a_iload C (tk T_cX12_next 28 rfl) rfl ?_
    refine a_bipush C (6 : Int32) (tk T_cX12_next 29 rfl) kB_6 ?_
    refine a_icmp_ge C 108 (tk T_cX12_next 30 rfl) rfl (fun c => ?_) (fun c => ?_)
    · have h := h.1 c
      refine a_iinc C (1 : Int32) (tk T_cX12_next 57 rfl) rfl kI_1 (by decide) rfl ?_
      refine a_goto C 44 (tk T_cX12_next 58 rfl) rfl ?_
      exact a_to (k44 x1 x2 x3 x4 (x5 + (1 : Int32)) M h) rfl
    · have h := h.2 c
      refine a_aload_n C (tk T_cX12_next 31 rfl) rfl ?_
      refine a_iload_n C (tk T_cX12_next 32 rfl) rfl ?_
      refine a_iload_n C (tk T_cX12_next 33 rfl) rfl ?_
      refine a_iload C (tk T_cX12_next 34 rfl) rfl ?_
      refine a_iload C (tk T_cX12_next 35 rfl) rfl ?_
      refine a_iload_n C (tk T_cX12_next 36 rfl) rfl ?_
      refine a_iload C (tk T_cX12_next 37 rfl) rfl ?_
      refine a_callI C [.int x1, .int x2, .int x5, .int x6, .int x3, .int x4] me_yX12_parts lk_RX12_243 (ct_M_parts h) (by decide) lm0 rfl rfl rfl (Nat.le_of_ble_eq_true rfl) (tk T_cX12_next 38 rfl) hr (fun r1 M1 h => ?_)
      refine a_if_ne C 93 (tk T_cX12_next 39 rfl) rfl (fun c => ?_) (fun c => ?_)
      · have h := h.1 c
        exact a_to (k_M_next_93 C hr hR k44 ih x5 x6 M1 h) rfl
      · have h := h.2 c
        refine a_aload_n C (tk T_cX12_next 40 rfl) rfl ?_
        refine a_iload_n C (tk T_cX12_next 41 rfl) rfl ?_
        refine a_iload_n C (tk T_cX12_next 42 rfl) rfl ?_
        refine a_iload C (tk T_cX12_next 43 rfl) rfl ?_
        refine a_iload C (tk T_cX12_next 44 rfl) rfl ?_
        refine a_iload_n C (tk T_cX12_next 45 rfl) rfl ?_
        refine a_iload C (tk T_cX12_next 46 rfl) rfl ?_
        refine a_callI C [.int x2, .int x1, .int x5, .int x6, .int x3, .int x4] me_yX12_parts lk_RX12_243 (ct_M_parts h) (by decide) lm0 rfl rfl rfl (Nat.le_of_ble_eq_true rfl) (tk T_cX12_next 47 rfl) hr (fun r2 M2 h => ?_)
        refine a_if_eq C 102 (tk T_cX12_next 48 rfl) rfl (fun c => ?_) (fun c => ?_)
        · have h := h.1 c
          refine a_iinc C (1 : Int32) (tk T_cX12_next 55 rfl) rfl kI_1 (by decide) rfl ?_
          refine a_goto C 54 (tk T_cX12_next 56 rfl) rfl ?_
          exact a_to (ih x1 x2 x3 x4 x5 (x6 + (1 : Int32)) M2 h) rfl
        · have h := h.2 c
          exact a_to (k_M_next_93 C hr hR k44 ih x5 x6 M2 h) rfl
def P_M_next_44 (post : Int32 → Mem → Prop) : Nat → Int32 → Int32 → Int32 → Int32 → Int32 → Mem → Prop
  | 0, _, _, _, _, _, _ => False
  | n + 1, x1, x2, x3, x4, x5, M =>
    ((10 : Int32) ≤ x5 → (post (-1 : Int32) M)) ∧
  (¬ (10 : Int32) ≤ x5 → (∃ j54, P_M_next_54 post (P_M_next_44 post n) j54 x1 x2 x3 x4 x5 (1 : Int32) M))
theorem k_M_next_44 {X : FX} {g : GT} {A : Nat → Prop} {Z : State → Prop} {post : Int32 → Mem → Prop} (C : Cx X g layM A cX12_next 7 RX12 4) (hr : 0 ≤ X.2.2.2.1.cells ∧ 0 ≤ X.2.2.2.1.slots) (hR : RetI X g layM A cX12_next 7 0 0 Z post) : ∀ (n : Nat) (x1 x2 x3 x4 x5 : Int32) (M : Mem), P_M_next_44 post n x1 x2 x3 x4 x5 M → AtX X g layM A 7 0 0 Z 44 [(0, .ref (ad g 0)), (1, .int x1), (2, .int x2), (3, .int x3), (4, .int x4), (5, .int x5)] [] M := by
  intro n
  induction n with
  | zero =>
    intro x1 x2 x3 x4 x5 M h
    exact h.elim
  | succ n ih =>
    intro x1 x2 x3 x4 x5 M h
    refine a_iload C (tk T_cX12_next 23 rfl) rfl ?_
    refine a_bipush C (10 : Int32) (tk T_cX12_next 24 rfl) kB_10 ?_
    refine a_icmp_ge C 114 (tk T_cX12_next 25 rfl) rfl (fun c => ?_) (fun c => ?_)
    · have h := h.1 c
      refine a_iconst C (-1 : Int32) (tk T_cX12_next 59 rfl) kI_m1 ?_
      exact hR _ _ _ _ (tk T_cX12_next 60 rfl) h
    · have h := h.2 c
      refine a_iconst C (1 : Int32) (tk T_cX12_next 26 rfl) kI_1 ?_
      refine a_istore C (tk T_cX12_next 27 rfl) (by decide) rfl ?_
      obtain ⟨n1, h⟩ := h
      exact a_to (k_M_next_54 C hr hR ih n1 x1 x2 x3 x4 x5 (1 : Int32) M h) rfl
def P_M_next_32 (post : Int32 → Mem → Prop) (x1 x2 x3 x4 s1 : Int32) (M : Mem) : Prop :=
  P_M_throwsIf (fun r1 M1 =>
  (r1 = 0 → (∃ j44, P_M_next_44 post j44 x1 x2 x3 x4 (1 : Int32) M1)) ∧
  (¬ r1 = 0 → (post (0 : Int32) M1))) s1 (1 : Int32) M
theorem k_M_next_32 {X : FX} {g : GT} {A : Nat → Prop} {Z : State → Prop} {post : Int32 → Mem → Prop} (C : Cx X g layM A cX12_next 7 RX12 4) (hr : 0 ≤ X.2.2.2.1.cells ∧ 0 ≤ X.2.2.2.1.slots) (hR : RetI X g layM A cX12_next 7 0 0 Z post) (x1 x2 x3 x4 s1 : Int32) (M : Mem) (h : P_M_next_32 post x1 x2 x3 x4 s1 M) : AtX X g layM A 7 0 0 Z 32 [(0, .ref (ad g 0)), (1, .int x1), (2, .int x2), (3, .int x3), (4, .int x4)] [.int s1, .ref (ad g 0)] M := by
  refine a_iconst C (1 : Int32) (tk T_cX12_next 16 rfl) kI_1 ?_
  refine a_callI C [.int s1, .int (1 : Int32)] me_yX12_throwsIf lk_RX12_72 (ct_M_throwsIf h) (by decide) lm0 rfl rfl rfl (Nat.le_of_ble_eq_true rfl) (tk T_cX12_next 17 rfl) hr (fun r1 M1 h => ?_)
  refine a_if_eq C 41 (tk T_cX12_next 18 rfl) rfl (fun c => ?_) (fun c => ?_)
  · have h := h.1 c
    refine a_iconst C (1 : Int32) (tk T_cX12_next 21 rfl) kI_1 ?_
    refine a_istore C (tk T_cX12_next 22 rfl) (by decide) rfl ?_
    obtain ⟨n1, h⟩ := h
    exact a_to (k_M_next_44 C hr hR n1 x1 x2 x3 x4 (1 : Int32) M1 h) rfl
  · have h := h.2 c
    refine a_iconst C (0 : Int32) (tk T_cX12_next 19 rfl) kI_0 ?_
    exact hR _ _ _ _ (tk T_cX12_next 20 rfl) h
def P_M_next_27 (post : Int32 → Mem → Prop) (x1 x2 x3 x4 : Int32) (M : Mem) : Prop :=
  P_M_next_32 post x1 x2 x3 x4 (1 : Int32) M
theorem k_M_next_27 {X : FX} {g : GT} {A : Nat → Prop} {Z : State → Prop} {post : Int32 → Mem → Prop} (C : Cx X g layM A cX12_next 7 RX12 4) (hr : 0 ≤ X.2.2.2.1.cells ∧ 0 ≤ X.2.2.2.1.slots) (hR : RetI X g layM A cX12_next 7 0 0 Z post) (x1 x2 x3 x4 : Int32) (M : Mem) (h : P_M_next_27 post x1 x2 x3 x4 M) : AtX X g layM A 7 0 0 Z 27 [(0, .ref (ad g 0)), (1, .int x1), (2, .int x2), (3, .int x3), (4, .int x4)] [.ref (ad g 0)] M := by
  refine a_iconst C (1 : Int32) (tk T_cX12_next 13 rfl) kI_1 ?_
  refine a_goto C 32 (tk T_cX12_next 14 rfl) rfl ?_
  exact a_to (k_M_next_32 C hr hR x1 x2 x3 x4 (1 : Int32) M h) rfl
def P_M_next (post : Int32 → Mem → Prop) (x1 x2 x3 x4 : Int32) (M : Mem) : Prop :=
  ∀ M1, M1 = ms M 0 0 (0 : Int32) → P_M_noWave (fun r2 M2 =>
  (¬ r2 = 0 → (P_M_next_27 post x1 x2 x3 x4 M2)) ∧
  (r2 = 0 → (P_M_noWave (fun r3 M3 =>
  (¬ r3 = 0 → (P_M_next_27 post x1 x2 x3 x4 M3)) ∧
  (r3 = 0 → ((x3 ≤ x4 → (P_M_next_32 post x1 x2 x3 x4 (0 : Int32) M3)) ∧
  (¬ x3 ≤ x4 → (P_M_next_27 post x1 x2 x3 x4 M3))))) x4 M2))) x3 M1
theorem k_M_next {X : FX} {g : GT} {A : Nat → Prop} {Z : State → Prop} {post : Int32 → Mem → Prop} (C : Cx X g layM A cX12_next 7 RX12 4) (hr : 0 ≤ X.2.2.2.1.cells ∧ 0 ≤ X.2.2.2.1.slots) (hR : RetI X g layM A cX12_next 7 0 0 Z post) (x1 x2 x3 x4 : Int32) (M : Mem) (h : P_M_next post x1 x2 x3 x4 M) : AtX X g layM A 7 0 0 Z 0 [(0, .ref (ad g 0)), (1, .int x1), (2, .int x2), (3, .int x3), (4, .int x4)] [] M := by
  refine a_aload_n C (tk T_cX12_next 0 rfl) rfl ?_
  refine a_iconst C (0 : Int32) (tk T_cX12_next 1 rfl) kI_0 ?_
  refine a_put C f_RX12_3 f_RX12_3p rfl rfl (tk T_cX12_next 2 rfl) lm0 rfl ?_
  refine a_mem (fun M1 e_M1 => ?_)
  have h := h M1 e_M1
  refine a_aload_n C (tk T_cX12_next 3 rfl) rfl ?_
  refine a_iload_n C (tk T_cX12_next 4 rfl) rfl ?_
  refine a_statI C [.int x3] me_yX12_noWave lk_RX12_97 (ct_M_noWave h) (by decide) rfl rfl (Nat.le_of_ble_eq_true rfl) (tk T_cX12_next 5 rfl) hr (fun r2 M2 h => ?_)
  refine a_if_ne C 27 (tk T_cX12_next 6 rfl) rfl (fun c => ?_) (fun c => ?_)
  · have h := h.1 c
    exact a_to (k_M_next_27 C hr hR x1 x2 x3 x4 M2 h) rfl
  · have h := h.2 c
    refine a_iload C (tk T_cX12_next 7 rfl) rfl ?_
    refine a_statI C [.int x4] me_yX12_noWave lk_RX12_97 (ct_M_noWave h) (by decide) rfl rfl (Nat.le_of_ble_eq_true rfl) (tk T_cX12_next 8 rfl) hr (fun r3 M3 h => ?_)
    refine a_if_ne C 27 (tk T_cX12_next 9 rfl) rfl (fun c => ?_) (fun c => ?_)
    · have h := h.1 c
      exact a_to (k_M_next_27 C hr hR x1 x2 x3 x4 M3 h) rfl
    · have h := h.2 c
      refine a_iload_n C (tk T_cX12_next 10 rfl) rfl ?_
      refine a_iload C (tk T_cX12_next 11 rfl) rfl ?_
      refine a_icmp_le C 31 (tk T_cX12_next 12 rfl) rfl (fun c => ?_) (fun c => ?_)
      · have h := h.1 c
        refine a_iconst C (0 : Int32) (tk T_cX12_next 15 rfl) kI_0 ?_
        exact a_to (k_M_next_32 C hr hR x1 x2 x3 x4 (0 : Int32) M3 h) rfl
      · have h := h.2 c
        exact a_to (k_M_next_27 C hr hR x1 x2 x3 x4 M3 h) rfl
theorem ct_M_next {l : Launch} {g : GT} {post : Int32 → Mem → Prop} {x1 x2 x3 x4 : Int32} {M : Mem} (h : P_M_next post x1 x2 x3 x4 M) : CI l g layM yX12_next cX12_next 7 (some .int) 4 [.ref (ad g 0), .int x1, .int x2, .int x3, .int x4] M post :=
  ci_of (plainFor_of_name (by decide +kernel)) (Nat.le_of_ble_eq_true rfl) (fun X A Z hl C hr hR => by subst hl; exact k_M_next C hr hR x1 x2 x3 x4 M h)
def T_cX12_changedL : List (Nat × Instr × Nat) := [(0, .iload_n 0, 1), (1, .iload_n 1, 1), (2, .idiv, 1), (3, .bipush 10, 2), (5, .irem, 1), (6, .istore_n 2, 1), (7, .iload_n 0, 1), (8, .bipush 10, 2), (10, .iload_n 1, 1), (11, .imul, 1), (12, .idiv, 1), (13, .bipush 10, 2), (15, .irem, 1), (16, .istore_n 3, 1), (17, .iload_n 0, 1), (18, .iload_n 3, 1), (19, .iload_n 2, 1), (20, .isub, 1), (21, .iload_n 1, 1), (22, .imul, 1), (23, .iadd, 1), (24, .iload_n 2, 1), (25, .iload_n 3, 1), (26, .isub, 1), (27, .bipush 10, 2), (29, .imul, 1), (30, .iload_n 1, 1), (31, .imul, 1), (32, .iadd, 1), (33, .ireturn, 1)]
theorem T_cX12_changed : tabOK cX12_changed T_cX12_changedL = true := by decide +kernel
def P_M_changed (post : Int32 → Mem → Prop) (x0 x1 : Int32) (M : Mem) : Prop :=
  (¬ x1 = 0) ∧ ∀ x2_1, x2_1 = (irm (x0 / x1) (10 : Int32)) → (¬ ((10 : Int32) * x1) = 0) ∧ ∀ x3_2, x3_2 = (irm (x0 / ((10 : Int32) * x1)) (10 : Int32)) → ∀ v3, v3 = ((x0 + ((x3_2 - x2_1) * x1)) + (((x2_1 - x3_2) * (10 : Int32)) * x1)) → post v3 M
theorem k_M_changed {X : FX} {g : GT} {A : Nat → Prop} {Z : State → Prop} {post : Int32 → Mem → Prop} (C : Cx X g layM A cX12_changed 4 RX12 0) (hr : 0 ≤ X.2.2.2.1.cells ∧ 0 ≤ X.2.2.2.1.slots) (hR : RetI X g layM A cX12_changed 4 0 0 Z post) (x0 x1 : Int32) (M : Mem) (h : P_M_changed post x0 x1 M) : AtX X g layM A 4 0 0 Z 0 [(0, .int x0), (1, .int x1)] [] M := by
  refine a_iload_n C (tk T_cX12_changed 0 rfl) rfl ?_
  refine a_iload_n C (tk T_cX12_changed 1 rfl) rfl ?_
  obtain ⟨hy, h⟩ := h
  refine a_idiv C (tk T_cX12_changed 2 rfl) hy ?_
  refine a_bipush C (10 : Int32) (tk T_cX12_changed 3 rfl) kB_10 ?_
  refine a_irem C (tk T_cX12_changed 4 rfl) (by decide) ?_
  refine a_top (fun x2_1 e_x2_1 => ?_)
  have h := h x2_1 e_x2_1
  refine a_istore_n C (tk T_cX12_changed 5 rfl) (by decide) rfl ?_
  refine a_iload_n C (tk T_cX12_changed 6 rfl) rfl ?_
  refine a_bipush C (10 : Int32) (tk T_cX12_changed 7 rfl) kB_10 ?_
  refine a_iload_n C (tk T_cX12_changed 8 rfl) rfl ?_
  refine a_imul C (tk T_cX12_changed 9 rfl) ?_
  obtain ⟨hy, h⟩ := h
  refine a_idiv C (tk T_cX12_changed 10 rfl) hy ?_
  refine a_bipush C (10 : Int32) (tk T_cX12_changed 11 rfl) kB_10 ?_
  refine a_irem C (tk T_cX12_changed 12 rfl) (by decide) ?_
  refine a_top (fun x3_2 e_x3_2 => ?_)
  have h := h x3_2 e_x3_2
  refine a_istore_n C (tk T_cX12_changed 13 rfl) (by decide) rfl ?_
  refine a_iload_n C (tk T_cX12_changed 14 rfl) rfl ?_
  refine a_iload_n C (tk T_cX12_changed 15 rfl) rfl ?_
  refine a_iload_n C (tk T_cX12_changed 16 rfl) rfl ?_
  refine a_isub C (tk T_cX12_changed 17 rfl) ?_
  refine a_iload_n C (tk T_cX12_changed 18 rfl) rfl ?_
  refine a_imul C (tk T_cX12_changed 19 rfl) ?_
  refine a_iadd C (tk T_cX12_changed 20 rfl) ?_
  refine a_iload_n C (tk T_cX12_changed 21 rfl) rfl ?_
  refine a_iload_n C (tk T_cX12_changed 22 rfl) rfl ?_
  refine a_isub C (tk T_cX12_changed 23 rfl) ?_
  refine a_bipush C (10 : Int32) (tk T_cX12_changed 24 rfl) kB_10 ?_
  refine a_imul C (tk T_cX12_changed 25 rfl) ?_
  refine a_iload_n C (tk T_cX12_changed 26 rfl) rfl ?_
  refine a_imul C (tk T_cX12_changed 27 rfl) ?_
  refine a_iadd C (tk T_cX12_changed 28 rfl) ?_
  refine a_top (fun v3 e_v3 => ?_)
  have h := h v3 e_v3
  exact hR _ _ _ _ (tk T_cX12_changed 29 rfl) h
theorem ct_M_changed {l : Launch} {g : GT} {post : Int32 → Mem → Prop} {x0 x1 : Int32} {M : Mem} (h : P_M_changed post x0 x1 M) : CI l g layM yX12_changed cX12_changed 4 (some .int) 0 [.int x0, .int x1] M post :=
  ci_of (plainFor_of_name (by decide +kernel)) (Nat.le_of_ble_eq_true rfl) (fun X A Z hl C hr hR => by subst hl; exact k_M_changed C hr hR x0 x1 M h)
def T_cX12_misprintL : List (Nat × Instr × Nat) := [(0, .aload_n 0, 1), (1, .iconst 0, 1), (2, .putfield 3, 3), (5, .aload_n 0, 1), (6, .aload_n 0, 1), (7, .iload_n 1, 1), (8, .bipush 8, 2), (10, .invokevirtual 121, 3), (13, .ifCond .ne 13, 3), (16, .aload_n 0, 1), (17, .iload_n 2, 1), (18, .bipush 7, 2), (20, .invokevirtual 121, 3), (23, .ifCond .eq 7, 3), (26, .iconst 1, 1), (27, .goto 4, 3), (30, .iconst 0, 1), (31, .iconst 1, 1), (32, .invokevirtual 72, 3), (35, .ifCond .eq 5, 3), (38, .iconst 0, 1), (39, .ireturn, 1), (40, .aload_n 0, 1), (41, .invokevirtual 197, 3), (44, .aload_n 0, 1), (45, .iload_n 1, 1), (46, .iconst 1, 1), (47, .iload_n 2, 1), (48, .ishl, 1), (49, .iconst 0, 1), (50, .invokevirtual 188, 3), (53, .istore_n 3, 1), (54, .iconst 0, 1), (55, .istore 4, 2), (57, .iload 4, 2), (59, .aload_n 0, 1), (60, .iload_n 2, 1), (61, .invokevirtual 125, 3), (64, .if_icmp .ge 127, 3), (67, .aload_n 0, 1), (68, .iload_n 2, 1), (69, .iload 4, 2), (71, .invokevirtual 151, 3), (74, .istore 5, 2), (76, .aload_n 0, 1), (77, .iload_n 1, 1), (78, .iload_n 2, 1), (79, .iload 4, 2), (81, .iconst 0, 1), (82, .invokevirtual 171, 3), (85, .ifCond .eq 100, 3), (88, .aload_n 0, 1), (89, .iload_n 1, 1), (90, .iload 5, 2), (92, .invokevirtual 185, 3), (95, .ifCond .eq 6, 3), (98, .goto 87, 3), (101, .iconst 0, 1), (102, .istore 6, 2), (104, .iload 6, 2), (106, .aload_n 0, 1), (107, .invokevirtual 128, 3), (110, .if_icmp .ge 75, 3), (113, .iload_n 3, 1), (114, .iload 6, 2), (116, .ishr, 1), (117, .iconst 1, 1), (118, .iand, 1), (119, .iconst 1, 1), (120, .if_icmp .ne 59, 3), (123, .aload_n 0, 1), (124, .iload 6, 2), (126, .iload 5, 2), (128, .iconst 1, 1), (129, .invokestatic 247, 3), (132, .invokevirtual 178, 3), (135, .ifCond .ne 35, 3), (138, .aload_n 0, 1), (139, .iload 6, 2), (141, .iload 5, 2), (143, .bipush 10, 2), (145, .invokestatic 247, 3), (148, .invokevirtual 178, 3), (151, .ifCond .ne 19, 3), (154, .aload_n 0, 1), (155, .iload 6, 2), (157, .iload 5, 2), (159, .bipush 100, 2), (161, .invokestatic 247, 3), (164, .invokevirtual 178, 3), (167, .ifCond .eq 12, 3), (170, .bipush 32, 2), (172, .iload 4, 2), (174, .imul, 1), (175, .iload 6, 2), (177, .iadd, 1), (178, .ireturn, 1), (179, .iinc 6 1, 3), (182, .goto (-78), 3), (185, .iinc 4 1, 3), (188, .goto (-131), 3), (191, .iconst (-1), 1), (192, .ireturn, 1)]
theorem T_cX12_misprint : tabOK cX12_misprint T_cX12_misprintL = true := by decide +kernel
def P_M_misprint_185 (post : Int32 → Mem → Prop) (R57 : Int32 → Int32 → Int32 → Int32 → Mem → Prop) (x1 x2 x3 x4 : Int32) (M : Mem) : Prop :=
  R57 x1 x2 x3 (x4 + (1 : Int32)) M
theorem k_M_misprint_185 {X : FX} {g : GT} {A : Nat → Prop} {Z : State → Prop} {post : Int32 → Mem → Prop} {R57 : Int32 → Int32 → Int32 → Int32 → Mem → Prop} (C : Cx X g layM A cX12_misprint 7 RX12 5) (hr : 0 ≤ X.2.2.2.1.cells ∧ 0 ≤ X.2.2.2.1.slots) (hR : RetI X g layM A cX12_misprint 7 0 0 Z post) (k57 : ∀ (y1 y2 y3 y4 : Int32) (M : Mem), R57 y1 y2 y3 y4 M → AtX X g layM A 7 0 0 Z 57 [(0, .ref (ad g 0)), (1, .int y1), (2, .int y2), (3, .int y3), (4, .int y4)] [] M) (x1 x2 x3 x4 : Int32) (M : Mem) (h : P_M_misprint_185 post R57 x1 x2 x3 x4 M) : AtX X g layM A 7 0 0 Z 185 [(0, .ref (ad g 0)), (1, .int x1), (2, .int x2), (3, .int x3), (4, .int x4)] [] M := by
  refine a_iinc C (1 : Int32) (tk T_cX12_misprint 99 rfl) rfl kI_1 (by decide) rfl ?_
  refine a_goto C 57 (tk T_cX12_misprint 100 rfl) rfl ?_
  exact a_to (k57 x1 x2 x3 (x4 + (1 : Int32)) M h) rfl
def P_M_misprint_179 (post : Int32 → Mem → Prop) (R57 : Int32 → Int32 → Int32 → Int32 → Mem → Prop) (R104 : Int32 → Int32 → Int32 → Int32 → Int32 → Int32 → Mem → Prop) (x1 x2 x3 x4 x5 x6 : Int32) (M : Mem) : Prop :=
  R104 x1 x2 x3 x4 x5 (x6 + (1 : Int32)) M
theorem k_M_misprint_179 {X : FX} {g : GT} {A : Nat → Prop} {Z : State → Prop} {post : Int32 → Mem → Prop} {R57 : Int32 → Int32 → Int32 → Int32 → Mem → Prop} {R104 : Int32 → Int32 → Int32 → Int32 → Int32 → Int32 → Mem → Prop} (C : Cx X g layM A cX12_misprint 7 RX12 5) (hr : 0 ≤ X.2.2.2.1.cells ∧ 0 ≤ X.2.2.2.1.slots) (hR : RetI X g layM A cX12_misprint 7 0 0 Z post) (k57 : ∀ (y1 y2 y3 y4 : Int32) (M : Mem), R57 y1 y2 y3 y4 M → AtX X g layM A 7 0 0 Z 57 [(0, .ref (ad g 0)), (1, .int y1), (2, .int y2), (3, .int y3), (4, .int y4)] [] M) (k104 : ∀ (y1 y2 y3 y4 y5 y6 : Int32) (M : Mem), R104 y1 y2 y3 y4 y5 y6 M → AtX X g layM A 7 0 0 Z 104 [(0, .ref (ad g 0)), (1, .int y1), (2, .int y2), (3, .int y3), (4, .int y4), (5, .int y5), (6, .int y6)] [] M) (x1 x2 x3 x4 x5 x6 : Int32) (M : Mem) (h : P_M_misprint_179 post R57 R104 x1 x2 x3 x4 x5 x6 M) : AtX X g layM A 7 0 0 Z 179 [(0, .ref (ad g 0)), (1, .int x1), (2, .int x2), (3, .int x3), (4, .int x4), (5, .int x5), (6, .int x6)] [] M := by
  refine a_iinc C (1 : Int32) (tk T_cX12_misprint 97 rfl) rfl kI_1 (by decide) rfl ?_
  refine a_goto C 104 (tk T_cX12_misprint 98 rfl) rfl ?_
  exact a_to (k104 x1 x2 x3 x4 x5 (x6 + (1 : Int32)) M h) rfl
def P_M_misprint_170 (post : Int32 → Mem → Prop) (R57 : Int32 → Int32 → Int32 → Int32 → Mem → Prop) (R104 : Int32 → Int32 → Int32 → Int32 → Int32 → Int32 → Mem → Prop) (x4 x6 : Int32) (M : Mem) : Prop :=
  post (((32 : Int32) * x4) + x6) M
theorem k_M_misprint_170 {X : FX} {g : GT} {A : Nat → Prop} {Z : State → Prop} {post : Int32 → Mem → Prop} {R57 : Int32 → Int32 → Int32 → Int32 → Mem → Prop} {R104 : Int32 → Int32 → Int32 → Int32 → Int32 → Int32 → Mem → Prop} (C : Cx X g layM A cX12_misprint 7 RX12 5) (hr : 0 ≤ X.2.2.2.1.cells ∧ 0 ≤ X.2.2.2.1.slots) (hR : RetI X g layM A cX12_misprint 7 0 0 Z post) (k57 : ∀ (y1 y2 y3 y4 : Int32) (M : Mem), R57 y1 y2 y3 y4 M → AtX X g layM A 7 0 0 Z 57 [(0, .ref (ad g 0)), (1, .int y1), (2, .int y2), (3, .int y3), (4, .int y4)] [] M) (k104 : ∀ (y1 y2 y3 y4 y5 y6 : Int32) (M : Mem), R104 y1 y2 y3 y4 y5 y6 M → AtX X g layM A 7 0 0 Z 104 [(0, .ref (ad g 0)), (1, .int y1), (2, .int y2), (3, .int y3), (4, .int y4), (5, .int y5), (6, .int y6)] [] M) (x4 x6 : Int32) (M : Mem) (h : P_M_misprint_170 post R57 R104 x4 x6 M) : AtX X g layM A 7 0 0 Z 170 [(4, .int x4), (6, .int x6)] [] M := by
  refine a_bipush C (32 : Int32) (tk T_cX12_misprint 91 rfl) kB_32 ?_
  refine a_iload C (tk T_cX12_misprint 92 rfl) rfl ?_
  refine a_imul C (tk T_cX12_misprint 93 rfl) ?_
  refine a_iload C (tk T_cX12_misprint 94 rfl) rfl ?_
  refine a_iadd C (tk T_cX12_misprint 95 rfl) ?_
  exact hR _ _ _ _ (tk T_cX12_misprint 96 rfl) h
def P_M_misprint_104 (post : Int32 → Mem → Prop) (R57 : Int32 → Int32 → Int32 → Int32 → Mem → Prop) : Nat → Int32 → Int32 → Int32 → Int32 → Int32 → Int32 → Mem → Prop
  | 0, _, _, _, _, _, _, _ => False
  | n + 1, x1, x2, x3, x4, x5, x6, M =>
    P_M_readings (fun r1 M1 =>
  (r1 ≤ x6 → (P_M_misprint_185 post R57 x1 x2 x3 x4 M1)) ∧
  (¬ r1 ≤ x6 → ((¬ ((x3 >>> (x6 &&& 31)) &&& (1 : Int32)) = (1 : Int32) → (P_M_misprint_179 post R57 (P_M_misprint_104 post R57 n) x1 x2 x3 x4 x5 x6 M1)) ∧
  (((x3 >>> (x6 &&& 31)) &&& (1 : Int32)) = (1 : Int32) → (P_M_changed (fun r2 M2 =>
  P_M_isIn (fun r3 M3 =>
  (¬ r3 = 0 → (P_M_misprint_170 post R57 (P_M_misprint_104 post R57 n) x4 x6 M3)) ∧
  (r3 = 0 → (P_M_changed (fun r4 M4 =>
  P_M_isIn (fun r5 M5 =>
  (¬ r5 = 0 → (P_M_misprint_170 post R57 (P_M_misprint_104 post R57 n) x4 x6 M5)) ∧
  (r5 = 0 → (P_M_changed (fun r6 M6 =>
  P_M_isIn (fun r7 M7 =>
  (r7 = 0 → (P_M_misprint_179 post R57 (P_M_misprint_104 post R57 n) x1 x2 x3 x4 x5 x6 M7)) ∧
  (¬ r7 = 0 → (P_M_misprint_170 post R57 (P_M_misprint_104 post R57 n) x4 x6 M7))) x6 r6 M6) x5 (100 : Int32) M5))) x6 r4 M4) x5 (10 : Int32) M3))) x6 r2 M2) x5 (1 : Int32) M1))))) M
theorem k_M_misprint_104 {X : FX} {g : GT} {A : Nat → Prop} {Z : State → Prop} {post : Int32 → Mem → Prop} {R57 : Int32 → Int32 → Int32 → Int32 → Mem → Prop} (C : Cx X g layM A cX12_misprint 7 RX12 5) (hr : 0 ≤ X.2.2.2.1.cells ∧ 0 ≤ X.2.2.2.1.slots) (hR : RetI X g layM A cX12_misprint 7 0 0 Z post) (k57 : ∀ (y1 y2 y3 y4 : Int32) (M : Mem), R57 y1 y2 y3 y4 M → AtX X g layM A 7 0 0 Z 57 [(0, .ref (ad g 0)), (1, .int y1), (2, .int y2), (3, .int y3), (4, .int y4)] [] M) : ∀ (n : Nat) (x1 x2 x3 x4 x5 x6 : Int32) (M : Mem), P_M_misprint_104 post R57 n x1 x2 x3 x4 x5 x6 M → AtX X g layM A 7 0 0 Z 104 [(0, .ref (ad g 0)), (1, .int x1), (2, .int x2), (3, .int x3), (4, .int x4), (5, .int x5), (6, .int x6)] [] M := by
  intro n
  induction n with
  | zero =>
    intro x1 x2 x3 x4 x5 x6 M h
    exact h.elim
  | succ n ih =>
    intro x1 x2 x3 x4 x5 x6 M h
    refine a_iload C (tk T_cX12_misprint 59 rfl) rfl ?_
    refine a_aload_n C (tk T_cX12_misprint 60 rfl) rfl ?_
    refine a_callI C [] me_yX12_readings lk_RX12_128 (ct_M_readings h) (by decide) lm0 rfl rfl rfl (Nat.le_of_ble_eq_true rfl) (tk T_cX12_misprint 61 rfl) hr (fun r1 M1 h => ?_)
    refine a_icmp_ge C 185 (tk T_cX12_misprint 62 rfl) rfl (fun c => ?_) (fun c => ?_)
    · have h := h.1 c
      exact a_to (k_M_misprint_185 C hr hR k57 x1 x2 x3 x4 M1 h) rfl
    · have h := h.2 c
      refine a_iload_n C (tk T_cX12_misprint 63 rfl) rfl ?_
      refine a_iload C (tk T_cX12_misprint 64 rfl) rfl ?_
      refine a_ishr C (tk T_cX12_misprint 65 rfl) ?_
      refine a_iconst C (1 : Int32) (tk T_cX12_misprint 66 rfl) kI_1 ?_
      refine a_iand C (tk T_cX12_misprint 67 rfl) ?_
      refine a_iconst C (1 : Int32) (tk T_cX12_misprint 68 rfl) kI_1 ?_
      refine a_icmp_ne C 179 (tk T_cX12_misprint 69 rfl) rfl (fun c => ?_) (fun c => ?_)
      · have h := h.1 c
        exact a_to (k_M_misprint_179 C hr hR k57 ih x1 x2 x3 x4 x5 x6 M1 h) rfl
      · have h := h.2 c
        refine a_aload_n C (tk T_cX12_misprint 70 rfl) rfl ?_
        refine a_iload C (tk T_cX12_misprint 71 rfl) rfl ?_
        refine a_iload C (tk T_cX12_misprint 72 rfl) rfl ?_
        refine a_iconst C (1 : Int32) (tk T_cX12_misprint 73 rfl) kI_1 ?_
        refine a_statI C [.int x5, .int (1 : Int32)] me_yX12_changed lk_RX12_247 (ct_M_changed h) (by decide) rfl rfl (Nat.le_of_ble_eq_true rfl) (tk T_cX12_misprint 74 rfl) hr (fun r2 M2 h => ?_)
        refine a_callI C [.int x6, .int r2] me_yX12_isIn lk_RX12_178 (ct_M_isIn h) (by decide) lm0 rfl rfl rfl (Nat.le_of_ble_eq_true rfl) (tk T_cX12_misprint 75 rfl) hr (fun r3 M3 h => ?_)
        refine a_if_ne C 170 (tk T_cX12_misprint 76 rfl) rfl (fun c => ?_) (fun c => ?_)
        · have h := h.1 c
          exact a_to (k_M_misprint_170 C hr hR k57 ih x4 x6 M3 h) rfl
        · have h := h.2 c
          refine a_aload_n C (tk T_cX12_misprint 77 rfl) rfl ?_
          refine a_iload C (tk T_cX12_misprint 78 rfl) rfl ?_
          refine a_iload C (tk T_cX12_misprint 79 rfl) rfl ?_
          refine a_bipush C (10 : Int32) (tk T_cX12_misprint 80 rfl) kB_10 ?_
          refine a_statI C [.int x5, .int (10 : Int32)] me_yX12_changed lk_RX12_247 (ct_M_changed h) (by decide) rfl rfl (Nat.le_of_ble_eq_true rfl) (tk T_cX12_misprint 81 rfl) hr (fun r4 M4 h => ?_)
          refine a_callI C [.int x6, .int r4] me_yX12_isIn lk_RX12_178 (ct_M_isIn h) (by decide) lm0 rfl rfl rfl (Nat.le_of_ble_eq_true rfl) (tk T_cX12_misprint 82 rfl) hr (fun r5 M5 h => ?_)
          refine a_if_ne C 170 (tk T_cX12_misprint 83 rfl) rfl (fun c => ?_) (fun c => ?_)
          · have h := h.1 c
            exact a_to (k_M_misprint_170 C hr hR k57 ih x4 x6 M5 h) rfl
          · have h := h.2 c
            refine a_aload_n C (tk T_cX12_misprint 84 rfl) rfl ?_
            refine a_iload C (tk T_cX12_misprint 85 rfl) rfl ?_
            refine a_iload C (tk T_cX12_misprint 86 rfl) rfl ?_
            refine a_bipush C (100 : Int32) (tk T_cX12_misprint 87 rfl) kB_100 ?_
            refine a_statI C [.int x5, .int (100 : Int32)] me_yX12_changed lk_RX12_247 (ct_M_changed h) (by decide) rfl rfl (Nat.le_of_ble_eq_true rfl) (tk T_cX12_misprint 88 rfl) hr (fun r6 M6 h => ?_)
            refine a_callI C [.int x6, .int r6] me_yX12_isIn lk_RX12_178 (ct_M_isIn h) (by decide) lm0 rfl rfl rfl (Nat.le_of_ble_eq_true rfl) (tk T_cX12_misprint 89 rfl) hr (fun r7 M7 h => ?_)
            refine a_if_eq C 179 (tk T_cX12_misprint 90 rfl) rfl (fun c => ?_) (fun c => ?_)
            · have h := h.1 c
              exact a_to (k_M_misprint_179 C hr hR k57 ih x1 x2 x3 x4 x5 x6 M7 h) rfl
            · have h := h.2 c
              exact a_to (k_M_misprint_170 C hr hR k57 ih x4 x6 M7 h) rfl
def P_M_misprint_57 (post : Int32 → Mem → Prop) : Nat → Int32 → Int32 → Int32 → Int32 → Mem → Prop
  | 0, _, _, _, _, _ => False
  | n + 1, x1, x2, x3, x4, M =>
    P_M_lines (fun r1 M1 =>
  (r1 ≤ x4 → (post (-1 : Int32) M1)) ∧
  (¬ r1 ≤ x4 → (P_M_waveOf (fun r2 M2 =>
  P_M_mustOn (fun r3 M3 =>
  (r3 = 0 → (P_M_misprint_185 post (P_M_misprint_57 post n) x1 x2 x3 x4 M3)) ∧
  (¬ r3 = 0 → (P_M_isSeen (fun r4 M4 =>
  (r4 = 0 → (∃ j104, P_M_misprint_104 post (P_M_misprint_57 post n) j104 x1 x2 x3 x4 r2 (0 : Int32) M4)) ∧
  (¬ r4 = 0 → (P_M_misprint_185 post (P_M_misprint_57 post n) x1 x2 x3 x4 M4))) x1 r2 M3))) x1 x2 x4 (0 : Int32) M2) x2 x4 M1))) x2 M
theorem k_M_misprint_57 {X : FX} {g : GT} {A : Nat → Prop} {Z : State → Prop} {post : Int32 → Mem → Prop} (C : Cx X g layM A cX12_misprint 7 RX12 5) (hr : 0 ≤ X.2.2.2.1.cells ∧ 0 ≤ X.2.2.2.1.slots) (hR : RetI X g layM A cX12_misprint 7 0 0 Z post) : ∀ (n : Nat) (x1 x2 x3 x4 : Int32) (M : Mem), P_M_misprint_57 post n x1 x2 x3 x4 M → AtX X g layM A 7 0 0 Z 57 [(0, .ref (ad g 0)), (1, .int x1), (2, .int x2), (3, .int x3), (4, .int x4)] [] M := by
  intro n
  induction n with
  | zero =>
    intro x1 x2 x3 x4 M h
    exact h.elim
  | succ n ih =>
    intro x1 x2 x3 x4 M h
    refine a_iload C (tk T_cX12_misprint 34 rfl) rfl ?_
    refine a_aload_n C (tk T_cX12_misprint 35 rfl) rfl ?_
    refine a_iload_n C (tk T_cX12_misprint 36 rfl) rfl ?_
    refine a_callI C [.int x2] me_yX12_lines lk_RX12_125 (ct_M_lines h) (by decide) lm0 rfl rfl rfl (Nat.le_of_ble_eq_true rfl) (tk T_cX12_misprint 37 rfl) hr (fun r1 M1 h => ?_)
    refine a_icmp_ge C 191 (tk T_cX12_misprint 38 rfl) rfl (fun c => ?_) (fun c => ?_)
    · have h := h.1 c
      refine a_iconst C (-1 : Int32) (tk T_cX12_misprint 101 rfl) kI_m1 ?_
      exact hR _ _ _ _ (tk T_cX12_misprint 102 rfl) h
    · have h := h.2 c
      refine a_aload_n C (tk T_cX12_misprint 39 rfl) rfl ?_
      refine a_iload_n C (tk T_cX12_misprint 40 rfl) rfl ?_
      refine a_iload C (tk T_cX12_misprint 41 rfl) rfl ?_
      refine a_callI C [.int x2, .int x4] me_yX12_waveOf lk_RX12_151 (ct_M_waveOf h) (by decide) lm0 rfl rfl rfl (Nat.le_of_ble_eq_true rfl) (tk T_cX12_misprint 42 rfl) hr (fun r2 M2 h => ?_)
      refine a_istore C (tk T_cX12_misprint 43 rfl) (by decide) rfl ?_
      refine a_aload_n C (tk T_cX12_misprint 44 rfl) rfl ?_
      refine a_iload_n C (tk T_cX12_misprint 45 rfl) rfl ?_
      refine a_iload_n C (tk T_cX12_misprint 46 rfl) rfl ?_
      refine a_iload C (tk T_cX12_misprint 47 rfl) rfl ?_
      refine a_iconst C (0 : Int32) (tk T_cX12_misprint 48 rfl) kI_0 ?_
      refine a_callI C [.int x1, .int x2, .int x4, .int (0 : Int32)] me_yX12_mustOn lk_RX12_171 (ct_M_mustOn h) (by decide) lm0 rfl rfl rfl (Nat.le_of_ble_eq_true rfl) (tk T_cX12_misprint 49 rfl) hr (fun r3 M3 h => ?_)
      refine a_if_eq C 185 (tk T_cX12_misprint 50 rfl) rfl (fun c => ?_) (fun c => ?_)
      · have h := h.1 c
        exact a_to (k_M_misprint_185 C hr hR ih x1 x2 x3 x4 M3 h) rfl
      · have h := h.2 c
        refine a_aload_n C (tk T_cX12_misprint 51 rfl) rfl ?_
        refine a_iload_n C (tk T_cX12_misprint 52 rfl) rfl ?_
        refine a_iload C (tk T_cX12_misprint 53 rfl) rfl ?_
        refine a_callI C [.int x1, .int r2] me_yX12_isSeen lk_RX12_185 (ct_M_isSeen h) (by decide) lm0 rfl rfl rfl (Nat.le_of_ble_eq_true rfl) (tk T_cX12_misprint 54 rfl) hr (fun r4 M4 h => ?_)
        refine a_if_eq C 101 (tk T_cX12_misprint 55 rfl) rfl (fun c => ?_) (fun c => ?_)
        · have h := h.1 c
          refine a_iconst C (0 : Int32) (tk T_cX12_misprint 57 rfl) kI_0 ?_
          refine a_istore C (tk T_cX12_misprint 58 rfl) (by decide) rfl ?_
          obtain ⟨n1, h⟩ := h
          exact a_to (k_M_misprint_104 C hr hR ih n1 x1 x2 x3 x4 r2 (0 : Int32) M4 h) rfl
        · have h := h.2 c
          refine a_goto C 185 (tk T_cX12_misprint 56 rfl) rfl ?_
          exact a_to (k_M_misprint_185 C hr hR ih x1 x2 x3 x4 M4 h) rfl
def P_M_misprint_31 (post : Int32 → Mem → Prop) (x1 x2 s1 : Int32) (M : Mem) : Prop :=
  P_M_throwsIf (fun r1 M1 =>
  (r1 = 0 → (P_M_spans (fun M2 =>
  P_M_leftOf (fun r3 M3 =>
  ∃ j57, P_M_misprint_57 post j57 x1 x2 r3 (0 : Int32) M3) x1 ((1 : Int32) <<< (x2 &&& 31)) (0 : Int32) M2) M1)) ∧
  (¬ r1 = 0 → (post (0 : Int32) M1))) s1 (1 : Int32) M
theorem k_M_misprint_31 {X : FX} {g : GT} {A : Nat → Prop} {Z : State → Prop} {post : Int32 → Mem → Prop} (C : Cx X g layM A cX12_misprint 7 RX12 5) (hr : 0 ≤ X.2.2.2.1.cells ∧ 0 ≤ X.2.2.2.1.slots) (hR : RetI X g layM A cX12_misprint 7 0 0 Z post) (x1 x2 s1 : Int32) (M : Mem) (h : P_M_misprint_31 post x1 x2 s1 M) : AtX X g layM A 7 0 0 Z 31 [(0, .ref (ad g 0)), (1, .int x1), (2, .int x2)] [.int s1, .ref (ad g 0)] M := by
  refine a_iconst C (1 : Int32) (tk T_cX12_misprint 17 rfl) kI_1 ?_
  refine a_callI C [.int s1, .int (1 : Int32)] me_yX12_throwsIf lk_RX12_72 (ct_M_throwsIf h) (by decide) lm0 rfl rfl rfl (Nat.le_of_ble_eq_true rfl) (tk T_cX12_misprint 18 rfl) hr (fun r1 M1 h => ?_)
  refine a_if_eq C 40 (tk T_cX12_misprint 19 rfl) rfl (fun c => ?_) (fun c => ?_)
  · have h := h.1 c
    refine a_aload_n C (tk T_cX12_misprint 22 rfl) rfl ?_
    refine a_callV C [] me_yX12_spans lk_RX12_197 (ct_M_spans h) (by decide) lm0 rfl rfl rfl (Nat.le_of_ble_eq_true rfl) (tk T_cX12_misprint 23 rfl) hr (fun M2 h => ?_)
    refine a_aload_n C (tk T_cX12_misprint 24 rfl) rfl ?_
    refine a_iload_n C (tk T_cX12_misprint 25 rfl) rfl ?_
    refine a_iconst C (1 : Int32) (tk T_cX12_misprint 26 rfl) kI_1 ?_
    refine a_iload_n C (tk T_cX12_misprint 27 rfl) rfl ?_
    refine a_ishl C (tk T_cX12_misprint 28 rfl) ?_
    refine a_iconst C (0 : Int32) (tk T_cX12_misprint 29 rfl) kI_0 ?_
    refine a_callI C [.int x1, .int ((1 : Int32) <<< (x2 &&& 31)), .int (0 : Int32)] me_yX12_leftOf lk_RX12_188 (ct_M_leftOf h) (by decide) lm0 rfl rfl rfl (Nat.le_of_ble_eq_true rfl) (tk T_cX12_misprint 30 rfl) hr (fun r3 M3 h => ?_)
    refine a_istore_n C (tk T_cX12_misprint 31 rfl) (by decide) rfl ?_
    refine a_iconst C (0 : Int32) (tk T_cX12_misprint 32 rfl) kI_0 ?_
    refine a_istore C (tk T_cX12_misprint 33 rfl) (by decide) rfl ?_
    obtain ⟨n1, h⟩ := h
    exact a_to (k_M_misprint_57 C hr hR n1 x1 x2 r3 (0 : Int32) M3 h) rfl
  · have h := h.2 c
    refine a_iconst C (0 : Int32) (tk T_cX12_misprint 20 rfl) kI_0 ?_
    exact hR _ _ _ _ (tk T_cX12_misprint 21 rfl) h
def P_M_misprint_26 (post : Int32 → Mem → Prop) (x1 x2 : Int32) (M : Mem) : Prop :=
  P_M_misprint_31 post x1 x2 (1 : Int32) M
theorem k_M_misprint_26 {X : FX} {g : GT} {A : Nat → Prop} {Z : State → Prop} {post : Int32 → Mem → Prop} (C : Cx X g layM A cX12_misprint 7 RX12 5) (hr : 0 ≤ X.2.2.2.1.cells ∧ 0 ≤ X.2.2.2.1.slots) (hR : RetI X g layM A cX12_misprint 7 0 0 Z post) (x1 x2 : Int32) (M : Mem) (h : P_M_misprint_26 post x1 x2 M) : AtX X g layM A 7 0 0 Z 26 [(0, .ref (ad g 0)), (1, .int x1), (2, .int x2)] [.ref (ad g 0)] M := by
  refine a_iconst C (1 : Int32) (tk T_cX12_misprint 14 rfl) kI_1 ?_
  refine a_goto C 31 (tk T_cX12_misprint 15 rfl) rfl ?_
  exact a_to (k_M_misprint_31 C hr hR x1 x2 (1 : Int32) M h) rfl
def P_M_misprint (post : Int32 → Mem → Prop) (x1 x2 : Int32) (M : Mem) : Prop :=
  ∀ M1, M1 = ms M 0 0 (0 : Int32) → P_M_none (fun r2 M2 =>
  (¬ r2 = 0 → (P_M_misprint_26 post x1 x2 M2)) ∧
  (r2 = 0 → (P_M_none (fun r3 M3 =>
  (r3 = 0 → (P_M_misprint_31 post x1 x2 (0 : Int32) M3)) ∧
  (¬ r3 = 0 → (P_M_misprint_26 post x1 x2 M3))) x2 (7 : Int32) M2))) x1 (8 : Int32) M1
theorem k_M_misprint {X : FX} {g : GT} {A : Nat → Prop} {Z : State → Prop} {post : Int32 → Mem → Prop} (C : Cx X g layM A cX12_misprint 7 RX12 5) (hr : 0 ≤ X.2.2.2.1.cells ∧ 0 ≤ X.2.2.2.1.slots) (hR : RetI X g layM A cX12_misprint 7 0 0 Z post) (x1 x2 : Int32) (M : Mem) (h : P_M_misprint post x1 x2 M) : AtX X g layM A 7 0 0 Z 0 [(0, .ref (ad g 0)), (1, .int x1), (2, .int x2)] [] M := by
  refine a_aload_n C (tk T_cX12_misprint 0 rfl) rfl ?_
  refine a_iconst C (0 : Int32) (tk T_cX12_misprint 1 rfl) kI_0 ?_
  refine a_put C f_RX12_3 f_RX12_3p rfl rfl (tk T_cX12_misprint 2 rfl) lm0 rfl ?_
  refine a_mem (fun M1 e_M1 => ?_)
  have h := h M1 e_M1
  refine a_aload_n C (tk T_cX12_misprint 3 rfl) rfl ?_
  refine a_aload_n C (tk T_cX12_misprint 4 rfl) rfl ?_
  refine a_iload_n C (tk T_cX12_misprint 5 rfl) rfl ?_
  refine a_bipush C (8 : Int32) (tk T_cX12_misprint 6 rfl) kB_8 ?_
  refine a_callI C [.int x1, .int (8 : Int32)] me_yX12_none lk_RX12_121 (ct_M_none h) (by decide) lm0 rfl rfl rfl (Nat.le_of_ble_eq_true rfl) (tk T_cX12_misprint 7 rfl) hr (fun r2 M2 h => ?_)
  refine a_if_ne C 26 (tk T_cX12_misprint 8 rfl) rfl (fun c => ?_) (fun c => ?_)
  · have h := h.1 c
    exact a_to (k_M_misprint_26 C hr hR x1 x2 M2 h) rfl
  · have h := h.2 c
    refine a_aload_n C (tk T_cX12_misprint 9 rfl) rfl ?_
    refine a_iload_n C (tk T_cX12_misprint 10 rfl) rfl ?_
    refine a_bipush C (7 : Int32) (tk T_cX12_misprint 11 rfl) kB_7 ?_
    refine a_callI C [.int x2, .int (7 : Int32)] me_yX12_none lk_RX12_121 (ct_M_none h) (by decide) lm0 rfl rfl rfl (Nat.le_of_ble_eq_true rfl) (tk T_cX12_misprint 12 rfl) hr (fun r3 M3 h => ?_)
    refine a_if_eq C 30 (tk T_cX12_misprint 13 rfl) rfl (fun c => ?_) (fun c => ?_)
    · have h := h.1 c
      refine a_iconst C (0 : Int32) (tk T_cX12_misprint 16 rfl) kI_0 ?_
      exact a_to (k_M_misprint_31 C hr hR x1 x2 (0 : Int32) M3 h) rfl
    · have h := h.2 c
      exact a_to (k_M_misprint_26 C hr hR x1 x2 M3 h) rfl
theorem ct_M_misprint {l : Launch} {g : GT} {post : Int32 → Mem → Prop} {x1 x2 : Int32} {M : Mem} (h : P_M_misprint post x1 x2 M) : CI l g layM yX12_misprint cX12_misprint 7 (some .int) 5 [.ref (ad g 0), .int x1, .int x2] M post :=
  ci_of (plainFor_of_name (by decide +kernel)) (Nat.le_of_ble_eq_true rfl) (fun X A Z hl C hr hR => by subst hl; exact k_M_misprint C hr hR x1 x2 M h)
def T_cX12_leavesL : List (Nat × Instr × Nat) := [(0, .bipush (-50), 2), (2, .istore 4, 2), (4, .iload 4, 2), (6, .bipush 50, 2), (8, .if_icmp .gt 44, 3), (11, .aload_n 0, 1), (12, .getfield 38, 3), (15, .iload_n 3, 1), (16, .iload 4, 2), (18, .iadd, 1), (19, .bipush 50, 2), (21, .iadd, 1), (22, .aload_n 0, 1), (23, .iload_n 1, 1), (24, .iload_n 2, 1), (25, .iload 4, 2), (27, .invokevirtual 191, 3), (30, .ifCond .ne 14, 3), (33, .aload_n 0, 1), (34, .iload_n 1, 1), (35, .iload_n 2, 1), (36, .iload 4, 2), (38, .invokevirtual 188, 3), (41, .goto 4, 3), (44, .iconst (-1), 1), (45, .iastore, 1), (46, .iinc 4 1, 3), (49, .goto (-45), 3), (52, .return_, 1)]
theorem T_cX12_leaves : tabOK cX12_leaves T_cX12_leavesL = true := by decide +kernel
def P_M_leaves_45 (post : Mem → Prop) (R4 : Int32 → Int32 → Int32 → Int32 → Mem → Prop) (x1 x2 x3 x4 s1 s2 : Int32) (M : Mem) : Prop :=
  vp_in s1 202 ∧ ∀ M1, M1 = ms M 9 s1.toNatClampNeg s2 → R4 x1 x2 x3 (x4 + (1 : Int32)) M1
theorem k_M_leaves_45 {X : FX} {g : GT} {A : Nat → Prop} {Z : State → Prop} {post : Mem → Prop} {R4 : Int32 → Int32 → Int32 → Int32 → Mem → Prop} (C : Cx X g layM A cX12_leaves 5 RX12 5) (hr : 0 ≤ X.2.2.2.1.cells ∧ 0 ≤ X.2.2.2.1.slots) (hR : RetV X g layM A cX12_leaves 5 0 0 Z post) (k4 : ∀ (y1 y2 y3 y4 : Int32) (M : Mem), R4 y1 y2 y3 y4 M → AtX X g layM A 5 0 0 Z 4 [(0, .ref (ad g 0)), (1, .int y1), (2, .int y2), (3, .int y3), (4, .int y4)] [] M) (x1 x2 x3 x4 s1 s2 : Int32) (M : Mem) (h : P_M_leaves_45 post R4 x1 x2 x3 x4 s1 s2 M) : AtX X g layM A 5 0 0 Z 45 [(0, .ref (ad g 0)), (1, .int x1), (2, .int x2), (3, .int x3), (4, .int x4)] [.int s2, .int s1, .ref (ad g 9)] M := by
  obtain ⟨hb, h⟩ := h
  refine a_iast C (tk T_cX12_leaves 25 rfl) lm9 hb ?_
  refine a_mem (fun M1 e_M1 => ?_)
  have h := h M1 e_M1
  refine a_iinc C (1 : Int32) (tk T_cX12_leaves 26 rfl) rfl kI_1 (by decide) rfl ?_
  refine a_goto C 4 (tk T_cX12_leaves 27 rfl) rfl ?_
  exact a_to (k4 x1 x2 x3 (x4 + (1 : Int32)) M1 h) rfl
def P_M_leaves_4 (post : Mem → Prop) : Nat → Int32 → Int32 → Int32 → Int32 → Mem → Prop
  | 0, _, _, _, _, _ => False
  | n + 1, x1, x2, x3, x4, M =>
    ((50 : Int32) < x4 → (post M)) ∧
  (¬ (50 : Int32) < x4 → (P_M_missedOf (fun r1 M1 =>
  (¬ r1 = 0 → (P_M_leaves_45 post (P_M_leaves_4 post n) x1 x2 x3 x4 ((x3 + x4) + (50 : Int32)) (-1 : Int32) M1)) ∧
  (r1 = 0 → (P_M_leftOf (fun r2 M2 =>
  P_M_leaves_45 post (P_M_leaves_4 post n) x1 x2 x3 x4 ((x3 + x4) + (50 : Int32)) r2 M2) x1 x2 x4 M1))) x1 x2 x4 M))
theorem k_M_leaves_4 {X : FX} {g : GT} {A : Nat → Prop} {Z : State → Prop} {post : Mem → Prop} (C : Cx X g layM A cX12_leaves 5 RX12 5) (hr : 0 ≤ X.2.2.2.1.cells ∧ 0 ≤ X.2.2.2.1.slots) (hR : RetV X g layM A cX12_leaves 5 0 0 Z post) : ∀ (n : Nat) (x1 x2 x3 x4 : Int32) (M : Mem), P_M_leaves_4 post n x1 x2 x3 x4 M → AtX X g layM A 5 0 0 Z 4 [(0, .ref (ad g 0)), (1, .int x1), (2, .int x2), (3, .int x3), (4, .int x4)] [] M := by
  intro n
  induction n with
  | zero =>
    intro x1 x2 x3 x4 M h
    exact h.elim
  | succ n ih =>
    intro x1 x2 x3 x4 M h
    refine a_iload C (tk T_cX12_leaves 2 rfl) rfl ?_
    refine a_bipush C (50 : Int32) (tk T_cX12_leaves 3 rfl) kB_50 ?_
    refine a_icmp_gt C 52 (tk T_cX12_leaves 4 rfl) rfl (fun c => ?_) (fun c => ?_)
    · have h := h.1 c
      exact hR _ _ _ (tk T_cX12_leaves 28 rfl) h
    · have h := h.2 c
      refine a_aload_n C (tk T_cX12_leaves 5 rfl) rfl ?_
      refine a_getR C f_RX12_38 (tk T_cX12_leaves 6 rfl) lm0 rfl ?_
      refine a_iload_n C (tk T_cX12_leaves 7 rfl) rfl ?_
      refine a_iload C (tk T_cX12_leaves 8 rfl) rfl ?_
      refine a_iadd C (tk T_cX12_leaves 9 rfl) ?_
      refine a_bipush C (50 : Int32) (tk T_cX12_leaves 10 rfl) kB_50 ?_
      refine a_iadd C (tk T_cX12_leaves 11 rfl) ?_
      refine a_aload_n C (tk T_cX12_leaves 12 rfl) rfl ?_
      refine a_iload_n C (tk T_cX12_leaves 13 rfl) rfl ?_
      refine a_iload_n C (tk T_cX12_leaves 14 rfl) rfl ?_
      refine a_iload C (tk T_cX12_leaves 15 rfl) rfl ?_
      refine a_callI C [.int x1, .int x2, .int x4] me_yX12_missedOf lk_RX12_191 (ct_M_missedOf h) (by decide) lm0 rfl rfl rfl (Nat.le_of_ble_eq_true rfl) (tk T_cX12_leaves 16 rfl) hr (fun r1 M1 h => ?_)
      refine a_if_ne C 44 (tk T_cX12_leaves 17 rfl) rfl (fun c => ?_) (fun c => ?_)
      · have h := h.1 c
        refine a_iconst C (-1 : Int32) (tk T_cX12_leaves 24 rfl) kI_m1 ?_
        exact a_to (k_M_leaves_45 C hr hR ih x1 x2 x3 x4 ((x3 + x4) + (50 : Int32)) (-1 : Int32) M1 h) rfl
      · have h := h.2 c
        refine a_aload_n C (tk T_cX12_leaves 18 rfl) rfl ?_
        refine a_iload_n C (tk T_cX12_leaves 19 rfl) rfl ?_
        refine a_iload_n C (tk T_cX12_leaves 20 rfl) rfl ?_
        refine a_iload C (tk T_cX12_leaves 21 rfl) rfl ?_
        refine a_callI C [.int x1, .int x2, .int x4] me_yX12_leftOf lk_RX12_188 (ct_M_leftOf h) (by decide) lm0 rfl rfl rfl (Nat.le_of_ble_eq_true rfl) (tk T_cX12_leaves 22 rfl) hr (fun r2 M2 h => ?_)
        refine a_goto C 45 (tk T_cX12_leaves 23 rfl) rfl ?_
        exact a_to (k_M_leaves_45 C hr hR ih x1 x2 x3 x4 ((x3 + x4) + (50 : Int32)) r2 M2 h) rfl
def P_M_leaves (post : Mem → Prop) (x1 x2 x3 : Int32) (M : Mem) : Prop :=
  ∃ j4, P_M_leaves_4 post j4 x1 x2 x3 (-50 : Int32) M
theorem k_M_leaves {X : FX} {g : GT} {A : Nat → Prop} {Z : State → Prop} {post : Mem → Prop} (C : Cx X g layM A cX12_leaves 5 RX12 5) (hr : 0 ≤ X.2.2.2.1.cells ∧ 0 ≤ X.2.2.2.1.slots) (hR : RetV X g layM A cX12_leaves 5 0 0 Z post) (x1 x2 x3 : Int32) (M : Mem) (h : P_M_leaves post x1 x2 x3 M) : AtX X g layM A 5 0 0 Z 0 [(0, .ref (ad g 0)), (1, .int x1), (2, .int x2), (3, .int x3)] [] M := by
  refine a_bipush C (-50 : Int32) (tk T_cX12_leaves 0 rfl) kB_m50 ?_
  refine a_istore C (tk T_cX12_leaves 1 rfl) (by decide) rfl ?_
  obtain ⟨n1, h⟩ := h
  exact a_to (k_M_leaves_4 C hr hR n1 x1 x2 x3 (-50 : Int32) M h) rfl
theorem ct_M_leaves {l : Launch} {g : GT} {post : Mem → Prop} {x1 x2 x3 : Int32} {M : Mem} (h : P_M_leaves post x1 x2 x3 M) : CV l g layM yX12_leaves cX12_leaves 5 none 5 [.ref (ad g 0), .int x1, .int x2, .int x3] M post :=
  cv_of (plainFor_of_name (by decide +kernel)) (Nat.le_of_ble_eq_true rfl) (fun X A Z hl C hr hR => by subst hl; exact k_M_leaves C hr hR x1 x2 x3 M h)
def T_cX12_starsL : List (Nat × Instr × Nat) := [(0, .aload_n 0, 1), (1, .iconst 0, 1), (2, .putfield 3, 3), (5, .aload_n 0, 1), (6, .aload_n 0, 1), (7, .iload_n 1, 1), (8, .bipush 8, 2), (10, .invokevirtual 121, 3), (13, .iconst 1, 1), (14, .invokevirtual 72, 3), (17, .ifCond .ne 26, 3), (20, .aload_n 0, 1), (21, .iload 4, 2), (23, .iconst 0, 1), (24, .iconst 2, 1), (25, .invokestatic 58, 3), (28, .ifCond .ne 7, 3), (31, .iconst 1, 1), (32, .goto 4, 3), (35, .iconst 0, 1), (36, .iconst 2, 1), (37, .invokevirtual 72, 3), (40, .ifCond .eq 5, 3), (43, .iconst 0, 1), (44, .ireturn, 1), (45, .aload_n 0, 1), (46, .invokevirtual 197, 3), (49, .aload_n 0, 1), (50, .iload_n 1, 1), (51, .iload_n 2, 1), (52, .iconst 0, 1), (53, .invokevirtual 250, 3), (56, .aload_n 0, 1), (57, .iload_n 1, 1), (58, .iload_n 3, 1), (59, .bipush 101, 2), (61, .invokevirtual 250, 3), (64, .iconst 0, 1), (65, .istore 5, 2), (67, .bipush 99, 2), (69, .istore 6, 2), (71, .bipush 99, 2), (73, .istore 7, 2), (75, .iconst 0, 1), (76, .istore 8, 2), (78, .iload 8, 2), (80, .bipush 101, 2), (82, .if_icmp .ge 94, 3), (85, .iconst 0, 1), (86, .istore 9, 2), (88, .iload 9, 2), (90, .bipush 101, 2), (92, .if_icmp .ge 78, 3), (95, .aload_n 0, 1), (96, .getfield 38, 3), (99, .iload 8, 2), (101, .iaload, 1), (102, .ifCond .lt 62, 3), (105, .aload_n 0, 1), (106, .getfield 38, 3), (109, .bipush 101, 2), (111, .iload 9, 2), (113, .iadd, 1), (114, .iaload, 1), (115, .ifCond .lt 49, 3), (118, .aload_n 0, 1), (119, .getfield 38, 3), (122, .iload 8, 2), (124, .iaload, 1), (125, .aload_n 0, 1), (126, .getfield 38, 3), (129, .bipush 101, 2), (131, .iload 9, 2), (133, .iadd, 1), (134, .iaload, 1), (135, .iand, 1), (136, .ifCond .eq 6, 3), (139, .goto 25, 3), (142, .iload 5, 2), (144, .ifCond .ne 17, 3), (147, .iload 8, 2), (149, .bipush 50, 2), (151, .isub, 1), (152, .istore 6, 2), (154, .iload 9, 2), (156, .bipush 50, 2), (158, .isub, 1), (159, .istore 7, 2), (161, .iinc 5 1, 3), (164, .iinc 9 1, 3), (167, .goto (-79), 3), (170, .iinc 8 1, 3), (173, .goto (-95), 3), (176, .iload 4, 2), (178, .ifCond .ne 8, 3), (181, .iload 5, 2), (183, .goto 16, 3), (186, .iload 4, 2), (188, .iconst 1, 1), (189, .if_icmp .ne 8, 3), (192, .iload 6, 2), (194, .goto 5, 3), (197, .iload 7, 2), (199, .ireturn, 1)]
theorem T_cX12_stars : tabOK cX12_stars T_cX12_starsL = true := by decide +kernel
def P_M_stars_199 (post : Int32 → Mem → Prop) (s0 : Int32) (M : Mem) : Prop :=
  post s0 M
theorem k_M_stars_199 {X : FX} {g : GT} {A : Nat → Prop} {Z : State → Prop} {post : Int32 → Mem → Prop} (C : Cx X g layM A cX12_stars 10 RX12 6) (hr : 0 ≤ X.2.2.2.1.cells ∧ 0 ≤ X.2.2.2.1.slots) (hR : RetI X g layM A cX12_stars 10 0 0 Z post) (s0 : Int32) (M : Mem) (h : P_M_stars_199 post s0 M) : AtX X g layM A 10 0 0 Z 199 [] [.int s0] M := by
  exact hR _ _ _ _ (tk T_cX12_stars 103 rfl) h
def P_M_stars_164 (post : Int32 → Mem → Prop) (R78 : Int32 → Int32 → Int32 → Int32 → Int32 → Mem → Prop) (R88 : Int32 → Int32 → Int32 → Int32 → Int32 → Int32 → Mem → Prop) (x4 x5 x6 x7 x8 x9 : Int32) (M : Mem) : Prop :=
  R88 x4 x5 x6 x7 x8 (x9 + (1 : Int32)) M
theorem k_M_stars_164 {X : FX} {g : GT} {A : Nat → Prop} {Z : State → Prop} {post : Int32 → Mem → Prop} {R78 : Int32 → Int32 → Int32 → Int32 → Int32 → Mem → Prop} {R88 : Int32 → Int32 → Int32 → Int32 → Int32 → Int32 → Mem → Prop} (C : Cx X g layM A cX12_stars 10 RX12 6) (hr : 0 ≤ X.2.2.2.1.cells ∧ 0 ≤ X.2.2.2.1.slots) (hR : RetI X g layM A cX12_stars 10 0 0 Z post) (k78 : ∀ (y4 y5 y6 y7 y8 : Int32) (M : Mem), R78 y4 y5 y6 y7 y8 M → AtX X g layM A 10 0 0 Z 78 [(0, .ref (ad g 0)), (4, .int y4), (5, .int y5), (6, .int y6), (7, .int y7), (8, .int y8)] [] M) (k88 : ∀ (y4 y5 y6 y7 y8 y9 : Int32) (M : Mem), R88 y4 y5 y6 y7 y8 y9 M → AtX X g layM A 10 0 0 Z 88 [(0, .ref (ad g 0)), (4, .int y4), (5, .int y5), (6, .int y6), (7, .int y7), (8, .int y8), (9, .int y9)] [] M) (x4 x5 x6 x7 x8 x9 : Int32) (M : Mem) (h : P_M_stars_164 post R78 R88 x4 x5 x6 x7 x8 x9 M) : AtX X g layM A 10 0 0 Z 164 [(0, .ref (ad g 0)), (4, .int x4), (5, .int x5), (6, .int x6), (7, .int x7), (8, .int x8), (9, .int x9)] [] M := by
  refine a_iinc C (1 : Int32) (tk T_cX12_stars 89 rfl) rfl kI_1 (by decide) rfl ?_
  refine a_goto C 88 (tk T_cX12_stars 90 rfl) rfl ?_
  exact a_to (k88 x4 x5 x6 x7 x8 (x9 + (1 : Int32)) M h) rfl
def P_M_stars_161 (post : Int32 → Mem → Prop) (R78 : Int32 → Int32 → Int32 → Int32 → Int32 → Mem → Prop) (R88 : Int32 → Int32 → Int32 → Int32 → Int32 → Int32 → Mem → Prop) (x4 x5 x6 x7 x8 x9 : Int32) (M : Mem) : Prop :=
  P_M_stars_164 post R78 R88 x4 (x5 + (1 : Int32)) x6 x7 x8 x9 M
theorem k_M_stars_161 {X : FX} {g : GT} {A : Nat → Prop} {Z : State → Prop} {post : Int32 → Mem → Prop} {R78 : Int32 → Int32 → Int32 → Int32 → Int32 → Mem → Prop} {R88 : Int32 → Int32 → Int32 → Int32 → Int32 → Int32 → Mem → Prop} (C : Cx X g layM A cX12_stars 10 RX12 6) (hr : 0 ≤ X.2.2.2.1.cells ∧ 0 ≤ X.2.2.2.1.slots) (hR : RetI X g layM A cX12_stars 10 0 0 Z post) (k78 : ∀ (y4 y5 y6 y7 y8 : Int32) (M : Mem), R78 y4 y5 y6 y7 y8 M → AtX X g layM A 10 0 0 Z 78 [(0, .ref (ad g 0)), (4, .int y4), (5, .int y5), (6, .int y6), (7, .int y7), (8, .int y8)] [] M) (k88 : ∀ (y4 y5 y6 y7 y8 y9 : Int32) (M : Mem), R88 y4 y5 y6 y7 y8 y9 M → AtX X g layM A 10 0 0 Z 88 [(0, .ref (ad g 0)), (4, .int y4), (5, .int y5), (6, .int y6), (7, .int y7), (8, .int y8), (9, .int y9)] [] M) (x4 x5 x6 x7 x8 x9 : Int32) (M : Mem) (h : P_M_stars_161 post R78 R88 x4 x5 x6 x7 x8 x9 M) : AtX X g layM A 10 0 0 Z 161 [(0, .ref (ad g 0)), (4, .int x4), (5, .int x5), (6, .int x6), (7, .int x7), (8, .int x8), (9, .int x9)] [] M := by
  refine a_iinc C (1 : Int32) (tk T_cX12_stars 88 rfl) rfl kI_1 (by decide) rfl ?_
  exact a_to (k_M_stars_164 C hr hR k78 k88 x4 (x5 + (1 : Int32)) x6 x7 x8 x9 M h) rfl
def P_M_stars_88 (post : Int32 → Mem → Prop) (R78 : Int32 → Int32 → Int32 → Int32 → Int32 → Mem → Prop) : Nat → Int32 → Int32 → Int32 → Int32 → Int32 → Int32 → Mem → Prop
  | 0, _, _, _, _, _, _, _ => False
  | n + 1, x4, x5, x6, x7, x8, x9, M =>
    ((101 : Int32) ≤ x9 → (R78 x4 x5 x6 x7 (x8 + (1 : Int32)) M)) ∧
  (¬ (101 : Int32) ≤ x9 → (vp_in x8 202 ∧ ((M 9 x8.toNatClampNeg) < 0 → (P_M_stars_164 post R78 (P_M_stars_88 post R78 n) x4 x5 x6 x7 x8 x9 M)) ∧
  (¬ (M 9 x8.toNatClampNeg) < 0 → (vp_in ((101 : Int32) + x9) 202 ∧ ((M 9 ((101 : Int32) + x9).toNatClampNeg) < 0 → (P_M_stars_164 post R78 (P_M_stars_88 post R78 n) x4 x5 x6 x7 x8 x9 M)) ∧
  (¬ (M 9 ((101 : Int32) + x9).toNatClampNeg) < 0 → (vp_in x8 202 ∧ vp_in ((101 : Int32) + x9) 202 ∧ ∀ v1, v1 = ((M 9 x8.toNatClampNeg) &&& (M 9 ((101 : Int32) + x9).toNatClampNeg)) → (v1 = 0 → ((¬ x5 = 0 → (P_M_stars_161 post R78 (P_M_stars_88 post R78 n) x4 x5 x6 x7 x8 x9 M)) ∧
  (x5 = 0 → (∀ x6_2, x6_2 = (x8 - (50 : Int32)) → ∀ x7_3, x7_3 = (x9 - (50 : Int32)) → P_M_stars_161 post R78 (P_M_stars_88 post R78 n) x4 x5 x6_2 x7_3 x8 x9 M)))) ∧
  (¬ v1 = 0 → (P_M_stars_164 post R78 (P_M_stars_88 post R78 n) x4 x5 x6 x7 x8 x9 M))))))))
theorem k_M_stars_88 {X : FX} {g : GT} {A : Nat → Prop} {Z : State → Prop} {post : Int32 → Mem → Prop} {R78 : Int32 → Int32 → Int32 → Int32 → Int32 → Mem → Prop} (C : Cx X g layM A cX12_stars 10 RX12 6) (hr : 0 ≤ X.2.2.2.1.cells ∧ 0 ≤ X.2.2.2.1.slots) (hR : RetI X g layM A cX12_stars 10 0 0 Z post) (k78 : ∀ (y4 y5 y6 y7 y8 : Int32) (M : Mem), R78 y4 y5 y6 y7 y8 M → AtX X g layM A 10 0 0 Z 78 [(0, .ref (ad g 0)), (4, .int y4), (5, .int y5), (6, .int y6), (7, .int y7), (8, .int y8)] [] M) : ∀ (n : Nat) (x4 x5 x6 x7 x8 x9 : Int32) (M : Mem), P_M_stars_88 post R78 n x4 x5 x6 x7 x8 x9 M → AtX X g layM A 10 0 0 Z 88 [(0, .ref (ad g 0)), (4, .int x4), (5, .int x5), (6, .int x6), (7, .int x7), (8, .int x8), (9, .int x9)] [] M := by
  intro n
  induction n with
  | zero =>
    intro x4 x5 x6 x7 x8 x9 M h
    exact h.elim
  | succ n ih =>
    intro x4 x5 x6 x7 x8 x9 M h
    refine a_iload C (tk T_cX12_stars 50 rfl) rfl ?_
    refine a_bipush C (101 : Int32) (tk T_cX12_stars 51 rfl) kB_101 ?_
    refine a_icmp_ge C 170 (tk T_cX12_stars 52 rfl) rfl (fun c => ?_) (fun c => ?_)
    · have h := h.1 c
      refine a_iinc C (1 : Int32) (tk T_cX12_stars 91 rfl) rfl kI_1 (by decide) rfl ?_
      refine a_goto C 78 (tk T_cX12_stars 92 rfl) rfl ?_
      exact a_to (k78 x4 x5 x6 x7 (x8 + (1 : Int32)) M h) rfl
    · have h := h.2 c
      refine a_aload_n C (tk T_cX12_stars 53 rfl) rfl ?_
      refine a_getR C f_RX12_38 (tk T_cX12_stars 54 rfl) lm0 rfl ?_
      refine a_iload C (tk T_cX12_stars 55 rfl) rfl ?_
      obtain ⟨hb, h⟩ := h
      refine a_iald C (tk T_cX12_stars 56 rfl) lm9 hb ?_
      refine a_if_lt C 164 (tk T_cX12_stars 57 rfl) rfl (fun c => ?_) (fun c => ?_)
      · have h := h.1 c
        exact a_to (k_M_stars_164 C hr hR k78 ih x4 x5 x6 x7 x8 x9 M h) rfl
      · have h := h.2 c
        refine a_aload_n C (tk T_cX12_stars 58 rfl) rfl ?_
        refine a_getR C f_RX12_38 (tk T_cX12_stars 59 rfl) lm0 rfl ?_
        refine a_bipush C (101 : Int32) (tk T_cX12_stars 60 rfl) kB_101 ?_
        refine a_iload C (tk T_cX12_stars 61 rfl) rfl ?_
        refine a_iadd C (tk T_cX12_stars 62 rfl) ?_
        obtain ⟨hb, h⟩ := h
        refine a_iald C (tk T_cX12_stars 63 rfl) lm9 hb ?_
        refine a_if_lt C 164 (tk T_cX12_stars 64 rfl) rfl (fun c => ?_) (fun c => ?_)
        · have h := h.1 c
          exact a_to (k_M_stars_164 C hr hR k78 ih x4 x5 x6 x7 x8 x9 M h) rfl
        · have h := h.2 c
          refine a_aload_n C (tk T_cX12_stars 65 rfl) rfl ?_
          refine a_getR C f_RX12_38 (tk T_cX12_stars 66 rfl) lm0 rfl ?_
          refine a_iload C (tk T_cX12_stars 67 rfl) rfl ?_
          obtain ⟨hb, h⟩ := h
          refine a_iald C (tk T_cX12_stars 68 rfl) lm9 hb ?_
          refine a_aload_n C (tk T_cX12_stars 69 rfl) rfl ?_
          refine a_getR C f_RX12_38 (tk T_cX12_stars 70 rfl) lm0 rfl ?_
          refine a_bipush C (101 : Int32) (tk T_cX12_stars 71 rfl) kB_101 ?_
          refine a_iload C (tk T_cX12_stars 72 rfl) rfl ?_
          refine a_iadd C (tk T_cX12_stars 73 rfl) ?_
          obtain ⟨hb, h⟩ := h
          refine a_iald C (tk T_cX12_stars 74 rfl) lm9 hb ?_
          refine a_iand C (tk T_cX12_stars 75 rfl) ?_
          refine a_top (fun v1 e_v1 => ?_)
          have h := h v1 e_v1
          refine a_if_eq C 142 (tk T_cX12_stars 76 rfl) rfl (fun c => ?_) (fun c => ?_)
          · have h := h.1 c
            refine a_iload C (tk T_cX12_stars 78 rfl) rfl ?_
            refine a_if_ne C 161 (tk T_cX12_stars 79 rfl) rfl (fun c => ?_) (fun c => ?_)
            · have h := h.1 c
              exact a_to (k_M_stars_161 C hr hR k78 ih x4 x5 x6 x7 x8 x9 M h) rfl
            · have h := h.2 c
              refine a_iload C (tk T_cX12_stars 80 rfl) rfl ?_
              refine a_bipush C (50 : Int32) (tk T_cX12_stars 81 rfl) kB_50 ?_
              refine a_isub C (tk T_cX12_stars 82 rfl) ?_
              refine a_top (fun x6_2 e_x6_2 => ?_)
              have h := h x6_2 e_x6_2
              refine a_istore C (tk T_cX12_stars 83 rfl) (by decide) rfl ?_
              refine a_iload C (tk T_cX12_stars 84 rfl) rfl ?_
              refine a_bipush C (50 : Int32) (tk T_cX12_stars 85 rfl) kB_50 ?_
              refine a_isub C (tk T_cX12_stars 86 rfl) ?_
              refine a_top (fun x7_3 e_x7_3 => ?_)
              have h := h x7_3 e_x7_3
              refine a_istore C (tk T_cX12_stars 87 rfl) (by decide) rfl ?_
              exact a_to (k_M_stars_161 C hr hR k78 ih x4 x5 x6_2 x7_3 x8 x9 M h) rfl
          · have h := h.2 c
            refine a_goto C 164 (tk T_cX12_stars 77 rfl) rfl ?_
            exact a_to (k_M_stars_164 C hr hR k78 ih x4 x5 x6 x7 x8 x9 M h) rfl
def P_M_stars_78 (post : Int32 → Mem → Prop) : Nat → Int32 → Int32 → Int32 → Int32 → Int32 → Mem → Prop
  | 0, _, _, _, _, _, _ => False
  | n + 1, x4, x5, x6, x7, x8, M =>
    ((101 : Int32) ≤ x8 → ((¬ x4 = 0 → ((¬ x4 = (1 : Int32) → (P_M_stars_199 post x7 M)) ∧
  (x4 = (1 : Int32) → (P_M_stars_199 post x6 M)))) ∧
  (x4 = 0 → (P_M_stars_199 post x5 M)))) ∧
  (¬ (101 : Int32) ≤ x8 → (∃ j88, P_M_stars_88 post (P_M_stars_78 post n) j88 x4 x5 x6 x7 x8 (0 : Int32) M))
theorem k_M_stars_78 {X : FX} {g : GT} {A : Nat → Prop} {Z : State → Prop} {post : Int32 → Mem → Prop} (C : Cx X g layM A cX12_stars 10 RX12 6) (hr : 0 ≤ X.2.2.2.1.cells ∧ 0 ≤ X.2.2.2.1.slots) (hR : RetI X g layM A cX12_stars 10 0 0 Z post) : ∀ (n : Nat) (x4 x5 x6 x7 x8 : Int32) (M : Mem), P_M_stars_78 post n x4 x5 x6 x7 x8 M → AtX X g layM A 10 0 0 Z 78 [(0, .ref (ad g 0)), (4, .int x4), (5, .int x5), (6, .int x6), (7, .int x7), (8, .int x8)] [] M := by
  intro n
  induction n with
  | zero =>
    intro x4 x5 x6 x7 x8 M h
    exact h.elim
  | succ n ih =>
    intro x4 x5 x6 x7 x8 M h
    refine a_iload C (tk T_cX12_stars 45 rfl) rfl ?_
    refine a_bipush C (101 : Int32) (tk T_cX12_stars 46 rfl) kB_101 ?_
    refine a_icmp_ge C 176 (tk T_cX12_stars 47 rfl) rfl (fun c => ?_) (fun c => ?_)
    · have h := h.1 c
      refine a_iload C (tk T_cX12_stars 93 rfl) rfl ?_
      refine a_if_ne C 186 (tk T_cX12_stars 94 rfl) rfl (fun c => ?_) (fun c => ?_)
      · have h := h.1 c
        refine a_iload C (tk T_cX12_stars 97 rfl) rfl ?_
        refine a_iconst C (1 : Int32) (tk T_cX12_stars 98 rfl) kI_1 ?_
        refine a_icmp_ne C 197 (tk T_cX12_stars 99 rfl) rfl (fun c => ?_) (fun c => ?_)
        · have h := h.1 c
          refine a_iload C (tk T_cX12_stars 102 rfl) rfl ?_
          exact a_to (k_M_stars_199 C hr hR x7 M h) rfl
        · have h := h.2 c
          refine a_iload C (tk T_cX12_stars 100 rfl) rfl ?_
          refine a_goto C 199 (tk T_cX12_stars 101 rfl) rfl ?_
          exact a_to (k_M_stars_199 C hr hR x6 M h) rfl
      · have h := h.2 c
        refine a_iload C (tk T_cX12_stars 95 rfl) rfl ?_
        refine a_goto C 199 (tk T_cX12_stars 96 rfl) rfl ?_
        exact a_to (k_M_stars_199 C hr hR x5 M h) rfl
    · have h := h.2 c
      refine a_iconst C (0 : Int32) (tk T_cX12_stars 48 rfl) kI_0 ?_
      refine a_istore C (tk T_cX12_stars 49 rfl) (by decide) rfl ?_
      obtain ⟨n1, h⟩ := h
      exact a_to (k_M_stars_88 C hr hR ih n1 x4 x5 x6 x7 x8 (0 : Int32) M h) rfl
def P_M_stars_43 (post : Int32 → Mem → Prop) (M : Mem) : Prop :=
  post (0 : Int32) M
theorem k_M_stars_43 {X : FX} {g : GT} {A : Nat → Prop} {Z : State → Prop} {post : Int32 → Mem → Prop} (C : Cx X g layM A cX12_stars 10 RX12 6) (hr : 0 ≤ X.2.2.2.1.cells ∧ 0 ≤ X.2.2.2.1.slots) (hR : RetI X g layM A cX12_stars 10 0 0 Z post)  (M : Mem) (h : P_M_stars_43 post M) : AtX X g layM A 10 0 0 Z 43 [] [] M := by
  refine a_iconst C (0 : Int32) (tk T_cX12_stars 23 rfl) kI_0 ?_
  exact hR _ _ _ _ (tk T_cX12_stars 24 rfl) h
def P_M_stars_36 (post : Int32 → Mem → Prop) (x1 x2 x3 x4 s1 : Int32) (M : Mem) : Prop :=
  P_M_throwsIf (fun r1 M1 =>
  (r1 = 0 → (P_M_spans (fun M2 =>
  P_M_leaves (fun M3 =>
  P_M_leaves (fun M4 =>
  ∃ j78, P_M_stars_78 post j78 x4 (0 : Int32) (99 : Int32) (99 : Int32) (0 : Int32) M4) x1 x3 (101 : Int32) M3) x1 x2 (0 : Int32) M2) M1)) ∧
  (¬ r1 = 0 → (P_M_stars_43 post M1))) s1 (2 : Int32) M
theorem k_M_stars_36 {X : FX} {g : GT} {A : Nat → Prop} {Z : State → Prop} {post : Int32 → Mem → Prop} (C : Cx X g layM A cX12_stars 10 RX12 6) (hr : 0 ≤ X.2.2.2.1.cells ∧ 0 ≤ X.2.2.2.1.slots) (hR : RetI X g layM A cX12_stars 10 0 0 Z post) (x1 x2 x3 x4 s1 : Int32) (M : Mem) (h : P_M_stars_36 post x1 x2 x3 x4 s1 M) : AtX X g layM A 10 0 0 Z 36 [(0, .ref (ad g 0)), (1, .int x1), (2, .int x2), (3, .int x3), (4, .int x4)] [.int s1, .ref (ad g 0)] M := by
  refine a_iconst C (2 : Int32) (tk T_cX12_stars 20 rfl) kI_2 ?_
  refine a_callI C [.int s1, .int (2 : Int32)] me_yX12_throwsIf lk_RX12_72 (ct_M_throwsIf h) (by decide) lm0 rfl rfl rfl (Nat.le_of_ble_eq_true rfl) (tk T_cX12_stars 21 rfl) hr (fun r1 M1 h => ?_)
  refine a_if_eq C 45 (tk T_cX12_stars 22 rfl) rfl (fun c => ?_) (fun c => ?_)
  · have h := h.1 c
    refine a_aload_n C (tk T_cX12_stars 25 rfl) rfl ?_
    refine a_callV C [] me_yX12_spans lk_RX12_197 (ct_M_spans h) (by decide) lm0 rfl rfl rfl (Nat.le_of_ble_eq_true rfl) (tk T_cX12_stars 26 rfl) hr (fun M2 h => ?_)
    refine a_aload_n C (tk T_cX12_stars 27 rfl) rfl ?_
    refine a_iload_n C (tk T_cX12_stars 28 rfl) rfl ?_
    refine a_iload_n C (tk T_cX12_stars 29 rfl) rfl ?_
    refine a_iconst C (0 : Int32) (tk T_cX12_stars 30 rfl) kI_0 ?_
    refine a_callV C [.int x1, .int x2, .int (0 : Int32)] me_yX12_leaves lk_RX12_250 (ct_M_leaves h) (by decide) lm0 rfl rfl rfl (Nat.le_of_ble_eq_true rfl) (tk T_cX12_stars 31 rfl) hr (fun M3 h => ?_)
    refine a_aload_n C (tk T_cX12_stars 32 rfl) rfl ?_
    refine a_iload_n C (tk T_cX12_stars 33 rfl) rfl ?_
    refine a_iload_n C (tk T_cX12_stars 34 rfl) rfl ?_
    refine a_bipush C (101 : Int32) (tk T_cX12_stars 35 rfl) kB_101 ?_
    refine a_callV C [.int x1, .int x3, .int (101 : Int32)] me_yX12_leaves lk_RX12_250 (ct_M_leaves h) (by decide) lm0 rfl rfl rfl (Nat.le_of_ble_eq_true rfl) (tk T_cX12_stars 36 rfl) hr (fun M4 h => ?_)
    refine a_iconst C (0 : Int32) (tk T_cX12_stars 37 rfl) kI_0 ?_
    refine a_istore C (tk T_cX12_stars 38 rfl) (by decide) rfl ?_
    refine a_bipush C (99 : Int32) (tk T_cX12_stars 39 rfl) kB_99 ?_
    refine a_istore C (tk T_cX12_stars 40 rfl) (by decide) rfl ?_
    refine a_bipush C (99 : Int32) (tk T_cX12_stars 41 rfl) kB_99 ?_
    refine a_istore C (tk T_cX12_stars 42 rfl) (by decide) rfl ?_
    refine a_iconst C (0 : Int32) (tk T_cX12_stars 43 rfl) kI_0 ?_
    refine a_istore C (tk T_cX12_stars 44 rfl) (by decide) rfl ?_
    obtain ⟨n1, h⟩ := h
    exact a_to (k_M_stars_78 C hr hR n1 x4 (0 : Int32) (99 : Int32) (99 : Int32) (0 : Int32) M4 h) rfl
  · have h := h.2 c
    exact a_to (k_M_stars_43 C hr hR M1 h) rfl
def P_M_stars (post : Int32 → Mem → Prop) (x1 x2 x3 x4 : Int32) (M : Mem) : Prop :=
  ∀ M1, M1 = ms M 0 0 (0 : Int32) → P_M_none (fun r2 M2 =>
  P_M_throwsIf (fun r3 M3 =>
  (¬ r3 = 0 → (P_M_stars_43 post M3)) ∧
  (r3 = 0 → (P_M_in (fun r4 M4 =>
  (¬ r4 = 0 → (P_M_stars_36 post x1 x2 x3 x4 (0 : Int32) M4)) ∧
  (r4 = 0 → (P_M_stars_36 post x1 x2 x3 x4 (1 : Int32) M4))) x4 (0 : Int32) (2 : Int32) M3))) r2 (1 : Int32) M2) x1 (8 : Int32) M1
theorem k_M_stars {X : FX} {g : GT} {A : Nat → Prop} {Z : State → Prop} {post : Int32 → Mem → Prop} (C : Cx X g layM A cX12_stars 10 RX12 6) (hr : 0 ≤ X.2.2.2.1.cells ∧ 0 ≤ X.2.2.2.1.slots) (hR : RetI X g layM A cX12_stars 10 0 0 Z post) (x1 x2 x3 x4 : Int32) (M : Mem) (h : P_M_stars post x1 x2 x3 x4 M) : AtX X g layM A 10 0 0 Z 0 [(0, .ref (ad g 0)), (1, .int x1), (2, .int x2), (3, .int x3), (4, .int x4)] [] M := by
  refine a_aload_n C (tk T_cX12_stars 0 rfl) rfl ?_
  refine a_iconst C (0 : Int32) (tk T_cX12_stars 1 rfl) kI_0 ?_
  refine a_put C f_RX12_3 f_RX12_3p rfl rfl (tk T_cX12_stars 2 rfl) lm0 rfl ?_
  refine a_mem (fun M1 e_M1 => ?_)
  have h := h M1 e_M1
  refine a_aload_n C (tk T_cX12_stars 3 rfl) rfl ?_
  refine a_aload_n C (tk T_cX12_stars 4 rfl) rfl ?_
  refine a_iload_n C (tk T_cX12_stars 5 rfl) rfl ?_
  refine a_bipush C (8 : Int32) (tk T_cX12_stars 6 rfl) kB_8 ?_
  refine a_callI C [.int x1, .int (8 : Int32)] me_yX12_none lk_RX12_121 (ct_M_none h) (by decide) lm0 rfl rfl rfl (Nat.le_of_ble_eq_true rfl) (tk T_cX12_stars 7 rfl) hr (fun r2 M2 h => ?_)
  refine a_iconst C (1 : Int32) (tk T_cX12_stars 8 rfl) kI_1 ?_
  refine a_callI C [.int r2, .int (1 : Int32)] me_yX12_throwsIf lk_RX12_72 (ct_M_throwsIf h) (by decide) lm0 rfl rfl rfl (Nat.le_of_ble_eq_true rfl) (tk T_cX12_stars 9 rfl) hr (fun r3 M3 h => ?_)
  refine a_if_ne C 43 (tk T_cX12_stars 10 rfl) rfl (fun c => ?_) (fun c => ?_)
  · have h := h.1 c
    exact a_to (k_M_stars_43 C hr hR M3 h) rfl
  · have h := h.2 c
    refine a_aload_n C (tk T_cX12_stars 11 rfl) rfl ?_
    refine a_iload C (tk T_cX12_stars 12 rfl) rfl ?_
    refine a_iconst C (0 : Int32) (tk T_cX12_stars 13 rfl) kI_0 ?_
    refine a_iconst C (2 : Int32) (tk T_cX12_stars 14 rfl) kI_2 ?_
    refine a_statI C [.int x4, .int (0 : Int32), .int (2 : Int32)] me_yX12_in lk_RX12_58 (ct_M_in h) (by decide) rfl rfl (Nat.le_of_ble_eq_true rfl) (tk T_cX12_stars 15 rfl) hr (fun r4 M4 h => ?_)
    refine a_if_ne C 35 (tk T_cX12_stars 16 rfl) rfl (fun c => ?_) (fun c => ?_)
    · have h := h.1 c
      refine a_iconst C (0 : Int32) (tk T_cX12_stars 19 rfl) kI_0 ?_
      exact a_to (k_M_stars_36 C hr hR x1 x2 x3 x4 (0 : Int32) M4 h) rfl
    · have h := h.2 c
      refine a_iconst C (1 : Int32) (tk T_cX12_stars 17 rfl) kI_1 ?_
      refine a_goto C 36 (tk T_cX12_stars 18 rfl) rfl ?_
      exact a_to (k_M_stars_36 C hr hR x1 x2 x3 x4 (1 : Int32) M4 h) rfl
theorem ct_M_stars {l : Launch} {g : GT} {post : Int32 → Mem → Prop} {x1 x2 x3 x4 : Int32} {M : Mem} (h : P_M_stars post x1 x2 x3 x4 M) : CI l g layM yX12_stars cX12_stars 10 (some .int) 6 [.ref (ad g 0), .int x1, .int x2, .int x3, .int x4] M post :=
  ci_of (plainFor_of_name (by decide +kernel)) (Nat.le_of_ble_eq_true rfl) (fun X A Z hl C hr hR => by subst hl; exact k_M_stars C hr hR x1 x2 x3 x4 M h)
def T_cX12_driftL : List (Nat × Instr × Nat) := [(0, .aload_n 0, 1), (1, .iconst 0, 1), (2, .putfield 3, 3), (5, .aload_n 0, 1), (6, .aload_n 0, 1), (7, .iload_n 1, 1), (8, .bipush 8, 2), (10, .invokevirtual 121, 3), (13, .iconst 1, 1), (14, .invokevirtual 72, 3), (17, .ifCond .eq 5, 3), (20, .iconst 0, 1), (21, .ireturn, 1), (22, .aload_n 0, 1), (23, .iconst 0, 1), (24, .invokevirtual 112, 3), (27, .pop, 1), (28, .iconst 0, 1), (29, .istore 4, 2), (31, .bipush 99, 2), (33, .istore 5, 2), (35, .bipush (-30), 2), (37, .istore 6, 2), (39, .iload 6, 2), (41, .bipush 30, 2), (43, .if_icmp .gt 49, 3), (46, .aload_n 0, 1), (47, .iload_n 1, 1), (48, .iload 6, 2), (50, .invokevirtual 138, 3), (53, .aload_n 0, 1), (54, .iload_n 1, 1), (55, .iload_n 2, 1), (56, .iconst 0, 1), (57, .invokevirtual 200, 3), (60, .ifCond .ne 6, 3), (63, .goto 23, 3), (66, .iinc 4 1, 3), (69, .iload 6, 2), (71, .invokestatic 87, 3), (74, .iload 5, 2), (76, .invokestatic 87, 3), (79, .if_icmp .ge 7, 3), (82, .iload 6, 2), (84, .istore 5, 2), (86, .iinc 6 1, 3), (89, .goto (-50), 3), (92, .iload_n 3, 1), (93, .ifCond .eq 8, 3), (96, .iload 5, 2), (98, .goto 5, 3), (101, .iload 4, 2), (103, .ireturn, 1)]
theorem T_cX12_drift : tabOK cX12_drift T_cX12_driftL = true := by decide +kernel
def P_M_drift_103 (post : Int32 → Mem → Prop) (s0 : Int32) (M : Mem) : Prop :=
  post s0 M
theorem k_M_drift_103 {X : FX} {g : GT} {A : Nat → Prop} {Z : State → Prop} {post : Int32 → Mem → Prop} (C : Cx X g layM A cX12_drift 7 RX12 6) (hr : 0 ≤ X.2.2.2.1.cells ∧ 0 ≤ X.2.2.2.1.slots) (hR : RetI X g layM A cX12_drift 7 0 0 Z post) (s0 : Int32) (M : Mem) (h : P_M_drift_103 post s0 M) : AtX X g layM A 7 0 0 Z 103 [] [.int s0] M := by
  exact hR _ _ _ _ (tk T_cX12_drift 52 rfl) h
def P_M_drift_86 (post : Int32 → Mem → Prop) (R39 : Int32 → Int32 → Int32 → Int32 → Int32 → Int32 → Mem → Prop) (x1 x2 x3 x4 x5 x6 : Int32) (M : Mem) : Prop :=
  R39 x1 x2 x3 x4 x5 (x6 + (1 : Int32)) M
theorem k_M_drift_86 {X : FX} {g : GT} {A : Nat → Prop} {Z : State → Prop} {post : Int32 → Mem → Prop} {R39 : Int32 → Int32 → Int32 → Int32 → Int32 → Int32 → Mem → Prop} (C : Cx X g layM A cX12_drift 7 RX12 6) (hr : 0 ≤ X.2.2.2.1.cells ∧ 0 ≤ X.2.2.2.1.slots) (hR : RetI X g layM A cX12_drift 7 0 0 Z post) (k39 : ∀ (y1 y2 y3 y4 y5 y6 : Int32) (M : Mem), R39 y1 y2 y3 y4 y5 y6 M → AtX X g layM A 7 0 0 Z 39 [(0, .ref (ad g 0)), (1, .int y1), (2, .int y2), (3, .int y3), (4, .int y4), (5, .int y5), (6, .int y6)] [] M) (x1 x2 x3 x4 x5 x6 : Int32) (M : Mem) (h : P_M_drift_86 post R39 x1 x2 x3 x4 x5 x6 M) : AtX X g layM A 7 0 0 Z 86 [(0, .ref (ad g 0)), (1, .int x1), (2, .int x2), (3, .int x3), (4, .int x4), (5, .int x5), (6, .int x6)] [] M := by
  refine a_iinc C (1 : Int32) (tk T_cX12_drift 45 rfl) rfl kI_1 (by decide) rfl ?_
  refine a_goto C 39 (tk T_cX12_drift 46 rfl) rfl ?_
  exact a_to (k39 x1 x2 x3 x4 x5 (x6 + (1 : Int32)) M h) rfl
def P_M_drift_39 (post : Int32 → Mem → Prop) : Nat → Int32 → Int32 → Int32 → Int32 → Int32 → Int32 → Mem → Prop
  | 0, _, _, _, _, _, _, _ => False
  | n + 1, x1, x2, x3, x4, x5, x6, M =>
    ((30 : Int32) < x6 → ((x3 = 0 → (P_M_drift_103 post x4 M)) ∧
  (¬ x3 = 0 → (P_M_drift_103 post x5 M)))) ∧
  (¬ (30 : Int32) < x6 → (P_M_drifts (fun M1 =>
  P_M_explainsBy (fun r2 M2 =>
  (¬ r2 = 0 → (P_Math_abs (fun r3 M3 =>
  P_Math_abs (fun r4 M4 =>
  (r4 ≤ r3 → (P_M_drift_86 post (P_M_drift_39 post n) x1 x2 x3 (x4 + (1 : Int32)) x5 x6 M4)) ∧
  (¬ r4 ≤ r3 → (P_M_drift_86 post (P_M_drift_39 post n) x1 x2 x3 (x4 + (1 : Int32)) x6 x6 M4))) x5 M3) x6 M2)) ∧
  (r2 = 0 → (P_M_drift_86 post (P_M_drift_39 post n) x1 x2 x3 x4 x5 x6 M2))) x1 x2 (0 : Int32) M1) x1 x6 M))
theorem k_M_drift_39 {X : FX} {g : GT} {A : Nat → Prop} {Z : State → Prop} {post : Int32 → Mem → Prop} (C : Cx X g layM A cX12_drift 7 RX12 6) (hr : 0 ≤ X.2.2.2.1.cells ∧ 0 ≤ X.2.2.2.1.slots) (hR : RetI X g layM A cX12_drift 7 0 0 Z post) : ∀ (n : Nat) (x1 x2 x3 x4 x5 x6 : Int32) (M : Mem), P_M_drift_39 post n x1 x2 x3 x4 x5 x6 M → AtX X g layM A 7 0 0 Z 39 [(0, .ref (ad g 0)), (1, .int x1), (2, .int x2), (3, .int x3), (4, .int x4), (5, .int x5), (6, .int x6)] [] M := by
  intro n
  induction n with
  | zero =>
    intro x1 x2 x3 x4 x5 x6 M h
    exact h.elim
  | succ n ih =>
    intro x1 x2 x3 x4 x5 x6 M h
    refine a_iload C (tk T_cX12_drift 23 rfl) rfl ?_
    refine a_bipush C (30 : Int32) (tk T_cX12_drift 24 rfl) kB_30 ?_
    refine a_icmp_gt C 92 (tk T_cX12_drift 25 rfl) rfl (fun c => ?_) (fun c => ?_)
    · have h := h.1 c
      refine a_iload_n C (tk T_cX12_drift 47 rfl) rfl ?_
      refine a_if_eq C 101 (tk T_cX12_drift 48 rfl) rfl (fun c => ?_) (fun c => ?_)
      · have h := h.1 c
        refine a_iload C (tk T_cX12_drift 51 rfl) rfl ?_
        exact a_to (k_M_drift_103 C hr hR x4 M h) rfl
      · have h := h.2 c
        refine a_iload C (tk T_cX12_drift 49 rfl) rfl ?_
        refine a_goto C 103 (tk T_cX12_drift 50 rfl) rfl ?_
        exact a_to (k_M_drift_103 C hr hR x5 M h) rfl
    · have h := h.2 c
      refine a_aload_n C (tk T_cX12_drift 26 rfl) rfl ?_
      refine a_iload_n C (tk T_cX12_drift 27 rfl) rfl ?_
      refine a_iload C (tk T_cX12_drift 28 rfl) rfl ?_
      refine a_callV C [.int x1, .int x6] me_yX12_drifts lk_RX12_138 (ct_M_drifts h) (by decide) lm0 rfl rfl rfl (Nat.le_of_ble_eq_true rfl) (tk T_cX12_drift 29 rfl) hr (fun M1 h => ?_)
      refine a_aload_n C (tk T_cX12_drift 30 rfl) rfl ?_
      refine a_iload_n C (tk T_cX12_drift 31 rfl) rfl ?_
      refine a_iload_n C (tk T_cX12_drift 32 rfl) rfl ?_
      refine a_iconst C (0 : Int32) (tk T_cX12_drift 33 rfl) kI_0 ?_
      refine a_callI C [.int x1, .int x2, .int (0 : Int32)] me_yX12_explainsBy lk_RX12_200 (ct_M_explainsBy h) (by decide) lm0 rfl rfl rfl (Nat.le_of_ble_eq_true rfl) (tk T_cX12_drift 34 rfl) hr (fun r2 M2 h => ?_)
      refine a_if_ne C 66 (tk T_cX12_drift 35 rfl) rfl (fun c => ?_) (fun c => ?_)
      · have h := h.1 c
        refine a_iinc C (1 : Int32) (tk T_cX12_drift 37 rfl) rfl kI_1 (by decide) rfl ?_
        refine a_iload C (tk T_cX12_drift 38 rfl) rfl ?_
        refine a_statI C [.int x6] me_yJ9_abs_0f7a4 lk_RX12_87 (ct_Math_abs h) (by decide) rfl rfl (Nat.le_of_ble_eq_true rfl) (tk T_cX12_drift 39 rfl) hr (fun r3 M3 h => ?_)
        refine a_iload C (tk T_cX12_drift 40 rfl) rfl ?_
        refine a_statI C [.int x5] me_yJ9_abs_0f7a4 lk_RX12_87 (ct_Math_abs h) (by decide) rfl rfl (Nat.le_of_ble_eq_true rfl) (tk T_cX12_drift 41 rfl) hr (fun r4 M4 h => ?_)
        refine a_icmp_ge C 86 (tk T_cX12_drift 42 rfl) rfl (fun c => ?_) (fun c => ?_)
        · have h := h.1 c
          exact a_to (k_M_drift_86 C hr hR ih x1 x2 x3 (x4 + (1 : Int32)) x5 x6 M4 h) rfl
        · have h := h.2 c
          refine a_iload C (tk T_cX12_drift 43 rfl) rfl ?_
          refine a_istore C (tk T_cX12_drift 44 rfl) (by decide) rfl ?_
          exact a_to (k_M_drift_86 C hr hR ih x1 x2 x3 (x4 + (1 : Int32)) x6 x6 M4 h) rfl
      · have h := h.2 c
        refine a_goto C 86 (tk T_cX12_drift 36 rfl) rfl ?_
        exact a_to (k_M_drift_86 C hr hR ih x1 x2 x3 x4 x5 x6 M2 h) rfl
def P_M_drift (post : Int32 → Mem → Prop) (x1 x2 x3 : Int32) (M : Mem) : Prop :=
  ∀ M1, M1 = ms M 0 0 (0 : Int32) → P_M_none (fun r2 M2 =>
  P_M_throwsIf (fun r3 M3 =>
  (r3 = 0 → (P_M_lays (fun r4 M4 =>
  ∃ j39, P_M_drift_39 post j39 x1 x2 x3 (0 : Int32) (99 : Int32) (-30 : Int32) M4) (0 : Int32) M3)) ∧
  (¬ r3 = 0 → (post (0 : Int32) M3))) r2 (1 : Int32) M2) x1 (8 : Int32) M1
theorem k_M_drift {X : FX} {g : GT} {A : Nat → Prop} {Z : State → Prop} {post : Int32 → Mem → Prop} (C : Cx X g layM A cX12_drift 7 RX12 6) (hr : 0 ≤ X.2.2.2.1.cells ∧ 0 ≤ X.2.2.2.1.slots) (hR : RetI X g layM A cX12_drift 7 0 0 Z post) (x1 x2 x3 : Int32) (M : Mem) (h : P_M_drift post x1 x2 x3 M) : AtX X g layM A 7 0 0 Z 0 [(0, .ref (ad g 0)), (1, .int x1), (2, .int x2), (3, .int x3)] [] M := by
  refine a_aload_n C (tk T_cX12_drift 0 rfl) rfl ?_
  refine a_iconst C (0 : Int32) (tk T_cX12_drift 1 rfl) kI_0 ?_
  refine a_put C f_RX12_3 f_RX12_3p rfl rfl (tk T_cX12_drift 2 rfl) lm0 rfl ?_
  refine a_mem (fun M1 e_M1 => ?_)
  have h := h M1 e_M1
  refine a_aload_n C (tk T_cX12_drift 3 rfl) rfl ?_
  refine a_aload_n C (tk T_cX12_drift 4 rfl) rfl ?_
  refine a_iload_n C (tk T_cX12_drift 5 rfl) rfl ?_
  refine a_bipush C (8 : Int32) (tk T_cX12_drift 6 rfl) kB_8 ?_
  refine a_callI C [.int x1, .int (8 : Int32)] me_yX12_none lk_RX12_121 (ct_M_none h) (by decide) lm0 rfl rfl rfl (Nat.le_of_ble_eq_true rfl) (tk T_cX12_drift 7 rfl) hr (fun r2 M2 h => ?_)
  refine a_iconst C (1 : Int32) (tk T_cX12_drift 8 rfl) kI_1 ?_
  refine a_callI C [.int r2, .int (1 : Int32)] me_yX12_throwsIf lk_RX12_72 (ct_M_throwsIf h) (by decide) lm0 rfl rfl rfl (Nat.le_of_ble_eq_true rfl) (tk T_cX12_drift 9 rfl) hr (fun r3 M3 h => ?_)
  refine a_if_eq C 22 (tk T_cX12_drift 10 rfl) rfl (fun c => ?_) (fun c => ?_)
  · have h := h.1 c
    refine a_aload_n C (tk T_cX12_drift 13 rfl) rfl ?_
    refine a_iconst C (0 : Int32) (tk T_cX12_drift 14 rfl) kI_0 ?_
    refine a_callI C [.int (0 : Int32)] me_yX12_lays lk_RX12_112 (ct_M_lays h) (by decide) lm0 rfl rfl rfl (Nat.le_of_ble_eq_true rfl) (tk T_cX12_drift 15 rfl) hr (fun r4 M4 h => ?_)
    refine a_popi C (tk T_cX12_drift 16 rfl) ?_
    refine a_iconst C (0 : Int32) (tk T_cX12_drift 17 rfl) kI_0 ?_
    refine a_istore C (tk T_cX12_drift 18 rfl) (by decide) rfl ?_
    refine a_bipush C (99 : Int32) (tk T_cX12_drift 19 rfl) kB_99 ?_
    refine a_istore C (tk T_cX12_drift 20 rfl) (by decide) rfl ?_
    refine a_bipush C (-30 : Int32) (tk T_cX12_drift 21 rfl) kB_m30 ?_
    refine a_istore C (tk T_cX12_drift 22 rfl) (by decide) rfl ?_
    obtain ⟨n1, h⟩ := h
    exact a_to (k_M_drift_39 C hr hR n1 x1 x2 x3 (0 : Int32) (99 : Int32) (-30 : Int32) M4 h) rfl
  · have h := h.2 c
    refine a_iconst C (0 : Int32) (tk T_cX12_drift 11 rfl) kI_0 ?_
    exact hR _ _ _ _ (tk T_cX12_drift 12 rfl) h
theorem ct_M_drift {l : Launch} {g : GT} {post : Int32 → Mem → Prop} {x1 x2 x3 : Int32} {M : Mem} (h : P_M_drift post x1 x2 x3 M) : CI l g layM yX12_drift cX12_drift 7 (some .int) 6 [.ref (ad g 0), .int x1, .int x2, .int x3] M post :=
  ci_of (plainFor_of_name (by decide +kernel)) (Nat.le_of_ble_eq_true rfl) (fun X A Z hl C hr hR => by subst hl; exact k_M_drift C hr hR x1 x2 x3 M h)
