def T_cX12_makerL : List (Nat × Instr × Nat) := [(0, .aload_n 0, 1), (1, .iconst 0, 1), (2, .putfield 3, 3), (5, .aload_n 0, 1), (6, .aload_n 0, 1), (7, .getfield 13, 3), (10, .bipush 11, 2), (12, .iaload, 1), (13, .iconst 4, 1), (14, .if_icmp .ne 7, 3), (17, .iconst 1, 1), (18, .goto 4, 3), (21, .iconst 0, 1), (22, .iconst 1, 1), (23, .invokevirtual 72, 3), (26, .ifCond .eq 5, 3), (29, .iconst 0, 1), (30, .ireturn, 1), (31, .aload_n 0, 1), (32, .getfield 13, 3), (35, .bipush 11, 2), (37, .iaload, 1), (38, .istore_n 1, 1), (39, .aload_n 0, 1), (40, .getfield 13, 3), (43, .bipush 11, 2), (45, .dup2, 1), (46, .iaload, 1), (47, .iconst 1, 1), (48, .iadd, 1), (49, .iastore, 1), (50, .iconst 0, 1), (51, .istore_n 2, 1), (52, .iload_n 2, 1), (53, .bipush 6, 2), (55, .if_icmp .ge 48, 3), (58, .aload_n 0, 1), (59, .getfield 13, 3), (62, .sipush 311, 3), (65, .iconst 2, 1), (66, .bipush 6, 2), (68, .iload_n 1, 1), (69, .imul, 1), (70, .iload_n 2, 1), (71, .iadd, 1), (72, .imul, 1), (73, .iadd, 1), (74, .iconst 0, 1), (75, .iastore, 1), (76, .aload_n 0, 1), (77, .getfield 13, 3), (80, .sipush 311, 3), (83, .iconst 2, 1), (84, .bipush 6, 2), (86, .iload_n 1, 1), (87, .imul, 1), (88, .iload_n 2, 1), (89, .iadd, 1), (90, .imul, 1), (91, .iadd, 1), (92, .iconst 1, 1), (93, .iadd, 1), (94, .bipush 9, 2), (96, .iastore, 1), (97, .iinc 2 1, 3), (100, .goto (-48), 3), (103, .iload_n 1, 1), (104, .ireturn, 1)]
theorem T_cX12_maker : tabOK cX12_maker T_cX12_makerL = true := by decide +kernel
def P_M_maker_52 (post : Int32 → Mem → Prop) : Nat → Int32 → Int32 → Mem → Prop
  | 0, _, _, _ => False
  | n + 1, x1, x2, M =>
    ((6 : Int32) ≤ x2 → (post x1 M)) ∧
  (¬ (6 : Int32) ≤ x2 → (vp_in ((311 : Int32) + ((2 : Int32) * (((6 : Int32) * x1) + x2))) 5966 ∧ ∀ M1, M1 = ms M 1 ((311 : Int32) + ((2 : Int32) * (((6 : Int32) * x1) + x2))).toNatClampNeg (0 : Int32) → ∀ v2, v2 = (((311 : Int32) + ((2 : Int32) * (((6 : Int32) * x1) + x2))) + (1 : Int32)) → vp_in v2 5966 ∧ ∀ M3, M3 = ms M1 1 v2.toNatClampNeg (9 : Int32) → P_M_maker_52 post n x1 (x2 + (1 : Int32)) M3))
theorem k_M_maker_52 {X : FX} {g : GT} {A : Nat → Prop} {Z : State → Prop} {post : Int32 → Mem → Prop} (C : Cx X g layM A cX12_maker 3 RX12 1) (hr : 0 ≤ X.2.2.2.1.cells ∧ 0 ≤ X.2.2.2.1.slots) (hR : RetI X g layM A cX12_maker 3 0 0 Z post) : ∀ (n : Nat) (x1 x2 : Int32) (M : Mem), P_M_maker_52 post n x1 x2 M → AtX X g layM A 3 0 0 Z 52 [(0, .ref (ad g 0)), (1, .int x1), (2, .int x2)] [] M := by
  intro n
  induction n with
  | zero =>
    intro x1 x2 M h
    exact h.elim
  | succ n ih =>
    intro x1 x2 M h
    refine a_iload_n C (tk T_cX12_maker 33 rfl) rfl ?_
    refine a_bipush C (6 : Int32) (tk T_cX12_maker 34 rfl) kB_6 ?_
    refine a_icmp_ge C 103 (tk T_cX12_maker 35 rfl) rfl (fun c => ?_) (fun c => ?_)
    · have h := h.1 c
      refine a_iload_n C (tk T_cX12_maker 66 rfl) rfl ?_
      exact hR _ _ _ _ (tk T_cX12_maker 67 rfl) h
    · have h := h.2 c
      refine a_aload_n C (tk T_cX12_maker 36 rfl) rfl ?_
      refine a_getR C f_RX12_13 (tk T_cX12_maker 37 rfl) lm0 rfl ?_
      refine a_sipush C (311 : Int32) (tk T_cX12_maker 38 rfl) kS_311 ?_
      refine a_iconst C (2 : Int32) (tk T_cX12_maker 39 rfl) kI_2 ?_
      refine a_bipush C (6 : Int32) (tk T_cX12_maker 40 rfl) kB_6 ?_
      refine a_iload_n C (tk T_cX12_maker 41 rfl) rfl ?_
      refine a_imul C (tk T_cX12_maker 42 rfl) ?_
      refine a_iload_n C (tk T_cX12_maker 43 rfl) rfl ?_
      refine a_iadd C (tk T_cX12_maker 44 rfl) ?_
      refine a_imul C (tk T_cX12_maker 45 rfl) ?_
      refine a_iadd C (tk T_cX12_maker 46 rfl) ?_
      refine a_iconst C (0 : Int32) (tk T_cX12_maker 47 rfl) kI_0 ?_
      obtain ⟨hb, h⟩ := h
      refine a_iast C (tk T_cX12_maker 48 rfl) lm1 hb ?_
      refine a_mem (fun M1 e_M1 => ?_)
      have h := h M1 e_M1
      refine a_aload_n C (tk T_cX12_maker 49 rfl) rfl ?_
      refine a_getR C f_RX12_13 (tk T_cX12_maker 50 rfl) lm0 rfl ?_
      refine a_sipush C (311 : Int32) (tk T_cX12_maker 51 rfl) kS_311 ?_
      refine a_iconst C (2 : Int32) (tk T_cX12_maker 52 rfl) kI_2 ?_
      refine a_bipush C (6 : Int32) (tk T_cX12_maker 53 rfl) kB_6 ?_
      refine a_iload_n C (tk T_cX12_maker 54 rfl) rfl ?_
      refine a_imul C (tk T_cX12_maker 55 rfl) ?_
      refine a_iload_n C (tk T_cX12_maker 56 rfl) rfl ?_
      refine a_iadd C (tk T_cX12_maker 57 rfl) ?_
      refine a_imul C (tk T_cX12_maker 58 rfl) ?_
      refine a_iadd C (tk T_cX12_maker 59 rfl) ?_
      refine a_iconst C (1 : Int32) (tk T_cX12_maker 60 rfl) kI_1 ?_
      refine a_iadd C (tk T_cX12_maker 61 rfl) ?_
      refine a_top (fun v2 e_v2 => ?_)
      have h := h v2 e_v2
      refine a_bipush C (9 : Int32) (tk T_cX12_maker 62 rfl) kB_9 ?_
      obtain ⟨hb, h⟩ := h
      refine a_iast C (tk T_cX12_maker 63 rfl) lm1 hb ?_
      refine a_mem (fun M3 e_M3 => ?_)
      have h := h M3 e_M3
      refine a_iinc C (1 : Int32) (tk T_cX12_maker 64 rfl) rfl kI_1 (by decide) rfl ?_
      refine a_goto C 52 (tk T_cX12_maker 65 rfl) rfl ?_
      exact a_to (ih x1 (x2 + (1 : Int32)) M3 h) rfl
def P_M_maker_22 (post : Int32 → Mem → Prop) (s1 : Int32) (M : Mem) : Prop :=
  P_M_throwsIf (fun r1 M1 =>
  (r1 = 0 → (vp_in (11 : Int32) 5966 ∧ ∀ x1_2, x1_2 = (M1 1 (11 : Int32).toNatClampNeg) → vp_in (11 : Int32) 5966 ∧ vp_in (11 : Int32) 5966 ∧ ∀ M3, M3 = ms M1 1 (11 : Int32).toNatClampNeg ((M1 1 (11 : Int32).toNatClampNeg) + (1 : Int32)) → ∃ j52, P_M_maker_52 post j52 x1_2 (0 : Int32) M3)) ∧
  (¬ r1 = 0 → (post (0 : Int32) M1))) s1 (1 : Int32) M
theorem k_M_maker_22 {X : FX} {g : GT} {A : Nat → Prop} {Z : State → Prop} {post : Int32 → Mem → Prop} (C : Cx X g layM A cX12_maker 3 RX12 1) (hr : 0 ≤ X.2.2.2.1.cells ∧ 0 ≤ X.2.2.2.1.slots) (hR : RetI X g layM A cX12_maker 3 0 0 Z post) (s1 : Int32) (M : Mem) (h : P_M_maker_22 post s1 M) : AtX X g layM A 3 0 0 Z 22 [(0, .ref (ad g 0))] [.int s1, .ref (ad g 0)] M := by
  refine a_iconst C (1 : Int32) (tk T_cX12_maker 13 rfl) kI_1 ?_
  refine a_callI C [.int s1, .int (1 : Int32)] me_yX12_throwsIf lk_RX12_72 (ct_M_throwsIf h) (by decide) lm0 rfl rfl rfl (Nat.le_of_ble_eq_true rfl) (tk T_cX12_maker 14 rfl) hr (fun r1 M1 h => ?_)
  refine a_if_eq C 31 (tk T_cX12_maker 15 rfl) rfl (fun c => ?_) (fun c => ?_)
  · have h := h.1 c
    refine a_aload_n C (tk T_cX12_maker 18 rfl) rfl ?_
    refine a_getR C f_RX12_13 (tk T_cX12_maker 19 rfl) lm0 rfl ?_
    refine a_bipush C (11 : Int32) (tk T_cX12_maker 20 rfl) kB_11 ?_
    obtain ⟨hb, h⟩ := h
    refine a_iald C (tk T_cX12_maker 21 rfl) lm1 hb ?_
    refine a_top (fun x1_2 e_x1_2 => ?_)
    have h := h x1_2 e_x1_2
    refine a_istore_n C (tk T_cX12_maker 22 rfl) (by decide) rfl ?_
    refine a_aload_n C (tk T_cX12_maker 23 rfl) rfl ?_
    refine a_getR C f_RX12_13 (tk T_cX12_maker 24 rfl) lm0 rfl ?_
    refine a_bipush C (11 : Int32) (tk T_cX12_maker 25 rfl) kB_11 ?_
    refine a_dup2ir C (tk T_cX12_maker 26 rfl) ?_
    obtain ⟨hb, h⟩ := h
    refine a_iald C (tk T_cX12_maker 27 rfl) lm1 hb ?_
    refine a_iconst C (1 : Int32) (tk T_cX12_maker 28 rfl) kI_1 ?_
    refine a_iadd C (tk T_cX12_maker 29 rfl) ?_
    obtain ⟨hb, h⟩ := h
    refine a_iast C (tk T_cX12_maker 30 rfl) lm1 hb ?_
    refine a_mem (fun M3 e_M3 => ?_)
    have h := h M3 e_M3
    refine a_iconst C (0 : Int32) (tk T_cX12_maker 31 rfl) kI_0 ?_
    refine a_istore_n C (tk T_cX12_maker 32 rfl) (by decide) rfl ?_
    obtain ⟨n1, h⟩ := h
    exact a_to (k_M_maker_52 C hr hR n1 x1_2 (0 : Int32) M3 h) rfl
  · have h := h.2 c
    refine a_iconst C (0 : Int32) (tk T_cX12_maker 16 rfl) kI_0 ?_
    exact hR _ _ _ _ (tk T_cX12_maker 17 rfl) h
def P_M_maker (post : Int32 → Mem → Prop) (M : Mem) : Prop :=
  ∀ M1, M1 = ms M 0 0 (0 : Int32) → vp_in (11 : Int32) 5966 ∧ (¬ (M1 1 (11 : Int32).toNatClampNeg) = (4 : Int32) → (P_M_maker_22 post (0 : Int32) M1)) ∧
  ((M1 1 (11 : Int32).toNatClampNeg) = (4 : Int32) → (P_M_maker_22 post (1 : Int32) M1))
theorem k_M_maker {X : FX} {g : GT} {A : Nat → Prop} {Z : State → Prop} {post : Int32 → Mem → Prop} (C : Cx X g layM A cX12_maker 3 RX12 1) (hr : 0 ≤ X.2.2.2.1.cells ∧ 0 ≤ X.2.2.2.1.slots) (hR : RetI X g layM A cX12_maker 3 0 0 Z post) (M : Mem) (h : P_M_maker post M) : AtX X g layM A 3 0 0 Z 0 [(0, .ref (ad g 0))] [] M := by
  refine a_aload_n C (tk T_cX12_maker 0 rfl) rfl ?_
  refine a_iconst C (0 : Int32) (tk T_cX12_maker 1 rfl) kI_0 ?_
  refine a_put C f_RX12_3 f_RX12_3p rfl rfl (tk T_cX12_maker 2 rfl) lm0 rfl ?_
  refine a_mem (fun M1 e_M1 => ?_)
  have h := h M1 e_M1
  refine a_aload_n C (tk T_cX12_maker 3 rfl) rfl ?_
  refine a_aload_n C (tk T_cX12_maker 4 rfl) rfl ?_
  refine a_getR C f_RX12_13 (tk T_cX12_maker 5 rfl) lm0 rfl ?_
  refine a_bipush C (11 : Int32) (tk T_cX12_maker 6 rfl) kB_11 ?_
  obtain ⟨hb, h⟩ := h
  refine a_iald C (tk T_cX12_maker 7 rfl) lm1 hb ?_
  refine a_iconst C (4 : Int32) (tk T_cX12_maker 8 rfl) kI_4 ?_
  refine a_icmp_ne C 21 (tk T_cX12_maker 9 rfl) rfl (fun c => ?_) (fun c => ?_)
  · have h := h.1 c
    refine a_iconst C (0 : Int32) (tk T_cX12_maker 12 rfl) kI_0 ?_
    exact a_to (k_M_maker_22 C hr hR (0 : Int32) M1 h) rfl
  · have h := h.2 c
    refine a_iconst C (1 : Int32) (tk T_cX12_maker 10 rfl) kI_1 ?_
    refine a_goto C 22 (tk T_cX12_maker 11 rfl) rfl ?_
    exact a_to (k_M_maker_22 C hr hR (1 : Int32) M1 h) rfl
theorem ct_M_maker {l : Launch} {g : GT} {post : Int32 → Mem → Prop} {M : Mem} (h : P_M_maker post M) : CI l g layM yX12_maker cX12_maker 3 (some .int) 1 [.ref (ad g 0)] M post :=
  ci_of (plainFor_of_name (by decide +kernel)) (Nat.le_of_ble_eq_true rfl) (fun X A Z hl C hr hR => by subst hl; exact k_M_maker C hr hR  M h)
def T_cX12_recipeL : List (Nat × Instr × Nat) := [(0, .aload_n 0, 1), (1, .iconst 0, 1), (2, .putfield 3, 3), (5, .aload_n 0, 1), (6, .aload_n 0, 1), (7, .iload_n 1, 1), (8, .bipush 11, 2), (10, .invokevirtual 121, 3), (13, .ifCond .ne 12, 3), (16, .iload_n 2, 1), (17, .iconst 0, 1), (18, .iconst 5, 1), (19, .invokestatic 58, 3), (22, .ifCond .ne 7, 3), (25, .iconst 1, 1), (26, .goto 4, 3), (29, .iconst 0, 1), (30, .iconst 1, 1), (31, .invokevirtual 72, 3), (34, .ifCond .ne 33, 3), (37, .aload_n 0, 1), (38, .iload_n 3, 1), (39, .iconst 0, 1), (40, .iload 4, 2), (42, .invokestatic 58, 3), (45, .ifCond .eq 10, 3), (48, .iload 4, 2), (50, .bipush 9, 2), (52, .if_icmp .le 7, 3), (55, .iconst 1, 1), (56, .goto 4, 3), (59, .iconst 0, 1), (60, .iconst 2, 1), (61, .invokevirtual 72, 3), (64, .ifCond .eq 4, 3), (67, .return_, 1), (68, .aload_n 0, 1), (69, .getfield 13, 3), (72, .sipush 311, 3), (75, .iconst 2, 1), (76, .bipush 6, 2), (78, .iload_n 1, 1), (79, .imul, 1), (80, .iload_n 2, 1), (81, .iadd, 1), (82, .imul, 1), (83, .iadd, 1), (84, .iload_n 3, 1), (85, .iastore, 1), (86, .aload_n 0, 1), (87, .getfield 13, 3), (90, .sipush 311, 3), (93, .iconst 2, 1), (94, .bipush 6, 2), (96, .iload_n 1, 1), (97, .imul, 1), (98, .iload_n 2, 1), (99, .iadd, 1), (100, .imul, 1), (101, .iadd, 1), (102, .iconst 1, 1), (103, .iadd, 1), (104, .iload 4, 2), (106, .iastore, 1), (107, .return_, 1)]
theorem T_cX12_recipe : tabOK cX12_recipe T_cX12_recipeL = true := by decide +kernel
def P_M_recipe_67 (post : Mem → Prop) (M : Mem) : Prop :=
  post M
theorem k_M_recipe_67 {X : FX} {g : GT} {A : Nat → Prop} {Z : State → Prop} {post : Mem → Prop} (C : Cx X g layM A cX12_recipe 5 RX12 2) (hr : 0 ≤ X.2.2.2.1.cells ∧ 0 ≤ X.2.2.2.1.slots) (hR : RetV X g layM A cX12_recipe 5 0 0 Z post)  (M : Mem) (h : P_M_recipe_67 post M) : AtX X g layM A 5 0 0 Z 67 [] [] M := by
  exact hR _ _ _ (tk T_cX12_recipe 35 rfl) h
def P_M_recipe_60 (post : Mem → Prop) (x1 x2 x3 x4 s1 : Int32) (M : Mem) : Prop :=
  P_M_throwsIf (fun r1 M1 =>
  (r1 = 0 → (vp_in ((311 : Int32) + ((2 : Int32) * (((6 : Int32) * x1) + x2))) 5966 ∧ ∀ M2, M2 = ms M1 1 ((311 : Int32) + ((2 : Int32) * (((6 : Int32) * x1) + x2))).toNatClampNeg x3 → ∀ v3, v3 = (((311 : Int32) + ((2 : Int32) * (((6 : Int32) * x1) + x2))) + (1 : Int32)) → vp_in v3 5966 ∧ ∀ M4, M4 = ms M2 1 v3.toNatClampNeg x4 → post M4)) ∧
  (¬ r1 = 0 → (P_M_recipe_67 post M1))) s1 (2 : Int32) M
theorem k_M_recipe_60 {X : FX} {g : GT} {A : Nat → Prop} {Z : State → Prop} {post : Mem → Prop} (C : Cx X g layM A cX12_recipe 5 RX12 2) (hr : 0 ≤ X.2.2.2.1.cells ∧ 0 ≤ X.2.2.2.1.slots) (hR : RetV X g layM A cX12_recipe 5 0 0 Z post) (x1 x2 x3 x4 s1 : Int32) (M : Mem) (h : P_M_recipe_60 post x1 x2 x3 x4 s1 M) : AtX X g layM A 5 0 0 Z 60 [(0, .ref (ad g 0)), (1, .int x1), (2, .int x2), (3, .int x3), (4, .int x4)] [.int s1, .ref (ad g 0)] M := by
  refine a_iconst C (2 : Int32) (tk T_cX12_recipe 32 rfl) kI_2 ?_
  refine a_callI C [.int s1, .int (2 : Int32)] me_yX12_throwsIf lk_RX12_72 (ct_M_throwsIf h) (by decide) lm0 rfl rfl rfl (Nat.le_of_ble_eq_true rfl) (tk T_cX12_recipe 33 rfl) hr (fun r1 M1 h => ?_)
  refine a_if_eq C 68 (tk T_cX12_recipe 34 rfl) rfl (fun c => ?_) (fun c => ?_)
  · have h := h.1 c
    refine a_aload_n C (tk T_cX12_recipe 36 rfl) rfl ?_
    refine a_getR C f_RX12_13 (tk T_cX12_recipe 37 rfl) lm0 rfl ?_
    refine a_sipush C (311 : Int32) (tk T_cX12_recipe 38 rfl) kS_311 ?_
    refine a_iconst C (2 : Int32) (tk T_cX12_recipe 39 rfl) kI_2 ?_
    refine a_bipush C (6 : Int32) (tk T_cX12_recipe 40 rfl) kB_6 ?_
    refine a_iload_n C (tk T_cX12_recipe 41 rfl) rfl ?_
    refine a_imul C (tk T_cX12_recipe 42 rfl) ?_
    refine a_iload_n C (tk T_cX12_recipe 43 rfl) rfl ?_
    refine a_iadd C (tk T_cX12_recipe 44 rfl) ?_
    refine a_imul C (tk T_cX12_recipe 45 rfl) ?_
    refine a_iadd C (tk T_cX12_recipe 46 rfl) ?_
    refine a_iload_n C (tk T_cX12_recipe 47 rfl) rfl ?_
    obtain ⟨hb, h⟩ := h
    refine a_iast C (tk T_cX12_recipe 48 rfl) lm1 hb ?_
    refine a_mem (fun M2 e_M2 => ?_)
    have h := h M2 e_M2
    refine a_aload_n C (tk T_cX12_recipe 49 rfl) rfl ?_
    refine a_getR C f_RX12_13 (tk T_cX12_recipe 50 rfl) lm0 rfl ?_
    refine a_sipush C (311 : Int32) (tk T_cX12_recipe 51 rfl) kS_311 ?_
    refine a_iconst C (2 : Int32) (tk T_cX12_recipe 52 rfl) kI_2 ?_
    refine a_bipush C (6 : Int32) (tk T_cX12_recipe 53 rfl) kB_6 ?_
    refine a_iload_n C (tk T_cX12_recipe 54 rfl) rfl ?_
    refine a_imul C (tk T_cX12_recipe 55 rfl) ?_
    refine a_iload_n C (tk T_cX12_recipe 56 rfl) rfl ?_
    refine a_iadd C (tk T_cX12_recipe 57 rfl) ?_
    refine a_imul C (tk T_cX12_recipe 58 rfl) ?_
    refine a_iadd C (tk T_cX12_recipe 59 rfl) ?_
    refine a_iconst C (1 : Int32) (tk T_cX12_recipe 60 rfl) kI_1 ?_
    refine a_iadd C (tk T_cX12_recipe 61 rfl) ?_
    refine a_top (fun v3 e_v3 => ?_)
    have h := h v3 e_v3
    refine a_iload C (tk T_cX12_recipe 62 rfl) rfl ?_
    obtain ⟨hb, h⟩ := h
    refine a_iast C (tk T_cX12_recipe 63 rfl) lm1 hb ?_
    refine a_mem (fun M4 e_M4 => ?_)
    have h := h M4 e_M4
    exact hR _ _ _ (tk T_cX12_recipe 64 rfl) h
  · have h := h.2 c
    exact a_to (k_M_recipe_67 C hr hR M1 h) rfl
def P_M_recipe_55 (post : Mem → Prop) (x1 x2 x3 x4 : Int32) (M : Mem) : Prop :=
  P_M_recipe_60 post x1 x2 x3 x4 (1 : Int32) M
theorem k_M_recipe_55 {X : FX} {g : GT} {A : Nat → Prop} {Z : State → Prop} {post : Mem → Prop} (C : Cx X g layM A cX12_recipe 5 RX12 2) (hr : 0 ≤ X.2.2.2.1.cells ∧ 0 ≤ X.2.2.2.1.slots) (hR : RetV X g layM A cX12_recipe 5 0 0 Z post) (x1 x2 x3 x4 : Int32) (M : Mem) (h : P_M_recipe_55 post x1 x2 x3 x4 M) : AtX X g layM A 5 0 0 Z 55 [(0, .ref (ad g 0)), (1, .int x1), (2, .int x2), (3, .int x3), (4, .int x4)] [.ref (ad g 0)] M := by
  refine a_iconst C (1 : Int32) (tk T_cX12_recipe 29 rfl) kI_1 ?_
  refine a_goto C 60 (tk T_cX12_recipe 30 rfl) rfl ?_
  exact a_to (k_M_recipe_60 C hr hR x1 x2 x3 x4 (1 : Int32) M h) rfl
def P_M_recipe_30 (post : Mem → Prop) (x1 x2 x3 x4 s1 : Int32) (M : Mem) : Prop :=
  P_M_throwsIf (fun r1 M1 =>
  (¬ r1 = 0 → (P_M_recipe_67 post M1)) ∧
  (r1 = 0 → (P_M_in (fun r2 M2 =>
  (r2 = 0 → (P_M_recipe_55 post x1 x2 x3 x4 M2)) ∧
  (¬ r2 = 0 → ((x4 ≤ (9 : Int32) → (P_M_recipe_60 post x1 x2 x3 x4 (0 : Int32) M2)) ∧
  (¬ x4 ≤ (9 : Int32) → (P_M_recipe_55 post x1 x2 x3 x4 M2))))) x3 (0 : Int32) x4 M1))) s1 (1 : Int32) M
theorem k_M_recipe_30 {X : FX} {g : GT} {A : Nat → Prop} {Z : State → Prop} {post : Mem → Prop} (C : Cx X g layM A cX12_recipe 5 RX12 2) (hr : 0 ≤ X.2.2.2.1.cells ∧ 0 ≤ X.2.2.2.1.slots) (hR : RetV X g layM A cX12_recipe 5 0 0 Z post) (x1 x2 x3 x4 s1 : Int32) (M : Mem) (h : P_M_recipe_30 post x1 x2 x3 x4 s1 M) : AtX X g layM A 5 0 0 Z 30 [(0, .ref (ad g 0)), (1, .int x1), (2, .int x2), (3, .int x3), (4, .int x4)] [.int s1, .ref (ad g 0)] M := by
  refine a_iconst C (1 : Int32) (tk T_cX12_recipe 17 rfl) kI_1 ?_
  refine a_callI C [.int s1, .int (1 : Int32)] me_yX12_throwsIf lk_RX12_72 (ct_M_throwsIf h) (by decide) lm0 rfl rfl rfl (Nat.le_of_ble_eq_true rfl) (tk T_cX12_recipe 18 rfl) hr (fun r1 M1 h => ?_)
  refine a_if_ne C 67 (tk T_cX12_recipe 19 rfl) rfl (fun c => ?_) (fun c => ?_)
  · have h := h.1 c
    exact a_to (k_M_recipe_67 C hr hR M1 h) rfl
  · have h := h.2 c
    refine a_aload_n C (tk T_cX12_recipe 20 rfl) rfl ?_
    refine a_iload_n C (tk T_cX12_recipe 21 rfl) rfl ?_
    refine a_iconst C (0 : Int32) (tk T_cX12_recipe 22 rfl) kI_0 ?_
    refine a_iload C (tk T_cX12_recipe 23 rfl) rfl ?_
    refine a_statI C [.int x3, .int (0 : Int32), .int x4] me_yX12_in lk_RX12_58 (ct_M_in h) (by decide) rfl rfl (Nat.le_of_ble_eq_true rfl) (tk T_cX12_recipe 24 rfl) hr (fun r2 M2 h => ?_)
    refine a_if_eq C 55 (tk T_cX12_recipe 25 rfl) rfl (fun c => ?_) (fun c => ?_)
    · have h := h.1 c
      exact a_to (k_M_recipe_55 C hr hR x1 x2 x3 x4 M2 h) rfl
    · have h := h.2 c
      refine a_iload C (tk T_cX12_recipe 26 rfl) rfl ?_
      refine a_bipush C (9 : Int32) (tk T_cX12_recipe 27 rfl) kB_9 ?_
      refine a_icmp_le C 59 (tk T_cX12_recipe 28 rfl) rfl (fun c => ?_) (fun c => ?_)
      · have h := h.1 c
        refine a_iconst C (0 : Int32) (tk T_cX12_recipe 31 rfl) kI_0 ?_
        exact a_to (k_M_recipe_60 C hr hR x1 x2 x3 x4 (0 : Int32) M2 h) rfl
      · have h := h.2 c
        exact a_to (k_M_recipe_55 C hr hR x1 x2 x3 x4 M2 h) rfl
def P_M_recipe_25 (post : Mem → Prop) (x1 x2 x3 x4 : Int32) (M : Mem) : Prop :=
  P_M_recipe_30 post x1 x2 x3 x4 (1 : Int32) M
theorem k_M_recipe_25 {X : FX} {g : GT} {A : Nat → Prop} {Z : State → Prop} {post : Mem → Prop} (C : Cx X g layM A cX12_recipe 5 RX12 2) (hr : 0 ≤ X.2.2.2.1.cells ∧ 0 ≤ X.2.2.2.1.slots) (hR : RetV X g layM A cX12_recipe 5 0 0 Z post) (x1 x2 x3 x4 : Int32) (M : Mem) (h : P_M_recipe_25 post x1 x2 x3 x4 M) : AtX X g layM A 5 0 0 Z 25 [(0, .ref (ad g 0)), (1, .int x1), (2, .int x2), (3, .int x3), (4, .int x4)] [.ref (ad g 0)] M := by
  refine a_iconst C (1 : Int32) (tk T_cX12_recipe 14 rfl) kI_1 ?_
  refine a_goto C 30 (tk T_cX12_recipe 15 rfl) rfl ?_
  exact a_to (k_M_recipe_30 C hr hR x1 x2 x3 x4 (1 : Int32) M h) rfl
def P_M_recipe (post : Mem → Prop) (x1 x2 x3 x4 : Int32) (M : Mem) : Prop :=
  ∀ M1, M1 = ms M 0 0 (0 : Int32) → P_M_none (fun r2 M2 =>
  (¬ r2 = 0 → (P_M_recipe_25 post x1 x2 x3 x4 M2)) ∧
  (r2 = 0 → (P_M_in (fun r3 M3 =>
  (¬ r3 = 0 → (P_M_recipe_30 post x1 x2 x3 x4 (0 : Int32) M3)) ∧
  (r3 = 0 → (P_M_recipe_25 post x1 x2 x3 x4 M3))) x2 (0 : Int32) (5 : Int32) M2))) x1 (11 : Int32) M1
theorem k_M_recipe {X : FX} {g : GT} {A : Nat → Prop} {Z : State → Prop} {post : Mem → Prop} (C : Cx X g layM A cX12_recipe 5 RX12 2) (hr : 0 ≤ X.2.2.2.1.cells ∧ 0 ≤ X.2.2.2.1.slots) (hR : RetV X g layM A cX12_recipe 5 0 0 Z post) (x1 x2 x3 x4 : Int32) (M : Mem) (h : P_M_recipe post x1 x2 x3 x4 M) : AtX X g layM A 5 0 0 Z 0 [(0, .ref (ad g 0)), (1, .int x1), (2, .int x2), (3, .int x3), (4, .int x4)] [] M := by
  refine a_aload_n C (tk T_cX12_recipe 0 rfl) rfl ?_
  refine a_iconst C (0 : Int32) (tk T_cX12_recipe 1 rfl) kI_0 ?_
  refine a_put C f_RX12_3 f_RX12_3p rfl rfl (tk T_cX12_recipe 2 rfl) lm0 rfl ?_
  refine a_mem (fun M1 e_M1 => ?_)
  have h := h M1 e_M1
  refine a_aload_n C (tk T_cX12_recipe 3 rfl) rfl ?_
  refine a_aload_n C (tk T_cX12_recipe 4 rfl) rfl ?_
  refine a_iload_n C (tk T_cX12_recipe 5 rfl) rfl ?_
  refine a_bipush C (11 : Int32) (tk T_cX12_recipe 6 rfl) kB_11 ?_
  refine a_callI C [.int x1, .int (11 : Int32)] me_yX12_none lk_RX12_121 (ct_M_none h) (by decide) lm0 rfl rfl rfl (Nat.le_of_ble_eq_true rfl) (tk T_cX12_recipe 7 rfl) hr (fun r2 M2 h => ?_)
  refine a_if_ne C 25 (tk T_cX12_recipe 8 rfl) rfl (fun c => ?_) (fun c => ?_)
  · have h := h.1 c
    exact a_to (k_M_recipe_25 C hr hR x1 x2 x3 x4 M2 h) rfl
  · have h := h.2 c
    refine a_iload_n C (tk T_cX12_recipe 9 rfl) rfl ?_
    refine a_iconst C (0 : Int32) (tk T_cX12_recipe 10 rfl) kI_0 ?_
    refine a_iconst C (5 : Int32) (tk T_cX12_recipe 11 rfl) kI_5 ?_
    refine a_statI C [.int x2, .int (0 : Int32), .int (5 : Int32)] me_yX12_in lk_RX12_58 (ct_M_in h) (by decide) rfl rfl (Nat.le_of_ble_eq_true rfl) (tk T_cX12_recipe 12 rfl) hr (fun r3 M3 h => ?_)
    refine a_if_ne C 29 (tk T_cX12_recipe 13 rfl) rfl (fun c => ?_) (fun c => ?_)
    · have h := h.1 c
      refine a_iconst C (0 : Int32) (tk T_cX12_recipe 16 rfl) kI_0 ?_
      exact a_to (k_M_recipe_30 C hr hR x1 x2 x3 x4 (0 : Int32) M3 h) rfl
    · have h := h.2 c
      exact a_to (k_M_recipe_25 C hr hR x1 x2 x3 x4 M3 h) rfl
theorem ct_M_recipe {l : Launch} {g : GT} {post : Mem → Prop} {x1 x2 x3 x4 : Int32} {M : Mem} (h : P_M_recipe post x1 x2 x3 x4 M) : CV l g layM yX12_recipe cX12_recipe 5 none 2 [.ref (ad g 0), .int x1, .int x2, .int x3, .int x4] M post :=
  cv_of (plainFor_of_name (by decide +kernel)) (Nat.le_of_ble_eq_true rfl) (fun X A Z hl C hr hR => by subst hl; exact k_M_recipe C hr hR x1 x2 x3 x4 M h)
def T_cX12_commonL : List (Nat × Instr × Nat) := [(0, .iload_n 0, 1), (1, .istore_n 2, 1), (2, .iload_n 1, 1), (3, .istore_n 3, 1), (4, .iload_n 3, 1), (5, .ifCond .le 16, 3), (8, .iload_n 2, 1), (9, .iload_n 3, 1), (10, .irem, 1), (11, .istore 4, 2), (13, .iload_n 3, 1), (14, .istore_n 2, 1), (15, .iload 4, 2), (17, .istore_n 3, 1), (18, .goto (-14), 3), (21, .iload_n 2, 1), (22, .ireturn, 1)]
theorem T_cX12_common : tabOK cX12_common T_cX12_commonL = true := by decide +kernel
def P_M_common_4 (post : Int32 → Mem → Prop) : Nat → Int32 → Int32 → Mem → Prop
  | 0, _, _, _ => False
  | n + 1, x2, x3, M =>
    (x3 ≤ 0 → (post x2 M)) ∧
  (¬ x3 ≤ 0 → ((¬ x3 = 0) ∧ ∀ x4_1, x4_1 = (irm x2 x3) → P_M_common_4 post n x3 x4_1 M))
theorem k_M_common_4 {X : FX} {g : GT} {A : Nat → Prop} {Z : State → Prop} {post : Int32 → Mem → Prop} (C : Cx X g layM A cX12_common 5 RX12 0) (hr : 0 ≤ X.2.2.2.1.cells ∧ 0 ≤ X.2.2.2.1.slots) (hR : RetI X g layM A cX12_common 5 0 0 Z post) : ∀ (n : Nat) (x2 x3 : Int32) (M : Mem), P_M_common_4 post n x2 x3 M → AtX X g layM A 5 0 0 Z 4 [(2, .int x2), (3, .int x3)] [] M := by
  intro n
  induction n with
  | zero =>
    intro x2 x3 M h
    exact h.elim
  | succ n ih =>
    intro x2 x3 M h
    refine a_iload_n C (tk T_cX12_common 4 rfl) rfl ?_
    refine a_if_le C 21 (tk T_cX12_common 5 rfl) rfl (fun c => ?_) (fun c => ?_)
    · have h := h.1 c
      refine a_iload_n C (tk T_cX12_common 15 rfl) rfl ?_
      exact hR _ _ _ _ (tk T_cX12_common 16 rfl) h
    · have h := h.2 c
      refine a_iload_n C (tk T_cX12_common 6 rfl) rfl ?_
      refine a_iload_n C (tk T_cX12_common 7 rfl) rfl ?_
      obtain ⟨hy, h⟩ := h
      refine a_irem C (tk T_cX12_common 8 rfl) hy ?_
      refine a_top (fun x4_1 e_x4_1 => ?_)
      have h := h x4_1 e_x4_1
      refine a_istore C (tk T_cX12_common 9 rfl) (by decide) rfl ?_
      refine a_iload_n C (tk T_cX12_common 10 rfl) rfl ?_
      refine a_istore_n C (tk T_cX12_common 11 rfl) (by decide) rfl ?_
      refine a_iload C (tk T_cX12_common 12 rfl) rfl ?_
      refine a_istore_n C (tk T_cX12_common 13 rfl) (by decide) rfl ?_
      refine a_goto C 4 (tk T_cX12_common 14 rfl) rfl ?_
      exact a_to (ih x3 x4_1 M h) rfl
def P_M_common (post : Int32 → Mem → Prop) (x0 x1 : Int32) (M : Mem) : Prop :=
  ∃ j4, P_M_common_4 post j4 x0 x1 M
theorem k_M_common {X : FX} {g : GT} {A : Nat → Prop} {Z : State → Prop} {post : Int32 → Mem → Prop} (C : Cx X g layM A cX12_common 5 RX12 0) (hr : 0 ≤ X.2.2.2.1.cells ∧ 0 ≤ X.2.2.2.1.slots) (hR : RetI X g layM A cX12_common 5 0 0 Z post) (x0 x1 : Int32) (M : Mem) (h : P_M_common post x0 x1 M) : AtX X g layM A 5 0 0 Z 0 [(0, .int x0), (1, .int x1)] [] M := by
  refine a_iload_n C (tk T_cX12_common 0 rfl) rfl ?_
  refine a_istore_n C (tk T_cX12_common 1 rfl) (by decide) rfl ?_
  refine a_iload_n C (tk T_cX12_common 2 rfl) rfl ?_
  refine a_istore_n C (tk T_cX12_common 3 rfl) (by decide) rfl ?_
  obtain ⟨n1, h⟩ := h
  exact a_to (k_M_common_4 C hr hR n1 x0 x1 M h) rfl
theorem ct_M_common {l : Launch} {g : GT} {post : Int32 → Mem → Prop} {x0 x1 : Int32} {M : Mem} (h : P_M_common post x0 x1 M) : CI l g layM yX12_common cX12_common 5 (some .int) 0 [.int x0, .int x1] M post :=
  ci_of (plainFor_of_name (by decide +kernel)) (Nat.le_of_ble_eq_true rfl) (fun X A Z hl C hr hR => by subst hl; exact k_M_common C hr hR x0 x1 M h)
def T_cX12_chancesL : List (Nat × Instr × Nat) := [(0, .aload_n 0, 1), (1, .iconst 1, 1), (2, .putfield 254, 3), (5, .aload_n 0, 1), (6, .iconst 1, 1), (7, .putfield 257, 3), (10, .iconst 0, 1), (11, .istore 4, 2), (13, .iload 4, 2), (15, .aload_n 0, 1), (16, .getfield 13, 3), (19, .bipush 7, 2), (21, .iaload, 1), (22, .if_icmp .ge 181, 3), (25, .aload_n 0, 1), (26, .iload 4, 2), (28, .invokevirtual 148, 3), (31, .ifCond .eq 6, 3), (34, .goto 163, 3), (37, .aload_n 0, 1), (38, .getfield 13, 3), (41, .sipush 311, 3), (44, .iconst 2, 1), (45, .bipush 6, 2), (47, .iload_n 3, 1), (48, .imul, 1), (49, .iload 4, 2), (51, .iadd, 1), (52, .imul, 1), (53, .iadd, 1), (54, .iaload, 1), (55, .istore 5, 2), (57, .aload_n 0, 1), (58, .getfield 13, 3), (61, .sipush 311, 3), (64, .iconst 2, 1), (65, .bipush 6, 2), (67, .iload_n 3, 1), (68, .imul, 1), (69, .iload 4, 2), (71, .iadd, 1), (72, .imul, 1), (73, .iadd, 1), (74, .iconst 1, 1), (75, .iadd, 1), (76, .iaload, 1), (77, .istore 6, 2), (79, .iload_n 2, 1), (80, .iload 4, 2), (82, .ishr, 1), (83, .iconst 1, 1), (84, .iand, 1), (85, .ifCond .ne 23, 3), (88, .aload_n 0, 1), (89, .iload 5, 2), (91, .ifCond .le 7, 3), (94, .iconst 0, 1), (95, .goto 7, 3), (98, .aload_n 0, 1), (99, .getfield 254, 3), (102, .putfield 254, 3), (105, .goto 92, 3), (108, .iconst 0, 1), (109, .istore 7, 2), (111, .iconst 0, 1), (112, .istore 8, 2), (114, .iconst 1, 1), (115, .istore 9, 2), (117, .iload 9, 2), (119, .bipush 10, 2), (121, .if_icmp .ge 50, 3), (124, .aload_n 0, 1), (125, .iload_n 1, 1), (126, .iload_n 2, 1), (127, .iload 4, 2), (129, .iload 9, 2), (131, .invokevirtual 227, 3), (134, .ifCond .ne 6, 3), (137, .goto 28, 3), (140, .iinc 7 1, 3), (143, .iload 8, 2), (145, .iload 9, 2), (147, .iload 5, 2), (149, .iload 6, 2), (151, .invokestatic 58, 3), (154, .ifCond .eq 7, 3), (157, .iconst 1, 1), (158, .goto 4, 3), (161, .iconst 0, 1), (162, .iadd, 1), (163, .istore 8, 2), (165, .iinc 9 1, 3), (168, .goto (-51), 3), (171, .aload_n 0, 1), (172, .dup, 1), (173, .getfield 254, 3), (176, .iload 8, 2), (178, .imul, 1), (179, .putfield 254, 3), (182, .aload_n 0, 1), (183, .dup, 1), (184, .getfield 257, 3), (187, .iconst 1, 1), (188, .iload 7, 2), (190, .invokestatic 106, 3), (193, .imul, 1), (194, .putfield 257, 3), (197, .iinc 4 1, 3), (200, .goto (-187), 3), (203, .aload_n 0, 1), (204, .getfield 254, 3), (207, .aload_n 0, 1), (208, .getfield 257, 3), (211, .invokestatic 260, 3), (214, .istore 4, 2), (216, .aload_n 0, 1), (217, .dup, 1), (218, .getfield 254, 3), (221, .iload 4, 2), (223, .idiv, 1), (224, .putfield 254, 3), (227, .aload_n 0, 1), (228, .dup, 1), (229, .getfield 257, 3), (232, .iload 4, 2), (234, .idiv, 1), (235, .putfield 257, 3), (238, .return_, 1)]
theorem T_cX12_chances : tabOK cX12_chances T_cX12_chancesL = true := by decide +kernel
def P_M_chances_197 (post : Mem → Prop) (R13 : Int32 → Int32 → Int32 → Int32 → Mem → Prop) (x1 x2 x3 x4 : Int32) (M : Mem) : Prop :=
  R13 x1 x2 x3 (x4 + (1 : Int32)) M
theorem k_M_chances_197 {X : FX} {g : GT} {A : Nat → Prop} {Z : State → Prop} {post : Mem → Prop} {R13 : Int32 → Int32 → Int32 → Int32 → Mem → Prop} (C : Cx X g layM A cX12_chances 10 RX12 5) (hr : 0 ≤ X.2.2.2.1.cells ∧ 0 ≤ X.2.2.2.1.slots) (hR : RetV X g layM A cX12_chances 10 0 0 Z post) (k13 : ∀ (y1 y2 y3 y4 : Int32) (M : Mem), R13 y1 y2 y3 y4 M → AtX X g layM A 10 0 0 Z 13 [(0, .ref (ad g 0)), (1, .int y1), (2, .int y2), (3, .int y3), (4, .int y4)] [] M) (x1 x2 x3 x4 : Int32) (M : Mem) (h : P_M_chances_197 post R13 x1 x2 x3 x4 M) : AtX X g layM A 10 0 0 Z 197 [(0, .ref (ad g 0)), (1, .int x1), (2, .int x2), (3, .int x3), (4, .int x4)] [] M := by
  refine a_iinc C (1 : Int32) (tk T_cX12_chances 107 rfl) rfl kI_1 (by decide) rfl ?_
  refine a_goto C 13 (tk T_cX12_chances 108 rfl) rfl ?_
  exact a_to (k13 x1 x2 x3 (x4 + (1 : Int32)) M h) rfl
def P_M_chances_165 (post : Mem → Prop) (R13 : Int32 → Int32 → Int32 → Int32 → Mem → Prop) (R117 : Int32 → Int32 → Int32 → Int32 → Int32 → Int32 → Int32 → Int32 → Int32 → Mem → Prop) (x1 x2 x3 x4 x5 x6 x7 x8 x9 : Int32) (M : Mem) : Prop :=
  R117 x1 x2 x3 x4 x5 x6 x7 x8 (x9 + (1 : Int32)) M
theorem k_M_chances_165 {X : FX} {g : GT} {A : Nat → Prop} {Z : State → Prop} {post : Mem → Prop} {R13 : Int32 → Int32 → Int32 → Int32 → Mem → Prop} {R117 : Int32 → Int32 → Int32 → Int32 → Int32 → Int32 → Int32 → Int32 → Int32 → Mem → Prop} (C : Cx X g layM A cX12_chances 10 RX12 5) (hr : 0 ≤ X.2.2.2.1.cells ∧ 0 ≤ X.2.2.2.1.slots) (hR : RetV X g layM A cX12_chances 10 0 0 Z post) (k13 : ∀ (y1 y2 y3 y4 : Int32) (M : Mem), R13 y1 y2 y3 y4 M → AtX X g layM A 10 0 0 Z 13 [(0, .ref (ad g 0)), (1, .int y1), (2, .int y2), (3, .int y3), (4, .int y4)] [] M) (k117 : ∀ (y1 y2 y3 y4 y5 y6 y7 y8 y9 : Int32) (M : Mem), R117 y1 y2 y3 y4 y5 y6 y7 y8 y9 M → AtX X g layM A 10 0 0 Z 117 [(0, .ref (ad g 0)), (1, .int y1), (2, .int y2), (3, .int y3), (4, .int y4), (5, .int y5), (6, .int y6), (7, .int y7), (8, .int y8), (9, .int y9)] [] M) (x1 x2 x3 x4 x5 x6 x7 x8 x9 : Int32) (M : Mem) (h : P_M_chances_165 post R13 R117 x1 x2 x3 x4 x5 x6 x7 x8 x9 M) : AtX X g layM A 10 0 0 Z 165 [(0, .ref (ad g 0)), (1, .int x1), (2, .int x2), (3, .int x3), (4, .int x4), (5, .int x5), (6, .int x6), (7, .int x7), (8, .int x8), (9, .int x9)] [] M := by
  refine a_iinc C (1 : Int32) (tk T_cX12_chances 91 rfl) rfl kI_1 (by decide) rfl ?_
  refine a_goto C 117 (tk T_cX12_chances 92 rfl) rfl ?_
  exact a_to (k117 x1 x2 x3 x4 x5 x6 x7 x8 (x9 + (1 : Int32)) M h) rfl
def P_M_chances_162 (post : Mem → Prop) (R13 : Int32 → Int32 → Int32 → Int32 → Mem → Prop) (R117 : Int32 → Int32 → Int32 → Int32 → Int32 → Int32 → Int32 → Int32 → Int32 → Mem → Prop) (x1 x2 x3 x4 x5 x6 x7 x9 s0 s1 : Int32) (M : Mem) : Prop :=
  ∀ x8_1, x8_1 = (s0 + s1) → P_M_chances_165 post R13 R117 x1 x2 x3 x4 x5 x6 x7 x8_1 x9 M
theorem k_M_chances_162 {X : FX} {g : GT} {A : Nat → Prop} {Z : State → Prop} {post : Mem → Prop} {R13 : Int32 → Int32 → Int32 → Int32 → Mem → Prop} {R117 : Int32 → Int32 → Int32 → Int32 → Int32 → Int32 → Int32 → Int32 → Int32 → Mem → Prop} (C : Cx X g layM A cX12_chances 10 RX12 5) (hr : 0 ≤ X.2.2.2.1.cells ∧ 0 ≤ X.2.2.2.1.slots) (hR : RetV X g layM A cX12_chances 10 0 0 Z post) (k13 : ∀ (y1 y2 y3 y4 : Int32) (M : Mem), R13 y1 y2 y3 y4 M → AtX X g layM A 10 0 0 Z 13 [(0, .ref (ad g 0)), (1, .int y1), (2, .int y2), (3, .int y3), (4, .int y4)] [] M) (k117 : ∀ (y1 y2 y3 y4 y5 y6 y7 y8 y9 : Int32) (M : Mem), R117 y1 y2 y3 y4 y5 y6 y7 y8 y9 M → AtX X g layM A 10 0 0 Z 117 [(0, .ref (ad g 0)), (1, .int y1), (2, .int y2), (3, .int y3), (4, .int y4), (5, .int y5), (6, .int y6), (7, .int y7), (8, .int y8), (9, .int y9)] [] M) (x1 x2 x3 x4 x5 x6 x7 x9 s0 s1 : Int32) (M : Mem) (h : P_M_chances_162 post R13 R117 x1 x2 x3 x4 x5 x6 x7 x9 s0 s1 M) : AtX X g layM A 10 0 0 Z 162 [(0, .ref (ad g 0)), (1, .int x1), (2, .int x2), (3, .int x3), (4, .int x4), (5, .int x5), (6, .int x6), (7, .int x7), (9, .int x9)] [.int s1, .int s0] M := by
  refine a_iadd C (tk T_cX12_chances 89 rfl) ?_
  refine a_top (fun x8_1 e_x8_1 => ?_)
  have h := h x8_1 e_x8_1
  refine a_istore C (tk T_cX12_chances 90 rfl) (by decide) rfl ?_
  exact a_to (k_M_chances_165 C hr hR k13 k117 x1 x2 x3 x4 x5 x6 x7 x8_1 x9 M h) rfl
def P_M_chances_117 (post : Mem → Prop) (R13 : Int32 → Int32 → Int32 → Int32 → Mem → Prop) : Nat → Int32 → Int32 → Int32 → Int32 → Int32 → Int32 → Int32 → Int32 → Int32 → Mem → Prop
  | 0, _, _, _, _, _, _, _, _, _, _ => False
  | n + 1, x1, x2, x3, x4, x5, x6, x7, x8, x9, M =>
    ((10 : Int32) ≤ x9 → (∀ M1, M1 = ms M 0 16 ((M 0 16) * x8) → P_Math_max (fun r2 M2 =>
  ∀ M3, M3 = ms M2 0 17 ((M1 0 17) * r2) → P_M_chances_197 post R13 x1 x2 x3 x4 M3) (1 : Int32) x7 M1)) ∧
  (¬ (10 : Int32) ≤ x9 → (P_M_isAmount (fun r4 M4 =>
  (¬ r4 = 0 → (P_M_in (fun r5 M5 =>
  (r5 = 0 → (P_M_chances_162 post R13 (P_M_chances_117 post R13 n) x1 x2 x3 x4 x5 x6 (x7 + (1 : Int32)) x9 x8 (0 : Int32) M5)) ∧
  (¬ r5 = 0 → (P_M_chances_162 post R13 (P_M_chances_117 post R13 n) x1 x2 x3 x4 x5 x6 (x7 + (1 : Int32)) x9 x8 (1 : Int32) M5))) x9 x5 x6 M4)) ∧
  (r4 = 0 → (P_M_chances_165 post R13 (P_M_chances_117 post R13 n) x1 x2 x3 x4 x5 x6 x7 x8 x9 M4))) x1 x2 x4 x9 M))
theorem k_M_chances_117 {X : FX} {g : GT} {A : Nat → Prop} {Z : State → Prop} {post : Mem → Prop} {R13 : Int32 → Int32 → Int32 → Int32 → Mem → Prop} (C : Cx X g layM A cX12_chances 10 RX12 5) (hr : 0 ≤ X.2.2.2.1.cells ∧ 0 ≤ X.2.2.2.1.slots) (hR : RetV X g layM A cX12_chances 10 0 0 Z post) (k13 : ∀ (y1 y2 y3 y4 : Int32) (M : Mem), R13 y1 y2 y3 y4 M → AtX X g layM A 10 0 0 Z 13 [(0, .ref (ad g 0)), (1, .int y1), (2, .int y2), (3, .int y3), (4, .int y4)] [] M) : ∀ (n : Nat) (x1 x2 x3 x4 x5 x6 x7 x8 x9 : Int32) (M : Mem), P_M_chances_117 post R13 n x1 x2 x3 x4 x5 x6 x7 x8 x9 M → AtX X g layM A 10 0 0 Z 117 [(0, .ref (ad g 0)), (1, .int x1), (2, .int x2), (3, .int x3), (4, .int x4), (5, .int x5), (6, .int x6), (7, .int x7), (8, .int x8), (9, .int x9)] [] M := by
  intro n
  induction n with
  | zero =>
    intro x1 x2 x3 x4 x5 x6 x7 x8 x9 M h
    exact h.elim
  | succ n ih =>
    intro x1 x2 x3 x4 x5 x6 x7 x8 x9 M h
    refine a_iload C (tk T_cX12_chances 68 rfl) rfl ?_
    refine a_bipush C (10 : Int32) (tk T_cX12_chances 69 rfl) kB_10 ?_
    refine a_icmp_ge C 171 (tk T_cX12_chances 70 rfl) rfl (fun c => ?_) (fun c => ?_)
    · have h := h.1 c
      refine a_aload_n C (tk T_cX12_chances 93 rfl) rfl ?_
      refine a_dupr C (tk T_cX12_chances 94 rfl) ?_
      refine a_getI C f_RX12_254 (tk T_cX12_chances 95 rfl) lm0 rfl ?_
      refine a_iload C (tk T_cX12_chances 96 rfl) rfl ?_
      refine a_imul C (tk T_cX12_chances 97 rfl) ?_
      refine a_put C f_RX12_254 f_RX12_254p rfl rfl (tk T_cX12_chances 98 rfl) lm0 rfl ?_
      refine a_mem (fun M1 e_M1 => ?_)
      have h := h M1 e_M1
      refine a_aload_n C (tk T_cX12_chances 99 rfl) rfl ?_
      refine a_dupr C (tk T_cX12_chances 100 rfl) ?_
      refine a_getI C f_RX12_257 (tk T_cX12_chances 101 rfl) lm0 rfl ?_
      refine a_iconst C (1 : Int32) (tk T_cX12_chances 102 rfl) kI_1 ?_
      refine a_iload C (tk T_cX12_chances 103 rfl) rfl ?_
      refine a_statI C [.int (1 : Int32), .int x7] me_yJ9_max_7cf53 lk_RX12_106 (ct_Math_max h) (by decide) rfl rfl (Nat.le_of_ble_eq_true rfl) (tk T_cX12_chances 104 rfl) hr (fun r2 M2 h => ?_)
      refine a_imul C (tk T_cX12_chances 105 rfl) ?_
      refine a_put C f_RX12_257 f_RX12_257p rfl rfl (tk T_cX12_chances 106 rfl) lm0 rfl ?_
      refine a_mem (fun M3 e_M3 => ?_)
      have h := h M3 e_M3
      exact a_to (k_M_chances_197 C hr hR k13 x1 x2 x3 x4 M3 h) rfl
    · have h := h.2 c
      refine a_aload_n C (tk T_cX12_chances 71 rfl) rfl ?_
      refine a_iload_n C (tk T_cX12_chances 72 rfl) rfl ?_
      refine a_iload_n C (tk T_cX12_chances 73 rfl) rfl ?_
      refine a_iload C (tk T_cX12_chances 74 rfl) rfl ?_
      refine a_iload C (tk T_cX12_chances 75 rfl) rfl ?_
      refine a_callI C [.int x1, .int x2, .int x4, .int x9] me_yX12_isAmount lk_RX12_227 (ct_M_isAmount h) (by decide) lm0 rfl rfl rfl (Nat.le_of_ble_eq_true rfl) (tk T_cX12_chances 76 rfl) hr (fun r4 M4 h => ?_)
      refine a_if_ne C 140 (tk T_cX12_chances 77 rfl) rfl (fun c => ?_) (fun c => ?_)
      · have h := h.1 c
        refine a_iinc C (1 : Int32) (tk T_cX12_chances 79 rfl) rfl kI_1 (by decide) rfl ?_
        refine a_iload C (tk T_cX12_chances 80 rfl) rfl ?_
        refine a_iload C (tk T_cX12_chances 81 rfl) rfl ?_
        refine a_iload C (tk T_cX12_chances 82 rfl) rfl ?_
        refine a_iload C (tk T_cX12_chances 83 rfl) rfl ?_
        refine a_statI C [.int x9, .int x5, .int x6] me_yX12_in lk_RX12_58 (ct_M_in h) (by decide) rfl rfl (Nat.le_of_ble_eq_true rfl) (tk T_cX12_chances 84 rfl) hr (fun r5 M5 h => ?_)
        refine a_if_eq C 161 (tk T_cX12_chances 85 rfl) rfl (fun c => ?_) (fun c => ?_)
        · have h := h.1 c
          refine a_iconst C (0 : Int32) (tk T_cX12_chances 88 rfl) kI_0 ?_
          exact a_to (k_M_chances_162 C hr hR k13 ih x1 x2 x3 x4 x5 x6 (x7 + (1 : Int32)) x9 x8 (0 : Int32) M5 h) rfl
        · have h := h.2 c
          refine a_iconst C (1 : Int32) (tk T_cX12_chances 86 rfl) kI_1 ?_
          refine a_goto C 162 (tk T_cX12_chances 87 rfl) rfl ?_
          exact a_to (k_M_chances_162 C hr hR k13 ih x1 x2 x3 x4 x5 x6 (x7 + (1 : Int32)) x9 x8 (1 : Int32) M5 h) rfl
      · have h := h.2 c
        refine a_goto C 165 (tk T_cX12_chances 78 rfl) rfl ?_
        exact a_to (k_M_chances_165 C hr hR k13 ih x1 x2 x3 x4 x5 x6 x7 x8 x9 M4 h) rfl
def P_M_chances_102 (post : Mem → Prop) (R13 : Int32 → Int32 → Int32 → Int32 → Mem → Prop) (x1 x2 x3 x4 s1 : Int32) (M : Mem) : Prop :=
  ∀ M1, M1 = ms M 0 16 s1 → P_M_chances_197 post R13 x1 x2 x3 x4 M1
theorem k_M_chances_102 {X : FX} {g : GT} {A : Nat → Prop} {Z : State → Prop} {post : Mem → Prop} {R13 : Int32 → Int32 → Int32 → Int32 → Mem → Prop} (C : Cx X g layM A cX12_chances 10 RX12 5) (hr : 0 ≤ X.2.2.2.1.cells ∧ 0 ≤ X.2.2.2.1.slots) (hR : RetV X g layM A cX12_chances 10 0 0 Z post) (k13 : ∀ (y1 y2 y3 y4 : Int32) (M : Mem), R13 y1 y2 y3 y4 M → AtX X g layM A 10 0 0 Z 13 [(0, .ref (ad g 0)), (1, .int y1), (2, .int y2), (3, .int y3), (4, .int y4)] [] M) (x1 x2 x3 x4 s1 : Int32) (M : Mem) (h : P_M_chances_102 post R13 x1 x2 x3 x4 s1 M) : AtX X g layM A 10 0 0 Z 102 [(0, .ref (ad g 0)), (1, .int x1), (2, .int x2), (3, .int x3), (4, .int x4)] [.int s1, .ref (ad g 0)] M := by
  refine a_put C f_RX12_254 f_RX12_254p rfl rfl (tk T_cX12_chances 60 rfl) lm0 rfl ?_
  refine a_mem (fun M1 e_M1 => ?_)
  have h := h M1 e_M1
  refine a_goto C 197 (tk T_cX12_chances 61 rfl) rfl ?_
  exact a_to (k_M_chances_197 C hr hR k13 x1 x2 x3 x4 M1 h) rfl
def P_M_chances_13 (post : Mem → Prop) : Nat → Int32 → Int32 → Int32 → Int32 → Mem → Prop
  | 0, _, _, _, _, _ => False
  | n + 1, x1, x2, x3, x4, M =>
    vp_in (7 : Int32) 5966 ∧ ((M 1 (7 : Int32).toNatClampNeg) ≤ x4 → (P_M_common (fun r1 M1 =>
  (¬ r1 = 0) ∧ ∀ M2, M2 = ms M1 0 16 ((M1 0 16) / r1) → (¬ r1 = 0) ∧ ∀ M3, M3 = ms M2 0 17 ((M2 0 17) / r1) → post M3) (M 0 16) (M 0 17) M)) ∧
  (¬ (M 1 (7 : Int32).toNatClampNeg) ≤ x4 → (P_M_isAir (fun r4 M4 =>
  (r4 = 0 → (∀ i5, i5 = ((311 : Int32) + ((2 : Int32) * (((6 : Int32) * x3) + x4))) → vp_in i5 5966 ∧ ∀ v6, v6 = (((311 : Int32) + ((2 : Int32) * (((6 : Int32) * x3) + x4))) + (1 : Int32)) → vp_in v6 5966 ∧ (¬ ((x2 >>> (x4 &&& 31)) &&& (1 : Int32)) = 0 → (∃ j117, P_M_chances_117 post (P_M_chances_13 post n) j117 x1 x2 x3 x4 (M4 1 i5.toNatClampNeg) (M4 1 v6.toNatClampNeg) (0 : Int32) (0 : Int32) (1 : Int32) M4)) ∧
  (((x2 >>> (x4 &&& 31)) &&& (1 : Int32)) = 0 → (((M4 1 i5.toNatClampNeg) ≤ 0 → (P_M_chances_102 post (P_M_chances_13 post n) x1 x2 x3 x4 (M4 0 16) M4)) ∧
  (¬ (M4 1 i5.toNatClampNeg) ≤ 0 → (P_M_chances_102 post (P_M_chances_13 post n) x1 x2 x3 x4 (0 : Int32) M4)))))) ∧
  (¬ r4 = 0 → (P_M_chances_197 post (P_M_chances_13 post n) x1 x2 x3 x4 M4))) x4 M))
theorem k_M_chances_13 {X : FX} {g : GT} {A : Nat → Prop} {Z : State → Prop} {post : Mem → Prop} (C : Cx X g layM A cX12_chances 10 RX12 5) (hr : 0 ≤ X.2.2.2.1.cells ∧ 0 ≤ X.2.2.2.1.slots) (hR : RetV X g layM A cX12_chances 10 0 0 Z post) : ∀ (n : Nat) (x1 x2 x3 x4 : Int32) (M : Mem), P_M_chances_13 post n x1 x2 x3 x4 M → AtX X g layM A 10 0 0 Z 13 [(0, .ref (ad g 0)), (1, .int x1), (2, .int x2), (3, .int x3), (4, .int x4)] [] M := by
  intro n
  induction n with
  | zero =>
    intro x1 x2 x3 x4 M h
    exact h.elim
  | succ n ih =>
    intro x1 x2 x3 x4 M h
    refine a_iload C (tk T_cX12_chances 8 rfl) rfl ?_
    refine a_aload_n C (tk T_cX12_chances 9 rfl) rfl ?_
    refine a_getR C f_RX12_13 (tk T_cX12_chances 10 rfl) lm0 rfl ?_
    refine a_bipush C (7 : Int32) (tk T_cX12_chances 11 rfl) kB_7 ?_
    obtain ⟨hb, h⟩ := h
    refine a_iald C (tk T_cX12_chances 12 rfl) lm1 hb ?_
    refine a_icmp_ge C 203 (tk T_cX12_chances 13 rfl) rfl (fun c => ?_) (fun c => ?_)
    · have h := h.1 c
      refine a_aload_n C (tk T_cX12_chances 109 rfl) rfl ?_
      refine a_getI C f_RX12_254 (tk T_cX12_chances 110 rfl) lm0 rfl ?_
      refine a_aload_n C (tk T_cX12_chances 111 rfl) rfl ?_
      refine a_getI C f_RX12_257 (tk T_cX12_chances 112 rfl) lm0 rfl ?_
      refine a_statI C [.int (M 0 16), .int (M 0 17)] me_yX12_common lk_RX12_260 (ct_M_common h) (by decide) rfl rfl (Nat.le_of_ble_eq_true rfl) (tk T_cX12_chances 113 rfl) hr (fun r1 M1 h => ?_)
      refine a_istore C (tk T_cX12_chances 114 rfl) (by decide) rfl ?_
      refine a_aload_n C (tk T_cX12_chances 115 rfl) rfl ?_
      refine a_dupr C (tk T_cX12_chances 116 rfl) ?_
      refine a_getI C f_RX12_254 (tk T_cX12_chances 117 rfl) lm0 rfl ?_
      refine a_iload C (tk T_cX12_chances 118 rfl) rfl ?_
      obtain ⟨hy, h⟩ := h
      refine a_idiv C (tk T_cX12_chances 119 rfl) hy ?_
      refine a_put C f_RX12_254 f_RX12_254p rfl rfl (tk T_cX12_chances 120 rfl) lm0 rfl ?_
      refine a_mem (fun M2 e_M2 => ?_)
      have h := h M2 e_M2
      refine a_aload_n C (tk T_cX12_chances 121 rfl) rfl ?_
      refine a_dupr C (tk T_cX12_chances 122 rfl) ?_
      refine a_getI C f_RX12_257 (tk T_cX12_chances 123 rfl) lm0 rfl ?_
      refine a_iload C (tk T_cX12_chances 124 rfl) rfl ?_
      obtain ⟨hy, h⟩ := h
      refine a_idiv C (tk T_cX12_chances 125 rfl) hy ?_
      refine a_put C f_RX12_257 f_RX12_257p rfl rfl (tk T_cX12_chances 126 rfl) lm0 rfl ?_
      refine a_mem (fun M3 e_M3 => ?_)
      have h := h M3 e_M3
      exact hR _ _ _ (tk T_cX12_chances 127 rfl) h
    · have h := h.2 c
      refine a_aload_n C (tk T_cX12_chances 14 rfl) rfl ?_
      refine a_iload C (tk T_cX12_chances 15 rfl) rfl ?_
      refine a_callI C [.int x4] me_yX12_isAir lk_RX12_148 (ct_M_isAir h) (by decide) lm0 rfl rfl rfl (Nat.le_of_ble_eq_true rfl) (tk T_cX12_chances 16 rfl) hr (fun r4 M4 h => ?_)
      refine a_if_eq C 37 (tk T_cX12_chances 17 rfl) rfl (fun c => ?_) (fun c => ?_)
      · have h := h.1 c
        refine a_aload_n C (tk T_cX12_chances 19 rfl) rfl ?_
        refine a_getR C f_RX12_13 (tk T_cX12_chances 20 rfl) lm0 rfl ?_
        refine a_sipush C (311 : Int32) (tk T_cX12_chances 21 rfl) kS_311 ?_
        refine a_iconst C (2 : Int32) (tk T_cX12_chances 22 rfl) kI_2 ?_
        refine a_bipush C (6 : Int32) (tk T_cX12_chances 23 rfl) kB_6 ?_
        refine a_iload_n C (tk T_cX12_chances 24 rfl) rfl ?_
        refine a_imul C (tk T_cX12_chances 25 rfl) ?_
        refine a_iload C (tk T_cX12_chances 26 rfl) rfl ?_
        refine a_iadd C (tk T_cX12_chances 27 rfl) ?_
        refine a_imul C (tk T_cX12_chances 28 rfl) ?_
        refine a_iadd C (tk T_cX12_chances 29 rfl) ?_
        refine a_top (fun i5 e_i5 => ?_)
        have h := h i5 e_i5
        obtain ⟨hb, h⟩ := h
        refine a_iald C (tk T_cX12_chances 30 rfl) lm1 hb ?_
        refine a_istore C (tk T_cX12_chances 31 rfl) (by decide) rfl ?_
        refine a_aload_n C (tk T_cX12_chances 32 rfl) rfl ?_
        refine a_getR C f_RX12_13 (tk T_cX12_chances 33 rfl) lm0 rfl ?_
        refine a_sipush C (311 : Int32) (tk T_cX12_chances 34 rfl) kS_311 ?_
        refine a_iconst C (2 : Int32) (tk T_cX12_chances 35 rfl) kI_2 ?_
        refine a_bipush C (6 : Int32) (tk T_cX12_chances 36 rfl) kB_6 ?_
        refine a_iload_n C (tk T_cX12_chances 37 rfl) rfl ?_
        refine a_imul C (tk T_cX12_chances 38 rfl) ?_
        refine a_iload C (tk T_cX12_chances 39 rfl) rfl ?_
        refine a_iadd C (tk T_cX12_chances 40 rfl) ?_
        refine a_imul C (tk T_cX12_chances 41 rfl) ?_
        refine a_iadd C (tk T_cX12_chances 42 rfl) ?_
        refine a_iconst C (1 : Int32) (tk T_cX12_chances 43 rfl) kI_1 ?_
        refine a_iadd C (tk T_cX12_chances 44 rfl) ?_
        refine a_top (fun v6 e_v6 => ?_)
        have h := h v6 e_v6
        obtain ⟨hb, h⟩ := h
        refine a_iald C (tk T_cX12_chances 45 rfl) lm1 hb ?_
        refine a_istore C (tk T_cX12_chances 46 rfl) (by decide) rfl ?_
        refine a_iload_n C (tk T_cX12_chances 47 rfl) rfl ?_
        refine a_iload C (tk T_cX12_chances 48 rfl) rfl ?_
        refine a_ishr C (tk T_cX12_chances 49 rfl) ?_
        refine a_iconst C (1 : Int32) (tk T_cX12_chances 50 rfl) kI_1 ?_
        refine a_iand C (tk T_cX12_chances 51 rfl) ?_
        refine a_if_ne C 108 (tk T_cX12_chances 52 rfl) rfl (fun c => ?_) (fun c => ?_)
        · have h := h.1 c
          refine a_iconst C (0 : Int32) (tk T_cX12_chances 62 rfl) kI_0 ?_
          refine a_istore C (tk T_cX12_chances 63 rfl) (by decide) rfl ?_
          refine a_iconst C (0 : Int32) (tk T_cX12_chances 64 rfl) kI_0 ?_
          refine a_istore C (tk T_cX12_chances 65 rfl) (by decide) rfl ?_
          refine a_iconst C (1 : Int32) (tk T_cX12_chances 66 rfl) kI_1 ?_
          refine a_istore C (tk T_cX12_chances 67 rfl) (by decide) rfl ?_
          obtain ⟨n1, h⟩ := h
          exact a_to (k_M_chances_117 C hr hR ih n1 x1 x2 x3 x4 (M4 1 i5.toNatClampNeg) (M4 1 v6.toNatClampNeg) (0 : Int32) (0 : Int32) (1 : Int32) M4 h) rfl
        · have h := h.2 c
          refine a_aload_n C (tk T_cX12_chances 53 rfl) rfl ?_
          refine a_iload C (tk T_cX12_chances 54 rfl) rfl ?_
          refine a_if_le C 98 (tk T_cX12_chances 55 rfl) rfl (fun c => ?_) (fun c => ?_)
          · have h := h.1 c
            refine a_aload_n C (tk T_cX12_chances 58 rfl) rfl ?_
            refine a_getI C f_RX12_254 (tk T_cX12_chances 59 rfl) lm0 rfl ?_
            exact a_to (k_M_chances_102 C hr hR ih x1 x2 x3 x4 (M4 0 16) M4 h) rfl
          · have h := h.2 c
            refine a_iconst C (0 : Int32) (tk T_cX12_chances 56 rfl) kI_0 ?_
            refine a_goto C 102 (tk T_cX12_chances 57 rfl) rfl ?_
            exact a_to (k_M_chances_102 C hr hR ih x1 x2 x3 x4 (0 : Int32) M4 h) rfl
      · have h := h.2 c
        refine a_goto C 197 (tk T_cX12_chances 18 rfl) rfl ?_
        exact a_to (k_M_chances_197 C hr hR ih x1 x2 x3 x4 M4 h) rfl
def P_M_chances (post : Mem → Prop) (x1 x2 x3 : Int32) (M : Mem) : Prop :=
  ∀ M1, M1 = ms M 0 16 (1 : Int32) → ∀ M2, M2 = ms M1 0 17 (1 : Int32) → ∃ j13, P_M_chances_13 post j13 x1 x2 x3 (0 : Int32) M2
theorem k_M_chances {X : FX} {g : GT} {A : Nat → Prop} {Z : State → Prop} {post : Mem → Prop} (C : Cx X g layM A cX12_chances 10 RX12 5) (hr : 0 ≤ X.2.2.2.1.cells ∧ 0 ≤ X.2.2.2.1.slots) (hR : RetV X g layM A cX12_chances 10 0 0 Z post) (x1 x2 x3 : Int32) (M : Mem) (h : P_M_chances post x1 x2 x3 M) : AtX X g layM A 10 0 0 Z 0 [(0, .ref (ad g 0)), (1, .int x1), (2, .int x2), (3, .int x3)] [] M := by
  refine a_aload_n C (tk T_cX12_chances 0 rfl) rfl ?_
  refine a_iconst C (1 : Int32) (tk T_cX12_chances 1 rfl) kI_1 ?_
  refine a_put C f_RX12_254 f_RX12_254p rfl rfl (tk T_cX12_chances 2 rfl) lm0 rfl ?_
  refine a_mem (fun M1 e_M1 => ?_)
  have h := h M1 e_M1
  refine a_aload_n C (tk T_cX12_chances 3 rfl) rfl ?_
  refine a_iconst C (1 : Int32) (tk T_cX12_chances 4 rfl) kI_1 ?_
  refine a_put C f_RX12_257 f_RX12_257p rfl rfl (tk T_cX12_chances 5 rfl) lm0 rfl ?_
  refine a_mem (fun M2 e_M2 => ?_)
  have h := h M2 e_M2
  refine a_iconst C (0 : Int32) (tk T_cX12_chances 6 rfl) kI_0 ?_
  refine a_istore C (tk T_cX12_chances 7 rfl) (by decide) rfl ?_
  obtain ⟨n1, h⟩ := h
  exact a_to (k_M_chances_13 C hr hR n1 x1 x2 x3 (0 : Int32) M2 h) rfl
theorem ct_M_chances {l : Launch} {g : GT} {post : Mem → Prop} {x1 x2 x3 : Int32} {M : Mem} (h : P_M_chances post x1 x2 x3 M) : CV l g layM yX12_chances cX12_chances 10 none 5 [.ref (ad g 0), .int x1, .int x2, .int x3] M post :=
  cv_of (plainFor_of_name (by decide +kernel)) (Nat.le_of_ble_eq_true rfl) (fun X A Z hl C hr hR => by subst hl; exact k_M_chances C hr hR x1 x2 x3 M h)
def T_cX12_noChanceL : List (Nat × Instr × Nat) := [(0, .aload_n 0, 1), (1, .aload_n 0, 1), (2, .iload_n 1, 1), (3, .bipush 8, 2), (5, .invokevirtual 121, 3), (8, .ifCond .ne 13, 3), (11, .aload_n 0, 1), (12, .iload_n 2, 1), (13, .bipush 11, 2), (15, .invokevirtual 121, 3), (18, .ifCond .eq 7, 3), (21, .iconst 1, 1), (22, .goto 4, 3), (25, .iconst 0, 1), (26, .iconst 1, 1), (27, .invokevirtual 72, 3), (30, .ireturn, 1)]
theorem T_cX12_noChance : tabOK cX12_noChance T_cX12_noChanceL = true := by decide +kernel
def P_M_noChance_26 (post : Int32 → Mem → Prop) (s1 : Int32) (M : Mem) : Prop :=
  P_M_throwsIf (fun r1 M1 =>
  (r1 = 0 ∨ r1 = 1) ∧ post r1 M1) s1 (1 : Int32) M
theorem k_M_noChance_26 {X : FX} {g : GT} {A : Nat → Prop} {Z : State → Prop} {post : Int32 → Mem → Prop} (C : Cx X g layM A cX12_noChance 3 RX12 2) (hr : 0 ≤ X.2.2.2.1.cells ∧ 0 ≤ X.2.2.2.1.slots) (hR : RetZ X g layM A cX12_noChance 3 0 0 Z post) (s1 : Int32) (M : Mem) (h : P_M_noChance_26 post s1 M) : AtX X g layM A 3 0 0 Z 26 [] [.int s1, .ref (ad g 0)] M := by
  refine a_iconst C (1 : Int32) (tk T_cX12_noChance 14 rfl) kI_1 ?_
  refine a_callI C [.int s1, .int (1 : Int32)] me_yX12_throwsIf lk_RX12_72 (ct_M_throwsIf h) (by decide) lm0 rfl rfl rfl (Nat.le_of_ble_eq_true rfl) (tk T_cX12_noChance 15 rfl) hr (fun r1 M1 h => ?_)
  exact hR _ _ _ _ (tk T_cX12_noChance 16 rfl) h
def P_M_noChance_21 (post : Int32 → Mem → Prop) (M : Mem) : Prop :=
  P_M_noChance_26 post (1 : Int32) M
theorem k_M_noChance_21 {X : FX} {g : GT} {A : Nat → Prop} {Z : State → Prop} {post : Int32 → Mem → Prop} (C : Cx X g layM A cX12_noChance 3 RX12 2) (hr : 0 ≤ X.2.2.2.1.cells ∧ 0 ≤ X.2.2.2.1.slots) (hR : RetZ X g layM A cX12_noChance 3 0 0 Z post)  (M : Mem) (h : P_M_noChance_21 post M) : AtX X g layM A 3 0 0 Z 21 [] [.ref (ad g 0)] M := by
  refine a_iconst C (1 : Int32) (tk T_cX12_noChance 11 rfl) kI_1 ?_
  refine a_goto C 26 (tk T_cX12_noChance 12 rfl) rfl ?_
  exact a_to (k_M_noChance_26 C hr hR (1 : Int32) M h) rfl
def P_M_noChance (post : Int32 → Mem → Prop) (x1 x2 : Int32) (M : Mem) : Prop :=
  P_M_none (fun r1 M1 =>
  (¬ r1 = 0 → (P_M_noChance_21 post M1)) ∧
  (r1 = 0 → (P_M_none (fun r2 M2 =>
  (r2 = 0 → (P_M_noChance_26 post (0 : Int32) M2)) ∧
  (¬ r2 = 0 → (P_M_noChance_21 post M2))) x2 (11 : Int32) M1))) x1 (8 : Int32) M
theorem k_M_noChance {X : FX} {g : GT} {A : Nat → Prop} {Z : State → Prop} {post : Int32 → Mem → Prop} (C : Cx X g layM A cX12_noChance 3 RX12 2) (hr : 0 ≤ X.2.2.2.1.cells ∧ 0 ≤ X.2.2.2.1.slots) (hR : RetZ X g layM A cX12_noChance 3 0 0 Z post) (x1 x2 : Int32) (M : Mem) (h : P_M_noChance post x1 x2 M) : AtX X g layM A 3 0 0 Z 0 [(0, .ref (ad g 0)), (1, .int x1), (2, .int x2)] [] M := by
  refine a_aload_n C (tk T_cX12_noChance 0 rfl) rfl ?_
  refine a_aload_n C (tk T_cX12_noChance 1 rfl) rfl ?_
  refine a_iload_n C (tk T_cX12_noChance 2 rfl) rfl ?_
  refine a_bipush C (8 : Int32) (tk T_cX12_noChance 3 rfl) kB_8 ?_
  refine a_callI C [.int x1, .int (8 : Int32)] me_yX12_none lk_RX12_121 (ct_M_none h) (by decide) lm0 rfl rfl rfl (Nat.le_of_ble_eq_true rfl) (tk T_cX12_noChance 4 rfl) hr (fun r1 M1 h => ?_)
  refine a_if_ne C 21 (tk T_cX12_noChance 5 rfl) rfl (fun c => ?_) (fun c => ?_)
  · have h := h.1 c
    exact a_to (k_M_noChance_21 C hr hR M1 h) rfl
  · have h := h.2 c
    refine a_aload_n C (tk T_cX12_noChance 6 rfl) rfl ?_
    refine a_iload_n C (tk T_cX12_noChance 7 rfl) rfl ?_
    refine a_bipush C (11 : Int32) (tk T_cX12_noChance 8 rfl) kB_11 ?_
    refine a_callI C [.int x2, .int (11 : Int32)] me_yX12_none lk_RX12_121 (ct_M_none h) (by decide) lm0 rfl rfl rfl (Nat.le_of_ble_eq_true rfl) (tk T_cX12_noChance 9 rfl) hr (fun r2 M2 h => ?_)
    refine a_if_eq C 25 (tk T_cX12_noChance 10 rfl) rfl (fun c => ?_) (fun c => ?_)
    · have h := h.1 c
      refine a_iconst C (0 : Int32) (tk T_cX12_noChance 13 rfl) kI_0 ?_
      exact a_to (k_M_noChance_26 C hr hR (0 : Int32) M2 h) rfl
    · have h := h.2 c
      exact a_to (k_M_noChance_21 C hr hR M2 h) rfl
theorem ct_M_noChance {l : Launch} {g : GT} {post : Int32 → Mem → Prop} {x1 x2 : Int32} {M : Mem} (h : P_M_noChance post x1 x2 M) : CI l g layM yX12_noChance cX12_noChance 3 (some .boolean) 2 [.ref (ad g 0), .int x1, .int x2] M post :=
  cz_of (plainFor_of_name (by decide +kernel)) (Nat.le_of_ble_eq_true rfl) (fun X A Z hl C hr hR => by subst hl; exact k_M_noChance C hr hR x1 x2 M h)
def T_cX12_chanceL : List (Nat × Instr × Nat) := [(0, .aload_n 0, 1), (1, .iconst 0, 1), (2, .putfield 3, 3), (5, .aload_n 0, 1), (6, .iload_n 1, 1), (7, .iload_n 3, 1), (8, .invokevirtual 263, 3), (11, .ifCond .eq 5, 3), (14, .iconst 0, 1), (15, .ireturn, 1), (16, .aload_n 0, 1), (17, .invokevirtual 197, 3), (20, .aload_n 0, 1), (21, .iload_n 1, 1), (22, .iload_n 2, 1), (23, .iload_n 3, 1), (24, .invokevirtual 266, 3), (27, .iload 4, 2), (29, .ifCond .eq 10, 3), (32, .aload_n 0, 1), (33, .getfield 257, 3), (36, .goto 7, 3), (39, .aload_n 0, 1), (40, .getfield 254, 3), (43, .ireturn, 1)]
theorem T_cX12_chance : tabOK cX12_chance T_cX12_chanceL = true := by decide +kernel
def P_M_chance_43 (post : Int32 → Mem → Prop) (s0 : Int32) (M : Mem) : Prop :=
  post s0 M
theorem k_M_chance_43 {X : FX} {g : GT} {A : Nat → Prop} {Z : State → Prop} {post : Int32 → Mem → Prop} (C : Cx X g layM A cX12_chance 5 RX12 6) (hr : 0 ≤ X.2.2.2.1.cells ∧ 0 ≤ X.2.2.2.1.slots) (hR : RetI X g layM A cX12_chance 5 0 0 Z post) (s0 : Int32) (M : Mem) (h : P_M_chance_43 post s0 M) : AtX X g layM A 5 0 0 Z 43 [] [.int s0] M := by
  exact hR _ _ _ _ (tk T_cX12_chance 24 rfl) h
def P_M_chance (post : Int32 → Mem → Prop) (x1 x2 x3 x4 : Int32) (M : Mem) : Prop :=
  ∀ M1, M1 = ms M 0 0 (0 : Int32) → P_M_noChance (fun r2 M2 =>
  (r2 = 0 → (P_M_spans (fun M3 =>
  P_M_chances (fun M4 =>
  (x4 = 0 → (P_M_chance_43 post (M4 0 16) M4)) ∧
  (¬ x4 = 0 → (P_M_chance_43 post (M4 0 17) M4))) x1 x2 x3 M3) M2)) ∧
  (¬ r2 = 0 → (post (0 : Int32) M2))) x1 x3 M1
theorem k_M_chance {X : FX} {g : GT} {A : Nat → Prop} {Z : State → Prop} {post : Int32 → Mem → Prop} (C : Cx X g layM A cX12_chance 5 RX12 6) (hr : 0 ≤ X.2.2.2.1.cells ∧ 0 ≤ X.2.2.2.1.slots) (hR : RetI X g layM A cX12_chance 5 0 0 Z post) (x1 x2 x3 x4 : Int32) (M : Mem) (h : P_M_chance post x1 x2 x3 x4 M) : AtX X g layM A 5 0 0 Z 0 [(0, .ref (ad g 0)), (1, .int x1), (2, .int x2), (3, .int x3), (4, .int x4)] [] M := by
  refine a_aload_n C (tk T_cX12_chance 0 rfl) rfl ?_
  refine a_iconst C (0 : Int32) (tk T_cX12_chance 1 rfl) kI_0 ?_
  refine a_put C f_RX12_3 f_RX12_3p rfl rfl (tk T_cX12_chance 2 rfl) lm0 rfl ?_
  refine a_mem (fun M1 e_M1 => ?_)
  have h := h M1 e_M1
  refine a_aload_n C (tk T_cX12_chance 3 rfl) rfl ?_
  refine a_iload_n C (tk T_cX12_chance 4 rfl) rfl ?_
  refine a_iload_n C (tk T_cX12_chance 5 rfl) rfl ?_
  refine a_callI C [.int x1, .int x3] me_yX12_noChance lk_RX12_263 (ct_M_noChance h) (by decide) lm0 rfl rfl rfl (Nat.le_of_ble_eq_true rfl) (tk T_cX12_chance 6 rfl) hr (fun r2 M2 h => ?_)
  refine a_if_eq C 16 (tk T_cX12_chance 7 rfl) rfl (fun c => ?_) (fun c => ?_)
  · have h := h.1 c
    refine a_aload_n C (tk T_cX12_chance 10 rfl) rfl ?_
    refine a_callV C [] me_yX12_spans lk_RX12_197 (ct_M_spans h) (by decide) lm0 rfl rfl rfl (Nat.le_of_ble_eq_true rfl) (tk T_cX12_chance 11 rfl) hr (fun M3 h => ?_)
    refine a_aload_n C (tk T_cX12_chance 12 rfl) rfl ?_
    refine a_iload_n C (tk T_cX12_chance 13 rfl) rfl ?_
    refine a_iload_n C (tk T_cX12_chance 14 rfl) rfl ?_
    refine a_iload_n C (tk T_cX12_chance 15 rfl) rfl ?_
    refine a_callV C [.int x1, .int x2, .int x3] me_yX12_chances lk_RX12_266 (ct_M_chances h) (by decide) lm0 rfl rfl rfl (Nat.le_of_ble_eq_true rfl) (tk T_cX12_chance 16 rfl) hr (fun M4 h => ?_)
    refine a_iload C (tk T_cX12_chance 17 rfl) rfl ?_
    refine a_if_eq C 39 (tk T_cX12_chance 18 rfl) rfl (fun c => ?_) (fun c => ?_)
    · have h := h.1 c
      refine a_aload_n C (tk T_cX12_chance 22 rfl) rfl ?_
      refine a_getI C f_RX12_254 (tk T_cX12_chance 23 rfl) lm0 rfl ?_
      exact a_to (k_M_chance_43 C hr hR (M4 0 16) M4 h) rfl
    · have h := h.2 c
      refine a_aload_n C (tk T_cX12_chance 19 rfl) rfl ?_
      refine a_getI C f_RX12_257 (tk T_cX12_chance 20 rfl) lm0 rfl ?_
      refine a_goto C 43 (tk T_cX12_chance 21 rfl) rfl ?_
      exact a_to (k_M_chance_43 C hr hR (M4 0 17) M4 h) rfl
  · have h := h.2 c
    refine a_iconst C (0 : Int32) (tk T_cX12_chance 8 rfl) kI_0 ?_
    exact hR _ _ _ _ (tk T_cX12_chance 9 rfl) h
theorem ct_M_chance {l : Launch} {g : GT} {post : Int32 → Mem → Prop} {x1 x2 x3 x4 : Int32} {M : Mem} (h : P_M_chance post x1 x2 x3 x4 M) : CI l g layM yX12_chance cX12_chance 5 (some .int) 6 [.ref (ad g 0), .int x1, .int x2, .int x3, .int x4] M post :=
  ci_of (plainFor_of_name (by decide +kernel)) (Nat.le_of_ble_eq_true rfl) (fun X A Z hl C hr hR => by subst hl; exact k_M_chance C hr hR x1 x2 x3 x4 M h)
def T_cX12_greatestChanceL : List (Nat × Instr × Nat) := [(0, .iconst (-1), 1), (1, .istore_n 3, 1), (2, .iconst 0, 1), (3, .istore 4, 2), (5, .iconst 1, 1), (6, .istore 5, 2), (8, .iconst 0, 1), (9, .istore 6, 2), (11, .iload 6, 2), (13, .aload_n 0, 1), (14, .getfield 13, 3), (17, .bipush 11, 2), (19, .iaload, 1), (20, .if_icmp .ge 57, 3), (23, .aload_n 0, 1), (24, .iload_n 1, 1), (25, .iload_n 2, 1), (26, .iload 6, 2), (28, .invokevirtual 266, 3), (31, .aload_n 0, 1), (32, .getfield 254, 3), (35, .i2l, 1), (36, .iload 5, 2), (38, .i2l, 1), (39, .lmul, 1), (40, .iload 4, 2), (42, .i2l, 1), (43, .aload_n 0, 1), (44, .getfield 257, 3), (47, .i2l, 1), (48, .lmul, 1), (49, .lcmp, 1), (50, .ifCond .gt 6, 3), (53, .goto 18, 3), (56, .iload 6, 2), (58, .istore_n 3, 1), (59, .aload_n 0, 1), (60, .getfield 254, 3), (63, .istore 4, 2), (65, .aload_n 0, 1), (66, .getfield 257, 3), (69, .istore 5, 2), (71, .iinc 6 1, 3), (74, .goto (-63), 3), (77, .aload_n 0, 1), (78, .iload 4, 2), (80, .putfield 254, 3), (83, .aload_n 0, 1), (84, .iload 5, 2), (86, .putfield 257, 3), (89, .iload_n 3, 1), (90, .ireturn, 1)]
theorem T_cX12_greatestChance : tabOK cX12_greatestChance T_cX12_greatestChanceL = true := by decide +kernel
def P_M_greatestChance_71 (post : Int32 → Mem → Prop) (R11 : Int32 → Int32 → Int32 → Int32 → Int32 → Int32 → Mem → Prop) (x1 x2 x3 x4 x5 x6 : Int32) (M : Mem) : Prop :=
  R11 x1 x2 x3 x4 x5 (x6 + (1 : Int32)) M
theorem k_M_greatestChance_71 {X : FX} {g : GT} {A : Nat → Prop} {Z : State → Prop} {post : Int32 → Mem → Prop} {R11 : Int32 → Int32 → Int32 → Int32 → Int32 → Int32 → Mem → Prop} (C : Cx X g layM A cX12_greatestChance 7 RX12 6) (hr : 0 ≤ X.2.2.2.1.cells ∧ 0 ≤ X.2.2.2.1.slots) (hR : RetI X g layM A cX12_greatestChance 7 0 0 Z post) (k11 : ∀ (y1 y2 y3 y4 y5 y6 : Int32) (M : Mem), R11 y1 y2 y3 y4 y5 y6 M → AtX X g layM A 7 0 0 Z 11 [(0, .ref (ad g 0)), (1, .int y1), (2, .int y2), (3, .int y3), (4, .int y4), (5, .int y5), (6, .int y6)] [] M) (x1 x2 x3 x4 x5 x6 : Int32) (M : Mem) (h : P_M_greatestChance_71 post R11 x1 x2 x3 x4 x5 x6 M) : AtX X g layM A 7 0 0 Z 71 [(0, .ref (ad g 0)), (1, .int x1), (2, .int x2), (3, .int x3), (4, .int x4), (5, .int x5), (6, .int x6)] [] M := by
  refine a_iinc C (1 : Int32) (tk T_cX12_greatestChance 42 rfl) rfl kI_1 (by decide) rfl ?_
  refine a_goto C 11 (tk T_cX12_greatestChance 43 rfl) rfl ?_
  exact a_to (k11 x1 x2 x3 x4 x5 (x6 + (1 : Int32)) M h) rfl
def P_M_greatestChance_11 (post : Int32 → Mem → Prop) : Nat → Int32 → Int32 → Int32 → Int32 → Int32 → Int32 → Mem → Prop
  | 0, _, _, _, _, _, _, _ => False
  | n + 1, x1, x2, x3, x4, x5, x6, M =>
    vp_in (11 : Int32) 5966 ∧ ((M 1 (11 : Int32).toNatClampNeg) ≤ x6 → (∀ M1, M1 = ms M 0 16 x4 → ∀ M2, M2 = ms M1 0 17 x5 → post x3 M2)) ∧
  (¬ (M 1 (11 : Int32).toNatClampNeg) ≤ x6 → (P_M_chances (fun M3 =>
  (0 < (lg_cmp ((M3 0 16).toInt64 * x5.toInt64) (x4.toInt64 * (M3 0 17).toInt64)) → (P_M_greatestChance_71 post (P_M_greatestChance_11 post n) x1 x2 x6 (M3 0 16) (M3 0 17) x6 M3)) ∧
  (¬ 0 < (lg_cmp ((M3 0 16).toInt64 * x5.toInt64) (x4.toInt64 * (M3 0 17).toInt64)) → (P_M_greatestChance_71 post (P_M_greatestChance_11 post n) x1 x2 x3 x4 x5 x6 M3))) x1 x2 x6 M))
theorem k_M_greatestChance_11 {X : FX} {g : GT} {A : Nat → Prop} {Z : State → Prop} {post : Int32 → Mem → Prop} (C : Cx X g layM A cX12_greatestChance 7 RX12 6) (hr : 0 ≤ X.2.2.2.1.cells ∧ 0 ≤ X.2.2.2.1.slots) (hR : RetI X g layM A cX12_greatestChance 7 0 0 Z post) : ∀ (n : Nat) (x1 x2 x3 x4 x5 x6 : Int32) (M : Mem), P_M_greatestChance_11 post n x1 x2 x3 x4 x5 x6 M → AtX X g layM A 7 0 0 Z 11 [(0, .ref (ad g 0)), (1, .int x1), (2, .int x2), (3, .int x3), (4, .int x4), (5, .int x5), (6, .int x6)] [] M := by
  intro n
  induction n with
  | zero =>
    intro x1 x2 x3 x4 x5 x6 M h
    exact h.elim
  | succ n ih =>
    intro x1 x2 x3 x4 x5 x6 M h
    refine a_iload C (tk T_cX12_greatestChance 8 rfl) rfl ?_
    refine a_aload_n C (tk T_cX12_greatestChance 9 rfl) rfl ?_
    refine a_getR C f_RX12_13 (tk T_cX12_greatestChance 10 rfl) lm0 rfl ?_
    refine a_bipush C (11 : Int32) (tk T_cX12_greatestChance 11 rfl) kB_11 ?_
    obtain ⟨hb, h⟩ := h
    refine a_iald C (tk T_cX12_greatestChance 12 rfl) lm1 hb ?_
    refine a_icmp_ge C 77 (tk T_cX12_greatestChance 13 rfl) rfl (fun c => ?_) (fun c => ?_)
    · have h := h.1 c
      refine a_aload_n C (tk T_cX12_greatestChance 44 rfl) rfl ?_
      refine a_iload C (tk T_cX12_greatestChance 45 rfl) rfl ?_
      refine a_put C f_RX12_254 f_RX12_254p rfl rfl (tk T_cX12_greatestChance 46 rfl) lm0 rfl ?_
      refine a_mem (fun M1 e_M1 => ?_)
      have h := h M1 e_M1
      refine a_aload_n C (tk T_cX12_greatestChance 47 rfl) rfl ?_
      refine a_iload C (tk T_cX12_greatestChance 48 rfl) rfl ?_
      refine a_put C f_RX12_257 f_RX12_257p rfl rfl (tk T_cX12_greatestChance 49 rfl) lm0 rfl ?_
      refine a_mem (fun M2 e_M2 => ?_)
      have h := h M2 e_M2
      refine a_iload_n C (tk T_cX12_greatestChance 50 rfl) rfl ?_
      exact hR _ _ _ _ (tk T_cX12_greatestChance 51 rfl) h
    · have h := h.2 c
      refine a_aload_n C (tk T_cX12_greatestChance 14 rfl) rfl ?_
      refine a_iload_n C (tk T_cX12_greatestChance 15 rfl) rfl ?_
      refine a_iload_n C (tk T_cX12_greatestChance 16 rfl) rfl ?_
      refine a_iload C (tk T_cX12_greatestChance 17 rfl) rfl ?_
      refine a_callV C [.int x1, .int x2, .int x6] me_yX12_chances lk_RX12_266 (ct_M_chances h) (by decide) lm0 rfl rfl rfl (Nat.le_of_ble_eq_true rfl) (tk T_cX12_greatestChance 18 rfl) hr (fun M3 h => ?_)
      refine a_aload_n C (tk T_cX12_greatestChance 19 rfl) rfl ?_
      refine a_getI C f_RX12_254 (tk T_cX12_greatestChance 20 rfl) lm0 rfl ?_
      refine a_i2l C (tk T_cX12_greatestChance 21 rfl) ?_
      refine a_iload C (tk T_cX12_greatestChance 22 rfl) rfl ?_
      refine a_i2l C (tk T_cX12_greatestChance 23 rfl) ?_
      refine a_lmul C (tk T_cX12_greatestChance 24 rfl) ?_
      refine a_iload C (tk T_cX12_greatestChance 25 rfl) rfl ?_
      refine a_i2l C (tk T_cX12_greatestChance 26 rfl) ?_
      refine a_aload_n C (tk T_cX12_greatestChance 27 rfl) rfl ?_
      refine a_getI C f_RX12_257 (tk T_cX12_greatestChance 28 rfl) lm0 rfl ?_
      refine a_i2l C (tk T_cX12_greatestChance 29 rfl) ?_
      refine a_lmul C (tk T_cX12_greatestChance 30 rfl) ?_
      refine a_lcmp C (tk T_cX12_greatestChance 31 rfl) ?_
      refine a_if_gt C 56 (tk T_cX12_greatestChance 32 rfl) rfl (fun c => ?_) (fun c => ?_)
      · have h := h.1 c
        refine a_iload C (tk T_cX12_greatestChance 34 rfl) rfl ?_
        refine a_istore_n C (tk T_cX12_greatestChance 35 rfl) (by decide) rfl ?_
        refine a_aload_n C (tk T_cX12_greatestChance 36 rfl) rfl ?_
        refine a_getI C f_RX12_254 (tk T_cX12_greatestChance 37 rfl) lm0 rfl ?_
        refine a_istore C (tk T_cX12_greatestChance 38 rfl) (by decide) rfl ?_
        refine a_aload_n C (tk T_cX12_greatestChance 39 rfl) rfl ?_
        refine a_getI C f_RX12_257 (tk T_cX12_greatestChance 40 rfl) lm0 rfl ?_
        refine a_istore C (tk T_cX12_greatestChance 41 rfl) (by decide) rfl ?_
        exact a_to (k_M_greatestChance_71 C hr hR ih x1 x2 x6 (M3 0 16) (M3 0 17) x6 M3 h) rfl
      · have h := h.2 c
        refine a_goto C 71 (tk T_cX12_greatestChance 33 rfl) rfl ?_
        exact a_to (k_M_greatestChance_71 C hr hR ih x1 x2 x3 x4 x5 x6 M3 h) rfl
def P_M_greatestChance (post : Int32 → Mem → Prop) (x1 x2 : Int32) (M : Mem) : Prop :=
  ∃ j11, P_M_greatestChance_11 post j11 x1 x2 (-1 : Int32) (0 : Int32) (1 : Int32) (0 : Int32) M
theorem k_M_greatestChance {X : FX} {g : GT} {A : Nat → Prop} {Z : State → Prop} {post : Int32 → Mem → Prop} (C : Cx X g layM A cX12_greatestChance 7 RX12 6) (hr : 0 ≤ X.2.2.2.1.cells ∧ 0 ≤ X.2.2.2.1.slots) (hR : RetI X g layM A cX12_greatestChance 7 0 0 Z post) (x1 x2 : Int32) (M : Mem) (h : P_M_greatestChance post x1 x2 M) : AtX X g layM A 7 0 0 Z 0 [(0, .ref (ad g 0)), (1, .int x1), (2, .int x2)] [] M := by
  refine a_iconst C (-1 : Int32) (tk T_cX12_greatestChance 0 rfl) kI_m1 ?_
  refine a_istore_n C (tk T_cX12_greatestChance 1 rfl) (by decide) rfl ?_
  refine a_iconst C (0 : Int32) (tk T_cX12_greatestChance 2 rfl) kI_0 ?_
  refine a_istore C (tk T_cX12_greatestChance 3 rfl) (by decide) rfl ?_
  refine a_iconst C (1 : Int32) (tk T_cX12_greatestChance 4 rfl) kI_1 ?_
  refine a_istore C (tk T_cX12_greatestChance 5 rfl) (by decide) rfl ?_
  refine a_iconst C (0 : Int32) (tk T_cX12_greatestChance 6 rfl) kI_0 ?_
  refine a_istore C (tk T_cX12_greatestChance 7 rfl) (by decide) rfl ?_
  obtain ⟨n1, h⟩ := h
  exact a_to (k_M_greatestChance_11 C hr hR n1 x1 x2 (-1 : Int32) (0 : Int32) (1 : Int32) (0 : Int32) M h) rfl
theorem ct_M_greatestChance {l : Launch} {g : GT} {post : Int32 → Mem → Prop} {x1 x2 : Int32} {M : Mem} (h : P_M_greatestChance post x1 x2 M) : CI l g layM yX12_greatestChance cX12_greatestChance 7 (some .int) 6 [.ref (ad g 0), .int x1, .int x2] M post :=
  ci_of (plainFor_of_name (by decide +kernel)) (Nat.le_of_ble_eq_true rfl) (fun X A Z hl C hr hR => by subst hl; exact k_M_greatestChance C hr hR x1 x2 M h)
def T_cX12_likelyL : List (Nat × Instr × Nat) := [(0, .aload_n 0, 1), (1, .iconst 0, 1), (2, .putfield 3, 3), (5, .aload_n 0, 1), (6, .aload_n 0, 1), (7, .iload_n 1, 1), (8, .bipush 8, 2), (10, .invokevirtual 121, 3), (13, .iconst 1, 1), (14, .invokevirtual 72, 3), (17, .ifCond .eq 5, 3), (20, .iconst 0, 1), (21, .ireturn, 1), (22, .aload_n 0, 1), (23, .invokevirtual 197, 3), (26, .aload_n 0, 1), (27, .iload_n 1, 1), (28, .iload_n 2, 1), (29, .invokevirtual 269, 3), (32, .ireturn, 1)]
theorem T_cX12_likely : tabOK cX12_likely T_cX12_likelyL = true := by decide +kernel
def P_M_likely (post : Int32 → Mem → Prop) (x1 x2 : Int32) (M : Mem) : Prop :=
  ∀ M1, M1 = ms M 0 0 (0 : Int32) → P_M_none (fun r2 M2 =>
  P_M_throwsIf (fun r3 M3 =>
  (r3 = 0 → (P_M_spans (fun M4 =>
  P_M_greatestChance (fun r5 M5 =>
  post r5 M5) x1 x2 M4) M3)) ∧
  (¬ r3 = 0 → (post (0 : Int32) M3))) r2 (1 : Int32) M2) x1 (8 : Int32) M1
theorem k_M_likely {X : FX} {g : GT} {A : Nat → Prop} {Z : State → Prop} {post : Int32 → Mem → Prop} (C : Cx X g layM A cX12_likely 3 RX12 7) (hr : 0 ≤ X.2.2.2.1.cells ∧ 0 ≤ X.2.2.2.1.slots) (hR : RetI X g layM A cX12_likely 3 0 0 Z post) (x1 x2 : Int32) (M : Mem) (h : P_M_likely post x1 x2 M) : AtX X g layM A 3 0 0 Z 0 [(0, .ref (ad g 0)), (1, .int x1), (2, .int x2)] [] M := by
  refine a_aload_n C (tk T_cX12_likely 0 rfl) rfl ?_
  refine a_iconst C (0 : Int32) (tk T_cX12_likely 1 rfl) kI_0 ?_
  refine a_put C f_RX12_3 f_RX12_3p rfl rfl (tk T_cX12_likely 2 rfl) lm0 rfl ?_
  refine a_mem (fun M1 e_M1 => ?_)
  have h := h M1 e_M1
  refine a_aload_n C (tk T_cX12_likely 3 rfl) rfl ?_
  refine a_aload_n C (tk T_cX12_likely 4 rfl) rfl ?_
  refine a_iload_n C (tk T_cX12_likely 5 rfl) rfl ?_
  refine a_bipush C (8 : Int32) (tk T_cX12_likely 6 rfl) kB_8 ?_
  refine a_callI C [.int x1, .int (8 : Int32)] me_yX12_none lk_RX12_121 (ct_M_none h) (by decide) lm0 rfl rfl rfl (Nat.le_of_ble_eq_true rfl) (tk T_cX12_likely 7 rfl) hr (fun r2 M2 h => ?_)
  refine a_iconst C (1 : Int32) (tk T_cX12_likely 8 rfl) kI_1 ?_
  refine a_callI C [.int r2, .int (1 : Int32)] me_yX12_throwsIf lk_RX12_72 (ct_M_throwsIf h) (by decide) lm0 rfl rfl rfl (Nat.le_of_ble_eq_true rfl) (tk T_cX12_likely 9 rfl) hr (fun r3 M3 h => ?_)
  refine a_if_eq C 22 (tk T_cX12_likely 10 rfl) rfl (fun c => ?_) (fun c => ?_)
  · have h := h.1 c
    refine a_aload_n C (tk T_cX12_likely 13 rfl) rfl ?_
    refine a_callV C [] me_yX12_spans lk_RX12_197 (ct_M_spans h) (by decide) lm0 rfl rfl rfl (Nat.le_of_ble_eq_true rfl) (tk T_cX12_likely 14 rfl) hr (fun M4 h => ?_)
    refine a_aload_n C (tk T_cX12_likely 15 rfl) rfl ?_
    refine a_iload_n C (tk T_cX12_likely 16 rfl) rfl ?_
    refine a_iload_n C (tk T_cX12_likely 17 rfl) rfl ?_
    refine a_callI C [.int x1, .int x2] me_yX12_greatestChance lk_RX12_269 (ct_M_greatestChance h) (by decide) lm0 rfl rfl rfl (Nat.le_of_ble_eq_true rfl) (tk T_cX12_likely 18 rfl) hr (fun r5 M5 h => ?_)
    exact hR _ _ _ _ (tk T_cX12_likely 19 rfl) h
  · have h := h.2 c
    refine a_iconst C (0 : Int32) (tk T_cX12_likely 11 rfl) kI_0 ?_
    exact hR _ _ _ _ (tk T_cX12_likely 12 rfl) h
theorem ct_M_likely {l : Launch} {g : GT} {post : Int32 → Mem → Prop} {x1 x2 : Int32} {M : Mem} (h : P_M_likely post x1 x2 M) : CI l g layM yX12_likely cX12_likely 3 (some .int) 7 [.ref (ad g 0), .int x1, .int x2] M post :=
  ci_of (plainFor_of_name (by decide +kernel)) (Nat.le_of_ble_eq_true rfl) (fun X A Z hl C hr hR => by subst hl; exact k_M_likely C hr hR x1 x2 M h)
def T_cX12_forgedL : List (Nat × Instr × Nat) := [(0, .aload_n 0, 1), (1, .iconst 0, 1), (2, .putfield 3, 3), (5, .aload_n 0, 1), (6, .iload_n 1, 1), (7, .iload_n 3, 1), (8, .invokevirtual 263, 3), (11, .ifCond .eq 5, 3), (14, .iconst 0, 1), (15, .ireturn, 1), (16, .aload_n 0, 1), (17, .invokevirtual 197, 3), (20, .aload_n 0, 1), (21, .iload_n 1, 1), (22, .iload_n 2, 1), (23, .invokevirtual 269, 3), (26, .pop, 1), (27, .aload_n 0, 1), (28, .getfield 254, 3), (31, .istore 4, 2), (33, .aload_n 0, 1), (34, .getfield 257, 3), (37, .istore 5, 2), (39, .aload_n 0, 1), (40, .iload_n 1, 1), (41, .iload_n 2, 1), (42, .iload_n 3, 1), (43, .invokevirtual 266, 3), (46, .aload_n 0, 1), (47, .getfield 254, 3), (50, .iload 4, 2), (52, .if_icmp .ne 12, 3), (55, .aload_n 0, 1), (56, .getfield 257, 3), (59, .iload 5, 2), (61, .if_icmp .eq 7, 3), (64, .iconst 1, 1), (65, .goto 4, 3), (68, .iconst 0, 1), (69, .ireturn, 1)]
theorem T_cX12_forged : tabOK cX12_forged T_cX12_forgedL = true := by decide +kernel
def P_M_forged_69 (post : Int32 → Mem → Prop) (s0 : Int32) (M : Mem) : Prop :=
  (s0 = 0 ∨ s0 = 1) ∧ post s0 M
theorem k_M_forged_69 {X : FX} {g : GT} {A : Nat → Prop} {Z : State → Prop} {post : Int32 → Mem → Prop} (C : Cx X g layM A cX12_forged 6 RX12 7) (hr : 0 ≤ X.2.2.2.1.cells ∧ 0 ≤ X.2.2.2.1.slots) (hR : RetZ X g layM A cX12_forged 6 0 0 Z post) (s0 : Int32) (M : Mem) (h : P_M_forged_69 post s0 M) : AtX X g layM A 6 0 0 Z 69 [] [.int s0] M := by
  exact hR _ _ _ _ (tk T_cX12_forged 39 rfl) h
def P_M_forged_64 (post : Int32 → Mem → Prop) (M : Mem) : Prop :=
  P_M_forged_69 post (1 : Int32) M
theorem k_M_forged_64 {X : FX} {g : GT} {A : Nat → Prop} {Z : State → Prop} {post : Int32 → Mem → Prop} (C : Cx X g layM A cX12_forged 6 RX12 7) (hr : 0 ≤ X.2.2.2.1.cells ∧ 0 ≤ X.2.2.2.1.slots) (hR : RetZ X g layM A cX12_forged 6 0 0 Z post)  (M : Mem) (h : P_M_forged_64 post M) : AtX X g layM A 6 0 0 Z 64 [] [] M := by
  refine a_iconst C (1 : Int32) (tk T_cX12_forged 36 rfl) kI_1 ?_
  refine a_goto C 69 (tk T_cX12_forged 37 rfl) rfl ?_
  exact a_to (k_M_forged_69 C hr hR (1 : Int32) M h) rfl
def P_M_forged (post : Int32 → Mem → Prop) (x1 x2 x3 : Int32) (M : Mem) : Prop :=
  ∀ M1, M1 = ms M 0 0 (0 : Int32) → P_M_noChance (fun r2 M2 =>
  (r2 = 0 → (P_M_spans (fun M3 =>
  P_M_greatestChance (fun r4 M4 =>
  P_M_chances (fun M5 =>
  (¬ (M5 0 16) = (M4 0 16) → (P_M_forged_64 post M5)) ∧
  ((M5 0 16) = (M4 0 16) → (((M5 0 17) = (M4 0 17) → (P_M_forged_69 post (0 : Int32) M5)) ∧
  (¬ (M5 0 17) = (M4 0 17) → (P_M_forged_64 post M5))))) x1 x2 x3 M4) x1 x2 M3) M2)) ∧
  (¬ r2 = 0 → (post (0 : Int32) M2))) x1 x3 M1
theorem k_M_forged {X : FX} {g : GT} {A : Nat → Prop} {Z : State → Prop} {post : Int32 → Mem → Prop} (C : Cx X g layM A cX12_forged 6 RX12 7) (hr : 0 ≤ X.2.2.2.1.cells ∧ 0 ≤ X.2.2.2.1.slots) (hR : RetZ X g layM A cX12_forged 6 0 0 Z post) (x1 x2 x3 : Int32) (M : Mem) (h : P_M_forged post x1 x2 x3 M) : AtX X g layM A 6 0 0 Z 0 [(0, .ref (ad g 0)), (1, .int x1), (2, .int x2), (3, .int x3)] [] M := by
  refine a_aload_n C (tk T_cX12_forged 0 rfl) rfl ?_
  refine a_iconst C (0 : Int32) (tk T_cX12_forged 1 rfl) kI_0 ?_
  refine a_put C f_RX12_3 f_RX12_3p rfl rfl (tk T_cX12_forged 2 rfl) lm0 rfl ?_
  refine a_mem (fun M1 e_M1 => ?_)
  have h := h M1 e_M1
  refine a_aload_n C (tk T_cX12_forged 3 rfl) rfl ?_
  refine a_iload_n C (tk T_cX12_forged 4 rfl) rfl ?_
  refine a_iload_n C (tk T_cX12_forged 5 rfl) rfl ?_
  refine a_callI C [.int x1, .int x3] me_yX12_noChance lk_RX12_263 (ct_M_noChance h) (by decide) lm0 rfl rfl rfl (Nat.le_of_ble_eq_true rfl) (tk T_cX12_forged 6 rfl) hr (fun r2 M2 h => ?_)
  refine a_if_eq C 16 (tk T_cX12_forged 7 rfl) rfl (fun c => ?_) (fun c => ?_)
  · have h := h.1 c
    refine a_aload_n C (tk T_cX12_forged 10 rfl) rfl ?_
    refine a_callV C [] me_yX12_spans lk_RX12_197 (ct_M_spans h) (by decide) lm0 rfl rfl rfl (Nat.le_of_ble_eq_true rfl) (tk T_cX12_forged 11 rfl) hr (fun M3 h => ?_)
    refine a_aload_n C (tk T_cX12_forged 12 rfl) rfl ?_
    refine a_iload_n C (tk T_cX12_forged 13 rfl) rfl ?_
    refine a_iload_n C (tk T_cX12_forged 14 rfl) rfl ?_
    refine a_callI C [.int x1, .int x2] me_yX12_greatestChance lk_RX12_269 (ct_M_greatestChance h) (by decide) lm0 rfl rfl rfl (Nat.le_of_ble_eq_true rfl) (tk T_cX12_forged 15 rfl) hr (fun r4 M4 h => ?_)
    refine a_popi C (tk T_cX12_forged 16 rfl) ?_
    refine a_aload_n C (tk T_cX12_forged 17 rfl) rfl ?_
    refine a_getI C f_RX12_254 (tk T_cX12_forged 18 rfl) lm0 rfl ?_
    refine a_istore C (tk T_cX12_forged 19 rfl) (by decide) rfl ?_
    refine a_aload_n C (tk T_cX12_forged 20 rfl) rfl ?_
    refine a_getI C f_RX12_257 (tk T_cX12_forged 21 rfl) lm0 rfl ?_
    refine a_istore C (tk T_cX12_forged 22 rfl) (by decide) rfl ?_
    refine a_aload_n C (tk T_cX12_forged 23 rfl) rfl ?_
    refine a_iload_n C (tk T_cX12_forged 24 rfl) rfl ?_
    refine a_iload_n C (tk T_cX12_forged 25 rfl) rfl ?_
    refine a_iload_n C (tk T_cX12_forged 26 rfl) rfl ?_
    refine a_callV C [.int x1, .int x2, .int x3] me_yX12_chances lk_RX12_266 (ct_M_chances h) (by decide) lm0 rfl rfl rfl (Nat.le_of_ble_eq_true rfl) (tk T_cX12_forged 27 rfl) hr (fun M5 h => ?_)
    refine a_aload_n C (tk T_cX12_forged 28 rfl) rfl ?_
    refine a_getI C f_RX12_254 (tk T_cX12_forged 29 rfl) lm0 rfl ?_
    refine a_iload C (tk T_cX12_forged 30 rfl) rfl ?_
    refine a_icmp_ne C 64 (tk T_cX12_forged 31 rfl) rfl (fun c => ?_) (fun c => ?_)
    · have h := h.1 c
      exact a_to (k_M_forged_64 C hr hR M5 h) rfl
    · have h := h.2 c
      refine a_aload_n C (tk T_cX12_forged 32 rfl) rfl ?_
      refine a_getI C f_RX12_257 (tk T_cX12_forged 33 rfl) lm0 rfl ?_
      refine a_iload C (tk T_cX12_forged 34 rfl) rfl ?_
      refine a_icmp_eq C 68 (tk T_cX12_forged 35 rfl) rfl (fun c => ?_) (fun c => ?_)
      · have h := h.1 c
        refine a_iconst C (0 : Int32) (tk T_cX12_forged 38 rfl) kI_0 ?_
        exact a_to (k_M_forged_69 C hr hR (0 : Int32) M5 h) rfl
      · have h := h.2 c
        exact a_to (k_M_forged_64 C hr hR M5 h) rfl
  · have h := h.2 c
    refine a_iconst C (0 : Int32) (tk T_cX12_forged 8 rfl) kI_0 ?_
    exact hR _ _ _ _ (tk T_cX12_forged 9 rfl) ⟨Or.inl rfl, h⟩
theorem ct_M_forged {l : Launch} {g : GT} {post : Int32 → Mem → Prop} {x1 x2 x3 : Int32} {M : Mem} (h : P_M_forged post x1 x2 x3 M) : CI l g layM yX12_forged cX12_forged 6 (some .boolean) 7 [.ref (ad g 0), .int x1, .int x2, .int x3] M post :=
  cz_of (plainFor_of_name (by decide +kernel)) (Nat.le_of_ble_eq_true rfl) (fun X A Z hl C hr hR => by subst hl; exact k_M_forged C hr hR x1 x2 x3 M h)
def T_cX12_sumsL : List (Nat × Instr × Nat) := [(0, .aload_n 0, 1), (1, .iconst 0, 1), (2, .putfield 3, 3), (5, .aload_n 0, 1), (6, .aload_n 0, 1), (7, .iload_n 1, 1), (8, .bipush 8, 2), (10, .invokevirtual 121, 3), (13, .iconst 1, 1), (14, .invokevirtual 72, 3), (17, .ifCond .ne 27, 3), (20, .aload_n 0, 1), (21, .iload_n 3, 1), (22, .iconst 0, 1), (23, .sipush 999, 3), (26, .invokestatic 58, 3), (29, .ifCond .ne 7, 3), (32, .iconst 1, 1), (33, .goto 4, 3), (36, .iconst 0, 1), (37, .iconst 2, 1), (38, .invokevirtual 72, 3), (41, .ifCond .eq 5, 3), (44, .iconst 0, 1), (45, .ireturn, 1), (46, .aload_n 0, 1), (47, .invokevirtual 197, 3), (50, .aload_n 0, 1), (51, .iload_n 1, 1), (52, .iload_n 2, 1), (53, .invokevirtual 237, 3), (56, .iconst 0, 1), (57, .istore 4, 2), (59, .iconst 0, 1), (60, .istore 5, 2), (62, .iload 5, 2), (64, .aload_n 0, 1), (65, .getfield 230, 3), (68, .if_icmp .ge 145, 3), (71, .iconst 0, 1), (72, .istore 6, 2), (74, .iload 6, 2), (76, .iload 5, 2), (78, .if_icmp .ge 129, 3), (81, .iconst 0, 1), (82, .istore 7, 2), (84, .iload 7, 2), (86, .iload 6, 2), (88, .if_icmp .ge 113, 3), (91, .aload_n 0, 1), (92, .getfield 32, 3), (95, .iload 5, 2), (97, .iaload, 1), (98, .aload_n 0, 1), (99, .getfield 32, 3), (102, .iload 6, 2), (104, .iaload, 1), (105, .iadd, 1), (106, .aload_n 0, 1), (107, .getfield 32, 3), (110, .iload 7, 2), (112, .iaload, 1), (113, .iadd, 1), (114, .istore 8, 2), (116, .iload 8, 2), (118, .iconst 2, 1), (119, .aload_n 0, 1), (120, .getfield 32, 3), (123, .iload 5, 2), (125, .iaload, 1), (126, .imul, 1), (127, .isub, 1), (128, .invokestatic 87, 3), (131, .iload_n 3, 1), (132, .if_icmp .le 41, 3), (135, .iload 8, 2), (137, .iconst 2, 1), (138, .aload_n 0, 1), (139, .getfield 32, 3), (142, .iload 6, 2), (144, .iaload, 1), (145, .imul, 1), (146, .isub, 1), (147, .invokestatic 87, 3), (150, .iload_n 3, 1), (151, .if_icmp .le 22, 3), (154, .iload 8, 2), (156, .iconst 2, 1), (157, .aload_n 0, 1), (158, .getfield 32, 3), (161, .iload 7, 2), (163, .iaload, 1), (164, .imul, 1), (165, .isub, 1), (166, .invokestatic 87, 3), (169, .iload_n 3, 1), (170, .if_icmp .gt 7, 3), (173, .iconst 1, 1), (174, .goto 4, 3), (177, .iconst 0, 1), (178, .istore 9, 2), (180, .iload 4, 2), (182, .iload 9, 2), (184, .ifCond .eq 7, 3), (187, .iconst 1, 1), (188, .goto 4, 3), (191, .iconst 0, 1), (192, .iadd, 1), (193, .istore 4, 2), (195, .iinc 7 1, 3), (198, .goto (-114), 3), (201, .iinc 6 1, 3), (204, .goto (-130), 3), (207, .iinc 5 1, 3), (210, .goto (-148), 3), (213, .iload 4, 2), (215, .ireturn, 1)]
theorem T_cX12_sums : tabOK cX12_sums T_cX12_sumsL = true := by decide +kernel
def P_M_sums_192 (post : Int32 → Mem → Prop) (R62 : Int32 → Int32 → Int32 → Mem → Prop) (R74 : Int32 → Int32 → Int32 → Int32 → Mem → Prop) (R84 : Int32 → Int32 → Int32 → Int32 → Int32 → Mem → Prop) (x3 x5 x6 x7 s0 s1 : Int32) (M : Mem) : Prop :=
  ∀ x4_1, x4_1 = (s0 + s1) → R84 x3 x4_1 x5 x6 (x7 + (1 : Int32)) M
theorem k_M_sums_192 {X : FX} {g : GT} {A : Nat → Prop} {Z : State → Prop} {post : Int32 → Mem → Prop} {R62 : Int32 → Int32 → Int32 → Mem → Prop} {R74 : Int32 → Int32 → Int32 → Int32 → Mem → Prop} {R84 : Int32 → Int32 → Int32 → Int32 → Int32 → Mem → Prop} (C : Cx X g layM A cX12_sums 10 RX12 5) (hr : 0 ≤ X.2.2.2.1.cells ∧ 0 ≤ X.2.2.2.1.slots) (hR : RetI X g layM A cX12_sums 10 0 0 Z post) (k62 : ∀ (y3 y4 y5 : Int32) (M : Mem), R62 y3 y4 y5 M → AtX X g layM A 10 0 0 Z 62 [(0, .ref (ad g 0)), (3, .int y3), (4, .int y4), (5, .int y5)] [] M) (k74 : ∀ (y3 y4 y5 y6 : Int32) (M : Mem), R74 y3 y4 y5 y6 M → AtX X g layM A 10 0 0 Z 74 [(0, .ref (ad g 0)), (3, .int y3), (4, .int y4), (5, .int y5), (6, .int y6)] [] M) (k84 : ∀ (y3 y4 y5 y6 y7 : Int32) (M : Mem), R84 y3 y4 y5 y6 y7 M → AtX X g layM A 10 0 0 Z 84 [(0, .ref (ad g 0)), (3, .int y3), (4, .int y4), (5, .int y5), (6, .int y6), (7, .int y7)] [] M) (x3 x5 x6 x7 s0 s1 : Int32) (M : Mem) (h : P_M_sums_192 post R62 R74 R84 x3 x5 x6 x7 s0 s1 M) : AtX X g layM A 10 0 0 Z 192 [(0, .ref (ad g 0)), (3, .int x3), (5, .int x5), (6, .int x6), (7, .int x7)] [.int s1, .int s0] M := by
  refine a_iadd C (tk T_cX12_sums 107 rfl) ?_
  refine a_top (fun x4_1 e_x4_1 => ?_)
  have h := h x4_1 e_x4_1
  refine a_istore C (tk T_cX12_sums 108 rfl) (by decide) rfl ?_
  refine a_iinc C (1 : Int32) (tk T_cX12_sums 109 rfl) rfl kI_1 (by decide) rfl ?_
  refine a_goto C 84 (tk T_cX12_sums 110 rfl) rfl ?_
  exact a_to (k84 x3 x4_1 x5 x6 (x7 + (1 : Int32)) M h) rfl
def P_M_sums_178 (post : Int32 → Mem → Prop) (R62 : Int32 → Int32 → Int32 → Mem → Prop) (R74 : Int32 → Int32 → Int32 → Int32 → Mem → Prop) (R84 : Int32 → Int32 → Int32 → Int32 → Int32 → Mem → Prop) (x3 x4 x5 x6 x7 s0 : Int32) (M : Mem) : Prop :=
  (s0 = 0 → (P_M_sums_192 post R62 R74 R84 x3 x5 x6 x7 x4 (0 : Int32) M)) ∧
  (¬ s0 = 0 → (P_M_sums_192 post R62 R74 R84 x3 x5 x6 x7 x4 (1 : Int32) M))
theorem k_M_sums_178 {X : FX} {g : GT} {A : Nat → Prop} {Z : State → Prop} {post : Int32 → Mem → Prop} {R62 : Int32 → Int32 → Int32 → Mem → Prop} {R74 : Int32 → Int32 → Int32 → Int32 → Mem → Prop} {R84 : Int32 → Int32 → Int32 → Int32 → Int32 → Mem → Prop} (C : Cx X g layM A cX12_sums 10 RX12 5) (hr : 0 ≤ X.2.2.2.1.cells ∧ 0 ≤ X.2.2.2.1.slots) (hR : RetI X g layM A cX12_sums 10 0 0 Z post) (k62 : ∀ (y3 y4 y5 : Int32) (M : Mem), R62 y3 y4 y5 M → AtX X g layM A 10 0 0 Z 62 [(0, .ref (ad g 0)), (3, .int y3), (4, .int y4), (5, .int y5)] [] M) (k74 : ∀ (y3 y4 y5 y6 : Int32) (M : Mem), R74 y3 y4 y5 y6 M → AtX X g layM A 10 0 0 Z 74 [(0, .ref (ad g 0)), (3, .int y3), (4, .int y4), (5, .int y5), (6, .int y6)] [] M) (k84 : ∀ (y3 y4 y5 y6 y7 : Int32) (M : Mem), R84 y3 y4 y5 y6 y7 M → AtX X g layM A 10 0 0 Z 84 [(0, .ref (ad g 0)), (3, .int y3), (4, .int y4), (5, .int y5), (6, .int y6), (7, .int y7)] [] M) (x3 x4 x5 x6 x7 s0 : Int32) (M : Mem) (h : P_M_sums_178 post R62 R74 R84 x3 x4 x5 x6 x7 s0 M) : AtX X g layM A 10 0 0 Z 178 [(0, .ref (ad g 0)), (3, .int x3), (4, .int x4), (5, .int x5), (6, .int x6), (7, .int x7)] [.int s0] M := by
  refine a_istore C (tk T_cX12_sums 100 rfl) (by decide) rfl ?_
  refine a_iload C (tk T_cX12_sums 101 rfl) rfl ?_
  refine a_iload C (tk T_cX12_sums 102 rfl) rfl ?_
  refine a_if_eq C 191 (tk T_cX12_sums 103 rfl) rfl (fun c => ?_) (fun c => ?_)
  · have h := h.1 c
    refine a_iconst C (0 : Int32) (tk T_cX12_sums 106 rfl) kI_0 ?_
    exact a_to (k_M_sums_192 C hr hR k62 k74 k84 x3 x5 x6 x7 x4 (0 : Int32) M h) rfl
  · have h := h.2 c
    refine a_iconst C (1 : Int32) (tk T_cX12_sums 104 rfl) kI_1 ?_
    refine a_goto C 192 (tk T_cX12_sums 105 rfl) rfl ?_
    exact a_to (k_M_sums_192 C hr hR k62 k74 k84 x3 x5 x6 x7 x4 (1 : Int32) M h) rfl
def P_M_sums_173 (post : Int32 → Mem → Prop) (R62 : Int32 → Int32 → Int32 → Mem → Prop) (R74 : Int32 → Int32 → Int32 → Int32 → Mem → Prop) (R84 : Int32 → Int32 → Int32 → Int32 → Int32 → Mem → Prop) (x3 x4 x5 x6 x7 : Int32) (M : Mem) : Prop :=
  P_M_sums_178 post R62 R74 R84 x3 x4 x5 x6 x7 (1 : Int32) M
theorem k_M_sums_173 {X : FX} {g : GT} {A : Nat → Prop} {Z : State → Prop} {post : Int32 → Mem → Prop} {R62 : Int32 → Int32 → Int32 → Mem → Prop} {R74 : Int32 → Int32 → Int32 → Int32 → Mem → Prop} {R84 : Int32 → Int32 → Int32 → Int32 → Int32 → Mem → Prop} (C : Cx X g layM A cX12_sums 10 RX12 5) (hr : 0 ≤ X.2.2.2.1.cells ∧ 0 ≤ X.2.2.2.1.slots) (hR : RetI X g layM A cX12_sums 10 0 0 Z post) (k62 : ∀ (y3 y4 y5 : Int32) (M : Mem), R62 y3 y4 y5 M → AtX X g layM A 10 0 0 Z 62 [(0, .ref (ad g 0)), (3, .int y3), (4, .int y4), (5, .int y5)] [] M) (k74 : ∀ (y3 y4 y5 y6 : Int32) (M : Mem), R74 y3 y4 y5 y6 M → AtX X g layM A 10 0 0 Z 74 [(0, .ref (ad g 0)), (3, .int y3), (4, .int y4), (5, .int y5), (6, .int y6)] [] M) (k84 : ∀ (y3 y4 y5 y6 y7 : Int32) (M : Mem), R84 y3 y4 y5 y6 y7 M → AtX X g layM A 10 0 0 Z 84 [(0, .ref (ad g 0)), (3, .int y3), (4, .int y4), (5, .int y5), (6, .int y6), (7, .int y7)] [] M) (x3 x4 x5 x6 x7 : Int32) (M : Mem) (h : P_M_sums_173 post R62 R74 R84 x3 x4 x5 x6 x7 M) : AtX X g layM A 10 0 0 Z 173 [(0, .ref (ad g 0)), (3, .int x3), (4, .int x4), (5, .int x5), (6, .int x6), (7, .int x7)] [] M := by
  refine a_iconst C (1 : Int32) (tk T_cX12_sums 97 rfl) kI_1 ?_
  refine a_goto C 178 (tk T_cX12_sums 98 rfl) rfl ?_
  exact a_to (k_M_sums_178 C hr hR k62 k74 k84 x3 x4 x5 x6 x7 (1 : Int32) M h) rfl
def P_M_sums_84 (post : Int32 → Mem → Prop) (R62 : Int32 → Int32 → Int32 → Mem → Prop) (R74 : Int32 → Int32 → Int32 → Int32 → Mem → Prop) : Nat → Int32 → Int32 → Int32 → Int32 → Int32 → Mem → Prop
  | 0, _, _, _, _, _, _ => False
  | n + 1, x3, x4, x5, x6, x7, M =>
    (x6 ≤ x7 → (R74 x3 x4 x5 (x6 + (1 : Int32)) M)) ∧
  (¬ x6 ≤ x7 → (vp_in x5 10 ∧ vp_in x6 10 ∧ vp_in x7 10 ∧ ∀ v1, v1 = (((M 7 x5.toNatClampNeg) + (M 7 x6.toNatClampNeg)) + (M 7 x7.toNatClampNeg)) → vp_in x5 10 ∧ P_Math_abs (fun r2 M2 =>
  (r2 ≤ x3 → (P_M_sums_173 post R62 R74 (P_M_sums_84 post R62 R74 n) x3 x4 x5 x6 x7 M2)) ∧
  (¬ r2 ≤ x3 → (vp_in x6 10 ∧ P_Math_abs (fun r3 M3 =>
  (r3 ≤ x3 → (P_M_sums_173 post R62 R74 (P_M_sums_84 post R62 R74 n) x3 x4 x5 x6 x7 M3)) ∧
  (¬ r3 ≤ x3 → (vp_in x7 10 ∧ P_Math_abs (fun r4 M4 =>
  (x3 < r4 → (P_M_sums_178 post R62 R74 (P_M_sums_84 post R62 R74 n) x3 x4 x5 x6 x7 (0 : Int32) M4)) ∧
  (¬ x3 < r4 → (P_M_sums_173 post R62 R74 (P_M_sums_84 post R62 R74 n) x3 x4 x5 x6 x7 M4))) (v1 - ((2 : Int32) * (M3 7 x7.toNatClampNeg))) M3))) (v1 - ((2 : Int32) * (M2 7 x6.toNatClampNeg))) M2))) (v1 - ((2 : Int32) * (M 7 x5.toNatClampNeg))) M))
theorem k_M_sums_84 {X : FX} {g : GT} {A : Nat → Prop} {Z : State → Prop} {post : Int32 → Mem → Prop} {R62 : Int32 → Int32 → Int32 → Mem → Prop} {R74 : Int32 → Int32 → Int32 → Int32 → Mem → Prop} (C : Cx X g layM A cX12_sums 10 RX12 5) (hr : 0 ≤ X.2.2.2.1.cells ∧ 0 ≤ X.2.2.2.1.slots) (hR : RetI X g layM A cX12_sums 10 0 0 Z post) (k62 : ∀ (y3 y4 y5 : Int32) (M : Mem), R62 y3 y4 y5 M → AtX X g layM A 10 0 0 Z 62 [(0, .ref (ad g 0)), (3, .int y3), (4, .int y4), (5, .int y5)] [] M) (k74 : ∀ (y3 y4 y5 y6 : Int32) (M : Mem), R74 y3 y4 y5 y6 M → AtX X g layM A 10 0 0 Z 74 [(0, .ref (ad g 0)), (3, .int y3), (4, .int y4), (5, .int y5), (6, .int y6)] [] M) : ∀ (n : Nat) (x3 x4 x5 x6 x7 : Int32) (M : Mem), P_M_sums_84 post R62 R74 n x3 x4 x5 x6 x7 M → AtX X g layM A 10 0 0 Z 84 [(0, .ref (ad g 0)), (3, .int x3), (4, .int x4), (5, .int x5), (6, .int x6), (7, .int x7)] [] M := by
  intro n
  induction n with
  | zero =>
    intro x3 x4 x5 x6 x7 M h
    exact h.elim
  | succ n ih =>
    intro x3 x4 x5 x6 x7 M h
    refine a_iload C (tk T_cX12_sums 46 rfl) rfl ?_
    refine a_iload C (tk T_cX12_sums 47 rfl) rfl ?_
    refine a_icmp_ge C 201 (tk T_cX12_sums 48 rfl) rfl (fun c => ?_) (fun c => ?_)
    · have h := h.1 c
      refine a_iinc C (1 : Int32) (tk T_cX12_sums 111 rfl) rfl kI_1 (by decide) rfl ?_
      refine a_goto C 74 (tk T_cX12_sums 112 rfl) rfl ?_
      exact a_to (k74 x3 x4 x5 (x6 + (1 : Int32)) M h) rfl
    · have h := h.2 c
      refine a_aload_n C (tk T_cX12_sums 49 rfl) rfl ?_
      refine a_getR C f_RX12_32 (tk T_cX12_sums 50 rfl) lm0 rfl ?_
      refine a_iload C (tk T_cX12_sums 51 rfl) rfl ?_
      obtain ⟨hb, h⟩ := h
      refine a_iald C (tk T_cX12_sums 52 rfl) lm7 hb ?_
      refine a_aload_n C (tk T_cX12_sums 53 rfl) rfl ?_
      refine a_getR C f_RX12_32 (tk T_cX12_sums 54 rfl) lm0 rfl ?_
      refine a_iload C (tk T_cX12_sums 55 rfl) rfl ?_
      obtain ⟨hb, h⟩ := h
      refine a_iald C (tk T_cX12_sums 56 rfl) lm7 hb ?_
      refine a_iadd C (tk T_cX12_sums 57 rfl) ?_
      refine a_aload_n C (tk T_cX12_sums 58 rfl) rfl ?_
      refine a_getR C f_RX12_32 (tk T_cX12_sums 59 rfl) lm0 rfl ?_
      refine a_iload C (tk T_cX12_sums 60 rfl) rfl ?_
      obtain ⟨hb, h⟩ := h
      refine a_iald C (tk T_cX12_sums 61 rfl) lm7 hb ?_
      refine a_iadd C (tk T_cX12_sums 62 rfl) ?_
      refine a_top (fun v1 e_v1 => ?_)
      have h := h v1 e_v1
      refine a_istore C (tk T_cX12_sums 63 rfl) (by decide) rfl ?_
      refine a_iload C (tk T_cX12_sums 64 rfl) rfl ?_
      refine a_iconst C (2 : Int32) (tk T_cX12_sums 65 rfl) kI_2 ?_
      refine a_aload_n C (tk T_cX12_sums 66 rfl) rfl ?_
      refine a_getR C f_RX12_32 (tk T_cX12_sums 67 rfl) lm0 rfl ?_
      refine a_iload C (tk T_cX12_sums 68 rfl) rfl ?_
      obtain ⟨hb, h⟩ := h
      refine a_iald C (tk T_cX12_sums 69 rfl) lm7 hb ?_
      refine a_imul C (tk T_cX12_sums 70 rfl) ?_
      refine a_isub C (tk T_cX12_sums 71 rfl) ?_
      refine a_statI C [.int (v1 - ((2 : Int32) * (M 7 x5.toNatClampNeg)))] me_yJ9_abs_0f7a4 lk_RX12_87 (ct_Math_abs h) (by decide) rfl rfl (Nat.le_of_ble_eq_true rfl) (tk T_cX12_sums 72 rfl) hr (fun r2 M2 h => ?_)
      refine a_iload_n C (tk T_cX12_sums 73 rfl) rfl ?_
      refine a_icmp_le C 173 (tk T_cX12_sums 74 rfl) rfl (fun c => ?_) (fun c => ?_)
      · have h := h.1 c
        exact a_to (k_M_sums_173 C hr hR k62 k74 ih x3 x4 x5 x6 x7 M2 h) rfl
      · have h := h.2 c
        refine a_iload C (tk T_cX12_sums 75 rfl) rfl ?_
        refine a_iconst C (2 : Int32) (tk T_cX12_sums 76 rfl) kI_2 ?_
        refine a_aload_n C (tk T_cX12_sums 77 rfl) rfl ?_
        refine a_getR C f_RX12_32 (tk T_cX12_sums 78 rfl) lm0 rfl ?_
        refine a_iload C (tk T_cX12_sums 79 rfl) rfl ?_
        obtain ⟨hb, h⟩ := h
        refine a_iald C (tk T_cX12_sums 80 rfl) lm7 hb ?_
        refine a_imul C (tk T_cX12_sums 81 rfl) ?_
        refine a_isub C (tk T_cX12_sums 82 rfl) ?_
        refine a_statI C [.int (v1 - ((2 : Int32) * (M2 7 x6.toNatClampNeg)))] me_yJ9_abs_0f7a4 lk_RX12_87 (ct_Math_abs h) (by decide) rfl rfl (Nat.le_of_ble_eq_true rfl) (tk T_cX12_sums 83 rfl) hr (fun r3 M3 h => ?_)
        refine a_iload_n C (tk T_cX12_sums 84 rfl) rfl ?_
        refine a_icmp_le C 173 (tk T_cX12_sums 85 rfl) rfl (fun c => ?_) (fun c => ?_)
        · have h := h.1 c
          exact a_to (k_M_sums_173 C hr hR k62 k74 ih x3 x4 x5 x6 x7 M3 h) rfl
        · have h := h.2 c
          refine a_iload C (tk T_cX12_sums 86 rfl) rfl ?_
          refine a_iconst C (2 : Int32) (tk T_cX12_sums 87 rfl) kI_2 ?_
          refine a_aload_n C (tk T_cX12_sums 88 rfl) rfl ?_
          refine a_getR C f_RX12_32 (tk T_cX12_sums 89 rfl) lm0 rfl ?_
          refine a_iload C (tk T_cX12_sums 90 rfl) rfl ?_
          obtain ⟨hb, h⟩ := h
          refine a_iald C (tk T_cX12_sums 91 rfl) lm7 hb ?_
          refine a_imul C (tk T_cX12_sums 92 rfl) ?_
          refine a_isub C (tk T_cX12_sums 93 rfl) ?_
          refine a_statI C [.int (v1 - ((2 : Int32) * (M3 7 x7.toNatClampNeg)))] me_yJ9_abs_0f7a4 lk_RX12_87 (ct_Math_abs h) (by decide) rfl rfl (Nat.le_of_ble_eq_true rfl) (tk T_cX12_sums 94 rfl) hr (fun r4 M4 h => ?_)
          refine a_iload_n C (tk T_cX12_sums 95 rfl) rfl ?_
          refine a_icmp_gt C 177 (tk T_cX12_sums 96 rfl) rfl (fun c => ?_) (fun c => ?_)
          · have h := h.1 c
            refine a_iconst C (0 : Int32) (tk T_cX12_sums 99 rfl) kI_0 ?_
            exact a_to (k_M_sums_178 C hr hR k62 k74 ih x3 x4 x5 x6 x7 (0 : Int32) M4 h) rfl
          · have h := h.2 c
            exact a_to (k_M_sums_173 C hr hR k62 k74 ih x3 x4 x5 x6 x7 M4 h) rfl
def P_M_sums_74 (post : Int32 → Mem → Prop) (R62 : Int32 → Int32 → Int32 → Mem → Prop) : Nat → Int32 → Int32 → Int32 → Int32 → Mem → Prop
  | 0, _, _, _, _, _ => False
  | n + 1, x3, x4, x5, x6, M =>
    (x5 ≤ x6 → (R62 x3 x4 (x5 + (1 : Int32)) M)) ∧
  (¬ x5 ≤ x6 → (∃ j84, P_M_sums_84 post R62 (P_M_sums_74 post R62 n) j84 x3 x4 x5 x6 (0 : Int32) M))
theorem k_M_sums_74 {X : FX} {g : GT} {A : Nat → Prop} {Z : State → Prop} {post : Int32 → Mem → Prop} {R62 : Int32 → Int32 → Int32 → Mem → Prop} (C : Cx X g layM A cX12_sums 10 RX12 5) (hr : 0 ≤ X.2.2.2.1.cells ∧ 0 ≤ X.2.2.2.1.slots) (hR : RetI X g layM A cX12_sums 10 0 0 Z post) (k62 : ∀ (y3 y4 y5 : Int32) (M : Mem), R62 y3 y4 y5 M → AtX X g layM A 10 0 0 Z 62 [(0, .ref (ad g 0)), (3, .int y3), (4, .int y4), (5, .int y5)] [] M) : ∀ (n : Nat) (x3 x4 x5 x6 : Int32) (M : Mem), P_M_sums_74 post R62 n x3 x4 x5 x6 M → AtX X g layM A 10 0 0 Z 74 [(0, .ref (ad g 0)), (3, .int x3), (4, .int x4), (5, .int x5), (6, .int x6)] [] M := by
  intro n
  induction n with
  | zero =>
    intro x3 x4 x5 x6 M h
    exact h.elim
  | succ n ih =>
    intro x3 x4 x5 x6 M h
    refine a_iload C (tk T_cX12_sums 41 rfl) rfl ?_
    refine a_iload C (tk T_cX12_sums 42 rfl) rfl ?_
    refine a_icmp_ge C 207 (tk T_cX12_sums 43 rfl) rfl (fun c => ?_) (fun c => ?_)
    · have h := h.1 c
      refine a_iinc C (1 : Int32) (tk T_cX12_sums 113 rfl) rfl kI_1 (by decide) rfl ?_
      refine a_goto C 62 (tk T_cX12_sums 114 rfl) rfl ?_
      exact a_to (k62 x3 x4 (x5 + (1 : Int32)) M h) rfl
    · have h := h.2 c
      refine a_iconst C (0 : Int32) (tk T_cX12_sums 44 rfl) kI_0 ?_
      refine a_istore C (tk T_cX12_sums 45 rfl) (by decide) rfl ?_
      obtain ⟨n1, h⟩ := h
      exact a_to (k_M_sums_84 C hr hR k62 ih n1 x3 x4 x5 x6 (0 : Int32) M h) rfl
def P_M_sums_62 (post : Int32 → Mem → Prop) : Nat → Int32 → Int32 → Int32 → Mem → Prop
  | 0, _, _, _, _ => False
  | n + 1, x3, x4, x5, M =>
    ((M 0 14) ≤ x5 → (post x4 M)) ∧
  (¬ (M 0 14) ≤ x5 → (∃ j74, P_M_sums_74 post (P_M_sums_62 post n) j74 x3 x4 x5 (0 : Int32) M))
theorem k_M_sums_62 {X : FX} {g : GT} {A : Nat → Prop} {Z : State → Prop} {post : Int32 → Mem → Prop} (C : Cx X g layM A cX12_sums 10 RX12 5) (hr : 0 ≤ X.2.2.2.1.cells ∧ 0 ≤ X.2.2.2.1.slots) (hR : RetI X g layM A cX12_sums 10 0 0 Z post) : ∀ (n : Nat) (x3 x4 x5 : Int32) (M : Mem), P_M_sums_62 post n x3 x4 x5 M → AtX X g layM A 10 0 0 Z 62 [(0, .ref (ad g 0)), (3, .int x3), (4, .int x4), (5, .int x5)] [] M := by
  intro n
  induction n with
  | zero =>
    intro x3 x4 x5 M h
    exact h.elim
  | succ n ih =>
    intro x3 x4 x5 M h
    refine a_iload C (tk T_cX12_sums 35 rfl) rfl ?_
    refine a_aload_n C (tk T_cX12_sums 36 rfl) rfl ?_
    refine a_getI C f_RX12_230 (tk T_cX12_sums 37 rfl) lm0 rfl ?_
    refine a_icmp_ge C 213 (tk T_cX12_sums 38 rfl) rfl (fun c => ?_) (fun c => ?_)
    · have h := h.1 c
      refine a_iload C (tk T_cX12_sums 115 rfl) rfl ?_
      exact hR _ _ _ _ (tk T_cX12_sums 116 rfl) h
    · have h := h.2 c
      refine a_iconst C (0 : Int32) (tk T_cX12_sums 39 rfl) kI_0 ?_
      refine a_istore C (tk T_cX12_sums 40 rfl) (by decide) rfl ?_
      obtain ⟨n1, h⟩ := h
      exact a_to (k_M_sums_74 C hr hR ih n1 x3 x4 x5 (0 : Int32) M h) rfl
def P_M_sums_44 (post : Int32 → Mem → Prop) (M : Mem) : Prop :=
  post (0 : Int32) M
theorem k_M_sums_44 {X : FX} {g : GT} {A : Nat → Prop} {Z : State → Prop} {post : Int32 → Mem → Prop} (C : Cx X g layM A cX12_sums 10 RX12 5) (hr : 0 ≤ X.2.2.2.1.cells ∧ 0 ≤ X.2.2.2.1.slots) (hR : RetI X g layM A cX12_sums 10 0 0 Z post)  (M : Mem) (h : P_M_sums_44 post M) : AtX X g layM A 10 0 0 Z 44 [] [] M := by
  refine a_iconst C (0 : Int32) (tk T_cX12_sums 23 rfl) kI_0 ?_
  exact hR _ _ _ _ (tk T_cX12_sums 24 rfl) h
def P_M_sums_37 (post : Int32 → Mem → Prop) (x1 x2 x3 s1 : Int32) (M : Mem) : Prop :=
  P_M_throwsIf (fun r1 M1 =>
  (r1 = 0 → (P_M_spans (fun M2 =>
  P_M_gathers (fun M3 =>
  ∃ j62, P_M_sums_62 post j62 x3 (0 : Int32) (0 : Int32) M3) x1 x2 M2) M1)) ∧
  (¬ r1 = 0 → (P_M_sums_44 post M1))) s1 (2 : Int32) M
theorem k_M_sums_37 {X : FX} {g : GT} {A : Nat → Prop} {Z : State → Prop} {post : Int32 → Mem → Prop} (C : Cx X g layM A cX12_sums 10 RX12 5) (hr : 0 ≤ X.2.2.2.1.cells ∧ 0 ≤ X.2.2.2.1.slots) (hR : RetI X g layM A cX12_sums 10 0 0 Z post) (x1 x2 x3 s1 : Int32) (M : Mem) (h : P_M_sums_37 post x1 x2 x3 s1 M) : AtX X g layM A 10 0 0 Z 37 [(0, .ref (ad g 0)), (1, .int x1), (2, .int x2), (3, .int x3)] [.int s1, .ref (ad g 0)] M := by
  refine a_iconst C (2 : Int32) (tk T_cX12_sums 20 rfl) kI_2 ?_
  refine a_callI C [.int s1, .int (2 : Int32)] me_yX12_throwsIf lk_RX12_72 (ct_M_throwsIf h) (by decide) lm0 rfl rfl rfl (Nat.le_of_ble_eq_true rfl) (tk T_cX12_sums 21 rfl) hr (fun r1 M1 h => ?_)
  refine a_if_eq C 46 (tk T_cX12_sums 22 rfl) rfl (fun c => ?_) (fun c => ?_)
  · have h := h.1 c
    refine a_aload_n C (tk T_cX12_sums 25 rfl) rfl ?_
    refine a_callV C [] me_yX12_spans lk_RX12_197 (ct_M_spans h) (by decide) lm0 rfl rfl rfl (Nat.le_of_ble_eq_true rfl) (tk T_cX12_sums 26 rfl) hr (fun M2 h => ?_)
    refine a_aload_n C (tk T_cX12_sums 27 rfl) rfl ?_
    refine a_iload_n C (tk T_cX12_sums 28 rfl) rfl ?_
    refine a_iload_n C (tk T_cX12_sums 29 rfl) rfl ?_
    refine a_callV C [.int x1, .int x2] me_yX12_gathers lk_RX12_237 (ct_M_gathers h) (by decide) lm0 rfl rfl rfl (Nat.le_of_ble_eq_true rfl) (tk T_cX12_sums 30 rfl) hr (fun M3 h => ?_)
    refine a_iconst C (0 : Int32) (tk T_cX12_sums 31 rfl) kI_0 ?_
    refine a_istore C (tk T_cX12_sums 32 rfl) (by decide) rfl ?_
    refine a_iconst C (0 : Int32) (tk T_cX12_sums 33 rfl) kI_0 ?_
    refine a_istore C (tk T_cX12_sums 34 rfl) (by decide) rfl ?_
    obtain ⟨n1, h⟩ := h
    exact a_to (k_M_sums_62 C hr hR n1 x3 (0 : Int32) (0 : Int32) M3 h) rfl
  · have h := h.2 c
    exact a_to (k_M_sums_44 C hr hR M1 h) rfl
def P_M_sums (post : Int32 → Mem → Prop) (x1 x2 x3 : Int32) (M : Mem) : Prop :=
  ∀ M1, M1 = ms M 0 0 (0 : Int32) → P_M_none (fun r2 M2 =>
  P_M_throwsIf (fun r3 M3 =>
  (¬ r3 = 0 → (P_M_sums_44 post M3)) ∧
  (r3 = 0 → (P_M_in (fun r4 M4 =>
  (¬ r4 = 0 → (P_M_sums_37 post x1 x2 x3 (0 : Int32) M4)) ∧
  (r4 = 0 → (P_M_sums_37 post x1 x2 x3 (1 : Int32) M4))) x3 (0 : Int32) (999 : Int32) M3))) r2 (1 : Int32) M2) x1 (8 : Int32) M1
theorem k_M_sums {X : FX} {g : GT} {A : Nat → Prop} {Z : State → Prop} {post : Int32 → Mem → Prop} (C : Cx X g layM A cX12_sums 10 RX12 5) (hr : 0 ≤ X.2.2.2.1.cells ∧ 0 ≤ X.2.2.2.1.slots) (hR : RetI X g layM A cX12_sums 10 0 0 Z post) (x1 x2 x3 : Int32) (M : Mem) (h : P_M_sums post x1 x2 x3 M) : AtX X g layM A 10 0 0 Z 0 [(0, .ref (ad g 0)), (1, .int x1), (2, .int x2), (3, .int x3)] [] M := by
  refine a_aload_n C (tk T_cX12_sums 0 rfl) rfl ?_
  refine a_iconst C (0 : Int32) (tk T_cX12_sums 1 rfl) kI_0 ?_
  refine a_put C f_RX12_3 f_RX12_3p rfl rfl (tk T_cX12_sums 2 rfl) lm0 rfl ?_
  refine a_mem (fun M1 e_M1 => ?_)
  have h := h M1 e_M1
  refine a_aload_n C (tk T_cX12_sums 3 rfl) rfl ?_
  refine a_aload_n C (tk T_cX12_sums 4 rfl) rfl ?_
  refine a_iload_n C (tk T_cX12_sums 5 rfl) rfl ?_
  refine a_bipush C (8 : Int32) (tk T_cX12_sums 6 rfl) kB_8 ?_
  refine a_callI C [.int x1, .int (8 : Int32)] me_yX12_none lk_RX12_121 (ct_M_none h) (by decide) lm0 rfl rfl rfl (Nat.le_of_ble_eq_true rfl) (tk T_cX12_sums 7 rfl) hr (fun r2 M2 h => ?_)
  refine a_iconst C (1 : Int32) (tk T_cX12_sums 8 rfl) kI_1 ?_
  refine a_callI C [.int r2, .int (1 : Int32)] me_yX12_throwsIf lk_RX12_72 (ct_M_throwsIf h) (by decide) lm0 rfl rfl rfl (Nat.le_of_ble_eq_true rfl) (tk T_cX12_sums 9 rfl) hr (fun r3 M3 h => ?_)
  refine a_if_ne C 44 (tk T_cX12_sums 10 rfl) rfl (fun c => ?_) (fun c => ?_)
  · have h := h.1 c
    exact a_to (k_M_sums_44 C hr hR M3 h) rfl
  · have h := h.2 c
    refine a_aload_n C (tk T_cX12_sums 11 rfl) rfl ?_
    refine a_iload_n C (tk T_cX12_sums 12 rfl) rfl ?_
    refine a_iconst C (0 : Int32) (tk T_cX12_sums 13 rfl) kI_0 ?_
    refine a_sipush C (999 : Int32) (tk T_cX12_sums 14 rfl) kS_999 ?_
    refine a_statI C [.int x3, .int (0 : Int32), .int (999 : Int32)] me_yX12_in lk_RX12_58 (ct_M_in h) (by decide) rfl rfl (Nat.le_of_ble_eq_true rfl) (tk T_cX12_sums 15 rfl) hr (fun r4 M4 h => ?_)
    refine a_if_ne C 36 (tk T_cX12_sums 16 rfl) rfl (fun c => ?_) (fun c => ?_)
    · have h := h.1 c
      refine a_iconst C (0 : Int32) (tk T_cX12_sums 19 rfl) kI_0 ?_
      exact a_to (k_M_sums_37 C hr hR x1 x2 x3 (0 : Int32) M4 h) rfl
    · have h := h.2 c
      refine a_iconst C (1 : Int32) (tk T_cX12_sums 17 rfl) kI_1 ?_
      refine a_goto C 37 (tk T_cX12_sums 18 rfl) rfl ?_
      exact a_to (k_M_sums_37 C hr hR x1 x2 x3 (1 : Int32) M4 h) rfl
theorem ct_M_sums {l : Launch} {g : GT} {post : Int32 → Mem → Prop} {x1 x2 x3 : Int32} {M : Mem} (h : P_M_sums post x1 x2 x3 M) : CI l g layM yX12_sums cX12_sums 10 (some .int) 5 [.ref (ad g 0), .int x1, .int x2, .int x3] M post :=
  ci_of (plainFor_of_name (by decide +kernel)) (Nat.le_of_ble_eq_true rfl) (fun X A Z hl C hr hR => by subst hl; exact k_M_sums C hr hR x1 x2 x3 M h)
def T_cX12_grainL : List (Nat × Instr × Nat) := [(0, .aload_n 0, 1), (1, .iconst 0, 1), (2, .putfield 3, 3), (5, .aload_n 0, 1), (6, .aload_n 0, 1), (7, .iload_n 1, 1), (8, .bipush 8, 2), (10, .invokevirtual 121, 3), (13, .iconst 1, 1), (14, .invokevirtual 72, 3), (17, .ifCond .eq 5, 3), (20, .iconst 0, 1), (21, .ireturn, 1), (22, .aload_n 0, 1), (23, .invokevirtual 197, 3), (26, .aload_n 0, 1), (27, .iload_n 1, 1), (28, .iload_n 2, 1), (29, .iconst 0, 1), (30, .invokevirtual 188, 3), (33, .istore_n 3, 1), (34, .iconst 0, 1), (35, .istore 4, 2), (37, .iconst 0, 1), (38, .istore 5, 2), (40, .iload 5, 2), (42, .aload_n 0, 1), (43, .invokevirtual 128, 3), (46, .if_icmp .ge 43, 3), (49, .iload 4, 2), (51, .iload_n 3, 1), (52, .iload 5, 2), (54, .ishr, 1), (55, .iconst 1, 1), (56, .iand, 1), (57, .iconst 1, 1), (58, .if_icmp .ne 21, 3), (61, .aload_n 0, 1), (62, .iload 5, 2), (64, .iconst 3, 1), (65, .invokevirtual 132, 3), (68, .iconst 1, 1), (69, .if_icmp .ne 10, 3), (72, .iconst 1, 1), (73, .iload 5, 2), (75, .ishl, 1), (76, .goto 4, 3), (79, .iconst 0, 1), (80, .ior, 1), (81, .istore 4, 2), (83, .iinc 5 1, 3), (86, .goto (-46), 3), (89, .iload 4, 2), (91, .ireturn, 1)]
theorem T_cX12_grain : tabOK cX12_grain T_cX12_grainL = true := by decide +kernel
def P_M_grain_80 (post : Int32 → Mem → Prop) (R40 : Int32 → Int32 → Int32 → Mem → Prop) (x3 x5 s0 s1 : Int32) (M : Mem) : Prop :=
  ∀ x4_1, x4_1 = (s0 ||| s1) → R40 x3 x4_1 (x5 + (1 : Int32)) M
theorem k_M_grain_80 {X : FX} {g : GT} {A : Nat → Prop} {Z : State → Prop} {post : Int32 → Mem → Prop} {R40 : Int32 → Int32 → Int32 → Mem → Prop} (C : Cx X g layM A cX12_grain 6 RX12 5) (hr : 0 ≤ X.2.2.2.1.cells ∧ 0 ≤ X.2.2.2.1.slots) (hR : RetI X g layM A cX12_grain 6 0 0 Z post) (k40 : ∀ (y3 y4 y5 : Int32) (M : Mem), R40 y3 y4 y5 M → AtX X g layM A 6 0 0 Z 40 [(0, .ref (ad g 0)), (3, .int y3), (4, .int y4), (5, .int y5)] [] M) (x3 x5 s0 s1 : Int32) (M : Mem) (h : P_M_grain_80 post R40 x3 x5 s0 s1 M) : AtX X g layM A 6 0 0 Z 80 [(0, .ref (ad g 0)), (3, .int x3), (5, .int x5)] [.int s1, .int s0] M := by
  refine a_ior C (tk T_cX12_grain 48 rfl) ?_
  refine a_top (fun x4_1 e_x4_1 => ?_)
  have h := h x4_1 e_x4_1
  refine a_istore C (tk T_cX12_grain 49 rfl) (by decide) rfl ?_
  refine a_iinc C (1 : Int32) (tk T_cX12_grain 50 rfl) rfl kI_1 (by decide) rfl ?_
  refine a_goto C 40 (tk T_cX12_grain 51 rfl) rfl ?_
  exact a_to (k40 x3 x4_1 (x5 + (1 : Int32)) M h) rfl
def P_M_grain_79 (post : Int32 → Mem → Prop) (R40 : Int32 → Int32 → Int32 → Mem → Prop) (x3 x5 s0 : Int32) (M : Mem) : Prop :=
  P_M_grain_80 post R40 x3 x5 s0 (0 : Int32) M
theorem k_M_grain_79 {X : FX} {g : GT} {A : Nat → Prop} {Z : State → Prop} {post : Int32 → Mem → Prop} {R40 : Int32 → Int32 → Int32 → Mem → Prop} (C : Cx X g layM A cX12_grain 6 RX12 5) (hr : 0 ≤ X.2.2.2.1.cells ∧ 0 ≤ X.2.2.2.1.slots) (hR : RetI X g layM A cX12_grain 6 0 0 Z post) (k40 : ∀ (y3 y4 y5 : Int32) (M : Mem), R40 y3 y4 y5 M → AtX X g layM A 6 0 0 Z 40 [(0, .ref (ad g 0)), (3, .int y3), (4, .int y4), (5, .int y5)] [] M) (x3 x5 s0 : Int32) (M : Mem) (h : P_M_grain_79 post R40 x3 x5 s0 M) : AtX X g layM A 6 0 0 Z 79 [(0, .ref (ad g 0)), (3, .int x3), (5, .int x5)] [.int s0] M := by
  refine a_iconst C (0 : Int32) (tk T_cX12_grain 47 rfl) kI_0 ?_
  exact a_to (k_M_grain_80 C hr hR k40 x3 x5 s0 (0 : Int32) M h) rfl
def P_M_grain_40 (post : Int32 → Mem → Prop) : Nat → Int32 → Int32 → Int32 → Mem → Prop
  | 0, _, _, _, _ => False
  | n + 1, x3, x4, x5, M =>
    P_M_readings (fun r1 M1 =>
  (r1 ≤ x5 → (post x4 M1)) ∧
  (¬ r1 ≤ x5 → ((¬ ((x3 >>> (x5 &&& 31)) &&& (1 : Int32)) = (1 : Int32) → (P_M_grain_79 post (P_M_grain_40 post n) x3 x5 x4 M1)) ∧
  (((x3 >>> (x5 &&& 31)) &&& (1 : Int32)) = (1 : Int32) → (P_M_of (fun r2 M2 =>
  (¬ r2 = (1 : Int32) → (P_M_grain_79 post (P_M_grain_40 post n) x3 x5 x4 M2)) ∧
  (r2 = (1 : Int32) → (P_M_grain_80 post (P_M_grain_40 post n) x3 x5 x4 ((1 : Int32) <<< (x5 &&& 31)) M2))) x5 (3 : Int32) M1))))) M
theorem k_M_grain_40 {X : FX} {g : GT} {A : Nat → Prop} {Z : State → Prop} {post : Int32 → Mem → Prop} (C : Cx X g layM A cX12_grain 6 RX12 5) (hr : 0 ≤ X.2.2.2.1.cells ∧ 0 ≤ X.2.2.2.1.slots) (hR : RetI X g layM A cX12_grain 6 0 0 Z post) : ∀ (n : Nat) (x3 x4 x5 : Int32) (M : Mem), P_M_grain_40 post n x3 x4 x5 M → AtX X g layM A 6 0 0 Z 40 [(0, .ref (ad g 0)), (3, .int x3), (4, .int x4), (5, .int x5)] [] M := by
  intro n
  induction n with
  | zero =>
    intro x3 x4 x5 M h
    exact h.elim
  | succ n ih =>
    intro x3 x4 x5 M h
    refine a_iload C (tk T_cX12_grain 25 rfl) rfl ?_
    refine a_aload_n C (tk T_cX12_grain 26 rfl) rfl ?_
    refine a_callI C [] me_yX12_readings lk_RX12_128 (ct_M_readings h) (by decide) lm0 rfl rfl rfl (Nat.le_of_ble_eq_true rfl) (tk T_cX12_grain 27 rfl) hr (fun r1 M1 h => ?_)
    refine a_icmp_ge C 89 (tk T_cX12_grain 28 rfl) rfl (fun c => ?_) (fun c => ?_)
    · have h := h.1 c
      refine a_iload C (tk T_cX12_grain 52 rfl) rfl ?_
      exact hR _ _ _ _ (tk T_cX12_grain 53 rfl) h
    · have h := h.2 c
      refine a_iload C (tk T_cX12_grain 29 rfl) rfl ?_
      refine a_iload_n C (tk T_cX12_grain 30 rfl) rfl ?_
      refine a_iload C (tk T_cX12_grain 31 rfl) rfl ?_
      refine a_ishr C (tk T_cX12_grain 32 rfl) ?_
      refine a_iconst C (1 : Int32) (tk T_cX12_grain 33 rfl) kI_1 ?_
      refine a_iand C (tk T_cX12_grain 34 rfl) ?_
      refine a_iconst C (1 : Int32) (tk T_cX12_grain 35 rfl) kI_1 ?_
      refine a_icmp_ne C 79 (tk T_cX12_grain 36 rfl) rfl (fun c => ?_) (fun c => ?_)
      · have h := h.1 c
        exact a_to (k_M_grain_79 C hr hR ih x3 x5 x4 M1 h) rfl
      · have h := h.2 c
        refine a_aload_n C (tk T_cX12_grain 37 rfl) rfl ?_
        refine a_iload C (tk T_cX12_grain 38 rfl) rfl ?_
        refine a_iconst C (3 : Int32) (tk T_cX12_grain 39 rfl) kI_3 ?_
        refine a_callI C [.int x5, .int (3 : Int32)] me_yX12_of lk_RX12_132 (ct_M_of h) (by decide) lm0 rfl rfl rfl (Nat.le_of_ble_eq_true rfl) (tk T_cX12_grain 40 rfl) hr (fun r2 M2 h => ?_)
        refine a_iconst C (1 : Int32) (tk T_cX12_grain 41 rfl) kI_1 ?_
        refine a_icmp_ne C 79 (tk T_cX12_grain 42 rfl) rfl (fun c => ?_) (fun c => ?_)
        · have h := h.1 c
          exact a_to (k_M_grain_79 C hr hR ih x3 x5 x4 M2 h) rfl
        · have h := h.2 c
          refine a_iconst C (1 : Int32) (tk T_cX12_grain 43 rfl) kI_1 ?_
          refine a_iload C (tk T_cX12_grain 44 rfl) rfl ?_
          refine a_ishl C (tk T_cX12_grain 45 rfl) ?_
          refine a_goto C 80 (tk T_cX12_grain 46 rfl) rfl ?_
          exact a_to (k_M_grain_80 C hr hR ih x3 x5 x4 ((1 : Int32) <<< (x5 &&& 31)) M2 h) rfl
def P_M_grain (post : Int32 → Mem → Prop) (x1 x2 : Int32) (M : Mem) : Prop :=
  ∀ M1, M1 = ms M 0 0 (0 : Int32) → P_M_none (fun r2 M2 =>
  P_M_throwsIf (fun r3 M3 =>
  (r3 = 0 → (P_M_spans (fun M4 =>
  P_M_leftOf (fun r5 M5 =>
  ∃ j40, P_M_grain_40 post j40 r5 (0 : Int32) (0 : Int32) M5) x1 x2 (0 : Int32) M4) M3)) ∧
  (¬ r3 = 0 → (post (0 : Int32) M3))) r2 (1 : Int32) M2) x1 (8 : Int32) M1
theorem k_M_grain {X : FX} {g : GT} {A : Nat → Prop} {Z : State → Prop} {post : Int32 → Mem → Prop} (C : Cx X g layM A cX12_grain 6 RX12 5) (hr : 0 ≤ X.2.2.2.1.cells ∧ 0 ≤ X.2.2.2.1.slots) (hR : RetI X g layM A cX12_grain 6 0 0 Z post) (x1 x2 : Int32) (M : Mem) (h : P_M_grain post x1 x2 M) : AtX X g layM A 6 0 0 Z 0 [(0, .ref (ad g 0)), (1, .int x1), (2, .int x2)] [] M := by
  refine a_aload_n C (tk T_cX12_grain 0 rfl) rfl ?_
  refine a_iconst C (0 : Int32) (tk T_cX12_grain 1 rfl) kI_0 ?_
  refine a_put C f_RX12_3 f_RX12_3p rfl rfl (tk T_cX12_grain 2 rfl) lm0 rfl ?_
  refine a_mem (fun M1 e_M1 => ?_)
  have h := h M1 e_M1
  refine a_aload_n C (tk T_cX12_grain 3 rfl) rfl ?_
  refine a_aload_n C (tk T_cX12_grain 4 rfl) rfl ?_
  refine a_iload_n C (tk T_cX12_grain 5 rfl) rfl ?_
  refine a_bipush C (8 : Int32) (tk T_cX12_grain 6 rfl) kB_8 ?_
  refine a_callI C [.int x1, .int (8 : Int32)] me_yX12_none lk_RX12_121 (ct_M_none h) (by decide) lm0 rfl rfl rfl (Nat.le_of_ble_eq_true rfl) (tk T_cX12_grain 7 rfl) hr (fun r2 M2 h => ?_)
  refine a_iconst C (1 : Int32) (tk T_cX12_grain 8 rfl) kI_1 ?_
  refine a_callI C [.int r2, .int (1 : Int32)] me_yX12_throwsIf lk_RX12_72 (ct_M_throwsIf h) (by decide) lm0 rfl rfl rfl (Nat.le_of_ble_eq_true rfl) (tk T_cX12_grain 9 rfl) hr (fun r3 M3 h => ?_)
  refine a_if_eq C 22 (tk T_cX12_grain 10 rfl) rfl (fun c => ?_) (fun c => ?_)
  · have h := h.1 c
    refine a_aload_n C (tk T_cX12_grain 13 rfl) rfl ?_
    refine a_callV C [] me_yX12_spans lk_RX12_197 (ct_M_spans h) (by decide) lm0 rfl rfl rfl (Nat.le_of_ble_eq_true rfl) (tk T_cX12_grain 14 rfl) hr (fun M4 h => ?_)
    refine a_aload_n C (tk T_cX12_grain 15 rfl) rfl ?_
    refine a_iload_n C (tk T_cX12_grain 16 rfl) rfl ?_
    refine a_iload_n C (tk T_cX12_grain 17 rfl) rfl ?_
    refine a_iconst C (0 : Int32) (tk T_cX12_grain 18 rfl) kI_0 ?_
    refine a_callI C [.int x1, .int x2, .int (0 : Int32)] me_yX12_leftOf lk_RX12_188 (ct_M_leftOf h) (by decide) lm0 rfl rfl rfl (Nat.le_of_ble_eq_true rfl) (tk T_cX12_grain 19 rfl) hr (fun r5 M5 h => ?_)
    refine a_istore_n C (tk T_cX12_grain 20 rfl) (by decide) rfl ?_
    refine a_iconst C (0 : Int32) (tk T_cX12_grain 21 rfl) kI_0 ?_
    refine a_istore C (tk T_cX12_grain 22 rfl) (by decide) rfl ?_
    refine a_iconst C (0 : Int32) (tk T_cX12_grain 23 rfl) kI_0 ?_
    refine a_istore C (tk T_cX12_grain 24 rfl) (by decide) rfl ?_
    obtain ⟨n1, h⟩ := h
    exact a_to (k_M_grain_40 C hr hR n1 r5 (0 : Int32) (0 : Int32) M5 h) rfl
  · have h := h.2 c
    refine a_iconst C (0 : Int32) (tk T_cX12_grain 11 rfl) kI_0 ?_
    exact hR _ _ _ _ (tk T_cX12_grain 12 rfl) h
theorem ct_M_grain {l : Launch} {g : GT} {post : Int32 → Mem → Prop} {x1 x2 : Int32} {M : Mem} (h : P_M_grain post x1 x2 M) : CI l g layM yX12_grain cX12_grain 6 (some .int) 5 [.ref (ad g 0), .int x1, .int x2] M post :=
  ci_of (plainFor_of_name (by decide +kernel)) (Nat.le_of_ble_eq_true rfl) (fun X A Z hl C hr hR => by subst hl; exact k_M_grain C hr hR x1 x2 M h)
def T_cX12_nearL : List (Nat × Instr × Nat) := [(0, .aload_n 0, 1), (1, .iconst 0, 1), (2, .putfield 3, 3), (5, .aload_n 0, 1), (6, .aload_n 0, 1), (7, .iload_n 1, 1), (8, .bipush 7, 2), (10, .invokevirtual 121, 3), (13, .ifCond .ne 13, 3), (16, .aload_n 0, 1), (17, .iload_n 2, 1), (18, .bipush 7, 2), (20, .invokevirtual 121, 3), (23, .ifCond .eq 7, 3), (26, .iconst 1, 1), (27, .goto 4, 3), (30, .iconst 0, 1), (31, .iconst 1, 1), (32, .invokevirtual 72, 3), (35, .ifCond .ne 27, 3), (38, .aload_n 0, 1), (39, .iload_n 3, 1), (40, .iconst 0, 1), (41, .sipush 999, 3), (44, .invokestatic 58, 3), (47, .ifCond .ne 7, 3), (50, .iconst 1, 1), (51, .goto 4, 3), (54, .iconst 0, 1), (55, .iconst 2, 1), (56, .invokevirtual 72, 3), (59, .ifCond .eq 5, 3), (62, .iconst 0, 1), (63, .ireturn, 1), (64, .iconst 0, 1), (65, .istore 4, 2), (67, .iconst 0, 1), (68, .istore 5, 2), (70, .iload 5, 2), (72, .aload_n 0, 1), (73, .iload_n 1, 1), (74, .invokevirtual 125, 3), (77, .if_icmp .ge 80, 3), (80, .iconst 0, 1), (81, .istore 6, 2), (83, .iconst 0, 1), (84, .istore 7, 2), (86, .iload 7, 2), (88, .aload_n 0, 1), (89, .iload_n 2, 1), (90, .invokevirtual 125, 3), (93, .if_icmp .ge 43, 3), (96, .iload 6, 2), (98, .ifCond .ne 25, 3), (101, .aload_n 0, 1), (102, .iload_n 1, 1), (103, .iload 5, 2), (105, .invokevirtual 151, 3), (108, .aload_n 0, 1), (109, .iload_n 2, 1), (110, .iload 7, 2), (112, .invokevirtual 151, 3), (115, .isub, 1), (116, .invokestatic 87, 3), (119, .iload_n 3, 1), (120, .if_icmp .gt 7, 3), (123, .iconst 1, 1), (124, .goto 4, 3), (127, .iconst 0, 1), (128, .istore 6, 2), (130, .iinc 7 1, 3), (133, .goto (-47), 3), (136, .iload 4, 2), (138, .iload 6, 2), (140, .ifCond .eq 7, 3), (143, .iconst 1, 1), (144, .goto 4, 3), (147, .iconst 0, 1), (148, .iadd, 1), (149, .istore 4, 2), (151, .iinc 5 1, 3), (154, .goto (-84), 3), (157, .iload 4, 2), (159, .ireturn, 1)]
theorem T_cX12_near : tabOK cX12_near T_cX12_nearL = true := by decide +kernel
def P_M_near_148 (post : Int32 → Mem → Prop) (R70 : Int32 → Int32 → Int32 → Int32 → Int32 → Mem → Prop) (x1 x2 x3 x5 s0 s1 : Int32) (M : Mem) : Prop :=
  ∀ x4_1, x4_1 = (s0 + s1) → R70 x1 x2 x3 x4_1 (x5 + (1 : Int32)) M
theorem k_M_near_148 {X : FX} {g : GT} {A : Nat → Prop} {Z : State → Prop} {post : Int32 → Mem → Prop} {R70 : Int32 → Int32 → Int32 → Int32 → Int32 → Mem → Prop} (C : Cx X g layM A cX12_near 8 RX12 2) (hr : 0 ≤ X.2.2.2.1.cells ∧ 0 ≤ X.2.2.2.1.slots) (hR : RetI X g layM A cX12_near 8 0 0 Z post) (k70 : ∀ (y1 y2 y3 y4 y5 : Int32) (M : Mem), R70 y1 y2 y3 y4 y5 M → AtX X g layM A 8 0 0 Z 70 [(0, .ref (ad g 0)), (1, .int y1), (2, .int y2), (3, .int y3), (4, .int y4), (5, .int y5)] [] M) (x1 x2 x3 x5 s0 s1 : Int32) (M : Mem) (h : P_M_near_148 post R70 x1 x2 x3 x5 s0 s1 M) : AtX X g layM A 8 0 0 Z 148 [(0, .ref (ad g 0)), (1, .int x1), (2, .int x2), (3, .int x3), (5, .int x5)] [.int s1, .int s0] M := by
  refine a_iadd C (tk T_cX12_near 78 rfl) ?_
  refine a_top (fun x4_1 e_x4_1 => ?_)
  have h := h x4_1 e_x4_1
  refine a_istore C (tk T_cX12_near 79 rfl) (by decide) rfl ?_
  refine a_iinc C (1 : Int32) (tk T_cX12_near 80 rfl) rfl kI_1 (by decide) rfl ?_
  refine a_goto C 70 (tk T_cX12_near 81 rfl) rfl ?_
  exact a_to (k70 x1 x2 x3 x4_1 (x5 + (1 : Int32)) M h) rfl
def P_M_near_128 (post : Int32 → Mem → Prop) (R70 : Int32 → Int32 → Int32 → Int32 → Int32 → Mem → Prop) (R86 : Int32 → Int32 → Int32 → Int32 → Int32 → Int32 → Int32 → Mem → Prop) (x1 x2 x3 x4 x5 x7 s0 : Int32) (M : Mem) : Prop :=
  R86 x1 x2 x3 x4 x5 s0 (x7 + (1 : Int32)) M
theorem k_M_near_128 {X : FX} {g : GT} {A : Nat → Prop} {Z : State → Prop} {post : Int32 → Mem → Prop} {R70 : Int32 → Int32 → Int32 → Int32 → Int32 → Mem → Prop} {R86 : Int32 → Int32 → Int32 → Int32 → Int32 → Int32 → Int32 → Mem → Prop} (C : Cx X g layM A cX12_near 8 RX12 2) (hr : 0 ≤ X.2.2.2.1.cells ∧ 0 ≤ X.2.2.2.1.slots) (hR : RetI X g layM A cX12_near 8 0 0 Z post) (k70 : ∀ (y1 y2 y3 y4 y5 : Int32) (M : Mem), R70 y1 y2 y3 y4 y5 M → AtX X g layM A 8 0 0 Z 70 [(0, .ref (ad g 0)), (1, .int y1), (2, .int y2), (3, .int y3), (4, .int y4), (5, .int y5)] [] M) (k86 : ∀ (y1 y2 y3 y4 y5 y6 y7 : Int32) (M : Mem), R86 y1 y2 y3 y4 y5 y6 y7 M → AtX X g layM A 8 0 0 Z 86 [(0, .ref (ad g 0)), (1, .int y1), (2, .int y2), (3, .int y3), (4, .int y4), (5, .int y5), (6, .int y6), (7, .int y7)] [] M) (x1 x2 x3 x4 x5 x7 s0 : Int32) (M : Mem) (h : P_M_near_128 post R70 R86 x1 x2 x3 x4 x5 x7 s0 M) : AtX X g layM A 8 0 0 Z 128 [(0, .ref (ad g 0)), (1, .int x1), (2, .int x2), (3, .int x3), (4, .int x4), (5, .int x5), (7, .int x7)] [.int s0] M := by
  refine a_istore C (tk T_cX12_near 69 rfl) (by decide) rfl ?_
  refine a_iinc C (1 : Int32) (tk T_cX12_near 70 rfl) rfl kI_1 (by decide) rfl ?_
  refine a_goto C 86 (tk T_cX12_near 71 rfl) rfl ?_
  exact a_to (k86 x1 x2 x3 x4 x5 s0 (x7 + (1 : Int32)) M h) rfl
def P_M_near_123 (post : Int32 → Mem → Prop) (R70 : Int32 → Int32 → Int32 → Int32 → Int32 → Mem → Prop) (R86 : Int32 → Int32 → Int32 → Int32 → Int32 → Int32 → Int32 → Mem → Prop) (x1 x2 x3 x4 x5 x7 : Int32) (M : Mem) : Prop :=
  P_M_near_128 post R70 R86 x1 x2 x3 x4 x5 x7 (1 : Int32) M
theorem k_M_near_123 {X : FX} {g : GT} {A : Nat → Prop} {Z : State → Prop} {post : Int32 → Mem → Prop} {R70 : Int32 → Int32 → Int32 → Int32 → Int32 → Mem → Prop} {R86 : Int32 → Int32 → Int32 → Int32 → Int32 → Int32 → Int32 → Mem → Prop} (C : Cx X g layM A cX12_near 8 RX12 2) (hr : 0 ≤ X.2.2.2.1.cells ∧ 0 ≤ X.2.2.2.1.slots) (hR : RetI X g layM A cX12_near 8 0 0 Z post) (k70 : ∀ (y1 y2 y3 y4 y5 : Int32) (M : Mem), R70 y1 y2 y3 y4 y5 M → AtX X g layM A 8 0 0 Z 70 [(0, .ref (ad g 0)), (1, .int y1), (2, .int y2), (3, .int y3), (4, .int y4), (5, .int y5)] [] M) (k86 : ∀ (y1 y2 y3 y4 y5 y6 y7 : Int32) (M : Mem), R86 y1 y2 y3 y4 y5 y6 y7 M → AtX X g layM A 8 0 0 Z 86 [(0, .ref (ad g 0)), (1, .int y1), (2, .int y2), (3, .int y3), (4, .int y4), (5, .int y5), (6, .int y6), (7, .int y7)] [] M) (x1 x2 x3 x4 x5 x7 : Int32) (M : Mem) (h : P_M_near_123 post R70 R86 x1 x2 x3 x4 x5 x7 M) : AtX X g layM A 8 0 0 Z 123 [(0, .ref (ad g 0)), (1, .int x1), (2, .int x2), (3, .int x3), (4, .int x4), (5, .int x5), (7, .int x7)] [] M := by
  refine a_iconst C (1 : Int32) (tk T_cX12_near 66 rfl) kI_1 ?_
  refine a_goto C 128 (tk T_cX12_near 67 rfl) rfl ?_
  exact a_to (k_M_near_128 C hr hR k70 k86 x1 x2 x3 x4 x5 x7 (1 : Int32) M h) rfl
def P_M_near_86 (post : Int32 → Mem → Prop) (R70 : Int32 → Int32 → Int32 → Int32 → Int32 → Mem → Prop) : Nat → Int32 → Int32 → Int32 → Int32 → Int32 → Int32 → Int32 → Mem → Prop
  | 0, _, _, _, _, _, _, _, _ => False
  | n + 1, x1, x2, x3, x4, x5, x6, x7, M =>
    P_M_lines (fun r1 M1 =>
  (r1 ≤ x7 → ((x6 = 0 → (P_M_near_148 post R70 x1 x2 x3 x5 x4 (0 : Int32) M1)) ∧
  (¬ x6 = 0 → (P_M_near_148 post R70 x1 x2 x3 x5 x4 (1 : Int32) M1)))) ∧
  (¬ r1 ≤ x7 → ((¬ x6 = 0 → (P_M_near_123 post R70 (P_M_near_86 post R70 n) x1 x2 x3 x4 x5 x7 M1)) ∧
  (x6 = 0 → (P_M_waveOf (fun r2 M2 =>
  P_M_waveOf (fun r3 M3 =>
  P_Math_abs (fun r4 M4 =>
  (x3 < r4 → (P_M_near_128 post R70 (P_M_near_86 post R70 n) x1 x2 x3 x4 x5 x7 (0 : Int32) M4)) ∧
  (¬ x3 < r4 → (P_M_near_123 post R70 (P_M_near_86 post R70 n) x1 x2 x3 x4 x5 x7 M4))) (r2 - r3) M3) x2 x7 M2) x1 x5 M1))))) x2 M
theorem k_M_near_86 {X : FX} {g : GT} {A : Nat → Prop} {Z : State → Prop} {post : Int32 → Mem → Prop} {R70 : Int32 → Int32 → Int32 → Int32 → Int32 → Mem → Prop} (C : Cx X g layM A cX12_near 8 RX12 2) (hr : 0 ≤ X.2.2.2.1.cells ∧ 0 ≤ X.2.2.2.1.slots) (hR : RetI X g layM A cX12_near 8 0 0 Z post) (k70 : ∀ (y1 y2 y3 y4 y5 : Int32) (M : Mem), R70 y1 y2 y3 y4 y5 M → AtX X g layM A 8 0 0 Z 70 [(0, .ref (ad g 0)), (1, .int y1), (2, .int y2), (3, .int y3), (4, .int y4), (5, .int y5)] [] M) : ∀ (n : Nat) (x1 x2 x3 x4 x5 x6 x7 : Int32) (M : Mem), P_M_near_86 post R70 n x1 x2 x3 x4 x5 x6 x7 M → AtX X g layM A 8 0 0 Z 86 [(0, .ref (ad g 0)), (1, .int x1), (2, .int x2), (3, .int x3), (4, .int x4), (5, .int x5), (6, .int x6), (7, .int x7)] [] M := by
  intro n
  induction n with
  | zero =>
    intro x1 x2 x3 x4 x5 x6 x7 M h
    exact h.elim
  | succ n ih =>
    intro x1 x2 x3 x4 x5 x6 x7 M h
    refine a_iload C (tk T_cX12_near 47 rfl) rfl ?_
    refine a_aload_n C (tk T_cX12_near 48 rfl) rfl ?_
    refine a_iload_n C (tk T_cX12_near 49 rfl) rfl ?_
    refine a_callI C [.int x2] me_yX12_lines lk_RX12_125 (ct_M_lines h) (by decide) lm0 rfl rfl rfl (Nat.le_of_ble_eq_true rfl) (tk T_cX12_near 50 rfl) hr (fun r1 M1 h => ?_)
    refine a_icmp_ge C 136 (tk T_cX12_near 51 rfl) rfl (fun c => ?_) (fun c => ?_)
    · have h := h.1 c
      refine a_iload C (tk T_cX12_near 72 rfl) rfl ?_
      refine a_iload C (tk T_cX12_near 73 rfl) rfl ?_
      refine a_if_eq C 147 (tk T_cX12_near 74 rfl) rfl (fun c => ?_) (fun c => ?_)
      · have h := h.1 c
        refine a_iconst C (0 : Int32) (tk T_cX12_near 77 rfl) kI_0 ?_
        exact a_to (k_M_near_148 C hr hR k70 x1 x2 x3 x5 x4 (0 : Int32) M1 h) rfl
      · have h := h.2 c
        refine a_iconst C (1 : Int32) (tk T_cX12_near 75 rfl) kI_1 ?_
        refine a_goto C 148 (tk T_cX12_near 76 rfl) rfl ?_
        exact a_to (k_M_near_148 C hr hR k70 x1 x2 x3 x5 x4 (1 : Int32) M1 h) rfl
    · have h := h.2 c
      refine a_iload C (tk T_cX12_near 52 rfl) rfl ?_
      refine a_if_ne C 123 (tk T_cX12_near 53 rfl) rfl (fun c => ?_) (fun c => ?_)
      · have h := h.1 c
        exact a_to (k_M_near_123 C hr hR k70 ih x1 x2 x3 x4 x5 x7 M1 h) rfl
      · have h := h.2 c
        refine a_aload_n C (tk T_cX12_near 54 rfl) rfl ?_
        refine a_iload_n C (tk T_cX12_near 55 rfl) rfl ?_
        refine a_iload C (tk T_cX12_near 56 rfl) rfl ?_
        refine a_callI C [.int x1, .int x5] me_yX12_waveOf lk_RX12_151 (ct_M_waveOf h) (by decide) lm0 rfl rfl rfl (Nat.le_of_ble_eq_true rfl) (tk T_cX12_near 57 rfl) hr (fun r2 M2 h => ?_)
        refine a_aload_n C (tk T_cX12_near 58 rfl) rfl ?_
        refine a_iload_n C (tk T_cX12_near 59 rfl) rfl ?_
        refine a_iload C (tk T_cX12_near 60 rfl) rfl ?_
        refine a_callI C [.int x2, .int x7] me_yX12_waveOf lk_RX12_151 (ct_M_waveOf h) (by decide) lm0 rfl rfl rfl (Nat.le_of_ble_eq_true rfl) (tk T_cX12_near 61 rfl) hr (fun r3 M3 h => ?_)
        refine a_isub C (tk T_cX12_near 62 rfl) ?_
        refine a_statI C [.int (r2 - r3)] me_yJ9_abs_0f7a4 lk_RX12_87 (ct_Math_abs h) (by decide) rfl rfl (Nat.le_of_ble_eq_true rfl) (tk T_cX12_near 63 rfl) hr (fun r4 M4 h => ?_)
        refine a_iload_n C (tk T_cX12_near 64 rfl) rfl ?_
        refine a_icmp_gt C 127 (tk T_cX12_near 65 rfl) rfl (fun c => ?_) (fun c => ?_)
        · have h := h.1 c
          refine a_iconst C (0 : Int32) (tk T_cX12_near 68 rfl) kI_0 ?_
          exact a_to (k_M_near_128 C hr hR k70 ih x1 x2 x3 x4 x5 x7 (0 : Int32) M4 h) rfl
        · have h := h.2 c
          exact a_to (k_M_near_123 C hr hR k70 ih x1 x2 x3 x4 x5 x7 M4 h) rfl
def P_M_near_70 (post : Int32 → Mem → Prop) : Nat → Int32 → Int32 → Int32 → Int32 → Int32 → Mem → Prop
  | 0, _, _, _, _, _, _ => False
  | n + 1, x1, x2, x3, x4, x5, M =>
    P_M_lines (fun r1 M1 =>
  (r1 ≤ x5 → (post x4 M1)) ∧
  (¬ r1 ≤ x5 → (∃ j86, P_M_near_86 post (P_M_near_70 post n) j86 x1 x2 x3 x4 x5 (0 : Int32) (0 : Int32) M1))) x1 M
theorem k_M_near_70 {X : FX} {g : GT} {A : Nat → Prop} {Z : State → Prop} {post : Int32 → Mem → Prop} (C : Cx X g layM A cX12_near 8 RX12 2) (hr : 0 ≤ X.2.2.2.1.cells ∧ 0 ≤ X.2.2.2.1.slots) (hR : RetI X g layM A cX12_near 8 0 0 Z post) : ∀ (n : Nat) (x1 x2 x3 x4 x5 : Int32) (M : Mem), P_M_near_70 post n x1 x2 x3 x4 x5 M → AtX X g layM A 8 0 0 Z 70 [(0, .ref (ad g 0)), (1, .int x1), (2, .int x2), (3, .int x3), (4, .int x4), (5, .int x5)] [] M := by
  intro n
  induction n with
  | zero =>
    intro x1 x2 x3 x4 x5 M h
    exact h.elim
  | succ n ih =>
    intro x1 x2 x3 x4 x5 M h
    refine a_iload C (tk T_cX12_near 38 rfl) rfl ?_
    refine a_aload_n C (tk T_cX12_near 39 rfl) rfl ?_
    refine a_iload_n C (tk T_cX12_near 40 rfl) rfl ?_
    refine a_callI C [.int x1] me_yX12_lines lk_RX12_125 (ct_M_lines h) (by decide) lm0 rfl rfl rfl (Nat.le_of_ble_eq_true rfl) (tk T_cX12_near 41 rfl) hr (fun r1 M1 h => ?_)
    refine a_icmp_ge C 157 (tk T_cX12_near 42 rfl) rfl (fun c => ?_) (fun c => ?_)
    · have h := h.1 c
      refine a_iload C (tk T_cX12_near 82 rfl) rfl ?_
      exact hR _ _ _ _ (tk T_cX12_near 83 rfl) h
    · have h := h.2 c
      refine a_iconst C (0 : Int32) (tk T_cX12_near 43 rfl) kI_0 ?_
      refine a_istore C (tk T_cX12_near 44 rfl) (by decide) rfl ?_
      refine a_iconst C (0 : Int32) (tk T_cX12_near 45 rfl) kI_0 ?_
      refine a_istore C (tk T_cX12_near 46 rfl) (by decide) rfl ?_
      obtain ⟨n1, h⟩ := h
      exact a_to (k_M_near_86 C hr hR ih n1 x1 x2 x3 x4 x5 (0 : Int32) (0 : Int32) M1 h) rfl
def P_M_near_62 (post : Int32 → Mem → Prop) (M : Mem) : Prop :=
  post (0 : Int32) M
theorem k_M_near_62 {X : FX} {g : GT} {A : Nat → Prop} {Z : State → Prop} {post : Int32 → Mem → Prop} (C : Cx X g layM A cX12_near 8 RX12 2) (hr : 0 ≤ X.2.2.2.1.cells ∧ 0 ≤ X.2.2.2.1.slots) (hR : RetI X g layM A cX12_near 8 0 0 Z post)  (M : Mem) (h : P_M_near_62 post M) : AtX X g layM A 8 0 0 Z 62 [] [] M := by
  refine a_iconst C (0 : Int32) (tk T_cX12_near 32 rfl) kI_0 ?_
  exact hR _ _ _ _ (tk T_cX12_near 33 rfl) h
def P_M_near_55 (post : Int32 → Mem → Prop) (x1 x2 x3 s1 : Int32) (M : Mem) : Prop :=
  P_M_throwsIf (fun r1 M1 =>
  (r1 = 0 → (∃ j70, P_M_near_70 post j70 x1 x2 x3 (0 : Int32) (0 : Int32) M1)) ∧
  (¬ r1 = 0 → (P_M_near_62 post M1))) s1 (2 : Int32) M
theorem k_M_near_55 {X : FX} {g : GT} {A : Nat → Prop} {Z : State → Prop} {post : Int32 → Mem → Prop} (C : Cx X g layM A cX12_near 8 RX12 2) (hr : 0 ≤ X.2.2.2.1.cells ∧ 0 ≤ X.2.2.2.1.slots) (hR : RetI X g layM A cX12_near 8 0 0 Z post) (x1 x2 x3 s1 : Int32) (M : Mem) (h : P_M_near_55 post x1 x2 x3 s1 M) : AtX X g layM A 8 0 0 Z 55 [(0, .ref (ad g 0)), (1, .int x1), (2, .int x2), (3, .int x3)] [.int s1, .ref (ad g 0)] M := by
  refine a_iconst C (2 : Int32) (tk T_cX12_near 29 rfl) kI_2 ?_
  refine a_callI C [.int s1, .int (2 : Int32)] me_yX12_throwsIf lk_RX12_72 (ct_M_throwsIf h) (by decide) lm0 rfl rfl rfl (Nat.le_of_ble_eq_true rfl) (tk T_cX12_near 30 rfl) hr (fun r1 M1 h => ?_)
  refine a_if_eq C 64 (tk T_cX12_near 31 rfl) rfl (fun c => ?_) (fun c => ?_)
  · have h := h.1 c
    refine a_iconst C (0 : Int32) (tk T_cX12_near 34 rfl) kI_0 ?_
    refine a_istore C (tk T_cX12_near 35 rfl) (by decide) rfl ?_
    refine a_iconst C (0 : Int32) (tk T_cX12_near 36 rfl) kI_0 ?_
    refine a_istore C (tk T_cX12_near 37 rfl) (by decide) rfl ?_
    obtain ⟨n1, h⟩ := h
    exact a_to (k_M_near_70 C hr hR n1 x1 x2 x3 (0 : Int32) (0 : Int32) M1 h) rfl
  · have h := h.2 c
    exact a_to (k_M_near_62 C hr hR M1 h) rfl
def P_M_near_31 (post : Int32 → Mem → Prop) (x1 x2 x3 s1 : Int32) (M : Mem) : Prop :=
  P_M_throwsIf (fun r1 M1 =>
  (¬ r1 = 0 → (P_M_near_62 post M1)) ∧
  (r1 = 0 → (P_M_in (fun r2 M2 =>
  (¬ r2 = 0 → (P_M_near_55 post x1 x2 x3 (0 : Int32) M2)) ∧
  (r2 = 0 → (P_M_near_55 post x1 x2 x3 (1 : Int32) M2))) x3 (0 : Int32) (999 : Int32) M1))) s1 (1 : Int32) M
theorem k_M_near_31 {X : FX} {g : GT} {A : Nat → Prop} {Z : State → Prop} {post : Int32 → Mem → Prop} (C : Cx X g layM A cX12_near 8 RX12 2) (hr : 0 ≤ X.2.2.2.1.cells ∧ 0 ≤ X.2.2.2.1.slots) (hR : RetI X g layM A cX12_near 8 0 0 Z post) (x1 x2 x3 s1 : Int32) (M : Mem) (h : P_M_near_31 post x1 x2 x3 s1 M) : AtX X g layM A 8 0 0 Z 31 [(0, .ref (ad g 0)), (1, .int x1), (2, .int x2), (3, .int x3)] [.int s1, .ref (ad g 0)] M := by
  refine a_iconst C (1 : Int32) (tk T_cX12_near 17 rfl) kI_1 ?_
  refine a_callI C [.int s1, .int (1 : Int32)] me_yX12_throwsIf lk_RX12_72 (ct_M_throwsIf h) (by decide) lm0 rfl rfl rfl (Nat.le_of_ble_eq_true rfl) (tk T_cX12_near 18 rfl) hr (fun r1 M1 h => ?_)
  refine a_if_ne C 62 (tk T_cX12_near 19 rfl) rfl (fun c => ?_) (fun c => ?_)
  · have h := h.1 c
    exact a_to (k_M_near_62 C hr hR M1 h) rfl
  · have h := h.2 c
    refine a_aload_n C (tk T_cX12_near 20 rfl) rfl ?_
    refine a_iload_n C (tk T_cX12_near 21 rfl) rfl ?_
    refine a_iconst C (0 : Int32) (tk T_cX12_near 22 rfl) kI_0 ?_
    refine a_sipush C (999 : Int32) (tk T_cX12_near 23 rfl) kS_999 ?_
    refine a_statI C [.int x3, .int (0 : Int32), .int (999 : Int32)] me_yX12_in lk_RX12_58 (ct_M_in h) (by decide) rfl rfl (Nat.le_of_ble_eq_true rfl) (tk T_cX12_near 24 rfl) hr (fun r2 M2 h => ?_)
    refine a_if_ne C 54 (tk T_cX12_near 25 rfl) rfl (fun c => ?_) (fun c => ?_)
    · have h := h.1 c
      refine a_iconst C (0 : Int32) (tk T_cX12_near 28 rfl) kI_0 ?_
      exact a_to (k_M_near_55 C hr hR x1 x2 x3 (0 : Int32) M2 h) rfl
    · have h := h.2 c
      refine a_iconst C (1 : Int32) (tk T_cX12_near 26 rfl) kI_1 ?_
      refine a_goto C 55 (tk T_cX12_near 27 rfl) rfl ?_
      exact a_to (k_M_near_55 C hr hR x1 x2 x3 (1 : Int32) M2 h) rfl
def P_M_near_26 (post : Int32 → Mem → Prop) (x1 x2 x3 : Int32) (M : Mem) : Prop :=
  P_M_near_31 post x1 x2 x3 (1 : Int32) M
theorem k_M_near_26 {X : FX} {g : GT} {A : Nat → Prop} {Z : State → Prop} {post : Int32 → Mem → Prop} (C : Cx X g layM A cX12_near 8 RX12 2) (hr : 0 ≤ X.2.2.2.1.cells ∧ 0 ≤ X.2.2.2.1.slots) (hR : RetI X g layM A cX12_near 8 0 0 Z post) (x1 x2 x3 : Int32) (M : Mem) (h : P_M_near_26 post x1 x2 x3 M) : AtX X g layM A 8 0 0 Z 26 [(0, .ref (ad g 0)), (1, .int x1), (2, .int x2), (3, .int x3)] [.ref (ad g 0)] M := by
  refine a_iconst C (1 : Int32) (tk T_cX12_near 14 rfl) kI_1 ?_
  refine a_goto C 31 (tk T_cX12_near 15 rfl) rfl ?_
  exact a_to (k_M_near_31 C hr hR x1 x2 x3 (1 : Int32) M h) rfl
def P_M_near (post : Int32 → Mem → Prop) (x1 x2 x3 : Int32) (M : Mem) : Prop :=
  ∀ M1, M1 = ms M 0 0 (0 : Int32) → P_M_none (fun r2 M2 =>
  (¬ r2 = 0 → (P_M_near_26 post x1 x2 x3 M2)) ∧
  (r2 = 0 → (P_M_none (fun r3 M3 =>
  (r3 = 0 → (P_M_near_31 post x1 x2 x3 (0 : Int32) M3)) ∧
  (¬ r3 = 0 → (P_M_near_26 post x1 x2 x3 M3))) x2 (7 : Int32) M2))) x1 (7 : Int32) M1
theorem k_M_near {X : FX} {g : GT} {A : Nat → Prop} {Z : State → Prop} {post : Int32 → Mem → Prop} (C : Cx X g layM A cX12_near 8 RX12 2) (hr : 0 ≤ X.2.2.2.1.cells ∧ 0 ≤ X.2.2.2.1.slots) (hR : RetI X g layM A cX12_near 8 0 0 Z post) (x1 x2 x3 : Int32) (M : Mem) (h : P_M_near post x1 x2 x3 M) : AtX X g layM A 8 0 0 Z 0 [(0, .ref (ad g 0)), (1, .int x1), (2, .int x2), (3, .int x3)] [] M := by
  refine a_aload_n C (tk T_cX12_near 0 rfl) rfl ?_
  refine a_iconst C (0 : Int32) (tk T_cX12_near 1 rfl) kI_0 ?_
  refine a_put C f_RX12_3 f_RX12_3p rfl rfl (tk T_cX12_near 2 rfl) lm0 rfl ?_
  refine a_mem (fun M1 e_M1 => ?_)
  have h := h M1 e_M1
  refine a_aload_n C (tk T_cX12_near 3 rfl) rfl ?_
  refine a_aload_n C (tk T_cX12_near 4 rfl) rfl ?_
  refine a_iload_n C (tk T_cX12_near 5 rfl) rfl ?_
  refine a_bipush C (7 : Int32) (tk T_cX12_near 6 rfl) kB_7 ?_
  refine a_callI C [.int x1, .int (7 : Int32)] me_yX12_none lk_RX12_121 (ct_M_none h) (by decide) lm0 rfl rfl rfl (Nat.le_of_ble_eq_true rfl) (tk T_cX12_near 7 rfl) hr (fun r2 M2 h => ?_)
  refine a_if_ne C 26 (tk T_cX12_near 8 rfl) rfl (fun c => ?_) (fun c => ?_)
  · have h := h.1 c
    exact a_to (k_M_near_26 C hr hR x1 x2 x3 M2 h) rfl
  · have h := h.2 c
    refine a_aload_n C (tk T_cX12_near 9 rfl) rfl ?_
    refine a_iload_n C (tk T_cX12_near 10 rfl) rfl ?_
    refine a_bipush C (7 : Int32) (tk T_cX12_near 11 rfl) kB_7 ?_
    refine a_callI C [.int x2, .int (7 : Int32)] me_yX12_none lk_RX12_121 (ct_M_none h) (by decide) lm0 rfl rfl rfl (Nat.le_of_ble_eq_true rfl) (tk T_cX12_near 12 rfl) hr (fun r3 M3 h => ?_)
    refine a_if_eq C 30 (tk T_cX12_near 13 rfl) rfl (fun c => ?_) (fun c => ?_)
    · have h := h.1 c
      refine a_iconst C (0 : Int32) (tk T_cX12_near 16 rfl) kI_0 ?_
      exact a_to (k_M_near_31 C hr hR x1 x2 x3 (0 : Int32) M3 h) rfl
    · have h := h.2 c
      exact a_to (k_M_near_26 C hr hR x1 x2 x3 M3 h) rfl
theorem ct_M_near {l : Launch} {g : GT} {post : Int32 → Mem → Prop} {x1 x2 x3 : Int32} {M : Mem} (h : P_M_near post x1 x2 x3 M) : CI l g layM yX12_near cX12_near 8 (some .int) 2 [.ref (ad g 0), .int x1, .int x2, .int x3] M post :=
  ci_of (plainFor_of_name (by decide +kernel)) (Nat.le_of_ble_eq_true rfl) (fun X A Z hl C hr hR => by subst hl; exact k_M_near C hr hR x1 x2 x3 M h)
def T_cX12_alikeL : List (Nat × Instr × Nat) := [(0, .aload_n 0, 1), (1, .iconst 0, 1), (2, .putfield 3, 3), (5, .aload_n 0, 1), (6, .aload_n 0, 1), (7, .iload_n 1, 1), (8, .bipush 8, 2), (10, .invokevirtual 121, 3), (13, .ifCond .ne 13, 3), (16, .aload_n 0, 1), (17, .iload_n 2, 1), (18, .bipush 8, 2), (20, .invokevirtual 121, 3), (23, .ifCond .eq 7, 3), (26, .iconst 1, 1), (27, .goto 4, 3), (30, .iconst 0, 1), (31, .iconst 1, 1), (32, .invokevirtual 72, 3), (35, .ifCond .eq 5, 3), (38, .iconst 0, 1), (39, .ireturn, 1), (40, .aload_n 0, 1), (41, .invokevirtual 197, 3), (44, .iconst 0, 1), (45, .istore_n 3, 1), (46, .iconst 0, 1), (47, .istore 4, 2), (49, .iload 4, 2), (51, .aload_n 0, 1), (52, .invokevirtual 128, 3), (55, .if_icmp .ge 108, 3), (58, .iconst 0, 1), (59, .istore 5, 2), (61, .iload 5, 2), (63, .aload_n 0, 1), (64, .invokevirtual 128, 3), (67, .if_icmp .ge 90, 3), (70, .aload_n 0, 1), (71, .iload 4, 2), (73, .iconst 0, 1), (74, .invokevirtual 132, 3), (77, .iload_n 1, 1), (78, .if_icmp .ne 73, 3), (81, .aload_n 0, 1), (82, .iload 5, 2), (84, .iconst 0, 1), (85, .invokevirtual 132, 3), (88, .iload_n 2, 1), (89, .if_icmp .ne 62, 3), (92, .aload_n 0, 1), (93, .iload 4, 2), (95, .invokevirtual 142, 3), (98, .ifCond .eq 53, 3), (101, .aload_n 0, 1), (102, .iload 5, 2), (104, .invokevirtual 142, 3), (107, .ifCond .eq 44, 3), (110, .aload_n 0, 1), (111, .getfield 26, 3), (114, .iload 4, 2), (116, .iaload, 1), (117, .aload_n 0, 1), (118, .getfield 29, 3), (121, .iload 5, 2), (123, .iaload, 1), (124, .if_icmp .gt 27, 3), (127, .aload_n 0, 1), (128, .getfield 26, 3), (131, .iload 5, 2), (133, .iaload, 1), (134, .aload_n 0, 1), (135, .getfield 29, 3), (138, .iload 4, 2), (140, .iaload, 1), (141, .if_icmp .gt 10, 3), (144, .iload_n 3, 1), (145, .iconst 1, 1), (146, .iload 4, 2), (148, .ishl, 1), (149, .ior, 1), (150, .istore_n 3, 1), (151, .iinc 5 1, 3), (154, .goto (-93), 3), (157, .iinc 4 1, 3), (160, .goto (-111), 3), (163, .iload_n 3, 1), (164, .ireturn, 1)]
theorem T_cX12_alike : tabOK cX12_alike T_cX12_alikeL = true := by decide +kernel
def P_M_alike_151 (post : Int32 → Mem → Prop) (R49 : Int32 → Int32 → Int32 → Int32 → Mem → Prop) (R61 : Int32 → Int32 → Int32 → Int32 → Int32 → Mem → Prop) (x1 x2 x3 x4 x5 : Int32) (M : Mem) : Prop :=
  R61 x1 x2 x3 x4 (x5 + (1 : Int32)) M
theorem k_M_alike_151 {X : FX} {g : GT} {A : Nat → Prop} {Z : State → Prop} {post : Int32 → Mem → Prop} {R49 : Int32 → Int32 → Int32 → Int32 → Mem → Prop} {R61 : Int32 → Int32 → Int32 → Int32 → Int32 → Mem → Prop} (C : Cx X g layM A cX12_alike 6 RX12 5) (hr : 0 ≤ X.2.2.2.1.cells ∧ 0 ≤ X.2.2.2.1.slots) (hR : RetI X g layM A cX12_alike 6 0 0 Z post) (k49 : ∀ (y1 y2 y3 y4 : Int32) (M : Mem), R49 y1 y2 y3 y4 M → AtX X g layM A 6 0 0 Z 49 [(0, .ref (ad g 0)), (1, .int y1), (2, .int y2), (3, .int y3), (4, .int y4)] [] M) (k61 : ∀ (y1 y2 y3 y4 y5 : Int32) (M : Mem), R61 y1 y2 y3 y4 y5 M → AtX X g layM A 6 0 0 Z 61 [(0, .ref (ad g 0)), (1, .int y1), (2, .int y2), (3, .int y3), (4, .int y4), (5, .int y5)] [] M) (x1 x2 x3 x4 x5 : Int32) (M : Mem) (h : P_M_alike_151 post R49 R61 x1 x2 x3 x4 x5 M) : AtX X g layM A 6 0 0 Z 151 [(0, .ref (ad g 0)), (1, .int x1), (2, .int x2), (3, .int x3), (4, .int x4), (5, .int x5)] [] M := by
  refine a_iinc C (1 : Int32) (tk T_cX12_alike 82 rfl) rfl kI_1 (by decide) rfl ?_
  refine a_goto C 61 (tk T_cX12_alike 83 rfl) rfl ?_
  exact a_to (k61 x1 x2 x3 x4 (x5 + (1 : Int32)) M h) rfl
def P_M_alike_61 (post : Int32 → Mem → Prop) (R49 : Int32 → Int32 → Int32 → Int32 → Mem → Prop) : Nat → Int32 → Int32 → Int32 → Int32 → Int32 → Mem → Prop
  | 0, _, _, _, _, _, _ => False
  | n + 1, x1, x2, x3, x4, x5, M =>
    P_M_readings (fun r1 M1 =>
  (r1 ≤ x5 → (R49 x1 x2 x3 (x4 + (1 : Int32)) M1)) ∧
  (¬ r1 ≤ x5 → (P_M_of (fun r2 M2 =>
  (¬ r2 = x1 → (P_M_alike_151 post R49 (P_M_alike_61 post R49 n) x1 x2 x3 x4 x5 M2)) ∧
  (r2 = x1 → (P_M_of (fun r3 M3 =>
  (¬ r3 = x2 → (P_M_alike_151 post R49 (P_M_alike_61 post R49 n) x1 x2 x3 x4 x5 M3)) ∧
  (r3 = x2 → (P_M_hasSpan (fun r4 M4 =>
  (r4 = 0 → (P_M_alike_151 post R49 (P_M_alike_61 post R49 n) x1 x2 x3 x4 x5 M4)) ∧
  (¬ r4 = 0 → (P_M_hasSpan (fun r5 M5 =>
  (r5 = 0 → (P_M_alike_151 post R49 (P_M_alike_61 post R49 n) x1 x2 x3 x4 x5 M5)) ∧
  (¬ r5 = 0 → (vp_in x4 24 ∧ vp_in x5 24 ∧ ((M5 6 x5.toNatClampNeg) < (M5 5 x4.toNatClampNeg) → (P_M_alike_151 post R49 (P_M_alike_61 post R49 n) x1 x2 x3 x4 x5 M5)) ∧
  (¬ (M5 6 x5.toNatClampNeg) < (M5 5 x4.toNatClampNeg) → (vp_in x5 24 ∧ vp_in x4 24 ∧ ((M5 6 x4.toNatClampNeg) < (M5 5 x5.toNatClampNeg) → (P_M_alike_151 post R49 (P_M_alike_61 post R49 n) x1 x2 x3 x4 x5 M5)) ∧
  (¬ (M5 6 x4.toNatClampNeg) < (M5 5 x5.toNatClampNeg) → (∀ x3_6, x3_6 = (x3 ||| ((1 : Int32) <<< (x4 &&& 31))) → P_M_alike_151 post R49 (P_M_alike_61 post R49 n) x1 x2 x3_6 x4 x5 M5))))))) x5 M4))) x4 M3))) x5 (0 : Int32) M2))) x4 (0 : Int32) M1))) M
theorem k_M_alike_61 {X : FX} {g : GT} {A : Nat → Prop} {Z : State → Prop} {post : Int32 → Mem → Prop} {R49 : Int32 → Int32 → Int32 → Int32 → Mem → Prop} (C : Cx X g layM A cX12_alike 6 RX12 5) (hr : 0 ≤ X.2.2.2.1.cells ∧ 0 ≤ X.2.2.2.1.slots) (hR : RetI X g layM A cX12_alike 6 0 0 Z post) (k49 : ∀ (y1 y2 y3 y4 : Int32) (M : Mem), R49 y1 y2 y3 y4 M → AtX X g layM A 6 0 0 Z 49 [(0, .ref (ad g 0)), (1, .int y1), (2, .int y2), (3, .int y3), (4, .int y4)] [] M) : ∀ (n : Nat) (x1 x2 x3 x4 x5 : Int32) (M : Mem), P_M_alike_61 post R49 n x1 x2 x3 x4 x5 M → AtX X g layM A 6 0 0 Z 61 [(0, .ref (ad g 0)), (1, .int x1), (2, .int x2), (3, .int x3), (4, .int x4), (5, .int x5)] [] M := by
  intro n
  induction n with
  | zero =>
    intro x1 x2 x3 x4 x5 M h
    exact h.elim
  | succ n ih =>
    intro x1 x2 x3 x4 x5 M h
    refine a_iload C (tk T_cX12_alike 34 rfl) rfl ?_
    refine a_aload_n C (tk T_cX12_alike 35 rfl) rfl ?_
    refine a_callI C [] me_yX12_readings lk_RX12_128 (ct_M_readings h) (by decide) lm0 rfl rfl rfl (Nat.le_of_ble_eq_true rfl) (tk T_cX12_alike 36 rfl) hr (fun r1 M1 h => ?_)
    refine a_icmp_ge C 157 (tk T_cX12_alike 37 rfl) rfl (fun c => ?_) (fun c => ?_)
    · have h := h.1 c
      refine a_iinc C (1 : Int32) (tk T_cX12_alike 84 rfl) rfl kI_1 (by decide) rfl ?_
      refine a_goto C 49 (tk T_cX12_alike 85 rfl) rfl ?_
      exact a_to (k49 x1 x2 x3 (x4 + (1 : Int32)) M1 h) rfl
    · have h := h.2 c
      refine a_aload_n C (tk T_cX12_alike 38 rfl) rfl ?_
      refine a_iload C (tk T_cX12_alike 39 rfl) rfl ?_
      refine a_iconst C (0 : Int32) (tk T_cX12_alike 40 rfl) kI_0 ?_
      refine a_callI C [.int x4, .int (0 : Int32)] me_yX12_of lk_RX12_132 (ct_M_of h) (by decide) lm0 rfl rfl rfl (Nat.le_of_ble_eq_true rfl) (tk T_cX12_alike 41 rfl) hr (fun r2 M2 h => ?_)
      refine a_iload_n C (tk T_cX12_alike 42 rfl) rfl ?_
      refine a_icmp_ne C 151 (tk T_cX12_alike 43 rfl) rfl (fun c => ?_) (fun c => ?_)
      · have h := h.1 c
        exact a_to (k_M_alike_151 C hr hR k49 ih x1 x2 x3 x4 x5 M2 h) rfl
      · have h := h.2 c
        refine a_aload_n C (tk T_cX12_alike 44 rfl) rfl ?_
        refine a_iload C (tk T_cX12_alike 45 rfl) rfl ?_
        refine a_iconst C (0 : Int32) (tk T_cX12_alike 46 rfl) kI_0 ?_
        refine a_callI C [.int x5, .int (0 : Int32)] me_yX12_of lk_RX12_132 (ct_M_of h) (by decide) lm0 rfl rfl rfl (Nat.le_of_ble_eq_true rfl) (tk T_cX12_alike 47 rfl) hr (fun r3 M3 h => ?_)
        refine a_iload_n C (tk T_cX12_alike 48 rfl) rfl ?_
        refine a_icmp_ne C 151 (tk T_cX12_alike 49 rfl) rfl (fun c => ?_) (fun c => ?_)
        · have h := h.1 c
          exact a_to (k_M_alike_151 C hr hR k49 ih x1 x2 x3 x4 x5 M3 h) rfl
        · have h := h.2 c
          refine a_aload_n C (tk T_cX12_alike 50 rfl) rfl ?_
          refine a_iload C (tk T_cX12_alike 51 rfl) rfl ?_
          refine a_callI C [.int x4] me_yX12_hasSpan lk_RX12_142 (ct_M_hasSpan h) (by decide) lm0 rfl rfl rfl (Nat.le_of_ble_eq_true rfl) (tk T_cX12_alike 52 rfl) hr (fun r4 M4 h => ?_)
          refine a_if_eq C 151 (tk T_cX12_alike 53 rfl) rfl (fun c => ?_) (fun c => ?_)
          · have h := h.1 c
            exact a_to (k_M_alike_151 C hr hR k49 ih x1 x2 x3 x4 x5 M4 h) rfl
          · have h := h.2 c
            refine a_aload_n C (tk T_cX12_alike 54 rfl) rfl ?_
            refine a_iload C (tk T_cX12_alike 55 rfl) rfl ?_
            refine a_callI C [.int x5] me_yX12_hasSpan lk_RX12_142 (ct_M_hasSpan h) (by decide) lm0 rfl rfl rfl (Nat.le_of_ble_eq_true rfl) (tk T_cX12_alike 56 rfl) hr (fun r5 M5 h => ?_)
            refine a_if_eq C 151 (tk T_cX12_alike 57 rfl) rfl (fun c => ?_) (fun c => ?_)
            · have h := h.1 c
              exact a_to (k_M_alike_151 C hr hR k49 ih x1 x2 x3 x4 x5 M5 h) rfl
            · have h := h.2 c
              refine a_aload_n C (tk T_cX12_alike 58 rfl) rfl ?_
              refine a_getR C f_RX12_26 (tk T_cX12_alike 59 rfl) lm0 rfl ?_
              refine a_iload C (tk T_cX12_alike 60 rfl) rfl ?_
              obtain ⟨hb, h⟩ := h
              refine a_iald C (tk T_cX12_alike 61 rfl) lm5 hb ?_
              refine a_aload_n C (tk T_cX12_alike 62 rfl) rfl ?_
              refine a_getR C f_RX12_29 (tk T_cX12_alike 63 rfl) lm0 rfl ?_
              refine a_iload C (tk T_cX12_alike 64 rfl) rfl ?_
              obtain ⟨hb, h⟩ := h
              refine a_iald C (tk T_cX12_alike 65 rfl) lm6 hb ?_
              refine a_icmp_gt C 151 (tk T_cX12_alike 66 rfl) rfl (fun c => ?_) (fun c => ?_)
              · have h := h.1 c
                exact a_to (k_M_alike_151 C hr hR k49 ih x1 x2 x3 x4 x5 M5 h) rfl
              · have h := h.2 c
                refine a_aload_n C (tk T_cX12_alike 67 rfl) rfl ?_
                refine a_getR C f_RX12_26 (tk T_cX12_alike 68 rfl) lm0 rfl ?_
                refine a_iload C (tk T_cX12_alike 69 rfl) rfl ?_
                obtain ⟨hb, h⟩ := h
                refine a_iald C (tk T_cX12_alike 70 rfl) lm5 hb ?_
                refine a_aload_n C (tk T_cX12_alike 71 rfl) rfl ?_
                refine a_getR C f_RX12_29 (tk T_cX12_alike 72 rfl) lm0 rfl ?_
                refine a_iload C (tk T_cX12_alike 73 rfl) rfl ?_
                obtain ⟨hb, h⟩ := h
                refine a_iald C (tk T_cX12_alike 74 rfl) lm6 hb ?_
                refine a_icmp_gt C 151 (tk T_cX12_alike 75 rfl) rfl (fun c => ?_) (fun c => ?_)
                · have h := h.1 c
                  exact a_to (k_M_alike_151 C hr hR k49 ih x1 x2 x3 x4 x5 M5 h) rfl
                · have h := h.2 c
                  refine a_iload_n C (tk T_cX12_alike 76 rfl) rfl ?_
                  refine a_iconst C (1 : Int32) (tk T_cX12_alike 77 rfl) kI_1 ?_
                  refine a_iload C (tk T_cX12_alike 78 rfl) rfl ?_
                  refine a_ishl C (tk T_cX12_alike 79 rfl) ?_
                  refine a_ior C (tk T_cX12_alike 80 rfl) ?_
                  refine a_top (fun x3_6 e_x3_6 => ?_)
                  have h := h x3_6 e_x3_6
                  refine a_istore_n C (tk T_cX12_alike 81 rfl) (by decide) rfl ?_
                  exact a_to (k_M_alike_151 C hr hR k49 ih x1 x2 x3_6 x4 x5 M5 h) rfl
def P_M_alike_49 (post : Int32 → Mem → Prop) : Nat → Int32 → Int32 → Int32 → Int32 → Mem → Prop
  | 0, _, _, _, _, _ => False
  | n + 1, x1, x2, x3, x4, M =>
    P_M_readings (fun r1 M1 =>
  (r1 ≤ x4 → (post x3 M1)) ∧
  (¬ r1 ≤ x4 → (∃ j61, P_M_alike_61 post (P_M_alike_49 post n) j61 x1 x2 x3 x4 (0 : Int32) M1))) M
theorem k_M_alike_49 {X : FX} {g : GT} {A : Nat → Prop} {Z : State → Prop} {post : Int32 → Mem → Prop} (C : Cx X g layM A cX12_alike 6 RX12 5) (hr : 0 ≤ X.2.2.2.1.cells ∧ 0 ≤ X.2.2.2.1.slots) (hR : RetI X g layM A cX12_alike 6 0 0 Z post) : ∀ (n : Nat) (x1 x2 x3 x4 : Int32) (M : Mem), P_M_alike_49 post n x1 x2 x3 x4 M → AtX X g layM A 6 0 0 Z 49 [(0, .ref (ad g 0)), (1, .int x1), (2, .int x2), (3, .int x3), (4, .int x4)] [] M := by
  intro n
  induction n with
  | zero =>
    intro x1 x2 x3 x4 M h
    exact h.elim
  | succ n ih =>
    intro x1 x2 x3 x4 M h
    refine a_iload C (tk T_cX12_alike 28 rfl) rfl ?_
    refine a_aload_n C (tk T_cX12_alike 29 rfl) rfl ?_
    refine a_callI C [] me_yX12_readings lk_RX12_128 (ct_M_readings h) (by decide) lm0 rfl rfl rfl (Nat.le_of_ble_eq_true rfl) (tk T_cX12_alike 30 rfl) hr (fun r1 M1 h => ?_)
    refine a_icmp_ge C 163 (tk T_cX12_alike 31 rfl) rfl (fun c => ?_) (fun c => ?_)
    · have h := h.1 c
      refine a_iload_n C (tk T_cX12_alike 86 rfl) rfl ?_
      exact hR _ _ _ _ (tk T_cX12_alike 87 rfl) h
    · have h := h.2 c
      refine a_iconst C (0 : Int32) (tk T_cX12_alike 32 rfl) kI_0 ?_
      refine a_istore C (tk T_cX12_alike 33 rfl) (by decide) rfl ?_
      obtain ⟨n1, h⟩ := h
      exact a_to (k_M_alike_61 C hr hR ih n1 x1 x2 x3 x4 (0 : Int32) M1 h) rfl
def P_M_alike_31 (post : Int32 → Mem → Prop) (x1 x2 s1 : Int32) (M : Mem) : Prop :=
  P_M_throwsIf (fun r1 M1 =>
  (r1 = 0 → (P_M_spans (fun M2 =>
  ∃ j49, P_M_alike_49 post j49 x1 x2 (0 : Int32) (0 : Int32) M2) M1)) ∧
  (¬ r1 = 0 → (post (0 : Int32) M1))) s1 (1 : Int32) M
theorem k_M_alike_31 {X : FX} {g : GT} {A : Nat → Prop} {Z : State → Prop} {post : Int32 → Mem → Prop} (C : Cx X g layM A cX12_alike 6 RX12 5) (hr : 0 ≤ X.2.2.2.1.cells ∧ 0 ≤ X.2.2.2.1.slots) (hR : RetI X g layM A cX12_alike 6 0 0 Z post) (x1 x2 s1 : Int32) (M : Mem) (h : P_M_alike_31 post x1 x2 s1 M) : AtX X g layM A 6 0 0 Z 31 [(0, .ref (ad g 0)), (1, .int x1), (2, .int x2)] [.int s1, .ref (ad g 0)] M := by
  refine a_iconst C (1 : Int32) (tk T_cX12_alike 17 rfl) kI_1 ?_
  refine a_callI C [.int s1, .int (1 : Int32)] me_yX12_throwsIf lk_RX12_72 (ct_M_throwsIf h) (by decide) lm0 rfl rfl rfl (Nat.le_of_ble_eq_true rfl) (tk T_cX12_alike 18 rfl) hr (fun r1 M1 h => ?_)
  refine a_if_eq C 40 (tk T_cX12_alike 19 rfl) rfl (fun c => ?_) (fun c => ?_)
  · have h := h.1 c
    refine a_aload_n C (tk T_cX12_alike 22 rfl) rfl ?_
    refine a_callV C [] me_yX12_spans lk_RX12_197 (ct_M_spans h) (by decide) lm0 rfl rfl rfl (Nat.le_of_ble_eq_true rfl) (tk T_cX12_alike 23 rfl) hr (fun M2 h => ?_)
    refine a_iconst C (0 : Int32) (tk T_cX12_alike 24 rfl) kI_0 ?_
    refine a_istore_n C (tk T_cX12_alike 25 rfl) (by decide) rfl ?_
    refine a_iconst C (0 : Int32) (tk T_cX12_alike 26 rfl) kI_0 ?_
    refine a_istore C (tk T_cX12_alike 27 rfl) (by decide) rfl ?_
    obtain ⟨n1, h⟩ := h
    exact a_to (k_M_alike_49 C hr hR n1 x1 x2 (0 : Int32) (0 : Int32) M2 h) rfl
  · have h := h.2 c
    refine a_iconst C (0 : Int32) (tk T_cX12_alike 20 rfl) kI_0 ?_
    exact hR _ _ _ _ (tk T_cX12_alike 21 rfl) h
def P_M_alike_26 (post : Int32 → Mem → Prop) (x1 x2 : Int32) (M : Mem) : Prop :=
  P_M_alike_31 post x1 x2 (1 : Int32) M
theorem k_M_alike_26 {X : FX} {g : GT} {A : Nat → Prop} {Z : State → Prop} {post : Int32 → Mem → Prop} (C : Cx X g layM A cX12_alike 6 RX12 5) (hr : 0 ≤ X.2.2.2.1.cells ∧ 0 ≤ X.2.2.2.1.slots) (hR : RetI X g layM A cX12_alike 6 0 0 Z post) (x1 x2 : Int32) (M : Mem) (h : P_M_alike_26 post x1 x2 M) : AtX X g layM A 6 0 0 Z 26 [(0, .ref (ad g 0)), (1, .int x1), (2, .int x2)] [.ref (ad g 0)] M := by
  refine a_iconst C (1 : Int32) (tk T_cX12_alike 14 rfl) kI_1 ?_
  refine a_goto C 31 (tk T_cX12_alike 15 rfl) rfl ?_
  exact a_to (k_M_alike_31 C hr hR x1 x2 (1 : Int32) M h) rfl
def P_M_alike (post : Int32 → Mem → Prop) (x1 x2 : Int32) (M : Mem) : Prop :=
  ∀ M1, M1 = ms M 0 0 (0 : Int32) → P_M_none (fun r2 M2 =>
  (¬ r2 = 0 → (P_M_alike_26 post x1 x2 M2)) ∧
  (r2 = 0 → (P_M_none (fun r3 M3 =>
  (r3 = 0 → (P_M_alike_31 post x1 x2 (0 : Int32) M3)) ∧
  (¬ r3 = 0 → (P_M_alike_26 post x1 x2 M3))) x2 (8 : Int32) M2))) x1 (8 : Int32) M1
theorem k_M_alike {X : FX} {g : GT} {A : Nat → Prop} {Z : State → Prop} {post : Int32 → Mem → Prop} (C : Cx X g layM A cX12_alike 6 RX12 5) (hr : 0 ≤ X.2.2.2.1.cells ∧ 0 ≤ X.2.2.2.1.slots) (hR : RetI X g layM A cX12_alike 6 0 0 Z post) (x1 x2 : Int32) (M : Mem) (h : P_M_alike post x1 x2 M) : AtX X g layM A 6 0 0 Z 0 [(0, .ref (ad g 0)), (1, .int x1), (2, .int x2)] [] M := by
  refine a_aload_n C (tk T_cX12_alike 0 rfl) rfl ?_
  refine a_iconst C (0 : Int32) (tk T_cX12_alike 1 rfl) kI_0 ?_
  refine a_put C f_RX12_3 f_RX12_3p rfl rfl (tk T_cX12_alike 2 rfl) lm0 rfl ?_
  refine a_mem (fun M1 e_M1 => ?_)
  have h := h M1 e_M1
  refine a_aload_n C (tk T_cX12_alike 3 rfl) rfl ?_
  refine a_aload_n C (tk T_cX12_alike 4 rfl) rfl ?_
  refine a_iload_n C (tk T_cX12_alike 5 rfl) rfl ?_
  refine a_bipush C (8 : Int32) (tk T_cX12_alike 6 rfl) kB_8 ?_
  refine a_callI C [.int x1, .int (8 : Int32)] me_yX12_none lk_RX12_121 (ct_M_none h) (by decide) lm0 rfl rfl rfl (Nat.le_of_ble_eq_true rfl) (tk T_cX12_alike 7 rfl) hr (fun r2 M2 h => ?_)
  refine a_if_ne C 26 (tk T_cX12_alike 8 rfl) rfl (fun c => ?_) (fun c => ?_)
  · have h := h.1 c
    exact a_to (k_M_alike_26 C hr hR x1 x2 M2 h) rfl
  · have h := h.2 c
    refine a_aload_n C (tk T_cX12_alike 9 rfl) rfl ?_
    refine a_iload_n C (tk T_cX12_alike 10 rfl) rfl ?_
    refine a_bipush C (8 : Int32) (tk T_cX12_alike 11 rfl) kB_8 ?_
    refine a_callI C [.int x2, .int (8 : Int32)] me_yX12_none lk_RX12_121 (ct_M_none h) (by decide) lm0 rfl rfl rfl (Nat.le_of_ble_eq_true rfl) (tk T_cX12_alike 12 rfl) hr (fun r3 M3 h => ?_)
    refine a_if_eq C 30 (tk T_cX12_alike 13 rfl) rfl (fun c => ?_) (fun c => ?_)
    · have h := h.1 c
      refine a_iconst C (0 : Int32) (tk T_cX12_alike 16 rfl) kI_0 ?_
      exact a_to (k_M_alike_31 C hr hR x1 x2 (0 : Int32) M3 h) rfl
    · have h := h.2 c
      exact a_to (k_M_alike_26 C hr hR x1 x2 M3 h) rfl
theorem ct_M_alike {l : Launch} {g : GT} {post : Int32 → Mem → Prop} {x1 x2 : Int32} {M : Mem} (h : P_M_alike post x1 x2 M) : CI l g layM yX12_alike cX12_alike 6 (some .int) 5 [.ref (ad g 0), .int x1, .int x2] M post :=
  ci_of (plainFor_of_name (by decide +kernel)) (Nat.le_of_ble_eq_true rfl) (fun X A Z hl C hr hR => by subst hl; exact k_M_alike C hr hR x1 x2 M h)
def T_cX12_feedL : List (Nat × Instr × Nat) := [(0, .aload_n 0, 1), (1, .iconst 0, 1), (2, .putfield 3, 3), (5, .aload_n 0, 1), (6, .getfield 272, 3), (9, .bipush 20, 2), (11, .iadd, 1), (12, .sipush 400, 3), (15, .if_icmp .le 5, 3), (18, .iconst (-1), 1), (19, .ireturn, 1), (20, .aload_n 0, 1), (21, .getfield 48, 3), (24, .iconst 0, 1), (25, .iload_n 1, 1), (26, .iastore, 1), (27, .aload_n 0, 1), (28, .getfield 48, 3), (31, .iconst 1, 1), (32, .iload_n 2, 1), (33, .iastore, 1), (34, .aload_n 0, 1), (35, .getfield 48, 3), (38, .iconst 2, 1), (39, .iload_n 3, 1), (40, .iastore, 1), (41, .aload_n 0, 1), (42, .getfield 48, 3), (45, .iconst 3, 1), (46, .iload 4, 2), (48, .iastore, 1), (49, .aload_n 0, 1), (50, .getfield 48, 3), (53, .iconst 4, 1), (54, .iload 5, 2), (56, .iastore, 1), (57, .iconst 0, 1), (58, .istore 6, 2), (60, .iload 6, 2), (62, .bipush 20, 2), (64, .if_icmp .ge 42, 3), (67, .aload_n 0, 1), (68, .getfield 41, 3), (71, .aload_n 0, 1), (72, .getfield 272, 3), (75, .iload 6, 2), (77, .iadd, 1), (78, .aload_n 0, 1), (79, .getfield 48, 3), (82, .iload 6, 2), (84, .iconst 4, 1), (85, .idiv, 1), (86, .iaload, 1), (87, .bipush 24, 2), (89, .bipush 8, 2), (91, .iload 6, 2), (93, .iconst 4, 1), (94, .irem, 1), (95, .imul, 1), (96, .isub, 1), (97, .ishr, 1), (98, .i2b, 1), (99, .bastore, 1), (100, .iinc 6 1, 3), (103, .goto (-43), 3), (106, .aload_n 0, 1), (107, .dup, 1), (108, .getfield 272, 3), (111, .bipush 20, 2), (113, .iadd, 1), (114, .putfield 272, 3), (117, .aload_n 0, 1), (118, .getfield 272, 3), (121, .ireturn, 1)]
theorem T_cX12_feed : tabOK cX12_feed T_cX12_feedL = true := by decide +kernel
def P_M_feed_60 (post : Int32 → Mem → Prop) : Nat → Int32 → Mem → Prop
  | 0, _, _ => False
  | n + 1, x6, M =>
    ((20 : Int32) ≤ x6 → (∀ M1, M1 = ms M 0 19 ((M 0 19) + (20 : Int32)) → post (M1 0 19) M1)) ∧
  (¬ (20 : Int32) ≤ x6 → (vp_in (x6 / (4 : Int32)) 5 ∧ ∀ v2, v2 = ((M 11 (x6 / (4 : Int32)).toNatClampNeg) >>> (((24 : Int32) - ((8 : Int32) * (irm x6 (4 : Int32)))) &&& 31)) → vp_in ((M 0 19) + x6) 400 ∧ ∀ M3, M3 = ms M 10 ((M 0 19) + x6).toNatClampNeg (vp_nar .byte v2.toInt8.toInt32) → P_M_feed_60 post n (x6 + (1 : Int32)) M3))
theorem k_M_feed_60 {X : FX} {g : GT} {A : Nat → Prop} {Z : State → Prop} {post : Int32 → Mem → Prop} (C : Cx X g layM A cX12_feed 7 RX12 0) (hr : 0 ≤ X.2.2.2.1.cells ∧ 0 ≤ X.2.2.2.1.slots) (hR : RetI X g layM A cX12_feed 7 0 0 Z post) : ∀ (n : Nat) (x6 : Int32) (M : Mem), P_M_feed_60 post n x6 M → AtX X g layM A 7 0 0 Z 60 [(0, .ref (ad g 0)), (6, .int x6)] [] M := by
  intro n
  induction n with
  | zero =>
    intro x6 M h
    exact h.elim
  | succ n ih =>
    intro x6 M h
    refine a_iload C (tk T_cX12_feed 38 rfl) rfl ?_
    refine a_bipush C (20 : Int32) (tk T_cX12_feed 39 rfl) kB_20 ?_
    refine a_icmp_ge C 106 (tk T_cX12_feed 40 rfl) rfl (fun c => ?_) (fun c => ?_)
    · have h := h.1 c
      refine a_aload_n C (tk T_cX12_feed 65 rfl) rfl ?_
      refine a_dupr C (tk T_cX12_feed 66 rfl) ?_
      refine a_getI C f_RX12_272 (tk T_cX12_feed 67 rfl) lm0 rfl ?_
      refine a_bipush C (20 : Int32) (tk T_cX12_feed 68 rfl) kB_20 ?_
      refine a_iadd C (tk T_cX12_feed 69 rfl) ?_
      refine a_put C f_RX12_272 f_RX12_272p rfl rfl (tk T_cX12_feed 70 rfl) lm0 rfl ?_
      refine a_mem (fun M1 e_M1 => ?_)
      have h := h M1 e_M1
      refine a_aload_n C (tk T_cX12_feed 71 rfl) rfl ?_
      refine a_getI C f_RX12_272 (tk T_cX12_feed 72 rfl) lm0 rfl ?_
      exact hR _ _ _ _ (tk T_cX12_feed 73 rfl) h
    · have h := h.2 c
      refine a_aload_n C (tk T_cX12_feed 41 rfl) rfl ?_
      refine a_getR C f_RX12_41 (tk T_cX12_feed 42 rfl) lm0 rfl ?_
      refine a_aload_n C (tk T_cX12_feed 43 rfl) rfl ?_
      refine a_getI C f_RX12_272 (tk T_cX12_feed 44 rfl) lm0 rfl ?_
      refine a_iload C (tk T_cX12_feed 45 rfl) rfl ?_
      refine a_iadd C (tk T_cX12_feed 46 rfl) ?_
      refine a_aload_n C (tk T_cX12_feed 47 rfl) rfl ?_
      refine a_getR C f_RX12_48 (tk T_cX12_feed 48 rfl) lm0 rfl ?_
      refine a_iload C (tk T_cX12_feed 49 rfl) rfl ?_
      refine a_iconst C (4 : Int32) (tk T_cX12_feed 50 rfl) kI_4 ?_
      refine a_idiv C (tk T_cX12_feed 51 rfl) (by decide) ?_
      obtain ⟨hb, h⟩ := h
      refine a_iald C (tk T_cX12_feed 52 rfl) lm11 hb ?_
      refine a_bipush C (24 : Int32) (tk T_cX12_feed 53 rfl) kB_24 ?_
      refine a_bipush C (8 : Int32) (tk T_cX12_feed 54 rfl) kB_8 ?_
      refine a_iload C (tk T_cX12_feed 55 rfl) rfl ?_
      refine a_iconst C (4 : Int32) (tk T_cX12_feed 56 rfl) kI_4 ?_
      refine a_irem C (tk T_cX12_feed 57 rfl) (by decide) ?_
      refine a_imul C (tk T_cX12_feed 58 rfl) ?_
      refine a_isub C (tk T_cX12_feed 59 rfl) ?_
      refine a_ishr C (tk T_cX12_feed 60 rfl) ?_
      refine a_top (fun v2 e_v2 => ?_)
      have h := h v2 e_v2
      refine a_i2b C (tk T_cX12_feed 61 rfl) ?_
      obtain ⟨hb, h⟩ := h
      refine a_bast C (tk T_cX12_feed 62 rfl) lm10 hb ?_
      refine a_mem (fun M3 e_M3 => ?_)
      have h := h M3 e_M3
      refine a_iinc C (1 : Int32) (tk T_cX12_feed 63 rfl) rfl kI_1 (by decide) rfl ?_
      refine a_goto C 60 (tk T_cX12_feed 64 rfl) rfl ?_
      exact a_to (ih (x6 + (1 : Int32)) M3 h) rfl
def P_M_feed (post : Int32 → Mem → Prop) (x1 x2 x3 x4 x5 : Int32) (M : Mem) : Prop :=
  ∀ M1, M1 = ms M 0 0 (0 : Int32) → (((M1 0 19) + (20 : Int32)) ≤ (400 : Int32) → (vp_in (0 : Int32) 5 ∧ ∀ M2, M2 = ms M1 11 (0 : Int32).toNatClampNeg x1 → vp_in (1 : Int32) 5 ∧ ∀ M3, M3 = ms M2 11 (1 : Int32).toNatClampNeg x2 → vp_in (2 : Int32) 5 ∧ ∀ M4, M4 = ms M3 11 (2 : Int32).toNatClampNeg x3 → vp_in (3 : Int32) 5 ∧ ∀ M5, M5 = ms M4 11 (3 : Int32).toNatClampNeg x4 → vp_in (4 : Int32) 5 ∧ ∀ M6, M6 = ms M5 11 (4 : Int32).toNatClampNeg x5 → ∃ j60, P_M_feed_60 post j60 (0 : Int32) M6)) ∧
  (¬ ((M1 0 19) + (20 : Int32)) ≤ (400 : Int32) → (post (-1 : Int32) M1))
theorem k_M_feed {X : FX} {g : GT} {A : Nat → Prop} {Z : State → Prop} {post : Int32 → Mem → Prop} (C : Cx X g layM A cX12_feed 7 RX12 0) (hr : 0 ≤ X.2.2.2.1.cells ∧ 0 ≤ X.2.2.2.1.slots) (hR : RetI X g layM A cX12_feed 7 0 0 Z post) (x1 x2 x3 x4 x5 : Int32) (M : Mem) (h : P_M_feed post x1 x2 x3 x4 x5 M) : AtX X g layM A 7 0 0 Z 0 [(0, .ref (ad g 0)), (1, .int x1), (2, .int x2), (3, .int x3), (4, .int x4), (5, .int x5)] [] M := by
  refine a_aload_n C (tk T_cX12_feed 0 rfl) rfl ?_
  refine a_iconst C (0 : Int32) (tk T_cX12_feed 1 rfl) kI_0 ?_
  refine a_put C f_RX12_3 f_RX12_3p rfl rfl (tk T_cX12_feed 2 rfl) lm0 rfl ?_
  refine a_mem (fun M1 e_M1 => ?_)
  have h := h M1 e_M1
  refine a_aload_n C (tk T_cX12_feed 3 rfl) rfl ?_
  refine a_getI C f_RX12_272 (tk T_cX12_feed 4 rfl) lm0 rfl ?_
  refine a_bipush C (20 : Int32) (tk T_cX12_feed 5 rfl) kB_20 ?_
  refine a_iadd C (tk T_cX12_feed 6 rfl) ?_
  refine a_sipush C (400 : Int32) (tk T_cX12_feed 7 rfl) kS_400 ?_
  refine a_icmp_le C 20 (tk T_cX12_feed 8 rfl) rfl (fun c => ?_) (fun c => ?_)
  · have h := h.1 c
    refine a_aload_n C (tk T_cX12_feed 11 rfl) rfl ?_
    refine a_getR C f_RX12_48 (tk T_cX12_feed 12 rfl) lm0 rfl ?_
    refine a_iconst C (0 : Int32) (tk T_cX12_feed 13 rfl) kI_0 ?_
    refine a_iload_n C (tk T_cX12_feed 14 rfl) rfl ?_
    obtain ⟨hb, h⟩ := h
    refine a_iast C (tk T_cX12_feed 15 rfl) lm11 hb ?_
    refine a_mem (fun M2 e_M2 => ?_)
    have h := h M2 e_M2
    refine a_aload_n C (tk T_cX12_feed 16 rfl) rfl ?_
    refine a_getR C f_RX12_48 (tk T_cX12_feed 17 rfl) lm0 rfl ?_
    refine a_iconst C (1 : Int32) (tk T_cX12_feed 18 rfl) kI_1 ?_
    refine a_iload_n C (tk T_cX12_feed 19 rfl) rfl ?_
    obtain ⟨hb, h⟩ := h
    refine a_iast C (tk T_cX12_feed 20 rfl) lm11 hb ?_
    refine a_mem (fun M3 e_M3 => ?_)
    have h := h M3 e_M3
    refine a_aload_n C (tk T_cX12_feed 21 rfl) rfl ?_
    refine a_getR C f_RX12_48 (tk T_cX12_feed 22 rfl) lm0 rfl ?_
    refine a_iconst C (2 : Int32) (tk T_cX12_feed 23 rfl) kI_2 ?_
    refine a_iload_n C (tk T_cX12_feed 24 rfl) rfl ?_
    obtain ⟨hb, h⟩ := h
    refine a_iast C (tk T_cX12_feed 25 rfl) lm11 hb ?_
    refine a_mem (fun M4 e_M4 => ?_)
    have h := h M4 e_M4
    refine a_aload_n C (tk T_cX12_feed 26 rfl) rfl ?_
    refine a_getR C f_RX12_48 (tk T_cX12_feed 27 rfl) lm0 rfl ?_
    refine a_iconst C (3 : Int32) (tk T_cX12_feed 28 rfl) kI_3 ?_
    refine a_iload C (tk T_cX12_feed 29 rfl) rfl ?_
    obtain ⟨hb, h⟩ := h
    refine a_iast C (tk T_cX12_feed 30 rfl) lm11 hb ?_
    refine a_mem (fun M5 e_M5 => ?_)
    have h := h M5 e_M5
    refine a_aload_n C (tk T_cX12_feed 31 rfl) rfl ?_
    refine a_getR C f_RX12_48 (tk T_cX12_feed 32 rfl) lm0 rfl ?_
    refine a_iconst C (4 : Int32) (tk T_cX12_feed 33 rfl) kI_4 ?_
    refine a_iload C (tk T_cX12_feed 34 rfl) rfl ?_
    obtain ⟨hb, h⟩ := h
    refine a_iast C (tk T_cX12_feed 35 rfl) lm11 hb ?_
    refine a_mem (fun M6 e_M6 => ?_)
    have h := h M6 e_M6
    refine a_iconst C (0 : Int32) (tk T_cX12_feed 36 rfl) kI_0 ?_
    refine a_istore C (tk T_cX12_feed 37 rfl) (by decide) rfl ?_
    obtain ⟨n1, h⟩ := h
    exact a_to (k_M_feed_60 C hr hR n1 (0 : Int32) M6 h) rfl
  · have h := h.2 c
    refine a_iconst C (-1 : Int32) (tk T_cX12_feed 9 rfl) kI_m1 ?_
    exact hR _ _ _ _ (tk T_cX12_feed 10 rfl) h
theorem ct_M_feed {l : Launch} {g : GT} {post : Int32 → Mem → Prop} {x1 x2 x3 x4 x5 : Int32} {M : Mem} (h : P_M_feed post x1 x2 x3 x4 x5 M) : CI l g layM yX12_feed cX12_feed 7 (some .int) 0 [.ref (ad g 0), .int x1, .int x2, .int x3, .int x4, .int x5] M post :=
  ci_of (plainFor_of_name (by decide +kernel)) (Nat.le_of_ble_eq_true rfl) (fun X A Z hl C hr hR => by subst hl; exact k_M_feed C hr hR x1 x2 x3 x4 x5 M h)
