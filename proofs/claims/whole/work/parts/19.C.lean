def T_cX11_outwardL : List (Nat × Instr × Nat) := [(0, .iload_n 0, 1), (1, .iconst 1, 1), (2, .iadd, 1), (3, .iconst 2, 1), (4, .idiv, 1), (5, .istore_n 1, 1), (6, .iload_n 0, 1), (7, .iconst 2, 1), (8, .irem, 1), (9, .iconst 1, 1), (10, .if_icmp .ne 8, 3), (13, .iload_n 1, 1), (14, .ineg, 1), (15, .goto 4, 3), (18, .iload_n 1, 1), (19, .ireturn, 1)]
theorem T_cX11_outward : tabOK cX11_outward T_cX11_outwardL = true := by decide +kernel
def P_R_outward_19 (post : Int32 → Mem → Prop) (s0 : Int32) (M : Mem) : Prop :=
  post s0 M
theorem k_R_outward_19 {X : FX} {g : GT} {ext : List CD} {A : Nat → Prop} {Z : State → Prop} {post : Int32 → Mem → Prop} (C : Cx X g (layC ++ ext) A cX11_outward 2 RX11 0) (hr : 0 ≤ X.2.2.2.1.cells ∧ 0 ≤ X.2.2.2.1.slots) (hR : RetI X g (layC ++ ext) A cX11_outward 2 0 0 Z post) (s0 : Int32) (M : Mem) (h : P_R_outward_19 post s0 M) : At X g (layC ++ ext) A 2 0 0 Z 19 [] [.int s0] M := by
  exact hR _ _ _ _ (tk T_cX11_outward 15 rfl) h
def P_R_outward (post : Int32 → Mem → Prop) (x0 : Int32) (M : Mem) : Prop :=
  ∀ x1_1, x1_1 = ((x0 + (1 : Int32)) / (2 : Int32)) → (¬ (irm x0 (2 : Int32)) = (1 : Int32) → (P_R_outward_19 post x1_1 M)) ∧
  ((irm x0 (2 : Int32)) = (1 : Int32) → (P_R_outward_19 post (-x1_1) M))
theorem k_R_outward {X : FX} {g : GT} {ext : List CD} {A : Nat → Prop} {Z : State → Prop} {post : Int32 → Mem → Prop} (C : Cx X g (layC ++ ext) A cX11_outward 2 RX11 0) (hr : 0 ≤ X.2.2.2.1.cells ∧ 0 ≤ X.2.2.2.1.slots) (hR : RetI X g (layC ++ ext) A cX11_outward 2 0 0 Z post) (x0 : Int32) (M : Mem) (h : P_R_outward post x0 M) : At X g (layC ++ ext) A 2 0 0 Z 0 [(0, .int x0)] [] M := by
  refine a_iload_n C (tk T_cX11_outward 0 rfl) rfl ?_
  refine a_iconst C (1 : Int32) (tk T_cX11_outward 1 rfl) kI_1 ?_
  refine a_iadd C (tk T_cX11_outward 2 rfl) ?_
  refine a_iconst C (2 : Int32) (tk T_cX11_outward 3 rfl) kI_2 ?_
  refine a_idiv C (tk T_cX11_outward 4 rfl) (by decide) ?_
  refine a_top (fun x1_1 e_x1_1 => ?_)
  have h := h x1_1 e_x1_1
  refine a_istore_n C (tk T_cX11_outward 5 rfl) (by decide) ?_
  refine a_iload_n C (tk T_cX11_outward 6 rfl) rfl ?_
  refine a_iconst C (2 : Int32) (tk T_cX11_outward 7 rfl) kI_2 ?_
  refine a_irem C (tk T_cX11_outward 8 rfl) (by decide) ?_
  refine a_iconst C (1 : Int32) (tk T_cX11_outward 9 rfl) kI_1 ?_
  refine a_icmp_ne C 18 (tk T_cX11_outward 10 rfl) rfl (fun c => ?_) (fun c => ?_)
  · have h := h.1 c
    refine a_iload_n C (tk T_cX11_outward 14 rfl) rfl ?_
    exact a_to (k_R_outward_19 C hr hR x1_1 M h) rfl
  · have h := h.2 c
    refine a_iload_n C (tk T_cX11_outward 11 rfl) rfl ?_
    refine a_ineg C (tk T_cX11_outward 12 rfl) ?_
    refine a_goto C 19 (tk T_cX11_outward 13 rfl) rfl ?_
    exact a_to (k_R_outward_19 C hr hR (-x1_1) M h) rfl
theorem ct_R_outward {l : Launch} {g : GT} {ext : List CD} {post : Int32 → Mem → Prop} {x0 : Int32} {M : Mem} (h : P_R_outward post x0 M) : CI l g (layC ++ ext) yX11_outward cX11_outward 2 (some .int) 0 [.int x0] M post :=
  ci_of (plainFor_of_name (by decide +kernel)) (Nat.le_of_ble_eq_true rfl) rfl (fun X A Z hl C hr hR => by subst hl; exact k_R_outward C hr hR x0 M h)
def T_cX8_truePlaceL : List (Nat × Instr × Nat) := [(0, .aload_n 0, 1), (1, .iload_n 1, 1), (2, .aload_n 0, 1), (3, .getfield 35, 3), (6, .aload_n 0, 1), (7, .getfield 38, 3), (10, .invokevirtual 44, 3), (13, .iload_n 2, 1), (14, .ifCond .eq 10, 3), (17, .aload_n 0, 1), (18, .getfield 41, 3), (21, .goto 4, 3), (24, .iconst 0, 1), (25, .iadd, 1), (26, .ireturn, 1)]
theorem T_cX8_truePlace : tabOK cX8_truePlace T_cX8_truePlaceL = true := by decide +kernel
def P_Screw_truePlace_25 (post : Int32 → Mem → Prop) (s0 s1 : Int32) (M : Mem) : Prop :=
  post (s0 + s1) M
theorem k_Screw_truePlace_25 {X : FX} {g : GT} {ext : List CD} {A : Nat → Prop} {Z : State → Prop} {post : Int32 → Mem → Prop} (C : Cx X g (layC ++ ext) A cX8_truePlace 3 RX8 2) (hr : 0 ≤ X.2.2.2.1.cells ∧ 0 ≤ X.2.2.2.1.slots) (hR : RetI X g (layC ++ ext) A cX8_truePlace 3 0 0 Z post) (s0 s1 : Int32) (M : Mem) (h : P_Screw_truePlace_25 post s0 s1 M) : At X g (layC ++ ext) A 3 0 0 Z 25 [] [.int s1, .int s0] M := by
  refine a_iadd C (tk T_cX8_truePlace 13 rfl) ?_
  exact hR _ _ _ _ (tk T_cX8_truePlace 14 rfl) h
def P_Screw_truePlace (post : Int32 → Mem → Prop) (x1 x2 : Int32) (M : Mem) : Prop :=
  P_Screw_turned (fun r1 M1 =>
  (x2 = 0 → (P_Screw_truePlace_25 post r1 (0 : Int32) M1)) ∧
  (¬ x2 = 0 → (P_Screw_truePlace_25 post r1 (M1 2 9) M1))) x1 (M 2 7) (M 2 8) M
theorem k_Screw_truePlace {X : FX} {g : GT} {ext : List CD} {A : Nat → Prop} {Z : State → Prop} {post : Int32 → Mem → Prop} (C : Cx X g (layC ++ ext) A cX8_truePlace 3 RX8 2) (hr : 0 ≤ X.2.2.2.1.cells ∧ 0 ≤ X.2.2.2.1.slots) (hR : RetI X g (layC ++ ext) A cX8_truePlace 3 0 0 Z post) (x1 x2 : Int32) (M : Mem) (h : P_Screw_truePlace post x1 x2 M) : At X g (layC ++ ext) A 3 0 0 Z 0 [(0, .ref (ad g 2)), (1, .int x1), (2, .int x2)] [] M := by
  refine a_aload_n C (tk T_cX8_truePlace 0 rfl) rfl ?_
  refine a_iload_n C (tk T_cX8_truePlace 1 rfl) rfl ?_
  refine a_aload_n C (tk T_cX8_truePlace 2 rfl) rfl ?_
  refine a_getI C f_RX8_35 (tk T_cX8_truePlace 3 rfl) lc2 rfl ?_
  refine a_aload_n C (tk T_cX8_truePlace 4 rfl) rfl ?_
  refine a_getI C f_RX8_38 (tk T_cX8_truePlace 5 rfl) lc2 rfl ?_
  refine a_callI C [.int x1, .int (M 2 7), .int (M 2 8)] me_yX8_turned lk_RX8_44 (ct_Screw_turned h) (by decide) lc2 rfl rfl rfl (Nat.le_of_ble_eq_true rfl) (tk T_cX8_truePlace 6 rfl) hr (fun r1 M1 h => ?_)
  refine a_iload_n C (tk T_cX8_truePlace 7 rfl) rfl ?_
  refine a_if_eq C 24 (tk T_cX8_truePlace 8 rfl) rfl (fun c => ?_) (fun c => ?_)
  · have h := h.1 c
    refine a_iconst C (0 : Int32) (tk T_cX8_truePlace 12 rfl) kI_0 ?_
    exact a_to (k_Screw_truePlace_25 C hr hR r1 (0 : Int32) M1 h) rfl
  · have h := h.2 c
    refine a_aload_n C (tk T_cX8_truePlace 9 rfl) rfl ?_
    refine a_getI C f_RX8_41 (tk T_cX8_truePlace 10 rfl) lc2 rfl ?_
    refine a_goto C 25 (tk T_cX8_truePlace 11 rfl) rfl ?_
    exact a_to (k_Screw_truePlace_25 C hr hR r1 (M1 2 9) M1 h) rfl
theorem ct_Screw_truePlace {l : Launch} {g : GT} {ext : List CD} {post : Int32 → Mem → Prop} {x1 x2 : Int32} {M : Mem} (h : P_Screw_truePlace post x1 x2 M) : CI l g (layC ++ ext) yX8_truePlace cX8_truePlace 3 (some .int) 2 [.ref (ad g 2), .int x1, .int x2] M post :=
  ci_of (plainFor_of_name (by decide +kernel)) (Nat.le_of_ble_eq_true rfl) rfl (fun X A Z hl C hr hR => by subst hl; exact k_Screw_truePlace C hr hR x1 x2 M h)
def T_cX5_putPlacesL : List (Nat × Instr × Nat) := [(0, .aload_n 0, 1), (1, .getfield 27, 3), (4, .getfield 96, 3), (7, .astore_n 2, 1), (8, .iconst 0, 1), (9, .istore_n 3, 1), (10, .iload_n 3, 1), (11, .aload_n 2, 1), (12, .getfield 102, 3), (15, .if_icmp .ge 57, 3), (18, .aload_n 0, 1), (19, .getfield 27, 3), (22, .getfield 107, 3), (25, .aload_n 2, 1), (26, .getfield 111, 3), (29, .iload_n 3, 1), (30, .iaload, 1), (31, .aload_n 2, 1), (32, .getfield 114, 3), (35, .iload_n 3, 1), (36, .baload, 1), (37, .invokevirtual 118, 3), (40, .istore 4, 2), (42, .aload_n 0, 1), (43, .getfield 9, 3), (46, .iload_n 3, 1), (47, .aload_n 2, 1), (48, .getfield 124, 3), (51, .iload_n 3, 1), (52, .baload, 1), (53, .ifCond .eq 10, 3), (56, .iload 4, 2), (58, .iload_n 1, 1), (59, .iadd, 1), (60, .goto 5, 3), (63, .iload 4, 2), (65, .iastore, 1), (66, .iinc 3 1, 3), (69, .goto (-59), 3), (72, .return_, 1)]
theorem T_cX5_putPlaces : tabOK cX5_putPlaces T_cX5_putPlacesL = true := by decide +kernel
def P_Laws_putPlaces_65 (post : Mem → Prop) (R10 : Int32 → Int32 → Mem → Prop) (x1 x3 s1 s2 : Int32) (M : Mem) : Prop :=
  vp_in s1 10 ∧ ∀ M1, M1 = ms M 64 s1.toNatClampNeg s2 → R10 x1 (x3 + (1 : Int32)) M1
theorem k_Laws_putPlaces_65 {X : FX} {g : GT} {ext : List CD} {A : Nat → Prop} {Z : State → Prop} {post : Mem → Prop} {R10 : Int32 → Int32 → Mem → Prop} (C : Cx X g (layC ++ ext) A cX5_putPlaces 5 RX5 3) (hr : 0 ≤ X.2.2.2.1.cells ∧ 0 ≤ X.2.2.2.1.slots) (hR : RetV X g (layC ++ ext) A cX5_putPlaces 5 0 0 Z post) (k10 : ∀ (y1 y3 : Int32) (M : Mem), R10 y1 y3 M → At X g (layC ++ ext) A 5 0 0 Z 10 [(0, .ref (ad g 63)), (2, .ref (ad g 8)), (1, .int y1), (3, .int y3)] [] M) (x1 x3 s1 s2 : Int32) (M : Mem) (h : P_Laws_putPlaces_65 post R10 x1 x3 s1 s2 M) : At X g (layC ++ ext) A 5 0 0 Z 65 [(0, .ref (ad g 63)), (2, .ref (ad g 8)), (1, .int x1), (3, .int x3)] [.int s2, .int s1, .ref (ad g 64)] M := by
  obtain ⟨hb, h⟩ := h
  refine a_iast C (tk T_cX5_putPlaces 36 rfl) lc64 hb ?_
  refine a_mem (fun M1 e_M1 => ?_)
  have h := h M1 e_M1
  refine a_iinc C (1 : Int32) (tk T_cX5_putPlaces 37 rfl) rfl kI_1 (by decide) ?_
  refine a_goto C 10 (tk T_cX5_putPlaces 38 rfl) rfl ?_
  exact a_to (k10 x1 (x3 + (1 : Int32)) M1 h) rfl
def P_Laws_putPlaces_10 (post : Mem → Prop) : Nat → Int32 → Int32 → Mem → Prop
  | 0, _, _, _ => False
  | n + 1, x1, x3, M =>
    ((M 8 4) ≤ x3 → (post M)) ∧
  (¬ (M 8 4) ≤ x3 → (vp_in x3 10 ∧ vp_in x3 10 ∧ P_Screw_truePlace (fun r1 M1 =>
  vp_in x3 10 ∧ ((M1 12 x3.toNatClampNeg) = 0 → (P_Laws_putPlaces_65 post (P_Laws_putPlaces_10 post n) x1 x3 x3 r1 M1)) ∧
  (¬ (M1 12 x3.toNatClampNeg) = 0 → (P_Laws_putPlaces_65 post (P_Laws_putPlaces_10 post n) x1 x3 x3 (r1 + x1) M1))) (M 9 x3.toNatClampNeg) (M 10 x3.toNatClampNeg) M))
theorem k_Laws_putPlaces_10 {X : FX} {g : GT} {ext : List CD} {A : Nat → Prop} {Z : State → Prop} {post : Mem → Prop} (C : Cx X g (layC ++ ext) A cX5_putPlaces 5 RX5 3) (hr : 0 ≤ X.2.2.2.1.cells ∧ 0 ≤ X.2.2.2.1.slots) (hR : RetV X g (layC ++ ext) A cX5_putPlaces 5 0 0 Z post) : ∀ (n : Nat) (x1 x3 : Int32) (M : Mem), P_Laws_putPlaces_10 post n x1 x3 M → At X g (layC ++ ext) A 5 0 0 Z 10 [(0, .ref (ad g 63)), (2, .ref (ad g 8)), (1, .int x1), (3, .int x3)] [] M := by
  intro n
  induction n with
  | zero =>
    intro x1 x3 M h
    exact h.elim
  | succ n ih =>
    intro x1 x3 M h
    refine a_iload_n C (tk T_cX5_putPlaces 6 rfl) rfl ?_
    refine a_aload_n C (tk T_cX5_putPlaces 7 rfl) rfl ?_
    refine a_getI C f_RX5_102 (tk T_cX5_putPlaces 8 rfl) lc8 rfl ?_
    refine a_icmp_ge C 72 (tk T_cX5_putPlaces 9 rfl) rfl (fun c => ?_) (fun c => ?_)
    · have h := h.1 c
      exact hR _ _ _ (tk T_cX5_putPlaces 39 rfl) h
    · have h := h.2 c
      refine a_aload_n C (tk T_cX5_putPlaces 10 rfl) rfl ?_
      refine a_getR C f_RX5_27 (tk T_cX5_putPlaces 11 rfl) lc63 rfl ?_
      refine a_getR C f_RX5_107 (tk T_cX5_putPlaces 12 rfl) lc1 rfl ?_
      refine a_aload_n C (tk T_cX5_putPlaces 13 rfl) rfl ?_
      refine a_getR C f_RX5_111 (tk T_cX5_putPlaces 14 rfl) lc8 rfl ?_
      refine a_iload_n C (tk T_cX5_putPlaces 15 rfl) rfl ?_
      obtain ⟨hb, h⟩ := h
      refine a_iald C (tk T_cX5_putPlaces 16 rfl) lc9 hb ?_
      refine a_aload_n C (tk T_cX5_putPlaces 17 rfl) rfl ?_
      refine a_getR C f_RX5_114 (tk T_cX5_putPlaces 18 rfl) lc8 rfl ?_
      refine a_iload_n C (tk T_cX5_putPlaces 19 rfl) rfl ?_
      obtain ⟨hb, h⟩ := h
      refine a_zald C (tk T_cX5_putPlaces 20 rfl) lc10 hb ?_
      refine a_callI C [.int (M 9 x3.toNatClampNeg), .int (M 10 x3.toNatClampNeg)] me_yX8_truePlace lk_RX5_118 (ct_Screw_truePlace h) (by decide) lc2 rfl rfl rfl (Nat.le_of_ble_eq_true rfl) (tk T_cX5_putPlaces 21 rfl) hr (fun r1 M1 h => ?_)
      refine a_istore C (tk T_cX5_putPlaces 22 rfl) (by decide) ?_
      refine a_aload_n C (tk T_cX5_putPlaces 23 rfl) rfl ?_
      refine a_getR C f_RX5_9 (tk T_cX5_putPlaces 24 rfl) lc63 rfl ?_
      refine a_iload_n C (tk T_cX5_putPlaces 25 rfl) rfl ?_
      refine a_aload_n C (tk T_cX5_putPlaces 26 rfl) rfl ?_
      refine a_getR C f_RX5_124 (tk T_cX5_putPlaces 27 rfl) lc8 rfl ?_
      refine a_iload_n C (tk T_cX5_putPlaces 28 rfl) rfl ?_
      obtain ⟨hb, h⟩ := h
      refine a_zald C (tk T_cX5_putPlaces 29 rfl) lc12 hb ?_
      refine a_if_eq C 63 (tk T_cX5_putPlaces 30 rfl) rfl (fun c => ?_) (fun c => ?_)
      · have h := h.1 c
        refine a_iload C (tk T_cX5_putPlaces 35 rfl) rfl ?_
        exact a_to (k_Laws_putPlaces_65 C hr hR ih x1 x3 x3 r1 M1 h) rfl
      · have h := h.2 c
        refine a_iload C (tk T_cX5_putPlaces 31 rfl) rfl ?_
        refine a_iload_n C (tk T_cX5_putPlaces 32 rfl) rfl ?_
        refine a_iadd C (tk T_cX5_putPlaces 33 rfl) ?_
        refine a_goto C 65 (tk T_cX5_putPlaces 34 rfl) rfl ?_
        exact a_to (k_Laws_putPlaces_65 C hr hR ih x1 x3 x3 (r1 + x1) M1 h) rfl
def P_Laws_putPlaces (post : Mem → Prop) (x1 : Int32) (M : Mem) : Prop :=
  ∃ j10, P_Laws_putPlaces_10 post j10 x1 (0 : Int32) M
theorem k_Laws_putPlaces {X : FX} {g : GT} {ext : List CD} {A : Nat → Prop} {Z : State → Prop} {post : Mem → Prop} (C : Cx X g (layC ++ ext) A cX5_putPlaces 5 RX5 3) (hr : 0 ≤ X.2.2.2.1.cells ∧ 0 ≤ X.2.2.2.1.slots) (hR : RetV X g (layC ++ ext) A cX5_putPlaces 5 0 0 Z post) (x1 : Int32) (M : Mem) (h : P_Laws_putPlaces post x1 M) : At X g (layC ++ ext) A 5 0 0 Z 0 [(0, .ref (ad g 63)), (1, .int x1)] [] M := by
  refine a_aload_n C (tk T_cX5_putPlaces 0 rfl) rfl ?_
  refine a_getR C f_RX5_27 (tk T_cX5_putPlaces 1 rfl) lc63 rfl ?_
  refine a_getR C f_RX5_96 (tk T_cX5_putPlaces 2 rfl) lc1 rfl ?_
  refine a_astore_n C (tk T_cX5_putPlaces 3 rfl) (by decide) ?_
  refine a_iconst C (0 : Int32) (tk T_cX5_putPlaces 4 rfl) kI_0 ?_
  refine a_istore_n C (tk T_cX5_putPlaces 5 rfl) (by decide) ?_
  obtain ⟨n1, h⟩ := h
  exact a_to (k_Laws_putPlaces_10 C hr hR n1 x1 (0 : Int32) M h) rfl
theorem ct_Laws_putPlaces {l : Launch} {g : GT} {ext : List CD} {post : Mem → Prop} {x1 : Int32} {M : Mem} (h : P_Laws_putPlaces post x1 M) : CV l g (layC ++ ext) yX5_putPlaces cX5_putPlaces 5 none 3 [.ref (ad g 63), .int x1] M post :=
  cv_of (plainFor_of_name (by decide +kernel)) (Nat.le_of_ble_eq_true rfl) rfl (fun X A Z hl C hr hR => by subst hl; exact k_Laws_putPlaces C hr hR x1 M h)
def T_cX5_someHoldsL : List (Nat × Instr × Nat) := [(0, .aload_n 0, 1), (1, .iload_n 1, 1), (2, .invokevirtual 42, 3), (5, .iconst 1, 1), (6, .istore_n 2, 1), (7, .iload_n 2, 1), (8, .bipush 90, 2), (10, .if_icmp .gt 35, 3), (13, .bipush (-9), 2), (15, .istore_n 3, 1), (16, .iload_n 3, 1), (17, .bipush 9, 2), (19, .if_icmp .gt 20, 3), (22, .aload_n 0, 1), (23, .iload_n 2, 1), (24, .iload_n 3, 1), (25, .invokevirtual 59, 3), (28, .ifCond .eq 5, 3), (31, .iconst 1, 1), (32, .ireturn, 1), (33, .iinc 3 1, 3), (36, .goto (-20), 3), (39, .iinc 2 1, 3), (42, .goto (-35), 3), (45, .iconst 0, 1), (46, .ireturn, 1)]
theorem T_cX5_someHolds : tabOK cX5_someHolds T_cX5_someHoldsL = true := by decide +kernel
def P_Laws_someHolds_16 (post : Int32 → Mem → Prop) (R7 : Int32 → Mem → Prop) : Nat → Int32 → Int32 → Mem → Prop
  | 0, _, _, _ => False
  | n + 1, x2, x3, M =>
    ((9 : Int32) < x3 → (R7 (x2 + (1 : Int32)) M)) ∧
  (¬ (9 : Int32) < x3 → (P_Laws_meetsAll (fun r1 M1 =>
  (r1 = 0 → (P_Laws_someHolds_16 post R7 n x2 (x3 + (1 : Int32)) M1)) ∧
  (¬ r1 = 0 → (post (1 : Int32) M1))) x2 x3 M))
theorem k_Laws_someHolds_16 {X : FX} {g : GT} {ext : List CD} {A : Nat → Prop} {Z : State → Prop} {post : Int32 → Mem → Prop} {R7 : Int32 → Mem → Prop} (C : Cx X g (layC ++ ext) A cX5_someHolds 4 RX5 4) (hr : 0 ≤ X.2.2.2.1.cells ∧ 0 ≤ X.2.2.2.1.slots) (hR : RetZ X g (layC ++ ext) A cX5_someHolds 4 0 0 Z post) (k7 : ∀ (y2 : Int32) (M : Mem), R7 y2 M → At X g (layC ++ ext) A 4 0 0 Z 7 [(0, .ref (ad g 63)), (2, .int y2)] [] M) : ∀ (n : Nat) (x2 x3 : Int32) (M : Mem), P_Laws_someHolds_16 post R7 n x2 x3 M → At X g (layC ++ ext) A 4 0 0 Z 16 [(0, .ref (ad g 63)), (2, .int x2), (3, .int x3)] [] M := by
  intro n
  induction n with
  | zero =>
    intro x2 x3 M h
    exact h.elim
  | succ n ih =>
    intro x2 x3 M h
    refine a_iload_n C (tk T_cX5_someHolds 10 rfl) rfl ?_
    refine a_bipush C (9 : Int32) (tk T_cX5_someHolds 11 rfl) kB_9 ?_
    refine a_icmp_gt C 39 (tk T_cX5_someHolds 12 rfl) rfl (fun c => ?_) (fun c => ?_)
    · have h := h.1 c
      refine a_iinc C (1 : Int32) (tk T_cX5_someHolds 22 rfl) rfl kI_1 (by decide) ?_
      refine a_goto C 7 (tk T_cX5_someHolds 23 rfl) rfl ?_
      exact a_to (k7 (x2 + (1 : Int32)) M h) rfl
    · have h := h.2 c
      refine a_aload_n C (tk T_cX5_someHolds 13 rfl) rfl ?_
      refine a_iload_n C (tk T_cX5_someHolds 14 rfl) rfl ?_
      refine a_iload_n C (tk T_cX5_someHolds 15 rfl) rfl ?_
      refine a_callI C [.int x2, .int x3] me_yX5_meetsAll lk_RX5_59 (ct_Laws_meetsAll h) (by decide) lc63 rfl rfl rfl (Nat.le_of_ble_eq_true rfl) (tk T_cX5_someHolds 16 rfl) hr (fun r1 M1 h => ?_)
      refine a_if_eq C 33 (tk T_cX5_someHolds 17 rfl) rfl (fun c => ?_) (fun c => ?_)
      · have h := h.1 c
        refine a_iinc C (1 : Int32) (tk T_cX5_someHolds 20 rfl) rfl kI_1 (by decide) ?_
        refine a_goto C 16 (tk T_cX5_someHolds 21 rfl) rfl ?_
        exact a_to (ih x2 (x3 + (1 : Int32)) M1 h) rfl
      · have h := h.2 c
        refine a_iconst C (1 : Int32) (tk T_cX5_someHolds 18 rfl) kI_1 ?_
        exact hR _ _ _ _ (tk T_cX5_someHolds 19 rfl) ⟨Or.inr rfl, h⟩
def P_Laws_someHolds_7 (post : Int32 → Mem → Prop) : Nat → Int32 → Mem → Prop
  | 0, _, _ => False
  | n + 1, x2, M =>
    ((90 : Int32) < x2 → (post (0 : Int32) M)) ∧
  (¬ (90 : Int32) < x2 → (∃ j16, P_Laws_someHolds_16 post (P_Laws_someHolds_7 post n) j16 x2 (-9 : Int32) M))
theorem k_Laws_someHolds_7 {X : FX} {g : GT} {ext : List CD} {A : Nat → Prop} {Z : State → Prop} {post : Int32 → Mem → Prop} (C : Cx X g (layC ++ ext) A cX5_someHolds 4 RX5 4) (hr : 0 ≤ X.2.2.2.1.cells ∧ 0 ≤ X.2.2.2.1.slots) (hR : RetZ X g (layC ++ ext) A cX5_someHolds 4 0 0 Z post) : ∀ (n : Nat) (x2 : Int32) (M : Mem), P_Laws_someHolds_7 post n x2 M → At X g (layC ++ ext) A 4 0 0 Z 7 [(0, .ref (ad g 63)), (2, .int x2)] [] M := by
  intro n
  induction n with
  | zero =>
    intro x2 M h
    exact h.elim
  | succ n ih =>
    intro x2 M h
    refine a_iload_n C (tk T_cX5_someHolds 5 rfl) rfl ?_
    refine a_bipush C (90 : Int32) (tk T_cX5_someHolds 6 rfl) kB_90 ?_
    refine a_icmp_gt C 45 (tk T_cX5_someHolds 7 rfl) rfl (fun c => ?_) (fun c => ?_)
    · have h := h.1 c
      refine a_iconst C (0 : Int32) (tk T_cX5_someHolds 24 rfl) kI_0 ?_
      exact hR _ _ _ _ (tk T_cX5_someHolds 25 rfl) ⟨Or.inl rfl, h⟩
    · have h := h.2 c
      refine a_bipush C (-9 : Int32) (tk T_cX5_someHolds 8 rfl) kB_m9 ?_
      refine a_istore_n C (tk T_cX5_someHolds 9 rfl) (by decide) ?_
      obtain ⟨n1, h⟩ := h
      exact a_to (k_Laws_someHolds_16 C hr hR ih n1 x2 (-9 : Int32) M h) rfl
def P_Laws_someHolds (post : Int32 → Mem → Prop) (x1 : Int32) (M : Mem) : Prop :=
  P_Laws_putPlaces (fun M1 =>
  ∃ j7, P_Laws_someHolds_7 post j7 (1 : Int32) M1) x1 M
theorem k_Laws_someHolds {X : FX} {g : GT} {ext : List CD} {A : Nat → Prop} {Z : State → Prop} {post : Int32 → Mem → Prop} (C : Cx X g (layC ++ ext) A cX5_someHolds 4 RX5 4) (hr : 0 ≤ X.2.2.2.1.cells ∧ 0 ≤ X.2.2.2.1.slots) (hR : RetZ X g (layC ++ ext) A cX5_someHolds 4 0 0 Z post) (x1 : Int32) (M : Mem) (h : P_Laws_someHolds post x1 M) : At X g (layC ++ ext) A 4 0 0 Z 0 [(0, .ref (ad g 63)), (1, .int x1)] [] M := by
  refine a_aload_n C (tk T_cX5_someHolds 0 rfl) rfl ?_
  refine a_iload_n C (tk T_cX5_someHolds 1 rfl) rfl ?_
  refine a_callV C [.int x1] me_yX5_putPlaces lk_RX5_42 (ct_Laws_putPlaces h) (by decide) lc63 rfl rfl rfl (Nat.le_of_ble_eq_true rfl) (tk T_cX5_someHolds 2 rfl) hr (fun M1 h => ?_)
  refine a_iconst C (1 : Int32) (tk T_cX5_someHolds 3 rfl) kI_1 ?_
  refine a_istore_n C (tk T_cX5_someHolds 4 rfl) (by decide) ?_
  obtain ⟨n1, h⟩ := h
  exact a_to (k_Laws_someHolds_7 C hr hR n1 (1 : Int32) M1 h) rfl
theorem ct_Laws_someHolds {l : Launch} {g : GT} {ext : List CD} {post : Int32 → Mem → Prop} {x1 : Int32} {M : Mem} (h : P_Laws_someHolds post x1 M) : CI l g (layC ++ ext) yX5_someHolds cX5_someHolds 4 (some .boolean) 4 [.ref (ad g 63), .int x1] M post :=
  cz_of (plainFor_of_name (by decide +kernel)) (Nat.le_of_ble_eq_true rfl) rfl (fun X A Z hl C hr hR => by subst hl; exact k_Laws_someHolds C hr hR x1 M h)
def T_cX11_slippedL : List (Nat × Instr × Nat) := [(0, .iconst 0, 1), (1, .istore_n 1, 1), (2, .iload_n 1, 1), (3, .bipush 60, 2), (5, .if_icmp .gt 28, 3), (8, .aload_n 0, 1), (9, .getfield 24, 3), (12, .iload_n 1, 1), (13, .invokestatic 182, 3), (16, .invokevirtual 185, 3), (19, .ifCond .eq 8, 3), (22, .iload_n 1, 1), (23, .invokestatic 182, 3), (26, .ireturn, 1), (27, .iinc 1 1, 3), (30, .goto (-28), 3), (33, .bipush 99, 2), (35, .ireturn, 1)]
theorem T_cX11_slipped : tabOK cX11_slipped T_cX11_slippedL = true := by decide +kernel
def P_R_slipped_2 (post : Int32 → Mem → Prop) : Nat → Int32 → Mem → Prop
  | 0, _, _ => False
  | n + 1, x1, M =>
    ((60 : Int32) < x1 → (post (99 : Int32) M)) ∧
  (¬ (60 : Int32) < x1 → (P_R_outward (fun r1 M1 =>
  P_Laws_someHolds (fun r2 M2 =>
  (r2 = 0 → (P_R_slipped_2 post n (x1 + (1 : Int32)) M2)) ∧
  (¬ r2 = 0 → (P_R_outward (fun r3 M3 =>
  post r3 M3) x1 M2))) r1 M1) x1 M))
theorem k_R_slipped_2 {X : FX} {g : GT} {ext : List CD} {A : Nat → Prop} {Z : State → Prop} {post : Int32 → Mem → Prop} (C : Cx X g (layC ++ ext) A cX11_slipped 2 RX11 5) (hr : 0 ≤ X.2.2.2.1.cells ∧ 0 ≤ X.2.2.2.1.slots) (hR : RetI X g (layC ++ ext) A cX11_slipped 2 0 0 Z post) : ∀ (n : Nat) (x1 : Int32) (M : Mem), P_R_slipped_2 post n x1 M → At X g (layC ++ ext) A 2 0 0 Z 2 [(0, .ref (ad g 0)), (1, .int x1)] [] M := by
  intro n
  induction n with
  | zero =>
    intro x1 M h
    exact h.elim
  | succ n ih =>
    intro x1 M h
    refine a_iload_n C (tk T_cX11_slipped 2 rfl) rfl ?_
    refine a_bipush C (60 : Int32) (tk T_cX11_slipped 3 rfl) kB_60 ?_
    refine a_icmp_gt C 33 (tk T_cX11_slipped 4 rfl) rfl (fun c => ?_) (fun c => ?_)
    · have h := h.1 c
      refine a_bipush C (99 : Int32) (tk T_cX11_slipped 16 rfl) kB_99 ?_
      exact hR _ _ _ _ (tk T_cX11_slipped 17 rfl) h
    · have h := h.2 c
      refine a_aload_n C (tk T_cX11_slipped 5 rfl) rfl ?_
      refine a_getR C f_RX11_24 (tk T_cX11_slipped 6 rfl) lc0 rfl ?_
      refine a_iload_n C (tk T_cX11_slipped 7 rfl) rfl ?_
      refine a_statI C [.int x1] me_yX11_outward lk_RX11_182 (ct_R_outward h) (by decide) rfl rfl (Nat.le_of_ble_eq_true rfl) (tk T_cX11_slipped 8 rfl) hr (fun r1 M1 h => ?_)
      refine a_callI C [.int r1] me_yX5_someHolds lk_RX11_185 (ct_Laws_someHolds h) (by decide) lc63 rfl rfl rfl (Nat.le_of_ble_eq_true rfl) (tk T_cX11_slipped 9 rfl) hr (fun r2 M2 h => ?_)
      refine a_if_eq C 27 (tk T_cX11_slipped 10 rfl) rfl (fun c => ?_) (fun c => ?_)
      · have h := h.1 c
        refine a_iinc C (1 : Int32) (tk T_cX11_slipped 14 rfl) rfl kI_1 (by decide) ?_
        refine a_goto C 2 (tk T_cX11_slipped 15 rfl) rfl ?_
        exact a_to (ih (x1 + (1 : Int32)) M2 h) rfl
      · have h := h.2 c
        refine a_iload_n C (tk T_cX11_slipped 11 rfl) rfl ?_
        refine a_statI C [.int x1] me_yX11_outward lk_RX11_182 (ct_R_outward h) (by decide) rfl rfl (Nat.le_of_ble_eq_true rfl) (tk T_cX11_slipped 12 rfl) hr (fun r3 M3 h => ?_)
        exact hR _ _ _ _ (tk T_cX11_slipped 13 rfl) h
def P_R_slipped (post : Int32 → Mem → Prop) (M : Mem) : Prop :=
  ∃ j2, P_R_slipped_2 post j2 (0 : Int32) M
theorem k_R_slipped {X : FX} {g : GT} {ext : List CD} {A : Nat → Prop} {Z : State → Prop} {post : Int32 → Mem → Prop} (C : Cx X g (layC ++ ext) A cX11_slipped 2 RX11 5) (hr : 0 ≤ X.2.2.2.1.cells ∧ 0 ≤ X.2.2.2.1.slots) (hR : RetI X g (layC ++ ext) A cX11_slipped 2 0 0 Z post) (M : Mem) (h : P_R_slipped post M) : At X g (layC ++ ext) A 2 0 0 Z 0 [(0, .ref (ad g 0))] [] M := by
  refine a_iconst C (0 : Int32) (tk T_cX11_slipped 0 rfl) kI_0 ?_
  refine a_istore_n C (tk T_cX11_slipped 1 rfl) (by decide) ?_
  obtain ⟨n1, h⟩ := h
  exact a_to (k_R_slipped_2 C hr hR n1 (0 : Int32) M h) rfl
theorem ct_R_slipped {l : Launch} {g : GT} {ext : List CD} {post : Int32 → Mem → Prop} {M : Mem} (h : P_R_slipped post M) : CI l g (layC ++ ext) yX11_slipped cX11_slipped 2 (some .int) 5 [.ref (ad g 0)] M post :=
  ci_of (plainFor_of_name (by decide +kernel)) (Nat.le_of_ble_eq_true rfl) rfl (fun X A Z hl C hr hR => by subst hl; exact k_R_slipped C hr hR  M h)
def T_cX11_awayL : List (Nat × Instr × Nat) := [(0, .aload_n 0, 1), (1, .getfield 10, 3), (4, .getfield 208, 3), (7, .getfield 235, 3), (10, .ifCond .ne 5, 3), (13, .iconst (-1), 1), (14, .ireturn, 1), (15, .aload_n 0, 1), (16, .getfield 10, 3), (19, .getfield 208, 3), (22, .dup, 1), (23, .getfield 235, 3), (26, .iconst 1, 1), (27, .isub, 1), (28, .putfield 235, 3), (31, .aload_n 0, 1), (32, .getfield 10, 3), (35, .getfield 208, 3), (38, .getfield 235, 3), (41, .ireturn, 1)]
theorem T_cX11_away : tabOK cX11_away T_cX11_awayL = true := by decide +kernel
def P_R_away (post : Int32 → Mem → Prop) (M : Mem) : Prop :=
  (¬ (M 18 11) = 0 → (∀ M1, M1 = ms M 18 11 ((M 18 11) - (1 : Int32)) → post (M1 18 11) M1)) ∧
  ((M 18 11) = 0 → (post (-1 : Int32) M))
theorem k_R_away {X : FX} {g : GT} {ext : List CD} {A : Nat → Prop} {Z : State → Prop} {post : Int32 → Mem → Prop} (C : Cx X g (layC ++ ext) A cX11_away 1 RX11 0) (hr : 0 ≤ X.2.2.2.1.cells ∧ 0 ≤ X.2.2.2.1.slots) (hR : RetI X g (layC ++ ext) A cX11_away 1 0 0 Z post) (M : Mem) (h : P_R_away post M) : At X g (layC ++ ext) A 1 0 0 Z 0 [(0, .ref (ad g 0))] [] M := by
  refine a_aload_n C (tk T_cX11_away 0 rfl) rfl ?_
  refine a_getR C f_RX11_10 (tk T_cX11_away 1 rfl) lc0 rfl ?_
  refine a_getR C f_RX11_208 (tk T_cX11_away 2 rfl) lc1 rfl ?_
  refine a_getI C f_RX11_235 (tk T_cX11_away 3 rfl) lc18 rfl ?_
  refine a_if_ne C 15 (tk T_cX11_away 4 rfl) rfl (fun c => ?_) (fun c => ?_)
  · have h := h.1 c
    refine a_aload_n C (tk T_cX11_away 7 rfl) rfl ?_
    refine a_getR C f_RX11_10 (tk T_cX11_away 8 rfl) lc0 rfl ?_
    refine a_getR C f_RX11_208 (tk T_cX11_away 9 rfl) lc1 rfl ?_
    refine a_dupr C (tk T_cX11_away 10 rfl) ?_
    refine a_getI C f_RX11_235 (tk T_cX11_away 11 rfl) lc18 rfl ?_
    refine a_iconst C (1 : Int32) (tk T_cX11_away 12 rfl) kI_1 ?_
    refine a_isub C (tk T_cX11_away 13 rfl) ?_
    refine a_put C f_RX11_235 f_RX11_235p rfl rfl (tk T_cX11_away 14 rfl) lc18 rfl ?_
    refine a_mem (fun M1 e_M1 => ?_)
    have h := h M1 e_M1
    refine a_aload_n C (tk T_cX11_away 15 rfl) rfl ?_
    refine a_getR C f_RX11_10 (tk T_cX11_away 16 rfl) lc0 rfl ?_
    refine a_getR C f_RX11_208 (tk T_cX11_away 17 rfl) lc1 rfl ?_
    refine a_getI C f_RX11_235 (tk T_cX11_away 18 rfl) lc18 rfl ?_
    exact hR _ _ _ _ (tk T_cX11_away 19 rfl) h
  · have h := h.2 c
    refine a_iconst C (-1 : Int32) (tk T_cX11_away 5 rfl) kI_m1 ?_
    exact hR _ _ _ _ (tk T_cX11_away 6 rfl) h
theorem ct_R_away {l : Launch} {g : GT} {ext : List CD} {post : Int32 → Mem → Prop} {M : Mem} (h : P_R_away post M) : CI l g (layC ++ ext) yX11_away cX11_away 1 (some .int) 0 [.ref (ad g 0)] M post :=
  ci_of (plainFor_of_name (by decide +kernel)) (Nat.le_of_ble_eq_true rfl) rfl (fun X A Z hl C hr hR => by subst hl; exact k_R_away C hr hR  M h)
def T_cX10_airBitsL : List (Nat × Instr × Nat) := [(0, .iconst 0, 1), (1, .istore_n 1, 1), (2, .iconst 0, 1), (3, .istore_n 2, 1), (4, .iload_n 2, 1), (5, .aload_n 0, 1), (6, .getfield 25, 3), (9, .if_icmp .ge 24, 3), (12, .aload_n 0, 1), (13, .getfield 9, 3), (16, .iload_n 2, 1), (17, .baload, 1), (18, .ifCond .eq 9, 3), (21, .iload_n 1, 1), (22, .iconst 1, 1), (23, .iload_n 2, 1), (24, .ishl, 1), (25, .ior, 1), (26, .istore_n 1, 1), (27, .iinc 2 1, 3), (30, .goto (-26), 3), (33, .iload_n 1, 1), (34, .ireturn, 1)]
theorem T_cX10_airBits : tabOK cX10_airBits T_cX10_airBitsL = true := by decide +kernel
def P_Table_airBits_27 (post : Int32 → Mem → Prop) (R4 : Int32 → Int32 → Mem → Prop) (x1 x2 : Int32) (M : Mem) : Prop :=
  R4 x1 (x2 + (1 : Int32)) M
theorem k_Table_airBits_27 {X : FX} {g : GT} {ext : List CD} {A : Nat → Prop} {Z : State → Prop} {post : Int32 → Mem → Prop} {R4 : Int32 → Int32 → Mem → Prop} (C : Cx X g (layC ++ ext) A cX10_airBits 3 RX10 0) (hr : 0 ≤ X.2.2.2.1.cells ∧ 0 ≤ X.2.2.2.1.slots) (hR : RetI X g (layC ++ ext) A cX10_airBits 3 0 0 Z post) (k4 : ∀ (y1 y2 : Int32) (M : Mem), R4 y1 y2 M → At X g (layC ++ ext) A 3 0 0 Z 4 [(0, .ref (ad g 13)), (1, .int y1), (2, .int y2)] [] M) (x1 x2 : Int32) (M : Mem) (h : P_Table_airBits_27 post R4 x1 x2 M) : At X g (layC ++ ext) A 3 0 0 Z 27 [(0, .ref (ad g 13)), (1, .int x1), (2, .int x2)] [] M := by
  refine a_iinc C (1 : Int32) (tk T_cX10_airBits 19 rfl) rfl kI_1 (by decide) ?_
  refine a_goto C 4 (tk T_cX10_airBits 20 rfl) rfl ?_
  exact a_to (k4 x1 (x2 + (1 : Int32)) M h) rfl
def P_Table_airBits_4 (post : Int32 → Mem → Prop) : Nat → Int32 → Int32 → Mem → Prop
  | 0, _, _, _ => False
  | n + 1, x1, x2, M =>
    ((M 13 4) ≤ x2 → (post x1 M)) ∧
  (¬ (M 13 4) ≤ x2 → (vp_in x2 6 ∧ ((M 14 x2.toNatClampNeg) = 0 → (P_Table_airBits_27 post (P_Table_airBits_4 post n) x1 x2 M)) ∧
  (¬ (M 14 x2.toNatClampNeg) = 0 → (∀ x1_1, x1_1 = (x1 ||| ((1 : Int32) <<< (x2 &&& 31))) → P_Table_airBits_27 post (P_Table_airBits_4 post n) x1_1 x2 M))))
theorem k_Table_airBits_4 {X : FX} {g : GT} {ext : List CD} {A : Nat → Prop} {Z : State → Prop} {post : Int32 → Mem → Prop} (C : Cx X g (layC ++ ext) A cX10_airBits 3 RX10 0) (hr : 0 ≤ X.2.2.2.1.cells ∧ 0 ≤ X.2.2.2.1.slots) (hR : RetI X g (layC ++ ext) A cX10_airBits 3 0 0 Z post) : ∀ (n : Nat) (x1 x2 : Int32) (M : Mem), P_Table_airBits_4 post n x1 x2 M → At X g (layC ++ ext) A 3 0 0 Z 4 [(0, .ref (ad g 13)), (1, .int x1), (2, .int x2)] [] M := by
  intro n
  induction n with
  | zero =>
    intro x1 x2 M h
    exact h.elim
  | succ n ih =>
    intro x1 x2 M h
    refine a_iload_n C (tk T_cX10_airBits 4 rfl) rfl ?_
    refine a_aload_n C (tk T_cX10_airBits 5 rfl) rfl ?_
    refine a_getI C f_RX10_25 (tk T_cX10_airBits 6 rfl) lc13 rfl ?_
    refine a_icmp_ge C 33 (tk T_cX10_airBits 7 rfl) rfl (fun c => ?_) (fun c => ?_)
    · have h := h.1 c
      refine a_iload_n C (tk T_cX10_airBits 21 rfl) rfl ?_
      exact hR _ _ _ _ (tk T_cX10_airBits 22 rfl) h
    · have h := h.2 c
      refine a_aload_n C (tk T_cX10_airBits 8 rfl) rfl ?_
      refine a_getR C f_RX10_9 (tk T_cX10_airBits 9 rfl) lc13 rfl ?_
      refine a_iload_n C (tk T_cX10_airBits 10 rfl) rfl ?_
      obtain ⟨hb, h⟩ := h
      refine a_zald C (tk T_cX10_airBits 11 rfl) lc14 hb ?_
      refine a_if_eq C 27 (tk T_cX10_airBits 12 rfl) rfl (fun c => ?_) (fun c => ?_)
      · have h := h.1 c
        exact a_to (k_Table_airBits_27 C hr hR ih x1 x2 M h) rfl
      · have h := h.2 c
        refine a_iload_n C (tk T_cX10_airBits 13 rfl) rfl ?_
        refine a_iconst C (1 : Int32) (tk T_cX10_airBits 14 rfl) kI_1 ?_
        refine a_iload_n C (tk T_cX10_airBits 15 rfl) rfl ?_
        refine a_ishl C (tk T_cX10_airBits 16 rfl) ?_
        refine a_ior C (tk T_cX10_airBits 17 rfl) ?_
        refine a_top (fun x1_1 e_x1_1 => ?_)
        have h := h x1_1 e_x1_1
        refine a_istore_n C (tk T_cX10_airBits 18 rfl) (by decide) ?_
        exact a_to (k_Table_airBits_27 C hr hR ih x1_1 x2 M h) rfl
def P_Table_airBits (post : Int32 → Mem → Prop) (M : Mem) : Prop :=
  ∃ j4, P_Table_airBits_4 post j4 (0 : Int32) (0 : Int32) M
theorem k_Table_airBits {X : FX} {g : GT} {ext : List CD} {A : Nat → Prop} {Z : State → Prop} {post : Int32 → Mem → Prop} (C : Cx X g (layC ++ ext) A cX10_airBits 3 RX10 0) (hr : 0 ≤ X.2.2.2.1.cells ∧ 0 ≤ X.2.2.2.1.slots) (hR : RetI X g (layC ++ ext) A cX10_airBits 3 0 0 Z post) (M : Mem) (h : P_Table_airBits post M) : At X g (layC ++ ext) A 3 0 0 Z 0 [(0, .ref (ad g 13))] [] M := by
  refine a_iconst C (0 : Int32) (tk T_cX10_airBits 0 rfl) kI_0 ?_
  refine a_istore_n C (tk T_cX10_airBits 1 rfl) (by decide) ?_
  refine a_iconst C (0 : Int32) (tk T_cX10_airBits 2 rfl) kI_0 ?_
  refine a_istore_n C (tk T_cX10_airBits 3 rfl) (by decide) ?_
  obtain ⟨n1, h⟩ := h
  exact a_to (k_Table_airBits_4 C hr hR n1 (0 : Int32) (0 : Int32) M h) rfl
theorem ct_Table_airBits {l : Launch} {g : GT} {ext : List CD} {post : Int32 → Mem → Prop} {M : Mem} (h : P_Table_airBits post M) : CI l g (layC ++ ext) yX10_airBits cX10_airBits 3 (some .int) 0 [.ref (ad g 13)] M post :=
  ci_of (plainFor_of_name (by decide +kernel)) (Nat.le_of_ble_eq_true rfl) rfl (fun X A Z hl C hr hR => by subst hl; exact k_Table_airBits C hr hR  M h)
def T_cX10_withAirL : List (Nat × Instr × Nat) := [(0, .iload_n 1, 1), (1, .iconst 1, 1), (2, .aload_n 0, 1), (3, .getfield 25, 3), (6, .ishl, 1), (7, .iconst 1, 1), (8, .isub, 1), (9, .iand, 1), (10, .aload_n 0, 1), (11, .invokevirtual 29, 3), (14, .ior, 1), (15, .ireturn, 1)]
theorem T_cX10_withAir : tabOK cX10_withAir T_cX10_withAirL = true := by decide +kernel
def P_Table_withAir (post : Int32 → Mem → Prop) (x1 : Int32) (M : Mem) : Prop :=
  P_Table_airBits (fun r1 M1 =>
  ∀ v2, v2 = ((x1 &&& (((1 : Int32) <<< ((M 13 4) &&& 31)) - (1 : Int32))) ||| r1) → post v2 M1) M
theorem k_Table_withAir {X : FX} {g : GT} {ext : List CD} {A : Nat → Prop} {Z : State → Prop} {post : Int32 → Mem → Prop} (C : Cx X g (layC ++ ext) A cX10_withAir 2 RX10 1) (hr : 0 ≤ X.2.2.2.1.cells ∧ 0 ≤ X.2.2.2.1.slots) (hR : RetI X g (layC ++ ext) A cX10_withAir 2 0 0 Z post) (x1 : Int32) (M : Mem) (h : P_Table_withAir post x1 M) : At X g (layC ++ ext) A 2 0 0 Z 0 [(0, .ref (ad g 13)), (1, .int x1)] [] M := by
  refine a_iload_n C (tk T_cX10_withAir 0 rfl) rfl ?_
  refine a_iconst C (1 : Int32) (tk T_cX10_withAir 1 rfl) kI_1 ?_
  refine a_aload_n C (tk T_cX10_withAir 2 rfl) rfl ?_
  refine a_getI C f_RX10_25 (tk T_cX10_withAir 3 rfl) lc13 rfl ?_
  refine a_ishl C (tk T_cX10_withAir 4 rfl) ?_
  refine a_iconst C (1 : Int32) (tk T_cX10_withAir 5 rfl) kI_1 ?_
  refine a_isub C (tk T_cX10_withAir 6 rfl) ?_
  refine a_iand C (tk T_cX10_withAir 7 rfl) ?_
  refine a_aload_n C (tk T_cX10_withAir 8 rfl) rfl ?_
  refine a_callI C [] me_yX10_airBits lk_RX10_29 (ct_Table_airBits h) (by decide) lc13 rfl rfl rfl (Nat.le_of_ble_eq_true rfl) (tk T_cX10_withAir 9 rfl) hr (fun r1 M1 h => ?_)
  refine a_ior C (tk T_cX10_withAir 10 rfl) ?_
  refine a_top (fun v2 e_v2 => ?_)
  have h := h v2 e_v2
  exact hR _ _ _ _ (tk T_cX10_withAir 11 rfl) h
theorem ct_Table_withAir {l : Launch} {g : GT} {ext : List CD} {post : Int32 → Mem → Prop} {x1 : Int32} {M : Mem} (h : P_Table_withAir post x1 M) : CI l g (layC ++ ext) yX10_withAir cX10_withAir 2 (some .int) 1 [.ref (ad g 13), .int x1] M post :=
  ci_of (plainFor_of_name (by decide +kernel)) (Nat.le_of_ble_eq_true rfl) rfl (fun X A Z hl C hr hR => by subst hl; exact k_Table_withAir C hr hR x1 M h)
def T_cX11_hasL : List (Nat × Instr × Nat) := [(0, .iload_n 0, 1), (1, .iload_n 1, 1), (2, .ishr, 1), (3, .iconst 1, 1), (4, .iand, 1), (5, .iconst 1, 1), (6, .if_icmp .ne 7, 3), (9, .iconst 1, 1), (10, .goto 4, 3), (13, .iconst 0, 1), (14, .ireturn, 1)]
theorem T_cX11_has : tabOK cX11_has T_cX11_hasL = true := by decide +kernel
def P_R_has_14 (post : Int32 → Mem → Prop) (s0 : Int32) (M : Mem) : Prop :=
  (s0 = 0 ∨ s0 = 1) ∧ post s0 M
theorem k_R_has_14 {X : FX} {g : GT} {ext : List CD} {A : Nat → Prop} {Z : State → Prop} {post : Int32 → Mem → Prop} (C : Cx X g (layC ++ ext) A cX11_has 2 RX11 0) (hr : 0 ≤ X.2.2.2.1.cells ∧ 0 ≤ X.2.2.2.1.slots) (hR : RetZ X g (layC ++ ext) A cX11_has 2 0 0 Z post) (s0 : Int32) (M : Mem) (h : P_R_has_14 post s0 M) : At X g (layC ++ ext) A 2 0 0 Z 14 [] [.int s0] M := by
  exact hR _ _ _ _ (tk T_cX11_has 10 rfl) h
def P_R_has (post : Int32 → Mem → Prop) (x0 x1 : Int32) (M : Mem) : Prop :=
  (¬ ((x0 >>> (x1 &&& 31)) &&& (1 : Int32)) = (1 : Int32) → (P_R_has_14 post (0 : Int32) M)) ∧
  (((x0 >>> (x1 &&& 31)) &&& (1 : Int32)) = (1 : Int32) → (P_R_has_14 post (1 : Int32) M))
theorem k_R_has {X : FX} {g : GT} {ext : List CD} {A : Nat → Prop} {Z : State → Prop} {post : Int32 → Mem → Prop} (C : Cx X g (layC ++ ext) A cX11_has 2 RX11 0) (hr : 0 ≤ X.2.2.2.1.cells ∧ 0 ≤ X.2.2.2.1.slots) (hR : RetZ X g (layC ++ ext) A cX11_has 2 0 0 Z post) (x0 x1 : Int32) (M : Mem) (h : P_R_has post x0 x1 M) : At X g (layC ++ ext) A 2 0 0 Z 0 [(0, .int x0), (1, .int x1)] [] M := by
  refine a_iload_n C (tk T_cX11_has 0 rfl) rfl ?_
  refine a_iload_n C (tk T_cX11_has 1 rfl) rfl ?_
  refine a_ishr C (tk T_cX11_has 2 rfl) ?_
  refine a_iconst C (1 : Int32) (tk T_cX11_has 3 rfl) kI_1 ?_
  refine a_iand C (tk T_cX11_has 4 rfl) ?_
  refine a_iconst C (1 : Int32) (tk T_cX11_has 5 rfl) kI_1 ?_
  refine a_icmp_ne C 13 (tk T_cX11_has 6 rfl) rfl (fun c => ?_) (fun c => ?_)
  · have h := h.1 c
    refine a_iconst C (0 : Int32) (tk T_cX11_has 9 rfl) kI_0 ?_
    exact a_to (k_R_has_14 C hr hR (0 : Int32) M h) rfl
  · have h := h.2 c
    refine a_iconst C (1 : Int32) (tk T_cX11_has 7 rfl) kI_1 ?_
    refine a_goto C 14 (tk T_cX11_has 8 rfl) rfl ?_
    exact a_to (k_R_has_14 C hr hR (1 : Int32) M h) rfl
theorem ct_R_has {l : Launch} {g : GT} {ext : List CD} {post : Int32 → Mem → Prop} {x0 x1 : Int32} {M : Mem} (h : P_R_has post x0 x1 M) : CI l g (layC ++ ext) yX11_has cX11_has 2 (some .boolean) 0 [.int x0, .int x1] M post :=
  cz_of (plainFor_of_name (by decide +kernel)) (Nat.le_of_ble_eq_true rfl) rfl (fun X A Z hl C hr hR => by subst hl; exact k_R_has C hr hR x0 x1 M h)
def T_cX10_liesAtL : List (Nat × Instr × Nat) := [(0, .iload_n 1, 1), (1, .bipush 6, 2), (3, .imul, 1), (4, .iload_n 2, 1), (5, .iadd, 1), (6, .istore 4, 2), (8, .aload_n 0, 1), (9, .getfield 9, 3), (12, .iload_n 1, 1), (13, .baload, 1), (14, .ifCond .eq 13, 3), (17, .aload_n 0, 1), (18, .getfield 19, 3), (21, .iload 4, 2), (23, .iaload, 1), (24, .goto 20, 3), (27, .aload_n 0, 1), (28, .getfield 19, 3), (31, .iload 4, 2), (33, .iaload, 1), (34, .sipush 1000, 3), (37, .iload_n 3, 1), (38, .iadd, 1), (39, .imul, 1), (40, .sipush 1000, 3), (43, .idiv, 1), (44, .ireturn, 1)]
theorem T_cX10_liesAt : tabOK cX10_liesAt T_cX10_liesAtL = true := by decide +kernel
def P_Table_liesAt_44 (post : Int32 → Mem → Prop) (s0 : Int32) (M : Mem) : Prop :=
  post s0 M
theorem k_Table_liesAt_44 {X : FX} {g : GT} {ext : List CD} {A : Nat → Prop} {Z : State → Prop} {post : Int32 → Mem → Prop} (C : Cx X g (layC ++ ext) A cX10_liesAt 5 RX10 0) (hr : 0 ≤ X.2.2.2.1.cells ∧ 0 ≤ X.2.2.2.1.slots) (hR : RetI X g (layC ++ ext) A cX10_liesAt 5 0 0 Z post) (s0 : Int32) (M : Mem) (h : P_Table_liesAt_44 post s0 M) : At X g (layC ++ ext) A 5 0 0 Z 44 [] [.int s0] M := by
  exact hR _ _ _ _ (tk T_cX10_liesAt 26 rfl) h
def P_Table_liesAt (post : Int32 → Mem → Prop) (x1 x2 x3 : Int32) (M : Mem) : Prop :=
  ∀ x4_1, x4_1 = ((x1 * (6 : Int32)) + x2) → vp_in x1 6 ∧ ((M 14 x1.toNatClampNeg) = 0 → (vp_in x4_1 36 ∧ ∀ v2, v2 = (((M 16 x4_1.toNatClampNeg) * ((1000 : Int32) + x3)) / (1000 : Int32)) → P_Table_liesAt_44 post v2 M)) ∧
  (¬ (M 14 x1.toNatClampNeg) = 0 → (vp_in x4_1 36 ∧ P_Table_liesAt_44 post (M 16 x4_1.toNatClampNeg) M))
theorem k_Table_liesAt {X : FX} {g : GT} {ext : List CD} {A : Nat → Prop} {Z : State → Prop} {post : Int32 → Mem → Prop} (C : Cx X g (layC ++ ext) A cX10_liesAt 5 RX10 0) (hr : 0 ≤ X.2.2.2.1.cells ∧ 0 ≤ X.2.2.2.1.slots) (hR : RetI X g (layC ++ ext) A cX10_liesAt 5 0 0 Z post) (x1 x2 x3 : Int32) (M : Mem) (h : P_Table_liesAt post x1 x2 x3 M) : At X g (layC ++ ext) A 5 0 0 Z 0 [(0, .ref (ad g 13)), (1, .int x1), (2, .int x2), (3, .int x3)] [] M := by
  refine a_iload_n C (tk T_cX10_liesAt 0 rfl) rfl ?_
  refine a_bipush C (6 : Int32) (tk T_cX10_liesAt 1 rfl) kB_6 ?_
  refine a_imul C (tk T_cX10_liesAt 2 rfl) ?_
  refine a_iload_n C (tk T_cX10_liesAt 3 rfl) rfl ?_
  refine a_iadd C (tk T_cX10_liesAt 4 rfl) ?_
  refine a_top (fun x4_1 e_x4_1 => ?_)
  have h := h x4_1 e_x4_1
  refine a_istore C (tk T_cX10_liesAt 5 rfl) (by decide) ?_
  refine a_aload_n C (tk T_cX10_liesAt 6 rfl) rfl ?_
  refine a_getR C f_RX10_9 (tk T_cX10_liesAt 7 rfl) lc13 rfl ?_
  refine a_iload_n C (tk T_cX10_liesAt 8 rfl) rfl ?_
  obtain ⟨hb, h⟩ := h
  refine a_zald C (tk T_cX10_liesAt 9 rfl) lc14 hb ?_
  refine a_if_eq C 27 (tk T_cX10_liesAt 10 rfl) rfl (fun c => ?_) (fun c => ?_)
  · have h := h.1 c
    refine a_aload_n C (tk T_cX10_liesAt 16 rfl) rfl ?_
    refine a_getR C f_RX10_19 (tk T_cX10_liesAt 17 rfl) lc13 rfl ?_
    refine a_iload C (tk T_cX10_liesAt 18 rfl) rfl ?_
    obtain ⟨hb, h⟩ := h
    refine a_iald C (tk T_cX10_liesAt 19 rfl) lc16 hb ?_
    refine a_sipush C (1000 : Int32) (tk T_cX10_liesAt 20 rfl) kS_1000 ?_
    refine a_iload_n C (tk T_cX10_liesAt 21 rfl) rfl ?_
    refine a_iadd C (tk T_cX10_liesAt 22 rfl) ?_
    refine a_imul C (tk T_cX10_liesAt 23 rfl) ?_
    refine a_sipush C (1000 : Int32) (tk T_cX10_liesAt 24 rfl) kS_1000 ?_
    refine a_idiv C (tk T_cX10_liesAt 25 rfl) (by decide) ?_
    refine a_top (fun v2 e_v2 => ?_)
    have h := h v2 e_v2
    exact a_to (k_Table_liesAt_44 C hr hR v2 M h) rfl
  · have h := h.2 c
    refine a_aload_n C (tk T_cX10_liesAt 11 rfl) rfl ?_
    refine a_getR C f_RX10_19 (tk T_cX10_liesAt 12 rfl) lc13 rfl ?_
    refine a_iload C (tk T_cX10_liesAt 13 rfl) rfl ?_
    obtain ⟨hb, h⟩ := h
    refine a_iald C (tk T_cX10_liesAt 14 rfl) lc16 hb ?_
    refine a_goto C 44 (tk T_cX10_liesAt 15 rfl) rfl ?_
    exact a_to (k_Table_liesAt_44 C hr hR (M 16 x4_1.toNatClampNeg) M h) rfl
theorem ct_Table_liesAt {l : Launch} {g : GT} {ext : List CD} {post : Int32 → Mem → Prop} {x1 x2 x3 : Int32} {M : Mem} (h : P_Table_liesAt post x1 x2 x3 M) : CI l g (layC ++ ext) yX10_liesAt cX10_liesAt 5 (some .int) 0 [.ref (ad g 13), .int x1, .int x2, .int x3] M post :=
  ci_of (plainFor_of_name (by decide +kernel)) (Nat.le_of_ble_eq_true rfl) rfl (fun X A Z hl C hr hR => by subst hl; exact k_Table_liesAt C hr hR x1 x2 x3 M h)
def T_cX3_holdersL : List (Nat × Instr × Nat) := [(0, .iconst 0, 1), (1, .istore_n 2, 1), (2, .iconst 0, 1), (3, .istore_n 3, 1), (4, .iload_n 3, 1), (5, .aload_n 0, 1), (6, .getfield 38, 3), (9, .getfield 61, 3), (12, .getfield 67, 3), (15, .if_icmp .ge 34, 3), (18, .iload_n 1, 1), (19, .aload_n 0, 1), (20, .getfield 9, 3), (23, .iload_n 3, 1), (24, .iaload, 1), (25, .aload_n 0, 1), (26, .getfield 15, 3), (29, .iload_n 3, 1), (30, .iaload, 1), (31, .invokestatic 113, 3), (34, .ifCond .eq 9, 3), (37, .iload_n 2, 1), (38, .iconst 1, 1), (39, .iload_n 3, 1), (40, .ishl, 1), (41, .ior, 1), (42, .istore_n 2, 1), (43, .iinc 3 1, 3), (46, .goto (-42), 3), (49, .iload_n 2, 1), (50, .ireturn, 1)]
theorem T_cX3_holders : tabOK cX3_holders T_cX3_holdersL = true := by decide +kernel
def P_Judge_holders_43 (post : Int32 → Mem → Prop) (R4 : Int32 → Int32 → Int32 → Mem → Prop) (x1 x2 x3 : Int32) (M : Mem) : Prop :=
  R4 x1 x2 (x3 + (1 : Int32)) M
theorem k_Judge_holders_43 {X : FX} {g : GT} {ext : List CD} {A : Nat → Prop} {Z : State → Prop} {post : Int32 → Mem → Prop} {R4 : Int32 → Int32 → Int32 → Mem → Prop} (C : Cx X g (layC ++ ext) A cX3_holders 4 RX3 1) (hr : 0 ≤ X.2.2.2.1.cells ∧ 0 ≤ X.2.2.2.1.slots) (hR : RetI X g (layC ++ ext) A cX3_holders 4 0 0 Z post) (k4 : ∀ (y1 y2 y3 : Int32) (M : Mem), R4 y1 y2 y3 M → At X g (layC ++ ext) A 4 0 0 Z 4 [(0, .ref (ad g 69)), (1, .int y1), (2, .int y2), (3, .int y3)] [] M) (x1 x2 x3 : Int32) (M : Mem) (h : P_Judge_holders_43 post R4 x1 x2 x3 M) : At X g (layC ++ ext) A 4 0 0 Z 43 [(0, .ref (ad g 69)), (1, .int x1), (2, .int x2), (3, .int x3)] [] M := by
  refine a_iinc C (1 : Int32) (tk T_cX3_holders 27 rfl) rfl kI_1 (by decide) ?_
  refine a_goto C 4 (tk T_cX3_holders 28 rfl) rfl ?_
  exact a_to (k4 x1 x2 (x3 + (1 : Int32)) M h) rfl
def P_Judge_holders_4 (post : Int32 → Mem → Prop) : Nat → Int32 → Int32 → Int32 → Mem → Prop
  | 0, _, _, _, _ => False
  | n + 1, x1, x2, x3, M =>
    ((M 18 11) ≤ x3 → (post x2 M)) ∧
  (¬ (M 18 11) ≤ x3 → (vp_in x3 24 ∧ vp_in x3 24 ∧ P_R_within (fun r1 M1 =>
  (r1 = 0 → (P_Judge_holders_43 post (P_Judge_holders_4 post n) x1 x2 x3 M1)) ∧
  (¬ r1 = 0 → (∀ x2_2, x2_2 = (x2 ||| ((1 : Int32) <<< (x3 &&& 31))) → P_Judge_holders_43 post (P_Judge_holders_4 post n) x1 x2_2 x3 M1))) x1 (M 70 x3.toNatClampNeg) (M 71 x3.toNatClampNeg) M))
theorem k_Judge_holders_4 {X : FX} {g : GT} {ext : List CD} {A : Nat → Prop} {Z : State → Prop} {post : Int32 → Mem → Prop} (C : Cx X g (layC ++ ext) A cX3_holders 4 RX3 1) (hr : 0 ≤ X.2.2.2.1.cells ∧ 0 ≤ X.2.2.2.1.slots) (hR : RetI X g (layC ++ ext) A cX3_holders 4 0 0 Z post) : ∀ (n : Nat) (x1 x2 x3 : Int32) (M : Mem), P_Judge_holders_4 post n x1 x2 x3 M → At X g (layC ++ ext) A 4 0 0 Z 4 [(0, .ref (ad g 69)), (1, .int x1), (2, .int x2), (3, .int x3)] [] M := by
  intro n
  induction n with
  | zero =>
    intro x1 x2 x3 M h
    exact h.elim
  | succ n ih =>
    intro x1 x2 x3 M h
    refine a_iload_n C (tk T_cX3_holders 4 rfl) rfl ?_
    refine a_aload_n C (tk T_cX3_holders 5 rfl) rfl ?_
    refine a_getR C f_RX3_38 (tk T_cX3_holders 6 rfl) lc69 rfl ?_
    refine a_getR C f_RX3_61 (tk T_cX3_holders 7 rfl) lc1 rfl ?_
    refine a_getI C f_RX3_67 (tk T_cX3_holders 8 rfl) lc18 rfl ?_
    refine a_icmp_ge C 49 (tk T_cX3_holders 9 rfl) rfl (fun c => ?_) (fun c => ?_)
    · have h := h.1 c
      refine a_iload_n C (tk T_cX3_holders 29 rfl) rfl ?_
      exact hR _ _ _ _ (tk T_cX3_holders 30 rfl) h
    · have h := h.2 c
      refine a_iload_n C (tk T_cX3_holders 10 rfl) rfl ?_
      refine a_aload_n C (tk T_cX3_holders 11 rfl) rfl ?_
      refine a_getR C f_RX3_9 (tk T_cX3_holders 12 rfl) lc69 rfl ?_
      refine a_iload_n C (tk T_cX3_holders 13 rfl) rfl ?_
      obtain ⟨hb, h⟩ := h
      refine a_iald C (tk T_cX3_holders 14 rfl) lc70 hb ?_
      refine a_aload_n C (tk T_cX3_holders 15 rfl) rfl ?_
      refine a_getR C f_RX3_15 (tk T_cX3_holders 16 rfl) lc69 rfl ?_
      refine a_iload_n C (tk T_cX3_holders 17 rfl) rfl ?_
      obtain ⟨hb, h⟩ := h
      refine a_iald C (tk T_cX3_holders 18 rfl) lc71 hb ?_
      refine a_nestI C [.int x1, .int (M 70 x3.toNatClampNeg), .int (M 71 x3.toNatClampNeg)] me_yX11_within lk_RX3_113 (ct_R_within h) (by decide) rfl rfl (Nat.le_of_ble_eq_true rfl) (tk T_cX3_holders 19 rfl) hr (fun r1 M1 h => ?_)
      refine a_if_eq C 43 (tk T_cX3_holders 20 rfl) rfl (fun c => ?_) (fun c => ?_)
      · have h := h.1 c
        exact a_to (k_Judge_holders_43 C hr hR ih x1 x2 x3 M1 h) rfl
      · have h := h.2 c
        refine a_iload_n C (tk T_cX3_holders 21 rfl) rfl ?_
        refine a_iconst C (1 : Int32) (tk T_cX3_holders 22 rfl) kI_1 ?_
        refine a_iload_n C (tk T_cX3_holders 23 rfl) rfl ?_
        refine a_ishl C (tk T_cX3_holders 24 rfl) ?_
        refine a_ior C (tk T_cX3_holders 25 rfl) ?_
        refine a_top (fun x2_2 e_x2_2 => ?_)
        have h := h x2_2 e_x2_2
        refine a_istore_n C (tk T_cX3_holders 26 rfl) (by decide) ?_
        exact a_to (k_Judge_holders_43 C hr hR ih x1 x2_2 x3 M1 h) rfl
def P_Judge_holders (post : Int32 → Mem → Prop) (x1 : Int32) (M : Mem) : Prop :=
  ∃ j4, P_Judge_holders_4 post j4 x1 (0 : Int32) (0 : Int32) M
theorem k_Judge_holders {X : FX} {g : GT} {ext : List CD} {A : Nat → Prop} {Z : State → Prop} {post : Int32 → Mem → Prop} (C : Cx X g (layC ++ ext) A cX3_holders 4 RX3 1) (hr : 0 ≤ X.2.2.2.1.cells ∧ 0 ≤ X.2.2.2.1.slots) (hR : RetI X g (layC ++ ext) A cX3_holders 4 0 0 Z post) (x1 : Int32) (M : Mem) (h : P_Judge_holders post x1 M) : At X g (layC ++ ext) A 4 0 0 Z 0 [(0, .ref (ad g 69)), (1, .int x1)] [] M := by
  refine a_iconst C (0 : Int32) (tk T_cX3_holders 0 rfl) kI_0 ?_
  refine a_istore_n C (tk T_cX3_holders 1 rfl) (by decide) ?_
  refine a_iconst C (0 : Int32) (tk T_cX3_holders 2 rfl) kI_0 ?_
  refine a_istore_n C (tk T_cX3_holders 3 rfl) (by decide) ?_
  obtain ⟨n1, h⟩ := h
  exact a_to (k_Judge_holders_4 C hr hR n1 x1 (0 : Int32) (0 : Int32) M h) rfl
theorem ct_Judge_holders {l : Launch} {g : GT} {ext : List CD} {post : Int32 → Mem → Prop} {x1 : Int32} {M : Mem} (h : P_Judge_holders post x1 M) : CI l g (layC ++ ext) yX3_holders cX3_holders 4 (some .int) 1 [.ref (ad g 69), .int x1] M post :=
  ci_of (plainFor_of_name (by decide +kernel)) (Nat.le_of_ble_eq_true rfl) rfl (fun X A Z hl C hr hR => by subst hl; exact k_Judge_holders C hr hR x1 M h)
def T_cX9_mustShowL : List (Nat × Instr × Nat) := [(0, .iload_n 2, 1), (1, .aload_n 0, 1), (2, .getfield 18, 3), (5, .iload_n 1, 1), (6, .iaload, 1), (7, .aload_n 0, 1), (8, .getfield 21, 3), (11, .iload_n 1, 1), (12, .iaload, 1), (13, .invokestatic 56, 3), (16, .ifCond .eq 27, 3), (19, .iload_n 3, 1), (20, .aload_n 0, 1), (21, .getfield 9, 3), (24, .iload_n 1, 1), (25, .iaload, 1), (26, .imul, 1), (27, .aload_n 0, 1), (28, .getfield 15, 3), (31, .iload_n 1, 1), (32, .iaload, 1), (33, .imul, 1), (34, .bipush 30, 2), (36, .if_icmp .lt 7, 3), (39, .iconst 1, 1), (40, .goto 4, 3), (43, .iconst 0, 1), (44, .ireturn, 1)]
theorem T_cX9_mustShow : tabOK cX9_mustShow T_cX9_mustShowL = true := by decide +kernel
def P_Shelf_mustShow_44 (post : Int32 → Mem → Prop) (s0 : Int32) (M : Mem) : Prop :=
  (s0 = 0 ∨ s0 = 1) ∧ post s0 M
theorem k_Shelf_mustShow_44 {X : FX} {g : GT} {ext : List CD} {A : Nat → Prop} {Z : State → Prop} {post : Int32 → Mem → Prop} (C : Cx X g (layC ++ ext) A cX9_mustShow 4 RX9 1) (hr : 0 ≤ X.2.2.2.1.cells ∧ 0 ≤ X.2.2.2.1.slots) (hR : RetZ X g (layC ++ ext) A cX9_mustShow 4 0 0 Z post) (s0 : Int32) (M : Mem) (h : P_Shelf_mustShow_44 post s0 M) : At X g (layC ++ ext) A 4 0 0 Z 44 [] [.int s0] M := by
  exact hR _ _ _ _ (tk T_cX9_mustShow 27 rfl) h
def P_Shelf_mustShow_43 (post : Int32 → Mem → Prop) (M : Mem) : Prop :=
  P_Shelf_mustShow_44 post (0 : Int32) M
theorem k_Shelf_mustShow_43 {X : FX} {g : GT} {ext : List CD} {A : Nat → Prop} {Z : State → Prop} {post : Int32 → Mem → Prop} (C : Cx X g (layC ++ ext) A cX9_mustShow 4 RX9 1) (hr : 0 ≤ X.2.2.2.1.cells ∧ 0 ≤ X.2.2.2.1.slots) (hR : RetZ X g (layC ++ ext) A cX9_mustShow 4 0 0 Z post)  (M : Mem) (h : P_Shelf_mustShow_43 post M) : At X g (layC ++ ext) A 4 0 0 Z 43 [] [] M := by
  refine a_iconst C (0 : Int32) (tk T_cX9_mustShow 26 rfl) kI_0 ?_
  exact a_to (k_Shelf_mustShow_44 C hr hR (0 : Int32) M h) rfl
def P_Shelf_mustShow (post : Int32 → Mem → Prop) (x1 x2 x3 : Int32) (M : Mem) : Prop :=
  vp_in x1 3 ∧ vp_in x1 3 ∧ P_R_within (fun r1 M1 =>
  (r1 = 0 → (P_Shelf_mustShow_43 post M1)) ∧
  (¬ r1 = 0 → (vp_in x1 3 ∧ vp_in x1 3 ∧ (((x3 * (M1 19 x1.toNatClampNeg)) * (M1 20 x1.toNatClampNeg)) < (30 : Int32) → (P_Shelf_mustShow_43 post M1)) ∧
  (¬ ((x3 * (M1 19 x1.toNatClampNeg)) * (M1 20 x1.toNatClampNeg)) < (30 : Int32) → (P_Shelf_mustShow_44 post (1 : Int32) M1))))) x2 (M 21 x1.toNatClampNeg) (M 22 x1.toNatClampNeg) M
theorem k_Shelf_mustShow {X : FX} {g : GT} {ext : List CD} {A : Nat → Prop} {Z : State → Prop} {post : Int32 → Mem → Prop} (C : Cx X g (layC ++ ext) A cX9_mustShow 4 RX9 1) (hr : 0 ≤ X.2.2.2.1.cells ∧ 0 ≤ X.2.2.2.1.slots) (hR : RetZ X g (layC ++ ext) A cX9_mustShow 4 0 0 Z post) (x1 x2 x3 : Int32) (M : Mem) (h : P_Shelf_mustShow post x1 x2 x3 M) : At X g (layC ++ ext) A 4 0 0 Z 0 [(0, .ref (ad g 18)), (1, .int x1), (2, .int x2), (3, .int x3)] [] M := by
  refine a_iload_n C (tk T_cX9_mustShow 0 rfl) rfl ?_
  refine a_aload_n C (tk T_cX9_mustShow 1 rfl) rfl ?_
  refine a_getR C f_RX9_18 (tk T_cX9_mustShow 2 rfl) lc18 rfl ?_
  refine a_iload_n C (tk T_cX9_mustShow 3 rfl) rfl ?_
  obtain ⟨hb, h⟩ := h
  refine a_iald C (tk T_cX9_mustShow 4 rfl) lc21 hb ?_
  refine a_aload_n C (tk T_cX9_mustShow 5 rfl) rfl ?_
  refine a_getR C f_RX9_21 (tk T_cX9_mustShow 6 rfl) lc18 rfl ?_
  refine a_iload_n C (tk T_cX9_mustShow 7 rfl) rfl ?_
  obtain ⟨hb, h⟩ := h
  refine a_iald C (tk T_cX9_mustShow 8 rfl) lc22 hb ?_
  refine a_nestI C [.int x2, .int (M 21 x1.toNatClampNeg), .int (M 22 x1.toNatClampNeg)] me_yX11_within lk_RX9_56 (ct_R_within h) (by decide) rfl rfl (Nat.le_of_ble_eq_true rfl) (tk T_cX9_mustShow 9 rfl) hr (fun r1 M1 h => ?_)
  refine a_if_eq C 43 (tk T_cX9_mustShow 10 rfl) rfl (fun c => ?_) (fun c => ?_)
  · have h := h.1 c
    exact a_to (k_Shelf_mustShow_43 C hr hR M1 h) rfl
  · have h := h.2 c
    refine a_iload_n C (tk T_cX9_mustShow 11 rfl) rfl ?_
    refine a_aload_n C (tk T_cX9_mustShow 12 rfl) rfl ?_
    refine a_getR C f_RX9_9 (tk T_cX9_mustShow 13 rfl) lc18 rfl ?_
    refine a_iload_n C (tk T_cX9_mustShow 14 rfl) rfl ?_
    obtain ⟨hb, h⟩ := h
    refine a_iald C (tk T_cX9_mustShow 15 rfl) lc19 hb ?_
    refine a_imul C (tk T_cX9_mustShow 16 rfl) ?_
    refine a_aload_n C (tk T_cX9_mustShow 17 rfl) rfl ?_
    refine a_getR C f_RX9_15 (tk T_cX9_mustShow 18 rfl) lc18 rfl ?_
    refine a_iload_n C (tk T_cX9_mustShow 19 rfl) rfl ?_
    obtain ⟨hb, h⟩ := h
    refine a_iald C (tk T_cX9_mustShow 20 rfl) lc20 hb ?_
    refine a_imul C (tk T_cX9_mustShow 21 rfl) ?_
    refine a_bipush C (30 : Int32) (tk T_cX9_mustShow 22 rfl) kB_30 ?_
    refine a_icmp_lt C 43 (tk T_cX9_mustShow 23 rfl) rfl (fun c => ?_) (fun c => ?_)
    · have h := h.1 c
      exact a_to (k_Shelf_mustShow_43 C hr hR M1 h) rfl
    · have h := h.2 c
      refine a_iconst C (1 : Int32) (tk T_cX9_mustShow 24 rfl) kI_1 ?_
      refine a_goto C 44 (tk T_cX9_mustShow 25 rfl) rfl ?_
      exact a_to (k_Shelf_mustShow_44 C hr hR (1 : Int32) M1 h) rfl
theorem ct_Shelf_mustShow {l : Launch} {g : GT} {ext : List CD} {post : Int32 → Mem → Prop} {x1 x2 x3 : Int32} {M : Mem} (h : P_Shelf_mustShow post x1 x2 x3 M) : CI l g (layC ++ ext) yX9_mustShow cX9_mustShow 4 (some .boolean) 1 [.ref (ad g 18), .int x1, .int x2, .int x3] M post :=
  cz_of (plainFor_of_name (by decide +kernel)) (Nat.le_of_ble_eq_true rfl) rfl (fun X A Z hl C hr hR => by subst hl; exact k_Shelf_mustShow C hr hR x1 x2 x3 M h)
def T_cX3_surveyL : List (Nat × Instr × Nat) := [(0, .aload_n 0, 1), (1, .iconst 0, 1), (2, .putfield 117, 3), (5, .aload_n 0, 1), (6, .iconst 0, 1), (7, .putfield 120, 3), (10, .iconst 0, 1), (11, .istore_n 3, 1), (12, .iload_n 3, 1), (13, .aload_n 0, 1), (14, .getfield 38, 3), (17, .getfield 123, 3), (20, .getfield 127, 3), (23, .if_icmp .ge 130, 3), (26, .iconst 0, 1), (27, .istore 4, 2), (29, .iload_n 1, 1), (30, .iload_n 3, 1), (31, .invokestatic 132, 3), (34, .ifCond .eq 113, 3), (37, .iload 4, 2), (39, .aload_n 0, 1), (40, .getfield 38, 3), (43, .getfield 123, 3), (46, .getfield 136, 3), (49, .iload_n 3, 1), (50, .iaload, 1), (51, .if_icmp .ge 96, 3), (54, .aload_n 0, 1), (55, .getfield 38, 3), (58, .getfield 123, 3), (61, .iload_n 3, 1), (62, .iload 4, 2), (64, .iload_n 2, 1), (65, .invokevirtual 139, 3), (68, .istore 5, 2), (70, .aload_n 0, 1), (71, .iload 5, 2), (73, .invokevirtual 143, 3), (76, .istore 6, 2), (78, .aload_n 0, 1), (79, .dup, 1), (80, .getfield 117, 3), (83, .iload 6, 2), (85, .ior, 1), (86, .putfield 117, 3), (89, .iload 6, 2), (91, .ifCond .ne 50, 3), (94, .aload_n 0, 1), (95, .getfield 38, 3), (98, .getfield 61, 3), (101, .aload_n 0, 1), (102, .getfield 51, 3), (105, .iload 5, 2), (107, .aload_n 0, 1), (108, .getfield 38, 3), (111, .getfield 123, 3), (114, .getfield 146, 3), (117, .iload_n 3, 1), (118, .bipush 6, 2), (120, .imul, 1), (121, .iload 4, 2), (123, .iadd, 1), (124, .iaload, 1), (125, .invokevirtual 149, 3), (128, .ifCond .eq 13, 3), (131, .aload_n 0, 1), (132, .dup, 1), (133, .getfield 120, 3), (136, .iconst 1, 1), (137, .iadd, 1), (138, .putfield 120, 3), (141, .iinc 4 1, 3), (144, .goto (-115), 3), (147, .iinc 3 1, 3), (150, .goto (-138), 3), (153, .return_, 1)]
theorem T_cX3_survey : tabOK cX3_survey T_cX3_surveyL = true := by decide +kernel
def P_Judge_survey_147 (post : Mem → Prop) (R12 : Int32 → Int32 → Int32 → Mem → Prop) (x1 x2 x3 : Int32) (M : Mem) : Prop :=
  R12 x1 x2 (x3 + (1 : Int32)) M
theorem k_Judge_survey_147 {X : FX} {g : GT} {ext : List CD} {A : Nat → Prop} {Z : State → Prop} {post : Mem → Prop} {R12 : Int32 → Int32 → Int32 → Mem → Prop} (C : Cx X g (layC ++ ext) A cX3_survey 7 RX3 2) (hr : 0 ≤ X.2.2.2.1.cells ∧ 0 ≤ X.2.2.2.1.slots) (hR : RetV X g (layC ++ ext) A cX3_survey 7 0 0 Z post) (k12 : ∀ (y1 y2 y3 : Int32) (M : Mem), R12 y1 y2 y3 M → At X g (layC ++ ext) A 7 0 0 Z 12 [(0, .ref (ad g 69)), (1, .int y1), (2, .int y2), (3, .int y3)] [] M) (x1 x2 x3 : Int32) (M : Mem) (h : P_Judge_survey_147 post R12 x1 x2 x3 M) : At X g (layC ++ ext) A 7 0 0 Z 147 [(0, .ref (ad g 69)), (1, .int x1), (2, .int x2), (3, .int x3)] [] M := by
  refine a_iinc C (1 : Int32) (tk T_cX3_survey 74 rfl) rfl kI_1 (by decide) ?_
  refine a_goto C 12 (tk T_cX3_survey 75 rfl) rfl ?_
  exact a_to (k12 x1 x2 (x3 + (1 : Int32)) M h) rfl
def P_Judge_survey_141 (post : Mem → Prop) (R12 : Int32 → Int32 → Int32 → Mem → Prop) (R29 : Int32 → Int32 → Int32 → Int32 → Mem → Prop) (x1 x2 x3 x4 : Int32) (M : Mem) : Prop :=
  R29 x1 x2 x3 (x4 + (1 : Int32)) M
theorem k_Judge_survey_141 {X : FX} {g : GT} {ext : List CD} {A : Nat → Prop} {Z : State → Prop} {post : Mem → Prop} {R12 : Int32 → Int32 → Int32 → Mem → Prop} {R29 : Int32 → Int32 → Int32 → Int32 → Mem → Prop} (C : Cx X g (layC ++ ext) A cX3_survey 7 RX3 2) (hr : 0 ≤ X.2.2.2.1.cells ∧ 0 ≤ X.2.2.2.1.slots) (hR : RetV X g (layC ++ ext) A cX3_survey 7 0 0 Z post) (k12 : ∀ (y1 y2 y3 : Int32) (M : Mem), R12 y1 y2 y3 M → At X g (layC ++ ext) A 7 0 0 Z 12 [(0, .ref (ad g 69)), (1, .int y1), (2, .int y2), (3, .int y3)] [] M) (k29 : ∀ (y1 y2 y3 y4 : Int32) (M : Mem), R29 y1 y2 y3 y4 M → At X g (layC ++ ext) A 7 0 0 Z 29 [(0, .ref (ad g 69)), (1, .int y1), (2, .int y2), (3, .int y3), (4, .int y4)] [] M) (x1 x2 x3 x4 : Int32) (M : Mem) (h : P_Judge_survey_141 post R12 R29 x1 x2 x3 x4 M) : At X g (layC ++ ext) A 7 0 0 Z 141 [(0, .ref (ad g 69)), (1, .int x1), (2, .int x2), (3, .int x3), (4, .int x4)] [] M := by
  refine a_iinc C (1 : Int32) (tk T_cX3_survey 72 rfl) rfl kI_1 (by decide) ?_
  refine a_goto C 29 (tk T_cX3_survey 73 rfl) rfl ?_
  exact a_to (k29 x1 x2 x3 (x4 + (1 : Int32)) M h) rfl
def P_Judge_survey_29 (post : Mem → Prop) (R12 : Int32 → Int32 → Int32 → Mem → Prop) : Nat → Int32 → Int32 → Int32 → Int32 → Mem → Prop
  | 0, _, _, _, _, _ => False
  | n + 1, x1, x2, x3, x4, M =>
    P_R_has (fun r1 M1 =>
  (r1 = 0 → (P_Judge_survey_147 post R12 x1 x2 x3 M1)) ∧
  (¬ r1 = 0 → (vp_in x3 6 ∧ ((M1 15 x3.toNatClampNeg) ≤ x4 → (P_Judge_survey_147 post R12 x1 x2 x3 M1)) ∧
  (¬ (M1 15 x3.toNatClampNeg) ≤ x4 → (P_Table_liesAt (fun r2 M2 =>
  P_Judge_holders (fun r3 M3 =>
  ∀ M4, M4 = ms M3 69 13 ((M3 69 13) ||| r3) → (¬ r3 = 0 → (P_Judge_survey_141 post R12 (P_Judge_survey_29 post R12 n) x1 x2 x3 x4 M4)) ∧
  (r3 = 0 → (vp_in ((x3 * (6 : Int32)) + x4) 36 ∧ P_Shelf_mustShow (fun r5 M5 =>
  (r5 = 0 → (P_Judge_survey_141 post R12 (P_Judge_survey_29 post R12 n) x1 x2 x3 x4 M5)) ∧
  (¬ r5 = 0 → (∀ M6, M6 = ms M5 69 14 ((M5 69 14) + (1 : Int32)) → P_Judge_survey_141 post R12 (P_Judge_survey_29 post R12 n) x1 x2 x3 x4 M6))) (M4 69 10) r2 (M4 17 ((x3 * (6 : Int32)) + x4).toNatClampNeg) M4))) r2 M2) x3 x4 x2 M1))))) x1 x3 M
theorem k_Judge_survey_29 {X : FX} {g : GT} {ext : List CD} {A : Nat → Prop} {Z : State → Prop} {post : Mem → Prop} {R12 : Int32 → Int32 → Int32 → Mem → Prop} (C : Cx X g (layC ++ ext) A cX3_survey 7 RX3 2) (hr : 0 ≤ X.2.2.2.1.cells ∧ 0 ≤ X.2.2.2.1.slots) (hR : RetV X g (layC ++ ext) A cX3_survey 7 0 0 Z post) (k12 : ∀ (y1 y2 y3 : Int32) (M : Mem), R12 y1 y2 y3 M → At X g (layC ++ ext) A 7 0 0 Z 12 [(0, .ref (ad g 69)), (1, .int y1), (2, .int y2), (3, .int y3)] [] M) : ∀ (n : Nat) (x1 x2 x3 x4 : Int32) (M : Mem), P_Judge_survey_29 post R12 n x1 x2 x3 x4 M → At X g (layC ++ ext) A 7 0 0 Z 29 [(0, .ref (ad g 69)), (1, .int x1), (2, .int x2), (3, .int x3), (4, .int x4)] [] M := by
  intro n
  induction n with
  | zero =>
    intro x1 x2 x3 x4 M h
    exact h.elim
  | succ n ih =>
    intro x1 x2 x3 x4 M h
    refine a_iload_n C (tk T_cX3_survey 16 rfl) rfl ?_
    refine a_iload_n C (tk T_cX3_survey 17 rfl) rfl ?_
    refine a_nestI C [.int x1, .int x3] me_yX11_has lk_RX3_132 (ct_R_has h) (by decide) rfl rfl (Nat.le_of_ble_eq_true rfl) (tk T_cX3_survey 18 rfl) hr (fun r1 M1 h => ?_)
    refine a_if_eq C 147 (tk T_cX3_survey 19 rfl) rfl (fun c => ?_) (fun c => ?_)
    · have h := h.1 c
      exact a_to (k_Judge_survey_147 C hr hR k12 x1 x2 x3 M1 h) rfl
    · have h := h.2 c
      refine a_iload C (tk T_cX3_survey 20 rfl) rfl ?_
      refine a_aload_n C (tk T_cX3_survey 21 rfl) rfl ?_
      refine a_getR C f_RX3_38 (tk T_cX3_survey 22 rfl) lc69 rfl ?_
      refine a_getR C f_RX3_123 (tk T_cX3_survey 23 rfl) lc1 rfl ?_
      refine a_getR C f_RX3_136 (tk T_cX3_survey 24 rfl) lc13 rfl ?_
      refine a_iload_n C (tk T_cX3_survey 25 rfl) rfl ?_
      obtain ⟨hb, h⟩ := h
      refine a_iald C (tk T_cX3_survey 26 rfl) lc15 hb ?_
      refine a_icmp_ge C 147 (tk T_cX3_survey 27 rfl) rfl (fun c => ?_) (fun c => ?_)
      · have h := h.1 c
        exact a_to (k_Judge_survey_147 C hr hR k12 x1 x2 x3 M1 h) rfl
      · have h := h.2 c
        refine a_aload_n C (tk T_cX3_survey 28 rfl) rfl ?_
        refine a_getR C f_RX3_38 (tk T_cX3_survey 29 rfl) lc69 rfl ?_
        refine a_getR C f_RX3_123 (tk T_cX3_survey 30 rfl) lc1 rfl ?_
        refine a_iload_n C (tk T_cX3_survey 31 rfl) rfl ?_
        refine a_iload C (tk T_cX3_survey 32 rfl) rfl ?_
        refine a_iload_n C (tk T_cX3_survey 33 rfl) rfl ?_
        refine a_callI C [.int x3, .int x4, .int x2] me_yX10_liesAt lk_RX3_139 (ct_Table_liesAt h) (by decide) lc13 rfl rfl rfl (Nat.le_of_ble_eq_true rfl) (tk T_cX3_survey 34 rfl) hr (fun r2 M2 h => ?_)
        refine a_istore C (tk T_cX3_survey 35 rfl) (by decide) ?_
        refine a_aload_n C (tk T_cX3_survey 36 rfl) rfl ?_
        refine a_iload C (tk T_cX3_survey 37 rfl) rfl ?_
        refine a_callI C [.int r2] me_yX3_holders lk_RX3_143 (ct_Judge_holders h) (by decide) lc69 rfl rfl rfl (Nat.le_of_ble_eq_true rfl) (tk T_cX3_survey 38 rfl) hr (fun r3 M3 h => ?_)
        refine a_istore C (tk T_cX3_survey 39 rfl) (by decide) ?_
        refine a_aload_n C (tk T_cX3_survey 40 rfl) rfl ?_
        refine a_dupr C (tk T_cX3_survey 41 rfl) ?_
        refine a_getI C f_RX3_117 (tk T_cX3_survey 42 rfl) lc69 rfl ?_
        refine a_iload C (tk T_cX3_survey 43 rfl) rfl ?_
        refine a_ior C (tk T_cX3_survey 44 rfl) ?_
        refine a_put C f_RX3_117 f_RX3_117p rfl rfl (tk T_cX3_survey 45 rfl) lc69 rfl ?_
        refine a_mem (fun M4 e_M4 => ?_)
        have h := h M4 e_M4
        refine a_iload C (tk T_cX3_survey 46 rfl) rfl ?_
        refine a_if_ne C 141 (tk T_cX3_survey 47 rfl) rfl (fun c => ?_) (fun c => ?_)
        · have h := h.1 c
          exact a_to (k_Judge_survey_141 C hr hR k12 ih x1 x2 x3 x4 M4 h) rfl
        · have h := h.2 c
          refine a_aload_n C (tk T_cX3_survey 48 rfl) rfl ?_
          refine a_getR C f_RX3_38 (tk T_cX3_survey 49 rfl) lc69 rfl ?_
          refine a_getR C f_RX3_61 (tk T_cX3_survey 50 rfl) lc1 rfl ?_
          refine a_aload_n C (tk T_cX3_survey 51 rfl) rfl ?_
          refine a_getI C f_RX3_51 (tk T_cX3_survey 52 rfl) lc69 rfl ?_
          refine a_iload C (tk T_cX3_survey 53 rfl) rfl ?_
          refine a_aload_n C (tk T_cX3_survey 54 rfl) rfl ?_
          refine a_getR C f_RX3_38 (tk T_cX3_survey 55 rfl) lc69 rfl ?_
          refine a_getR C f_RX3_123 (tk T_cX3_survey 56 rfl) lc1 rfl ?_
          refine a_getR C f_RX3_146 (tk T_cX3_survey 57 rfl) lc13 rfl ?_
          refine a_iload_n C (tk T_cX3_survey 58 rfl) rfl ?_
          refine a_bipush C (6 : Int32) (tk T_cX3_survey 59 rfl) kB_6 ?_
          refine a_imul C (tk T_cX3_survey 60 rfl) ?_
          refine a_iload C (tk T_cX3_survey 61 rfl) rfl ?_
          refine a_iadd C (tk T_cX3_survey 62 rfl) ?_
          obtain ⟨hb, h⟩ := h
          refine a_iald C (tk T_cX3_survey 63 rfl) lc17 hb ?_
          refine a_callI C [.int (M4 69 10), .int r2, .int (M4 17 ((x3 * (6 : Int32)) + x4).toNatClampNeg)] me_yX9_mustShow lk_RX3_149 (ct_Shelf_mustShow h) (by decide) lc18 rfl rfl rfl (Nat.le_of_ble_eq_true rfl) (tk T_cX3_survey 64 rfl) hr (fun r5 M5 h => ?_)
          refine a_if_eq C 141 (tk T_cX3_survey 65 rfl) rfl (fun c => ?_) (fun c => ?_)
          · have h := h.1 c
            exact a_to (k_Judge_survey_141 C hr hR k12 ih x1 x2 x3 x4 M5 h) rfl
          · have h := h.2 c
            refine a_aload_n C (tk T_cX3_survey 66 rfl) rfl ?_
            refine a_dupr C (tk T_cX3_survey 67 rfl) ?_
            refine a_getI C f_RX3_120 (tk T_cX3_survey 68 rfl) lc69 rfl ?_
            refine a_iconst C (1 : Int32) (tk T_cX3_survey 69 rfl) kI_1 ?_
            refine a_iadd C (tk T_cX3_survey 70 rfl) ?_
            refine a_put C f_RX3_120 f_RX3_120p rfl rfl (tk T_cX3_survey 71 rfl) lc69 rfl ?_
            refine a_mem (fun M6 e_M6 => ?_)
            have h := h M6 e_M6
            exact a_to (k_Judge_survey_141 C hr hR k12 ih x1 x2 x3 x4 M6 h) rfl
def P_Judge_survey_12 (post : Mem → Prop) : Nat → Int32 → Int32 → Int32 → Mem → Prop
  | 0, _, _, _, _ => False
  | n + 1, x1, x2, x3, M =>
    ((M 13 4) ≤ x3 → (post M)) ∧
  (¬ (M 13 4) ≤ x3 → (∃ j29, P_Judge_survey_29 post (P_Judge_survey_12 post n) j29 x1 x2 x3 (0 : Int32) M))
theorem k_Judge_survey_12 {X : FX} {g : GT} {ext : List CD} {A : Nat → Prop} {Z : State → Prop} {post : Mem → Prop} (C : Cx X g (layC ++ ext) A cX3_survey 7 RX3 2) (hr : 0 ≤ X.2.2.2.1.cells ∧ 0 ≤ X.2.2.2.1.slots) (hR : RetV X g (layC ++ ext) A cX3_survey 7 0 0 Z post) : ∀ (n : Nat) (x1 x2 x3 : Int32) (M : Mem), P_Judge_survey_12 post n x1 x2 x3 M → At X g (layC ++ ext) A 7 0 0 Z 12 [(0, .ref (ad g 69)), (1, .int x1), (2, .int x2), (3, .int x3)] [] M := by
  intro n
  induction n with
  | zero =>
    intro x1 x2 x3 M h
    exact h.elim
  | succ n ih =>
    intro x1 x2 x3 M h
    refine a_iload_n C (tk T_cX3_survey 8 rfl) rfl ?_
    refine a_aload_n C (tk T_cX3_survey 9 rfl) rfl ?_
    refine a_getR C f_RX3_38 (tk T_cX3_survey 10 rfl) lc69 rfl ?_
    refine a_getR C f_RX3_123 (tk T_cX3_survey 11 rfl) lc1 rfl ?_
    refine a_getI C f_RX3_127 (tk T_cX3_survey 12 rfl) lc13 rfl ?_
    refine a_icmp_ge C 153 (tk T_cX3_survey 13 rfl) rfl (fun c => ?_) (fun c => ?_)
    · have h := h.1 c
      exact hR _ _ _ (tk T_cX3_survey 76 rfl) h
    · have h := h.2 c
      refine a_iconst C (0 : Int32) (tk T_cX3_survey 14 rfl) kI_0 ?_
      refine a_istore C (tk T_cX3_survey 15 rfl) (by decide) ?_
      obtain ⟨n1, h⟩ := h
      exact a_to (k_Judge_survey_29 C hr hR ih n1 x1 x2 x3 (0 : Int32) M h) rfl
def P_Judge_survey (post : Mem → Prop) (x1 x2 : Int32) (M : Mem) : Prop :=
  ∀ M1, M1 = ms M 69 13 (0 : Int32) → ∀ M2, M2 = ms M1 69 14 (0 : Int32) → ∃ j12, P_Judge_survey_12 post j12 x1 x2 (0 : Int32) M2
theorem k_Judge_survey {X : FX} {g : GT} {ext : List CD} {A : Nat → Prop} {Z : State → Prop} {post : Mem → Prop} (C : Cx X g (layC ++ ext) A cX3_survey 7 RX3 2) (hr : 0 ≤ X.2.2.2.1.cells ∧ 0 ≤ X.2.2.2.1.slots) (hR : RetV X g (layC ++ ext) A cX3_survey 7 0 0 Z post) (x1 x2 : Int32) (M : Mem) (h : P_Judge_survey post x1 x2 M) : At X g (layC ++ ext) A 7 0 0 Z 0 [(0, .ref (ad g 69)), (1, .int x1), (2, .int x2)] [] M := by
  refine a_aload_n C (tk T_cX3_survey 0 rfl) rfl ?_
  refine a_iconst C (0 : Int32) (tk T_cX3_survey 1 rfl) kI_0 ?_
  refine a_put C f_RX3_117 f_RX3_117p rfl rfl (tk T_cX3_survey 2 rfl) lc69 rfl ?_
  refine a_mem (fun M1 e_M1 => ?_)
  have h := h M1 e_M1
  refine a_aload_n C (tk T_cX3_survey 3 rfl) rfl ?_
  refine a_iconst C (0 : Int32) (tk T_cX3_survey 4 rfl) kI_0 ?_
  refine a_put C f_RX3_120 f_RX3_120p rfl rfl (tk T_cX3_survey 5 rfl) lc69 rfl ?_
  refine a_mem (fun M2 e_M2 => ?_)
  have h := h M2 e_M2
  refine a_iconst C (0 : Int32) (tk T_cX3_survey 6 rfl) kI_0 ?_
  refine a_istore_n C (tk T_cX3_survey 7 rfl) (by decide) ?_
  obtain ⟨n1, h⟩ := h
  exact a_to (k_Judge_survey_12 C hr hR n1 x1 x2 (0 : Int32) M2 h) rfl
theorem ct_Judge_survey {l : Launch} {g : GT} {ext : List CD} {post : Mem → Prop} {x1 x2 : Int32} {M : Mem} (h : P_Judge_survey post x1 x2 M) : CV l g (layC ++ ext) yX3_survey cX3_survey 7 none 2 [.ref (ad g 69), .int x1, .int x2] M post :=
  cv_of (plainFor_of_name (by decide +kernel)) (Nat.le_of_ble_eq_true rfl) rfl (fun X A Z hl C hr hR => by subst hl; exact k_Judge_survey C hr hR x1 x2 M h)
def T_cX3_isExplainedL : List (Nat × Instr × Nat) := [(0, .aload_n 0, 1), (1, .aload_n 0, 1), (2, .getfield 38, 3), (5, .getfield 123, 3), (8, .iload_n 1, 1), (9, .invokevirtual 152, 3), (12, .iload_n 2, 1), (13, .invokevirtual 155, 3), (16, .aload_n 0, 1), (17, .getfield 120, 3), (20, .ifCond .ne 28, 3), (23, .aload_n 0, 1), (24, .getfield 55, 3), (27, .aload_n 0, 1), (28, .getfield 58, 3), (31, .iconst (-1), 1), (32, .ixor, 1), (33, .iand, 1), (34, .aload_n 0, 1), (35, .getfield 117, 3), (38, .iconst (-1), 1), (39, .ixor, 1), (40, .iand, 1), (41, .ifCond .ne 7, 3), (44, .iconst 1, 1), (45, .goto 4, 3), (48, .iconst 0, 1), (49, .ireturn, 1)]
theorem T_cX3_isExplained : tabOK cX3_isExplained T_cX3_isExplainedL = true := by decide +kernel
def P_Judge_isExplained_49 (post : Int32 → Mem → Prop) (s0 : Int32) (M : Mem) : Prop :=
  (s0 = 0 ∨ s0 = 1) ∧ post s0 M
theorem k_Judge_isExplained_49 {X : FX} {g : GT} {ext : List CD} {A : Nat → Prop} {Z : State → Prop} {post : Int32 → Mem → Prop} (C : Cx X g (layC ++ ext) A cX3_isExplained 3 RX3 3) (hr : 0 ≤ X.2.2.2.1.cells ∧ 0 ≤ X.2.2.2.1.slots) (hR : RetZ X g (layC ++ ext) A cX3_isExplained 3 0 0 Z post) (s0 : Int32) (M : Mem) (h : P_Judge_isExplained_49 post s0 M) : At X g (layC ++ ext) A 3 0 0 Z 49 [] [.int s0] M := by
  exact hR _ _ _ _ (tk T_cX3_isExplained 27 rfl) h
def P_Judge_isExplained_48 (post : Int32 → Mem → Prop) (M : Mem) : Prop :=
  P_Judge_isExplained_49 post (0 : Int32) M
theorem k_Judge_isExplained_48 {X : FX} {g : GT} {ext : List CD} {A : Nat → Prop} {Z : State → Prop} {post : Int32 → Mem → Prop} (C : Cx X g (layC ++ ext) A cX3_isExplained 3 RX3 3) (hr : 0 ≤ X.2.2.2.1.cells ∧ 0 ≤ X.2.2.2.1.slots) (hR : RetZ X g (layC ++ ext) A cX3_isExplained 3 0 0 Z post)  (M : Mem) (h : P_Judge_isExplained_48 post M) : At X g (layC ++ ext) A 3 0 0 Z 48 [] [] M := by
  refine a_iconst C (0 : Int32) (tk T_cX3_isExplained 26 rfl) kI_0 ?_
  exact a_to (k_Judge_isExplained_49 C hr hR (0 : Int32) M h) rfl
def P_Judge_isExplained (post : Int32 → Mem → Prop) (x1 x2 : Int32) (M : Mem) : Prop :=
  P_Table_withAir (fun r1 M1 =>
  P_Judge_survey (fun M2 =>
  (¬ (M2 69 14) = 0 → (P_Judge_isExplained_48 post M2)) ∧
  ((M2 69 14) = 0 → (∀ v3, v3 = (((M2 69 11) &&& ((M2 69 12) ^^^ (-1 : Int32))) &&& ((M2 69 13) ^^^ (-1 : Int32))) → (¬ v3 = 0 → (P_Judge_isExplained_48 post M2)) ∧
  (v3 = 0 → (P_Judge_isExplained_49 post (1 : Int32) M2))))) r1 x2 M1) x1 M
theorem k_Judge_isExplained {X : FX} {g : GT} {ext : List CD} {A : Nat → Prop} {Z : State → Prop} {post : Int32 → Mem → Prop} (C : Cx X g (layC ++ ext) A cX3_isExplained 3 RX3 3) (hr : 0 ≤ X.2.2.2.1.cells ∧ 0 ≤ X.2.2.2.1.slots) (hR : RetZ X g (layC ++ ext) A cX3_isExplained 3 0 0 Z post) (x1 x2 : Int32) (M : Mem) (h : P_Judge_isExplained post x1 x2 M) : At X g (layC ++ ext) A 3 0 0 Z 0 [(0, .ref (ad g 69)), (1, .int x1), (2, .int x2)] [] M := by
  refine a_aload_n C (tk T_cX3_isExplained 0 rfl) rfl ?_
  refine a_aload_n C (tk T_cX3_isExplained 1 rfl) rfl ?_
  refine a_getR C f_RX3_38 (tk T_cX3_isExplained 2 rfl) lc69 rfl ?_
  refine a_getR C f_RX3_123 (tk T_cX3_isExplained 3 rfl) lc1 rfl ?_
  refine a_iload_n C (tk T_cX3_isExplained 4 rfl) rfl ?_
  refine a_callI C [.int x1] me_yX10_withAir lk_RX3_152 (ct_Table_withAir h) (by decide) lc13 rfl rfl rfl (Nat.le_of_ble_eq_true rfl) (tk T_cX3_isExplained 5 rfl) hr (fun r1 M1 h => ?_)
  refine a_iload_n C (tk T_cX3_isExplained 6 rfl) rfl ?_
  refine a_callV C [.int r1, .int x2] me_yX3_survey lk_RX3_155 (ct_Judge_survey h) (by decide) lc69 rfl rfl rfl (Nat.le_of_ble_eq_true rfl) (tk T_cX3_isExplained 7 rfl) hr (fun M2 h => ?_)
  refine a_aload_n C (tk T_cX3_isExplained 8 rfl) rfl ?_
  refine a_getI C f_RX3_120 (tk T_cX3_isExplained 9 rfl) lc69 rfl ?_
  refine a_if_ne C 48 (tk T_cX3_isExplained 10 rfl) rfl (fun c => ?_) (fun c => ?_)
  · have h := h.1 c
    exact a_to (k_Judge_isExplained_48 C hr hR M2 h) rfl
  · have h := h.2 c
    refine a_aload_n C (tk T_cX3_isExplained 11 rfl) rfl ?_
    refine a_getI C f_RX3_55 (tk T_cX3_isExplained 12 rfl) lc69 rfl ?_
    refine a_aload_n C (tk T_cX3_isExplained 13 rfl) rfl ?_
    refine a_getI C f_RX3_58 (tk T_cX3_isExplained 14 rfl) lc69 rfl ?_
    refine a_iconst C (-1 : Int32) (tk T_cX3_isExplained 15 rfl) kI_m1 ?_
    refine a_ixor C (tk T_cX3_isExplained 16 rfl) ?_
    refine a_iand C (tk T_cX3_isExplained 17 rfl) ?_
    refine a_aload_n C (tk T_cX3_isExplained 18 rfl) rfl ?_
    refine a_getI C f_RX3_117 (tk T_cX3_isExplained 19 rfl) lc69 rfl ?_
    refine a_iconst C (-1 : Int32) (tk T_cX3_isExplained 20 rfl) kI_m1 ?_
    refine a_ixor C (tk T_cX3_isExplained 21 rfl) ?_
    refine a_iand C (tk T_cX3_isExplained 22 rfl) ?_
    refine a_top (fun v3 e_v3 => ?_)
    have h := h v3 e_v3
    refine a_if_ne C 48 (tk T_cX3_isExplained 23 rfl) rfl (fun c => ?_) (fun c => ?_)
    · have h := h.1 c
      exact a_to (k_Judge_isExplained_48 C hr hR M2 h) rfl
    · have h := h.2 c
      refine a_iconst C (1 : Int32) (tk T_cX3_isExplained 24 rfl) kI_1 ?_
      refine a_goto C 49 (tk T_cX3_isExplained 25 rfl) rfl ?_
      exact a_to (k_Judge_isExplained_49 C hr hR (1 : Int32) M2 h) rfl
theorem ct_Judge_isExplained {l : Launch} {g : GT} {ext : List CD} {post : Int32 → Mem → Prop} {x1 x2 : Int32} {M : Mem} (h : P_Judge_isExplained post x1 x2 M) : CI l g (layC ++ ext) yX3_isExplained cX3_isExplained 3 (some .boolean) 3 [.ref (ad g 69), .int x1, .int x2] M post :=
  cz_of (plainFor_of_name (by decide +kernel)) (Nat.le_of_ble_eq_true rfl) rfl (fun X A Z hl C hr hR => by subst hl; exact k_Judge_isExplained C hr hR x1 x2 M h)
def T_cX10_isFarL : List (Nat × Instr × Nat) := [(0, .iconst 0, 1), (1, .istore 4, 2), (3, .iload 4, 2), (5, .aload_n 0, 1), (6, .getfield 25, 3), (9, .if_icmp .ge 63, 3), (12, .iconst 0, 1), (13, .istore 5, 2), (15, .iload_n 2, 1), (16, .iload 4, 2), (18, .invokestatic 33, 3), (21, .ifCond .eq 45, 3), (24, .iload 5, 2), (26, .aload_n 0, 1), (27, .getfield 15, 3), (30, .iload 4, 2), (32, .iaload, 1), (33, .if_icmp .ge 33, 3), (36, .aload_n 0, 1), (37, .getfield 19, 3), (40, .iload 4, 2), (42, .bipush 6, 2), (44, .imul, 1), (45, .iload 5, 2), (47, .iadd, 1), (48, .iaload, 1), (49, .iload_n 1, 1), (50, .isub, 1), (51, .invokestatic 37, 3), (54, .iload_n 3, 1), (55, .if_icmp .gt 5, 3), (58, .iconst 0, 1), (59, .ireturn, 1), (60, .iinc 5 1, 3), (63, .goto (-48), 3), (66, .iinc 4 1, 3), (69, .goto (-66), 3), (72, .iconst 1, 1), (73, .ireturn, 1)]
theorem T_cX10_isFar : tabOK cX10_isFar T_cX10_isFarL = true := by decide +kernel
def P_Table_isFar_66 (post : Int32 → Mem → Prop) (R3 : Int32 → Int32 → Int32 → Int32 → Mem → Prop) (x1 x2 x3 x4 : Int32) (M : Mem) : Prop :=
  R3 x1 x2 x3 (x4 + (1 : Int32)) M
theorem k_Table_isFar_66 {X : FX} {g : GT} {ext : List CD} {A : Nat → Prop} {Z : State → Prop} {post : Int32 → Mem → Prop} {R3 : Int32 → Int32 → Int32 → Int32 → Mem → Prop} (C : Cx X g (layC ++ ext) A cX10_isFar 6 RX10 1) (hr : 0 ≤ X.2.2.2.1.cells ∧ 0 ≤ X.2.2.2.1.slots) (hR : RetZ X g (layC ++ ext) A cX10_isFar 6 0 0 Z post) (k3 : ∀ (y1 y2 y3 y4 : Int32) (M : Mem), R3 y1 y2 y3 y4 M → At X g (layC ++ ext) A 6 0 0 Z 3 [(0, .ref (ad g 13)), (1, .int y1), (2, .int y2), (3, .int y3), (4, .int y4)] [] M) (x1 x2 x3 x4 : Int32) (M : Mem) (h : P_Table_isFar_66 post R3 x1 x2 x3 x4 M) : At X g (layC ++ ext) A 6 0 0 Z 66 [(0, .ref (ad g 13)), (1, .int x1), (2, .int x2), (3, .int x3), (4, .int x4)] [] M := by
  refine a_iinc C (1 : Int32) (tk T_cX10_isFar 35 rfl) rfl kI_1 (by decide) ?_
  refine a_goto C 3 (tk T_cX10_isFar 36 rfl) rfl ?_
  exact a_to (k3 x1 x2 x3 (x4 + (1 : Int32)) M h) rfl
def P_Table_isFar_15 (post : Int32 → Mem → Prop) (R3 : Int32 → Int32 → Int32 → Int32 → Mem → Prop) : Nat → Int32 → Int32 → Int32 → Int32 → Int32 → Mem → Prop
  | 0, _, _, _, _, _, _ => False
  | n + 1, x1, x2, x3, x4, x5, M =>
    P_R_has (fun r1 M1 =>
  (r1 = 0 → (P_Table_isFar_66 post R3 x1 x2 x3 x4 M1)) ∧
  (¬ r1 = 0 → (vp_in x4 6 ∧ ((M1 15 x4.toNatClampNeg) ≤ x5 → (P_Table_isFar_66 post R3 x1 x2 x3 x4 M1)) ∧
  (¬ (M1 15 x4.toNatClampNeg) ≤ x5 → (vp_in ((x4 * (6 : Int32)) + x5) 36 ∧ P_Math_abs (fun r2 M2 =>
  (x3 < r2 → (P_Table_isFar_15 post R3 n x1 x2 x3 x4 (x5 + (1 : Int32)) M2)) ∧
  (¬ x3 < r2 → (post (0 : Int32) M2))) ((M1 16 ((x4 * (6 : Int32)) + x5).toNatClampNeg) - x1) M1))))) x2 x4 M
theorem k_Table_isFar_15 {X : FX} {g : GT} {ext : List CD} {A : Nat → Prop} {Z : State → Prop} {post : Int32 → Mem → Prop} {R3 : Int32 → Int32 → Int32 → Int32 → Mem → Prop} (C : Cx X g (layC ++ ext) A cX10_isFar 6 RX10 1) (hr : 0 ≤ X.2.2.2.1.cells ∧ 0 ≤ X.2.2.2.1.slots) (hR : RetZ X g (layC ++ ext) A cX10_isFar 6 0 0 Z post) (k3 : ∀ (y1 y2 y3 y4 : Int32) (M : Mem), R3 y1 y2 y3 y4 M → At X g (layC ++ ext) A 6 0 0 Z 3 [(0, .ref (ad g 13)), (1, .int y1), (2, .int y2), (3, .int y3), (4, .int y4)] [] M) : ∀ (n : Nat) (x1 x2 x3 x4 x5 : Int32) (M : Mem), P_Table_isFar_15 post R3 n x1 x2 x3 x4 x5 M → At X g (layC ++ ext) A 6 0 0 Z 15 [(0, .ref (ad g 13)), (1, .int x1), (2, .int x2), (3, .int x3), (4, .int x4), (5, .int x5)] [] M := by
  intro n
  induction n with
  | zero =>
    intro x1 x2 x3 x4 x5 M h
    exact h.elim
  | succ n ih =>
    intro x1 x2 x3 x4 x5 M h
    refine a_iload_n C (tk T_cX10_isFar 8 rfl) rfl ?_
    refine a_iload C (tk T_cX10_isFar 9 rfl) rfl ?_
    refine a_nestI C [.int x2, .int x4] me_yX11_has lk_RX10_33 (ct_R_has h) (by decide) rfl rfl (Nat.le_of_ble_eq_true rfl) (tk T_cX10_isFar 10 rfl) hr (fun r1 M1 h => ?_)
    refine a_if_eq C 66 (tk T_cX10_isFar 11 rfl) rfl (fun c => ?_) (fun c => ?_)
    · have h := h.1 c
      exact a_to (k_Table_isFar_66 C hr hR k3 x1 x2 x3 x4 M1 h) rfl
    · have h := h.2 c
      refine a_iload C (tk T_cX10_isFar 12 rfl) rfl ?_
      refine a_aload_n C (tk T_cX10_isFar 13 rfl) rfl ?_
      refine a_getR C f_RX10_15 (tk T_cX10_isFar 14 rfl) lc13 rfl ?_
      refine a_iload C (tk T_cX10_isFar 15 rfl) rfl ?_
      obtain ⟨hb, h⟩ := h
      refine a_iald C (tk T_cX10_isFar 16 rfl) lc15 hb ?_
      refine a_icmp_ge C 66 (tk T_cX10_isFar 17 rfl) rfl (fun c => ?_) (fun c => ?_)
      · have h := h.1 c
        exact a_to (k_Table_isFar_66 C hr hR k3 x1 x2 x3 x4 M1 h) rfl
      · have h := h.2 c
        refine a_aload_n C (tk T_cX10_isFar 18 rfl) rfl ?_
        refine a_getR C f_RX10_19 (tk T_cX10_isFar 19 rfl) lc13 rfl ?_
        refine a_iload C (tk T_cX10_isFar 20 rfl) rfl ?_
        refine a_bipush C (6 : Int32) (tk T_cX10_isFar 21 rfl) kB_6 ?_
        refine a_imul C (tk T_cX10_isFar 22 rfl) ?_
        refine a_iload C (tk T_cX10_isFar 23 rfl) rfl ?_
        refine a_iadd C (tk T_cX10_isFar 24 rfl) ?_
        obtain ⟨hb, h⟩ := h
        refine a_iald C (tk T_cX10_isFar 25 rfl) lc16 hb ?_
        refine a_iload_n C (tk T_cX10_isFar 26 rfl) rfl ?_
        refine a_isub C (tk T_cX10_isFar 27 rfl) ?_
        refine a_statI C [.int ((M1 16 ((x4 * (6 : Int32)) + x5).toNatClampNeg) - x1)] me_yJ9_abs_0f7a4 lk_RX10_37 (ct_Math_abs h) (by decide) rfl rfl (Nat.le_of_ble_eq_true rfl) (tk T_cX10_isFar 28 rfl) hr (fun r2 M2 h => ?_)
        refine a_iload_n C (tk T_cX10_isFar 29 rfl) rfl ?_
        refine a_icmp_gt C 60 (tk T_cX10_isFar 30 rfl) rfl (fun c => ?_) (fun c => ?_)
        · have h := h.1 c
          refine a_iinc C (1 : Int32) (tk T_cX10_isFar 33 rfl) rfl kI_1 (by decide) ?_
          refine a_goto C 15 (tk T_cX10_isFar 34 rfl) rfl ?_
          exact a_to (ih x1 x2 x3 x4 (x5 + (1 : Int32)) M2 h) rfl
        · have h := h.2 c
          refine a_iconst C (0 : Int32) (tk T_cX10_isFar 31 rfl) kI_0 ?_
          exact hR _ _ _ _ (tk T_cX10_isFar 32 rfl) ⟨Or.inl rfl, h⟩
def P_Table_isFar_3 (post : Int32 → Mem → Prop) : Nat → Int32 → Int32 → Int32 → Int32 → Mem → Prop
  | 0, _, _, _, _, _ => False
  | n + 1, x1, x2, x3, x4, M =>
    ((M 13 4) ≤ x4 → (post (1 : Int32) M)) ∧
  (¬ (M 13 4) ≤ x4 → (∃ j15, P_Table_isFar_15 post (P_Table_isFar_3 post n) j15 x1 x2 x3 x4 (0 : Int32) M))
theorem k_Table_isFar_3 {X : FX} {g : GT} {ext : List CD} {A : Nat → Prop} {Z : State → Prop} {post : Int32 → Mem → Prop} (C : Cx X g (layC ++ ext) A cX10_isFar 6 RX10 1) (hr : 0 ≤ X.2.2.2.1.cells ∧ 0 ≤ X.2.2.2.1.slots) (hR : RetZ X g (layC ++ ext) A cX10_isFar 6 0 0 Z post) : ∀ (n : Nat) (x1 x2 x3 x4 : Int32) (M : Mem), P_Table_isFar_3 post n x1 x2 x3 x4 M → At X g (layC ++ ext) A 6 0 0 Z 3 [(0, .ref (ad g 13)), (1, .int x1), (2, .int x2), (3, .int x3), (4, .int x4)] [] M := by
  intro n
  induction n with
  | zero =>
    intro x1 x2 x3 x4 M h
    exact h.elim
  | succ n ih =>
    intro x1 x2 x3 x4 M h
    refine a_iload C (tk T_cX10_isFar 2 rfl) rfl ?_
    refine a_aload_n C (tk T_cX10_isFar 3 rfl) rfl ?_
    refine a_getI C f_RX10_25 (tk T_cX10_isFar 4 rfl) lc13 rfl ?_
    refine a_icmp_ge C 72 (tk T_cX10_isFar 5 rfl) rfl (fun c => ?_) (fun c => ?_)
    · have h := h.1 c
      refine a_iconst C (1 : Int32) (tk T_cX10_isFar 37 rfl) kI_1 ?_
      exact hR _ _ _ _ (tk T_cX10_isFar 38 rfl) ⟨Or.inr rfl, h⟩
    · have h := h.2 c
      refine a_iconst C (0 : Int32) (tk T_cX10_isFar 6 rfl) kI_0 ?_
      refine a_istore C (tk T_cX10_isFar 7 rfl) (by decide) ?_
      obtain ⟨n1, h⟩ := h
      exact a_to (k_Table_isFar_15 C hr hR ih n1 x1 x2 x3 x4 (0 : Int32) M h) rfl
def P_Table_isFar (post : Int32 → Mem → Prop) (x1 x2 x3 : Int32) (M : Mem) : Prop :=
  ∃ j3, P_Table_isFar_3 post j3 x1 x2 x3 (0 : Int32) M
theorem k_Table_isFar {X : FX} {g : GT} {ext : List CD} {A : Nat → Prop} {Z : State → Prop} {post : Int32 → Mem → Prop} (C : Cx X g (layC ++ ext) A cX10_isFar 6 RX10 1) (hr : 0 ≤ X.2.2.2.1.cells ∧ 0 ≤ X.2.2.2.1.slots) (hR : RetZ X g (layC ++ ext) A cX10_isFar 6 0 0 Z post) (x1 x2 x3 : Int32) (M : Mem) (h : P_Table_isFar post x1 x2 x3 M) : At X g (layC ++ ext) A 6 0 0 Z 0 [(0, .ref (ad g 13)), (1, .int x1), (2, .int x2), (3, .int x3)] [] M := by
  refine a_iconst C (0 : Int32) (tk T_cX10_isFar 0 rfl) kI_0 ?_
  refine a_istore C (tk T_cX10_isFar 1 rfl) (by decide) ?_
  obtain ⟨n1, h⟩ := h
  exact a_to (k_Table_isFar_3 C hr hR n1 x1 x2 x3 (0 : Int32) M h) rfl
theorem ct_Table_isFar {l : Launch} {g : GT} {ext : List CD} {post : Int32 → Mem → Prop} {x1 x2 x3 : Int32} {M : Mem} (h : P_Table_isFar post x1 x2 x3 M) : CI l g (layC ++ ext) yX10_isFar cX10_isFar 6 (some .boolean) 1 [.ref (ad g 13), .int x1, .int x2, .int x3] M post :=
  cz_of (plainFor_of_name (by decide +kernel)) (Nat.le_of_ble_eq_true rfl) rfl (fun X A Z hl C hr hR => by subst hl; exact k_Table_isFar C hr hR x1 x2 x3 M h)
def T_cX10_withoutAirL : List (Nat × Instr × Nat) := [(0, .iload_n 1, 1), (1, .iconst 1, 1), (2, .aload_n 0, 1), (3, .getfield 25, 3), (6, .ishl, 1), (7, .iconst 1, 1), (8, .isub, 1), (9, .iand, 1), (10, .aload_n 0, 1), (11, .invokevirtual 29, 3), (14, .iconst (-1), 1), (15, .ixor, 1), (16, .iand, 1), (17, .ireturn, 1)]
theorem T_cX10_withoutAir : tabOK cX10_withoutAir T_cX10_withoutAirL = true := by decide +kernel
def P_Table_withoutAir (post : Int32 → Mem → Prop) (x1 : Int32) (M : Mem) : Prop :=
  P_Table_airBits (fun r1 M1 =>
  ∀ v2, v2 = ((x1 &&& (((1 : Int32) <<< ((M 13 4) &&& 31)) - (1 : Int32))) &&& (r1 ^^^ (-1 : Int32))) → post v2 M1) M
theorem k_Table_withoutAir {X : FX} {g : GT} {ext : List CD} {A : Nat → Prop} {Z : State → Prop} {post : Int32 → Mem → Prop} (C : Cx X g (layC ++ ext) A cX10_withoutAir 2 RX10 1) (hr : 0 ≤ X.2.2.2.1.cells ∧ 0 ≤ X.2.2.2.1.slots) (hR : RetI X g (layC ++ ext) A cX10_withoutAir 2 0 0 Z post) (x1 : Int32) (M : Mem) (h : P_Table_withoutAir post x1 M) : At X g (layC ++ ext) A 2 0 0 Z 0 [(0, .ref (ad g 13)), (1, .int x1)] [] M := by
  refine a_iload_n C (tk T_cX10_withoutAir 0 rfl) rfl ?_
  refine a_iconst C (1 : Int32) (tk T_cX10_withoutAir 1 rfl) kI_1 ?_
  refine a_aload_n C (tk T_cX10_withoutAir 2 rfl) rfl ?_
  refine a_getI C f_RX10_25 (tk T_cX10_withoutAir 3 rfl) lc13 rfl ?_
  refine a_ishl C (tk T_cX10_withoutAir 4 rfl) ?_
  refine a_iconst C (1 : Int32) (tk T_cX10_withoutAir 5 rfl) kI_1 ?_
  refine a_isub C (tk T_cX10_withoutAir 6 rfl) ?_
  refine a_iand C (tk T_cX10_withoutAir 7 rfl) ?_
  refine a_aload_n C (tk T_cX10_withoutAir 8 rfl) rfl ?_
  refine a_callI C [] me_yX10_airBits lk_RX10_29 (ct_Table_airBits h) (by decide) lc13 rfl rfl rfl (Nat.le_of_ble_eq_true rfl) (tk T_cX10_withoutAir 9 rfl) hr (fun r1 M1 h => ?_)
  refine a_iconst C (-1 : Int32) (tk T_cX10_withoutAir 10 rfl) kI_m1 ?_
  refine a_ixor C (tk T_cX10_withoutAir 11 rfl) ?_
  refine a_iand C (tk T_cX10_withoutAir 12 rfl) ?_
  refine a_top (fun v2 e_v2 => ?_)
  have h := h v2 e_v2
  exact hR _ _ _ _ (tk T_cX10_withoutAir 13 rfl) h
theorem ct_Table_withoutAir {l : Launch} {g : GT} {ext : List CD} {post : Int32 → Mem → Prop} {x1 : Int32} {M : Mem} (h : P_Table_withoutAir post x1 M) : CI l g (layC ++ ext) yX10_withoutAir cX10_withoutAir 2 (some .int) 1 [.ref (ad g 13), .int x1] M post :=
  ci_of (plainFor_of_name (by decide +kernel)) (Nat.le_of_ble_eq_true rfl) rfl (fun X A Z hl C hr hR => by subst hl; exact k_Table_withoutAir C hr hR x1 M h)
def T_cX10_partsL : List (Nat × Instr × Nat) := [(0, .aload_n 0, 1), (1, .iload_n 1, 1), (2, .invokevirtual 43, 3), (5, .istore 7, 2), (7, .iconst 0, 1), (8, .istore 8, 2), (10, .iload 8, 2), (12, .aload_n 0, 1), (13, .getfield 25, 3), (16, .if_icmp .ge 104, 3), (19, .iconst 0, 1), (20, .istore 9, 2), (22, .iload 7, 2), (24, .iload 8, 2), (26, .invokestatic 33, 3), (29, .ifCond .eq 85, 3), (32, .iload 9, 2), (34, .aload_n 0, 1), (35, .getfield 15, 3), (38, .iload 8, 2), (40, .iaload, 1), (41, .if_icmp .ge 73, 3), (44, .iload 8, 2), (46, .bipush 6, 2), (48, .imul, 1), (49, .iload 9, 2), (51, .iadd, 1), (52, .istore 10, 2), (54, .aload_n 0, 1), (55, .getfield 22, 3), (58, .iload 10, 2), (60, .iaload, 1), (61, .iload_n 3, 1), (62, .imul, 1), (63, .bipush 30, 2), (65, .if_icmp .lt 43, 3), (68, .aload_n 0, 1), (69, .getfield 19, 3), (72, .iload 10, 2), (74, .iaload, 1), (75, .iload 5, 2), (77, .iload 6, 2), (79, .invokestatic 46, 3), (82, .ifCond .eq 26, 3), (85, .aload_n 0, 1), (86, .aload_n 0, 1), (87, .getfield 19, 3), (90, .iload 10, 2), (92, .iaload, 1), (93, .aload_n 0, 1), (94, .iload_n 2, 1), (95, .invokevirtual 50, 3), (98, .iload 4, 2), (100, .invokevirtual 53, 3), (103, .ifCond .eq 5, 3), (106, .iconst 1, 1), (107, .ireturn, 1), (108, .iinc 9 1, 3), (111, .goto (-89), 3), (114, .iinc 8 1, 3), (117, .goto (-107), 3), (120, .iconst 0, 1), (121, .ireturn, 1)]
theorem T_cX10_parts : tabOK cX10_parts T_cX10_partsL = true := by decide +kernel
def P_Table_parts_114 (post : Int32 → Mem → Prop) (R10 : Int32 → Int32 → Int32 → Int32 → Int32 → Int32 → Int32 → Mem → Prop) (x2 x3 x4 x5 x6 x7 x8 : Int32) (M : Mem) : Prop :=
  R10 x2 x3 x4 x5 x6 x7 (x8 + (1 : Int32)) M
theorem k_Table_parts_114 {X : FX} {g : GT} {ext : List CD} {A : Nat → Prop} {Z : State → Prop} {post : Int32 → Mem → Prop} {R10 : Int32 → Int32 → Int32 → Int32 → Int32 → Int32 → Int32 → Mem → Prop} (C : Cx X g (layC ++ ext) A cX10_parts 11 RX10 2) (hr : 0 ≤ X.2.2.2.1.cells ∧ 0 ≤ X.2.2.2.1.slots) (hR : RetZ X g (layC ++ ext) A cX10_parts 11 0 0 Z post) (k10 : ∀ (y2 y3 y4 y5 y6 y7 y8 : Int32) (M : Mem), R10 y2 y3 y4 y5 y6 y7 y8 M → At X g (layC ++ ext) A 11 0 0 Z 10 [(0, .ref (ad g 13)), (2, .int y2), (3, .int y3), (4, .int y4), (5, .int y5), (6, .int y6), (7, .int y7), (8, .int y8)] [] M) (x2 x3 x4 x5 x6 x7 x8 : Int32) (M : Mem) (h : P_Table_parts_114 post R10 x2 x3 x4 x5 x6 x7 x8 M) : At X g (layC ++ ext) A 11 0 0 Z 114 [(0, .ref (ad g 13)), (2, .int x2), (3, .int x3), (4, .int x4), (5, .int x5), (6, .int x6), (7, .int x7), (8, .int x8)] [] M := by
  refine a_iinc C (1 : Int32) (tk T_cX10_parts 59 rfl) rfl kI_1 (by decide) ?_
  refine a_goto C 10 (tk T_cX10_parts 60 rfl) rfl ?_
  exact a_to (k10 x2 x3 x4 x5 x6 x7 (x8 + (1 : Int32)) M h) rfl
def P_Table_parts_108 (post : Int32 → Mem → Prop) (R10 : Int32 → Int32 → Int32 → Int32 → Int32 → Int32 → Int32 → Mem → Prop) (R22 : Int32 → Int32 → Int32 → Int32 → Int32 → Int32 → Int32 → Int32 → Mem → Prop) (x2 x3 x4 x5 x6 x7 x8 x9 : Int32) (M : Mem) : Prop :=
  R22 x2 x3 x4 x5 x6 x7 x8 (x9 + (1 : Int32)) M
theorem k_Table_parts_108 {X : FX} {g : GT} {ext : List CD} {A : Nat → Prop} {Z : State → Prop} {post : Int32 → Mem → Prop} {R10 : Int32 → Int32 → Int32 → Int32 → Int32 → Int32 → Int32 → Mem → Prop} {R22 : Int32 → Int32 → Int32 → Int32 → Int32 → Int32 → Int32 → Int32 → Mem → Prop} (C : Cx X g (layC ++ ext) A cX10_parts 11 RX10 2) (hr : 0 ≤ X.2.2.2.1.cells ∧ 0 ≤ X.2.2.2.1.slots) (hR : RetZ X g (layC ++ ext) A cX10_parts 11 0 0 Z post) (k10 : ∀ (y2 y3 y4 y5 y6 y7 y8 : Int32) (M : Mem), R10 y2 y3 y4 y5 y6 y7 y8 M → At X g (layC ++ ext) A 11 0 0 Z 10 [(0, .ref (ad g 13)), (2, .int y2), (3, .int y3), (4, .int y4), (5, .int y5), (6, .int y6), (7, .int y7), (8, .int y8)] [] M) (k22 : ∀ (y2 y3 y4 y5 y6 y7 y8 y9 : Int32) (M : Mem), R22 y2 y3 y4 y5 y6 y7 y8 y9 M → At X g (layC ++ ext) A 11 0 0 Z 22 [(0, .ref (ad g 13)), (2, .int y2), (3, .int y3), (4, .int y4), (5, .int y5), (6, .int y6), (7, .int y7), (8, .int y8), (9, .int y9)] [] M) (x2 x3 x4 x5 x6 x7 x8 x9 : Int32) (M : Mem) (h : P_Table_parts_108 post R10 R22 x2 x3 x4 x5 x6 x7 x8 x9 M) : At X g (layC ++ ext) A 11 0 0 Z 108 [(0, .ref (ad g 13)), (2, .int x2), (3, .int x3), (4, .int x4), (5, .int x5), (6, .int x6), (7, .int x7), (8, .int x8), (9, .int x9)] [] M := by
  refine a_iinc C (1 : Int32) (tk T_cX10_parts 57 rfl) rfl kI_1 (by decide) ?_
  refine a_goto C 22 (tk T_cX10_parts 58 rfl) rfl ?_
  exact a_to (k22 x2 x3 x4 x5 x6 x7 x8 (x9 + (1 : Int32)) M h) rfl
def P_Table_parts_22 (post : Int32 → Mem → Prop) (R10 : Int32 → Int32 → Int32 → Int32 → Int32 → Int32 → Int32 → Mem → Prop) : Nat → Int32 → Int32 → Int32 → Int32 → Int32 → Int32 → Int32 → Int32 → Mem → Prop
  | 0, _, _, _, _, _, _, _, _, _ => False
  | n + 1, x2, x3, x4, x5, x6, x7, x8, x9, M =>
    P_R_has (fun r1 M1 =>
  (r1 = 0 → (P_Table_parts_114 post R10 x2 x3 x4 x5 x6 x7 x8 M1)) ∧
  (¬ r1 = 0 → (vp_in x8 6 ∧ ((M1 15 x8.toNatClampNeg) ≤ x9 → (P_Table_parts_114 post R10 x2 x3 x4 x5 x6 x7 x8 M1)) ∧
  (¬ (M1 15 x8.toNatClampNeg) ≤ x9 → (∀ x10_2, x10_2 = ((x8 * (6 : Int32)) + x9) → vp_in x10_2 36 ∧ (((M1 17 x10_2.toNatClampNeg) * x3) < (30 : Int32) → (P_Table_parts_108 post R10 (P_Table_parts_22 post R10 n) x2 x3 x4 x5 x6 x7 x8 x9 M1)) ∧
  (¬ ((M1 17 x10_2.toNatClampNeg) * x3) < (30 : Int32) → (vp_in x10_2 36 ∧ P_R_within (fun r3 M3 =>
  (r3 = 0 → (P_Table_parts_108 post R10 (P_Table_parts_22 post R10 n) x2 x3 x4 x5 x6 x7 x8 x9 M3)) ∧
  (¬ r3 = 0 → (vp_in x10_2 36 ∧ P_Table_withAir (fun r4 M4 =>
  P_Table_isFar (fun r5 M5 =>
  (r5 = 0 → (P_Table_parts_108 post R10 (P_Table_parts_22 post R10 n) x2 x3 x4 x5 x6 x7 x8 x9 M5)) ∧
  (¬ r5 = 0 → (post (1 : Int32) M5))) (M3 16 x10_2.toNatClampNeg) r4 x4 M4) x2 M3))) (M1 16 x10_2.toNatClampNeg) x5 x6 M1))))))) x7 x8 M
theorem k_Table_parts_22 {X : FX} {g : GT} {ext : List CD} {A : Nat → Prop} {Z : State → Prop} {post : Int32 → Mem → Prop} {R10 : Int32 → Int32 → Int32 → Int32 → Int32 → Int32 → Int32 → Mem → Prop} (C : Cx X g (layC ++ ext) A cX10_parts 11 RX10 2) (hr : 0 ≤ X.2.2.2.1.cells ∧ 0 ≤ X.2.2.2.1.slots) (hR : RetZ X g (layC ++ ext) A cX10_parts 11 0 0 Z post) (k10 : ∀ (y2 y3 y4 y5 y6 y7 y8 : Int32) (M : Mem), R10 y2 y3 y4 y5 y6 y7 y8 M → At X g (layC ++ ext) A 11 0 0 Z 10 [(0, .ref (ad g 13)), (2, .int y2), (3, .int y3), (4, .int y4), (5, .int y5), (6, .int y6), (7, .int y7), (8, .int y8)] [] M) : ∀ (n : Nat) (x2 x3 x4 x5 x6 x7 x8 x9 : Int32) (M : Mem), P_Table_parts_22 post R10 n x2 x3 x4 x5 x6 x7 x8 x9 M → At X g (layC ++ ext) A 11 0 0 Z 22 [(0, .ref (ad g 13)), (2, .int x2), (3, .int x3), (4, .int x4), (5, .int x5), (6, .int x6), (7, .int x7), (8, .int x8), (9, .int x9)] [] M := by
  intro n
  induction n with
  | zero =>
    intro x2 x3 x4 x5 x6 x7 x8 x9 M h
    exact h.elim
  | succ n ih =>
    intro x2 x3 x4 x5 x6 x7 x8 x9 M h
    refine a_iload C (tk T_cX10_parts 12 rfl) rfl ?_
    refine a_iload C (tk T_cX10_parts 13 rfl) rfl ?_
    refine a_nestI C [.int x7, .int x8] me_yX11_has lk_RX10_33 (ct_R_has h) (by decide) rfl rfl (Nat.le_of_ble_eq_true rfl) (tk T_cX10_parts 14 rfl) hr (fun r1 M1 h => ?_)
    refine a_if_eq C 114 (tk T_cX10_parts 15 rfl) rfl (fun c => ?_) (fun c => ?_)
    · have h := h.1 c
      exact a_to (k_Table_parts_114 C hr hR k10 x2 x3 x4 x5 x6 x7 x8 M1 h) rfl
    · have h := h.2 c
      refine a_iload C (tk T_cX10_parts 16 rfl) rfl ?_
      refine a_aload_n C (tk T_cX10_parts 17 rfl) rfl ?_
      refine a_getR C f_RX10_15 (tk T_cX10_parts 18 rfl) lc13 rfl ?_
      refine a_iload C (tk T_cX10_parts 19 rfl) rfl ?_
      obtain ⟨hb, h⟩ := h
      refine a_iald C (tk T_cX10_parts 20 rfl) lc15 hb ?_
      refine a_icmp_ge C 114 (tk T_cX10_parts 21 rfl) rfl (fun c => ?_) (fun c => ?_)
      · have h := h.1 c
        exact a_to (k_Table_parts_114 C hr hR k10 x2 x3 x4 x5 x6 x7 x8 M1 h) rfl
      · have h := h.2 c
        refine a_iload C (tk T_cX10_parts 22 rfl) rfl ?_
        refine a_bipush C (6 : Int32) (tk T_cX10_parts 23 rfl) kB_6 ?_
        refine a_imul C (tk T_cX10_parts 24 rfl) ?_
        refine a_iload C (tk T_cX10_parts 25 rfl) rfl ?_
        refine a_iadd C (tk T_cX10_parts 26 rfl) ?_
        refine a_top (fun x10_2 e_x10_2 => ?_)
        have h := h x10_2 e_x10_2
        refine a_istore C (tk T_cX10_parts 27 rfl) (by decide) ?_
        refine a_aload_n C (tk T_cX10_parts 28 rfl) rfl ?_
        refine a_getR C f_RX10_22 (tk T_cX10_parts 29 rfl) lc13 rfl ?_
        refine a_iload C (tk T_cX10_parts 30 rfl) rfl ?_
        obtain ⟨hb, h⟩ := h
        refine a_iald C (tk T_cX10_parts 31 rfl) lc17 hb ?_
        refine a_iload_n C (tk T_cX10_parts 32 rfl) rfl ?_
        refine a_imul C (tk T_cX10_parts 33 rfl) ?_
        refine a_bipush C (30 : Int32) (tk T_cX10_parts 34 rfl) kB_30 ?_
        refine a_icmp_lt C 108 (tk T_cX10_parts 35 rfl) rfl (fun c => ?_) (fun c => ?_)
        · have h := h.1 c
          exact a_to (k_Table_parts_108 C hr hR k10 ih x2 x3 x4 x5 x6 x7 x8 x9 M1 h) rfl
        · have h := h.2 c
          refine a_aload_n C (tk T_cX10_parts 36 rfl) rfl ?_
          refine a_getR C f_RX10_19 (tk T_cX10_parts 37 rfl) lc13 rfl ?_
          refine a_iload C (tk T_cX10_parts 38 rfl) rfl ?_
          obtain ⟨hb, h⟩ := h
          refine a_iald C (tk T_cX10_parts 39 rfl) lc16 hb ?_
          refine a_iload C (tk T_cX10_parts 40 rfl) rfl ?_
          refine a_iload C (tk T_cX10_parts 41 rfl) rfl ?_
          refine a_nestI C [.int (M1 16 x10_2.toNatClampNeg), .int x5, .int x6] me_yX11_within lk_RX10_46 (ct_R_within h) (by decide) rfl rfl (Nat.le_of_ble_eq_true rfl) (tk T_cX10_parts 42 rfl) hr (fun r3 M3 h => ?_)
          refine a_if_eq C 108 (tk T_cX10_parts 43 rfl) rfl (fun c => ?_) (fun c => ?_)
          · have h := h.1 c
            exact a_to (k_Table_parts_108 C hr hR k10 ih x2 x3 x4 x5 x6 x7 x8 x9 M3 h) rfl
          · have h := h.2 c
            refine a_aload_n C (tk T_cX10_parts 44 rfl) rfl ?_
            refine a_aload_n C (tk T_cX10_parts 45 rfl) rfl ?_
            refine a_getR C f_RX10_19 (tk T_cX10_parts 46 rfl) lc13 rfl ?_
            refine a_iload C (tk T_cX10_parts 47 rfl) rfl ?_
            obtain ⟨hb, h⟩ := h
            refine a_iald C (tk T_cX10_parts 48 rfl) lc16 hb ?_
            refine a_aload_n C (tk T_cX10_parts 49 rfl) rfl ?_
            refine a_iload_n C (tk T_cX10_parts 50 rfl) rfl ?_
            refine a_callI C [.int x2] me_yX10_withAir lk_RX10_50 (ct_Table_withAir h) (by decide) lc13 rfl rfl rfl (Nat.le_of_ble_eq_true rfl) (tk T_cX10_parts 51 rfl) hr (fun r4 M4 h => ?_)
            refine a_iload C (tk T_cX10_parts 52 rfl) rfl ?_
            refine a_callI C [.int (M3 16 x10_2.toNatClampNeg), .int r4, .int x4] me_yX10_isFar lk_RX10_53 (ct_Table_isFar h) (by decide) lc13 rfl rfl rfl (Nat.le_of_ble_eq_true rfl) (tk T_cX10_parts 53 rfl) hr (fun r5 M5 h => ?_)
            refine a_if_eq C 108 (tk T_cX10_parts 54 rfl) rfl (fun c => ?_) (fun c => ?_)
            · have h := h.1 c
              exact a_to (k_Table_parts_108 C hr hR k10 ih x2 x3 x4 x5 x6 x7 x8 x9 M5 h) rfl
            · have h := h.2 c
              refine a_iconst C (1 : Int32) (tk T_cX10_parts 55 rfl) kI_1 ?_
              exact hR _ _ _ _ (tk T_cX10_parts 56 rfl) ⟨Or.inr rfl, h⟩
def P_Table_parts_10 (post : Int32 → Mem → Prop) : Nat → Int32 → Int32 → Int32 → Int32 → Int32 → Int32 → Int32 → Mem → Prop
  | 0, _, _, _, _, _, _, _, _ => False
  | n + 1, x2, x3, x4, x5, x6, x7, x8, M =>
    ((M 13 4) ≤ x8 → (post (0 : Int32) M)) ∧
  (¬ (M 13 4) ≤ x8 → (∃ j22, P_Table_parts_22 post (P_Table_parts_10 post n) j22 x2 x3 x4 x5 x6 x7 x8 (0 : Int32) M))
theorem k_Table_parts_10 {X : FX} {g : GT} {ext : List CD} {A : Nat → Prop} {Z : State → Prop} {post : Int32 → Mem → Prop} (C : Cx X g (layC ++ ext) A cX10_parts 11 RX10 2) (hr : 0 ≤ X.2.2.2.1.cells ∧ 0 ≤ X.2.2.2.1.slots) (hR : RetZ X g (layC ++ ext) A cX10_parts 11 0 0 Z post) : ∀ (n : Nat) (x2 x3 x4 x5 x6 x7 x8 : Int32) (M : Mem), P_Table_parts_10 post n x2 x3 x4 x5 x6 x7 x8 M → At X g (layC ++ ext) A 11 0 0 Z 10 [(0, .ref (ad g 13)), (2, .int x2), (3, .int x3), (4, .int x4), (5, .int x5), (6, .int x6), (7, .int x7), (8, .int x8)] [] M := by
  intro n
  induction n with
  | zero =>
    intro x2 x3 x4 x5 x6 x7 x8 M h
    exact h.elim
  | succ n ih =>
    intro x2 x3 x4 x5 x6 x7 x8 M h
    refine a_iload C (tk T_cX10_parts 6 rfl) rfl ?_
    refine a_aload_n C (tk T_cX10_parts 7 rfl) rfl ?_
    refine a_getI C f_RX10_25 (tk T_cX10_parts 8 rfl) lc13 rfl ?_
    refine a_icmp_ge C 120 (tk T_cX10_parts 9 rfl) rfl (fun c => ?_) (fun c => ?_)
    · have h := h.1 c
      refine a_iconst C (0 : Int32) (tk T_cX10_parts 61 rfl) kI_0 ?_
      exact hR _ _ _ _ (tk T_cX10_parts 62 rfl) ⟨Or.inl rfl, h⟩
    · have h := h.2 c
      refine a_iconst C (0 : Int32) (tk T_cX10_parts 10 rfl) kI_0 ?_
      refine a_istore C (tk T_cX10_parts 11 rfl) (by decide) ?_
      obtain ⟨n1, h⟩ := h
      exact a_to (k_Table_parts_22 C hr hR ih n1 x2 x3 x4 x5 x6 x7 x8 (0 : Int32) M h) rfl
def P_Table_parts (post : Int32 → Mem → Prop) (x1 x2 x3 x4 x5 x6 : Int32) (M : Mem) : Prop :=
  P_Table_withoutAir (fun r1 M1 =>
  ∃ j10, P_Table_parts_10 post j10 x2 x3 x4 x5 x6 r1 (0 : Int32) M1) x1 M
theorem k_Table_parts {X : FX} {g : GT} {ext : List CD} {A : Nat → Prop} {Z : State → Prop} {post : Int32 → Mem → Prop} (C : Cx X g (layC ++ ext) A cX10_parts 11 RX10 2) (hr : 0 ≤ X.2.2.2.1.cells ∧ 0 ≤ X.2.2.2.1.slots) (hR : RetZ X g (layC ++ ext) A cX10_parts 11 0 0 Z post) (x1 x2 x3 x4 x5 x6 : Int32) (M : Mem) (h : P_Table_parts post x1 x2 x3 x4 x5 x6 M) : At X g (layC ++ ext) A 11 0 0 Z 0 [(0, .ref (ad g 13)), (1, .int x1), (2, .int x2), (3, .int x3), (4, .int x4), (5, .int x5), (6, .int x6)] [] M := by
  refine a_aload_n C (tk T_cX10_parts 0 rfl) rfl ?_
  refine a_iload_n C (tk T_cX10_parts 1 rfl) rfl ?_
  refine a_callI C [.int x1] me_yX10_withoutAir lk_RX10_43 (ct_Table_withoutAir h) (by decide) lc13 rfl rfl rfl (Nat.le_of_ble_eq_true rfl) (tk T_cX10_parts 2 rfl) hr (fun r1 M1 h => ?_)
  refine a_istore C (tk T_cX10_parts 3 rfl) (by decide) ?_
  refine a_iconst C (0 : Int32) (tk T_cX10_parts 4 rfl) kI_0 ?_
  refine a_istore C (tk T_cX10_parts 5 rfl) (by decide) ?_
  obtain ⟨n1, h⟩ := h
  exact a_to (k_Table_parts_10 C hr hR n1 x2 x3 x4 x5 x6 r1 (0 : Int32) M1 h) rfl
theorem ct_Table_parts {l : Launch} {g : GT} {ext : List CD} {post : Int32 → Mem → Prop} {x1 x2 x3 x4 x5 x6 : Int32} {M : Mem} (h : P_Table_parts post x1 x2 x3 x4 x5 x6 M) : CI l g (layC ++ ext) yX10_parts cX10_parts 11 (some .boolean) 2 [.ref (ad g 13), .int x1, .int x2, .int x3, .int x4, .int x5, .int x6] M post :=
  cz_of (plainFor_of_name (by decide +kernel)) (Nat.le_of_ble_eq_true rfl) rfl (fun X A Z hl C hr hR => by subst hl; exact k_Table_parts C hr hR x1 x2 x3 x4 x5 x6 M h)
def T_cX3_swappedL : List (Nat × Instr × Nat) := [(0, .iload_n 1, 1), (1, .iconst 1, 1), (2, .if_icmp .ge 5, 3), (5, .iload_n 0, 1), (6, .ireturn, 1), (7, .iload_n 0, 1), (8, .iload_n 1, 1), (9, .idiv, 1), (10, .bipush 10, 2), (12, .irem, 1), (13, .istore_n 2, 1), (14, .iload_n 0, 1), (15, .iload_n 1, 1), (16, .idiv, 1), (17, .bipush 10, 2), (19, .idiv, 1), (20, .bipush 10, 2), (22, .irem, 1), (23, .istore_n 3, 1), (24, .iload_n 0, 1), (25, .bipush 9, 2), (27, .iload_n 1, 1), (28, .imul, 1), (29, .iload_n 2, 1), (30, .iload_n 3, 1), (31, .isub, 1), (32, .imul, 1), (33, .iadd, 1), (34, .ireturn, 1)]
theorem T_cX3_swapped : tabOK cX3_swapped T_cX3_swappedL = true := by decide +kernel
def P_Judge_swapped (post : Int32 → Mem → Prop) (x0 x1 : Int32) (M : Mem) : Prop :=
  ((1 : Int32) ≤ x1 → ((¬ x1 = 0) ∧ ∀ x2_1, x2_1 = (irm (x0 / x1) (10 : Int32)) → (¬ x1 = 0) ∧ ∀ x3_2, x3_2 = (irm ((x0 / x1) / (10 : Int32)) (10 : Int32)) → post (x0 + (((9 : Int32) * x1) * (x2_1 - x3_2))) M)) ∧
  (¬ (1 : Int32) ≤ x1 → (post x0 M))
theorem k_Judge_swapped {X : FX} {g : GT} {ext : List CD} {A : Nat → Prop} {Z : State → Prop} {post : Int32 → Mem → Prop} (C : Cx X g (layC ++ ext) A cX3_swapped 4 RX3 0) (hr : 0 ≤ X.2.2.2.1.cells ∧ 0 ≤ X.2.2.2.1.slots) (hR : RetI X g (layC ++ ext) A cX3_swapped 4 0 0 Z post) (x0 x1 : Int32) (M : Mem) (h : P_Judge_swapped post x0 x1 M) : At X g (layC ++ ext) A 4 0 0 Z 0 [(0, .int x0), (1, .int x1)] [] M := by
  refine a_iload_n C (tk T_cX3_swapped 0 rfl) rfl ?_
  refine a_iconst C (1 : Int32) (tk T_cX3_swapped 1 rfl) kI_1 ?_
  refine a_icmp_ge C 7 (tk T_cX3_swapped 2 rfl) rfl (fun c => ?_) (fun c => ?_)
  · have h := h.1 c
    refine a_iload_n C (tk T_cX3_swapped 5 rfl) rfl ?_
    refine a_iload_n C (tk T_cX3_swapped 6 rfl) rfl ?_
    obtain ⟨hy, h⟩ := h
    refine a_idiv C (tk T_cX3_swapped 7 rfl) hy ?_
    refine a_bipush C (10 : Int32) (tk T_cX3_swapped 8 rfl) kB_10 ?_
    refine a_irem C (tk T_cX3_swapped 9 rfl) (by decide) ?_
    refine a_top (fun x2_1 e_x2_1 => ?_)
    have h := h x2_1 e_x2_1
    refine a_istore_n C (tk T_cX3_swapped 10 rfl) (by decide) ?_
    refine a_iload_n C (tk T_cX3_swapped 11 rfl) rfl ?_
    refine a_iload_n C (tk T_cX3_swapped 12 rfl) rfl ?_
    obtain ⟨hy, h⟩ := h
    refine a_idiv C (tk T_cX3_swapped 13 rfl) hy ?_
    refine a_bipush C (10 : Int32) (tk T_cX3_swapped 14 rfl) kB_10 ?_
    refine a_idiv C (tk T_cX3_swapped 15 rfl) (by decide) ?_
    refine a_bipush C (10 : Int32) (tk T_cX3_swapped 16 rfl) kB_10 ?_
    refine a_irem C (tk T_cX3_swapped 17 rfl) (by decide) ?_
    refine a_top (fun x3_2 e_x3_2 => ?_)
    have h := h x3_2 e_x3_2
    refine a_istore_n C (tk T_cX3_swapped 18 rfl) (by decide) ?_
    refine a_iload_n C (tk T_cX3_swapped 19 rfl) rfl ?_
    refine a_bipush C (9 : Int32) (tk T_cX3_swapped 20 rfl) kB_9 ?_
    refine a_iload_n C (tk T_cX3_swapped 21 rfl) rfl ?_
    refine a_imul C (tk T_cX3_swapped 22 rfl) ?_
    refine a_iload_n C (tk T_cX3_swapped 23 rfl) rfl ?_
    refine a_iload_n C (tk T_cX3_swapped 24 rfl) rfl ?_
    refine a_isub C (tk T_cX3_swapped 25 rfl) ?_
    refine a_imul C (tk T_cX3_swapped 26 rfl) ?_
    refine a_iadd C (tk T_cX3_swapped 27 rfl) ?_
    exact hR _ _ _ _ (tk T_cX3_swapped 28 rfl) h
  · have h := h.2 c
    refine a_iload_n C (tk T_cX3_swapped 3 rfl) rfl ?_
    exact hR _ _ _ _ (tk T_cX3_swapped 4 rfl) h
theorem ct_Judge_swapped {l : Launch} {g : GT} {ext : List CD} {post : Int32 → Mem → Prop} {x0 x1 : Int32} {M : Mem} (h : P_Judge_swapped post x0 x1 M) : CI l g (layC ++ ext) yX3_swapped cX3_swapped 4 (some .int) 0 [.int x0, .int x1] M post :=
  ci_of (plainFor_of_name (by decide +kernel)) (Nat.le_of_ble_eq_true rfl) rfl (fun X A Z hl C hr hR => by subst hl; exact k_Judge_swapped C hr hR x0 x1 M h)
def T_cX3_misprintReadingL : List (Nat × Instr × Nat) := [(0, .iload_n 1, 1), (1, .bipush 6, 2), (3, .imul, 1), (4, .iload_n 2, 1), (5, .iadd, 1), (6, .istore 4, 2), (8, .aload_n 0, 1), (9, .getfield 38, 3), (12, .getfield 123, 3), (15, .getfield 162, 3), (18, .iload 4, 2), (20, .iaload, 1), (21, .istore 5, 2), (23, .aload_n 0, 1), (24, .getfield 38, 3), (27, .getfield 61, 3), (30, .aload_n 0, 1), (31, .getfield 51, 3), (34, .iload 5, 2), (36, .aload_n 0, 1), (37, .getfield 38, 3), (40, .getfield 123, 3), (43, .getfield 146, 3), (46, .iload 4, 2), (48, .iaload, 1), (49, .invokevirtual 149, 3), (52, .ifCond .eq 12, 3), (55, .aload_n 0, 1), (56, .iload 5, 2), (58, .invokevirtual 143, 3), (61, .ifCond .eq 5, 3), (64, .iconst (-1), 1), (65, .ireturn, 1), (66, .aload_n 0, 1), (67, .iload 5, 2), (69, .iconst 1, 1), (70, .invokestatic 215, 3), (73, .invokevirtual 143, 3), (76, .aload_n 0, 1), (77, .iload 5, 2), (79, .bipush 10, 2), (81, .invokestatic 215, 3), (84, .invokevirtual 143, 3), (87, .ior, 1), (88, .aload_n 0, 1), (89, .iload 5, 2), (91, .bipush 100, 2), (93, .invokestatic 215, 3), (96, .invokevirtual 143, 3), (99, .ior, 1), (100, .istore 6, 2), (102, .iconst 0, 1), (103, .istore 7, 2), (105, .iload 7, 2), (107, .aload_n 0, 1), (108, .getfield 38, 3), (111, .getfield 61, 3), (114, .getfield 67, 3), (117, .if_icmp .ge 24, 3), (120, .iload 6, 2), (122, .iload_n 3, 1), (123, .iand, 1), (124, .iload 7, 2), (126, .invokestatic 132, 3), (129, .ifCond .eq 6, 3), (132, .iload 7, 2), (134, .ireturn, 1), (135, .iinc 7 1, 3), (138, .goto (-33), 3), (141, .iconst (-1), 1), (142, .ireturn, 1)]
theorem T_cX3_misprintReading : tabOK cX3_misprintReading T_cX3_misprintReadingL = true := by decide +kernel
def P_Judge_misprintReading_105 (post : Int32 → Mem → Prop) : Nat → Int32 → Int32 → Int32 → Mem → Prop
  | 0, _, _, _, _ => False
  | n + 1, x3, x6, x7, M =>
    ((M 18 11) ≤ x7 → (post (-1 : Int32) M)) ∧
  (¬ (M 18 11) ≤ x7 → (P_R_has (fun r1 M1 =>
  (r1 = 0 → (P_Judge_misprintReading_105 post n x3 x6 (x7 + (1 : Int32)) M1)) ∧
  (¬ r1 = 0 → (post x7 M1))) (x6 &&& x3) x7 M))
theorem k_Judge_misprintReading_105 {X : FX} {g : GT} {ext : List CD} {A : Nat → Prop} {Z : State → Prop} {post : Int32 → Mem → Prop} (C : Cx X g (layC ++ ext) A cX3_misprintReading 8 RX3 2) (hr : 0 ≤ X.2.2.2.1.cells ∧ 0 ≤ X.2.2.2.1.slots) (hR : RetI X g (layC ++ ext) A cX3_misprintReading 8 0 0 Z post) : ∀ (n : Nat) (x3 x6 x7 : Int32) (M : Mem), P_Judge_misprintReading_105 post n x3 x6 x7 M → At X g (layC ++ ext) A 8 0 0 Z 105 [(0, .ref (ad g 69)), (3, .int x3), (6, .int x6), (7, .int x7)] [] M := by
  intro n
  induction n with
  | zero =>
    intro x3 x6 x7 M h
    exact h.elim
  | succ n ih =>
    intro x3 x6 x7 M h
    refine a_iload C (tk T_cX3_misprintReading 53 rfl) rfl ?_
    refine a_aload_n C (tk T_cX3_misprintReading 54 rfl) rfl ?_
    refine a_getR C f_RX3_38 (tk T_cX3_misprintReading 55 rfl) lc69 rfl ?_
    refine a_getR C f_RX3_61 (tk T_cX3_misprintReading 56 rfl) lc1 rfl ?_
    refine a_getI C f_RX3_67 (tk T_cX3_misprintReading 57 rfl) lc18 rfl ?_
    refine a_icmp_ge C 141 (tk T_cX3_misprintReading 58 rfl) rfl (fun c => ?_) (fun c => ?_)
    · have h := h.1 c
      refine a_iconst C (-1 : Int32) (tk T_cX3_misprintReading 69 rfl) kI_m1 ?_
      exact hR _ _ _ _ (tk T_cX3_misprintReading 70 rfl) h
    · have h := h.2 c
      refine a_iload C (tk T_cX3_misprintReading 59 rfl) rfl ?_
      refine a_iload_n C (tk T_cX3_misprintReading 60 rfl) rfl ?_
      refine a_iand C (tk T_cX3_misprintReading 61 rfl) ?_
      refine a_iload C (tk T_cX3_misprintReading 62 rfl) rfl ?_
      refine a_nestI C [.int (x6 &&& x3), .int x7] me_yX11_has lk_RX3_132 (ct_R_has h) (by decide) rfl rfl (Nat.le_of_ble_eq_true rfl) (tk T_cX3_misprintReading 63 rfl) hr (fun r1 M1 h => ?_)
      refine a_if_eq C 135 (tk T_cX3_misprintReading 64 rfl) rfl (fun c => ?_) (fun c => ?_)
      · have h := h.1 c
        refine a_iinc C (1 : Int32) (tk T_cX3_misprintReading 67 rfl) rfl kI_1 (by decide) ?_
        refine a_goto C 105 (tk T_cX3_misprintReading 68 rfl) rfl ?_
        exact a_to (ih x3 x6 (x7 + (1 : Int32)) M1 h) rfl
      · have h := h.2 c
        refine a_iload C (tk T_cX3_misprintReading 65 rfl) rfl ?_
        exact hR _ _ _ _ (tk T_cX3_misprintReading 66 rfl) h
def P_Judge_misprintReading_64 (post : Int32 → Mem → Prop) (M : Mem) : Prop :=
  post (-1 : Int32) M
theorem k_Judge_misprintReading_64 {X : FX} {g : GT} {ext : List CD} {A : Nat → Prop} {Z : State → Prop} {post : Int32 → Mem → Prop} (C : Cx X g (layC ++ ext) A cX3_misprintReading 8 RX3 2) (hr : 0 ≤ X.2.2.2.1.cells ∧ 0 ≤ X.2.2.2.1.slots) (hR : RetI X g (layC ++ ext) A cX3_misprintReading 8 0 0 Z post)  (M : Mem) (h : P_Judge_misprintReading_64 post M) : At X g (layC ++ ext) A 8 0 0 Z 64 [] [] M := by
  refine a_iconst C (-1 : Int32) (tk T_cX3_misprintReading 31 rfl) kI_m1 ?_
  exact hR _ _ _ _ (tk T_cX3_misprintReading 32 rfl) h
def P_Judge_misprintReading (post : Int32 → Mem → Prop) (x1 x2 x3 : Int32) (M : Mem) : Prop :=
  ∀ x4_1, x4_1 = ((x1 * (6 : Int32)) + x2) → vp_in x4_1 36 ∧ vp_in x4_1 36 ∧ P_Shelf_mustShow (fun r2 M2 =>
  (r2 = 0 → (P_Judge_misprintReading_64 post M2)) ∧
  (¬ r2 = 0 → (P_Judge_holders (fun r3 M3 =>
  (r3 = 0 → (P_Judge_swapped (fun r4 M4 =>
  P_Judge_holders (fun r5 M5 =>
  P_Judge_swapped (fun r6 M6 =>
  P_Judge_holders (fun r7 M7 =>
  P_Judge_swapped (fun r8 M8 =>
  P_Judge_holders (fun r9 M9 =>
  ∀ x6_10, x6_10 = ((r5 ||| r7) ||| r9) → ∃ j105, P_Judge_misprintReading_105 post j105 x3 x6_10 (0 : Int32) M9) r8 M8) (M 16 x4_1.toNatClampNeg) (100 : Int32) M7) r6 M6) (M 16 x4_1.toNatClampNeg) (10 : Int32) M5) r4 M4) (M 16 x4_1.toNatClampNeg) (1 : Int32) M3)) ∧
  (¬ r3 = 0 → (P_Judge_misprintReading_64 post M3))) (M 16 x4_1.toNatClampNeg) M2))) (M 69 10) (M 16 x4_1.toNatClampNeg) (M 17 x4_1.toNatClampNeg) M
theorem k_Judge_misprintReading {X : FX} {g : GT} {ext : List CD} {A : Nat → Prop} {Z : State → Prop} {post : Int32 → Mem → Prop} (C : Cx X g (layC ++ ext) A cX3_misprintReading 8 RX3 2) (hr : 0 ≤ X.2.2.2.1.cells ∧ 0 ≤ X.2.2.2.1.slots) (hR : RetI X g (layC ++ ext) A cX3_misprintReading 8 0 0 Z post) (x1 x2 x3 : Int32) (M : Mem) (h : P_Judge_misprintReading post x1 x2 x3 M) : At X g (layC ++ ext) A 8 0 0 Z 0 [(0, .ref (ad g 69)), (1, .int x1), (2, .int x2), (3, .int x3)] [] M := by
  refine a_iload_n C (tk T_cX3_misprintReading 0 rfl) rfl ?_
  refine a_bipush C (6 : Int32) (tk T_cX3_misprintReading 1 rfl) kB_6 ?_
  refine a_imul C (tk T_cX3_misprintReading 2 rfl) ?_
  refine a_iload_n C (tk T_cX3_misprintReading 3 rfl) rfl ?_
  refine a_iadd C (tk T_cX3_misprintReading 4 rfl) ?_
  refine a_top (fun x4_1 e_x4_1 => ?_)
  have h := h x4_1 e_x4_1
  refine a_istore C (tk T_cX3_misprintReading 5 rfl) (by decide) ?_
  refine a_aload_n C (tk T_cX3_misprintReading 6 rfl) rfl ?_
  refine a_getR C f_RX3_38 (tk T_cX3_misprintReading 7 rfl) lc69 rfl ?_
  refine a_getR C f_RX3_123 (tk T_cX3_misprintReading 8 rfl) lc1 rfl ?_
  refine a_getR C f_RX3_162 (tk T_cX3_misprintReading 9 rfl) lc13 rfl ?_
  refine a_iload C (tk T_cX3_misprintReading 10 rfl) rfl ?_
  obtain ⟨hb, h⟩ := h
  refine a_iald C (tk T_cX3_misprintReading 11 rfl) lc16 hb ?_
  refine a_istore C (tk T_cX3_misprintReading 12 rfl) (by decide) ?_
  refine a_aload_n C (tk T_cX3_misprintReading 13 rfl) rfl ?_
  refine a_getR C f_RX3_38 (tk T_cX3_misprintReading 14 rfl) lc69 rfl ?_
  refine a_getR C f_RX3_61 (tk T_cX3_misprintReading 15 rfl) lc1 rfl ?_
  refine a_aload_n C (tk T_cX3_misprintReading 16 rfl) rfl ?_
  refine a_getI C f_RX3_51 (tk T_cX3_misprintReading 17 rfl) lc69 rfl ?_
  refine a_iload C (tk T_cX3_misprintReading 18 rfl) rfl ?_
  refine a_aload_n C (tk T_cX3_misprintReading 19 rfl) rfl ?_
  refine a_getR C f_RX3_38 (tk T_cX3_misprintReading 20 rfl) lc69 rfl ?_
  refine a_getR C f_RX3_123 (tk T_cX3_misprintReading 21 rfl) lc1 rfl ?_
  refine a_getR C f_RX3_146 (tk T_cX3_misprintReading 22 rfl) lc13 rfl ?_
  refine a_iload C (tk T_cX3_misprintReading 23 rfl) rfl ?_
  obtain ⟨hb, h⟩ := h
  refine a_iald C (tk T_cX3_misprintReading 24 rfl) lc17 hb ?_
  refine a_callI C [.int (M 69 10), .int (M 16 x4_1.toNatClampNeg), .int (M 17 x4_1.toNatClampNeg)] me_yX9_mustShow lk_RX3_149 (ct_Shelf_mustShow h) (by decide) lc18 rfl rfl rfl (Nat.le_of_ble_eq_true rfl) (tk T_cX3_misprintReading 25 rfl) hr (fun r2 M2 h => ?_)
  refine a_if_eq C 64 (tk T_cX3_misprintReading 26 rfl) rfl (fun c => ?_) (fun c => ?_)
  · have h := h.1 c
    exact a_to (k_Judge_misprintReading_64 C hr hR M2 h) rfl
  · have h := h.2 c
    refine a_aload_n C (tk T_cX3_misprintReading 27 rfl) rfl ?_
    refine a_iload C (tk T_cX3_misprintReading 28 rfl) rfl ?_
    refine a_callI C [.int (M 16 x4_1.toNatClampNeg)] me_yX3_holders lk_RX3_143 (ct_Judge_holders h) (by decide) lc69 rfl rfl rfl (Nat.le_of_ble_eq_true rfl) (tk T_cX3_misprintReading 29 rfl) hr (fun r3 M3 h => ?_)
    refine a_if_eq C 66 (tk T_cX3_misprintReading 30 rfl) rfl (fun c => ?_) (fun c => ?_)
    · have h := h.1 c
      refine a_aload_n C (tk T_cX3_misprintReading 33 rfl) rfl ?_
      refine a_iload C (tk T_cX3_misprintReading 34 rfl) rfl ?_
      refine a_iconst C (1 : Int32) (tk T_cX3_misprintReading 35 rfl) kI_1 ?_
      refine a_statI C [.int (M 16 x4_1.toNatClampNeg), .int (1 : Int32)] me_yX3_swapped lk_RX3_215 (ct_Judge_swapped h) (by decide) rfl rfl (Nat.le_of_ble_eq_true rfl) (tk T_cX3_misprintReading 36 rfl) hr (fun r4 M4 h => ?_)
      refine a_callI C [.int r4] me_yX3_holders lk_RX3_143 (ct_Judge_holders h) (by decide) lc69 rfl rfl rfl (Nat.le_of_ble_eq_true rfl) (tk T_cX3_misprintReading 37 rfl) hr (fun r5 M5 h => ?_)
      refine a_aload_n C (tk T_cX3_misprintReading 38 rfl) rfl ?_
      refine a_iload C (tk T_cX3_misprintReading 39 rfl) rfl ?_
      refine a_bipush C (10 : Int32) (tk T_cX3_misprintReading 40 rfl) kB_10 ?_
      refine a_statI C [.int (M 16 x4_1.toNatClampNeg), .int (10 : Int32)] me_yX3_swapped lk_RX3_215 (ct_Judge_swapped h) (by decide) rfl rfl (Nat.le_of_ble_eq_true rfl) (tk T_cX3_misprintReading 41 rfl) hr (fun r6 M6 h => ?_)
      refine a_callI C [.int r6] me_yX3_holders lk_RX3_143 (ct_Judge_holders h) (by decide) lc69 rfl rfl rfl (Nat.le_of_ble_eq_true rfl) (tk T_cX3_misprintReading 42 rfl) hr (fun r7 M7 h => ?_)
      refine a_ior C (tk T_cX3_misprintReading 43 rfl) ?_
      refine a_aload_n C (tk T_cX3_misprintReading 44 rfl) rfl ?_
      refine a_iload C (tk T_cX3_misprintReading 45 rfl) rfl ?_
      refine a_bipush C (100 : Int32) (tk T_cX3_misprintReading 46 rfl) kB_100 ?_
      refine a_statI C [.int (M 16 x4_1.toNatClampNeg), .int (100 : Int32)] me_yX3_swapped lk_RX3_215 (ct_Judge_swapped h) (by decide) rfl rfl (Nat.le_of_ble_eq_true rfl) (tk T_cX3_misprintReading 47 rfl) hr (fun r8 M8 h => ?_)
      refine a_callI C [.int r8] me_yX3_holders lk_RX3_143 (ct_Judge_holders h) (by decide) lc69 rfl rfl rfl (Nat.le_of_ble_eq_true rfl) (tk T_cX3_misprintReading 48 rfl) hr (fun r9 M9 h => ?_)
      refine a_ior C (tk T_cX3_misprintReading 49 rfl) ?_
      refine a_top (fun x6_10 e_x6_10 => ?_)
      have h := h x6_10 e_x6_10
      refine a_istore C (tk T_cX3_misprintReading 50 rfl) (by decide) ?_
      refine a_iconst C (0 : Int32) (tk T_cX3_misprintReading 51 rfl) kI_0 ?_
      refine a_istore C (tk T_cX3_misprintReading 52 rfl) (by decide) ?_
      obtain ⟨n1, h⟩ := h
      exact a_to (k_Judge_misprintReading_105 C hr hR n1 x3 x6_10 (0 : Int32) M9 h) rfl
    · have h := h.2 c
      exact a_to (k_Judge_misprintReading_64 C hr hR M3 h) rfl
theorem ct_Judge_misprintReading {l : Launch} {g : GT} {ext : List CD} {post : Int32 → Mem → Prop} {x1 x2 x3 : Int32} {M : Mem} (h : P_Judge_misprintReading post x1 x2 x3 M) : CI l g (layC ++ ext) yX3_misprintReading cX3_misprintReading 8 (some .int) 2 [.ref (ad g 69), .int x1, .int x2, .int x3] M post :=
  ci_of (plainFor_of_name (by decide +kernel)) (Nat.le_of_ble_eq_true rfl) rfl (fun X A Z hl C hr hR => by subst hl; exact k_Judge_misprintReading C hr hR x1 x2 x3 M h)
