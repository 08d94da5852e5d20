def T_cJ7_fill_53178L : List (Nat × Instr × Nat) := [(0, .iconst 0, 1), (1, .istore_n 2, 1), (2, .aload_n 0, 1), (3, .arraylength, 1), (4, .istore_n 3, 1), (5, .iload_n 2, 1), (6, .iload_n 3, 1), (7, .if_icmp .ge 13, 3), (10, .aload_n 0, 1), (11, .iload_n 2, 1), (12, .iload_n 1, 1), (13, .iastore, 1), (14, .iinc 2 1, 3), (17, .goto (-12), 3), (20, .return_, 1)]
theorem T_cJ7_fill_53178 : tabOK cJ7_fill_53178 T_cJ7_fill_53178L = true := by decide +kernel
def P_Arrays_fill_5 (post : Mem → Prop) : Nat → Int32 → Int32 → Int32 → Mem → Prop
  | 0, _, _, _, _ => False
  | n + 1, x1, x2, x3, M =>
    (x3 ≤ x2 → (post M)) ∧
  (¬ x3 ≤ x2 → (vp_in x2 1087 ∧ ∀ M1, M1 = ms M 67 x2.toNatClampNeg x1 → P_Arrays_fill_5 post n x1 (x2 + (1 : Int32)) x3 M1))
theorem k_Arrays_fill_5 {X : FX} {g : GT} {ext : List CD} {A : Nat → Prop} {Z : State → Prop} {post : Mem → Prop} (C : Cx X g (layC ++ ext) A cJ7_fill_53178 4 RJ7 0) (hr : 0 ≤ X.2.2.2.1.cells ∧ 0 ≤ X.2.2.2.1.slots) (hR : RetV X g (layC ++ ext) A cJ7_fill_53178 4 0 0 Z post) : ∀ (n : Nat) (x1 x2 x3 : Int32) (M : Mem), P_Arrays_fill_5 post n x1 x2 x3 M → AtX X g (layC ++ ext) A 4 0 0 Z 5 [(0, .ref (ad g 67)), (1, .int x1), (2, .int x2), (3, .int x3)] [] M := by
  intro n
  induction n with
  | zero =>
    intro x1 x2 x3 M h
    exact h.elim
  | succ n ih =>
    intro x1 x2 x3 M h
    refine a_iload_n C (tk T_cJ7_fill_53178 5 rfl) rfl ?_
    refine a_iload_n C (tk T_cJ7_fill_53178 6 rfl) rfl ?_
    refine a_icmp_ge C 20 (tk T_cJ7_fill_53178 7 rfl) rfl (fun c => ?_) (fun c => ?_)
    · have h := h.1 c
      exact hR _ _ _ (tk T_cJ7_fill_53178 14 rfl) h
    · have h := h.2 c
      refine a_aload_n C (tk T_cJ7_fill_53178 8 rfl) rfl ?_
      refine a_iload_n C (tk T_cJ7_fill_53178 9 rfl) rfl ?_
      refine a_iload_n C (tk T_cJ7_fill_53178 10 rfl) rfl ?_
      obtain ⟨hb, h⟩ := h
      refine a_iast C (tk T_cJ7_fill_53178 11 rfl) lc67 hb ?_
      refine a_mem (fun M1 e_M1 => ?_)
      have h := h M1 e_M1
      refine a_iinc C (1 : Int32) (tk T_cJ7_fill_53178 12 rfl) rfl kI_1 (by decide) rfl ?_
      refine a_goto C 5 (tk T_cJ7_fill_53178 13 rfl) rfl ?_
      exact a_to (ih x1 (x2 + (1 : Int32)) x3 M1 h) rfl
def P_Arrays_fill (post : Mem → Prop) (x1 : Int32) (M : Mem) : Prop :=
  ∃ j5, P_Arrays_fill_5 post j5 x1 (0 : Int32) (1087 : Int32) M
theorem k_Arrays_fill {X : FX} {g : GT} {ext : List CD} {A : Nat → Prop} {Z : State → Prop} {post : Mem → Prop} (C : Cx X g (layC ++ ext) A cJ7_fill_53178 4 RJ7 0) (hr : 0 ≤ X.2.2.2.1.cells ∧ 0 ≤ X.2.2.2.1.slots) (hR : RetV X g (layC ++ ext) A cJ7_fill_53178 4 0 0 Z post) (x1 : Int32) (M : Mem) (h : P_Arrays_fill post x1 M) : AtX X g (layC ++ ext) A 4 0 0 Z 0 [(0, .ref (ad g 67)), (1, .int x1)] [] M := by
  refine a_iconst C (0 : Int32) (tk T_cJ7_fill_53178 0 rfl) kI_0 ?_
  refine a_istore_n C (tk T_cJ7_fill_53178 1 rfl) (by decide) rfl ?_
  refine a_aload_n C (tk T_cJ7_fill_53178 2 rfl) rfl ?_
  refine a_alen0 C (tk T_cJ7_fill_53178 3 rfl) lc67 rfl ?_
  refine a_istore_n C (tk T_cJ7_fill_53178 4 rfl) (by decide) rfl ?_
  obtain ⟨n1, h⟩ := h
  exact a_to (k_Arrays_fill_5 C hr hR n1 x1 (0 : Int32) (1087 : Int32) M h) rfl
theorem ct_Arrays_fill {l : Launch} {g : GT} {ext : List CD} {post : Mem → Prop} {x1 : Int32} {M : Mem} (h : P_Arrays_fill post x1 M) : CV l g (layC ++ ext) yJ7_fill_53178 cJ7_fill_53178 4 none 0 [.ref (ad g 67), .int x1] M post :=
  cv_of (plainFor_of_name (by decide +kernel)) (Nat.le_of_ble_eq_true rfl) (fun X A Z hl C hr hR => by subst hl; exact k_Arrays_fill C hr hR x1 M h)
def T_cX5_putPlacesL : List (Nat × Instr × Nat) := [(0, .aload_n 0, 1), (1, .getfield 27, 3), (4, .getfield 96, 3), (7, .astore_n 2, 1), (8, .iconst 0, 1), (9, .istore_n 3, 1), (10, .iload_n 3, 1), (11, .aload_n 2, 1), (12, .getfield 102, 3), (15, .if_icmp .ge 57, 3), (18, .aload_n 0, 1), (19, .getfield 27, 3), (22, .getfield 107, 3), (25, .aload_n 2, 1), (26, .getfield 111, 3), (29, .iload_n 3, 1), (30, .iaload, 1), (31, .aload_n 2, 1), (32, .getfield 114, 3), (35, .iload_n 3, 1), (36, .baload, 1), (37, .invokevirtual 118, 3), (40, .istore 4, 2), (42, .aload_n 0, 1), (43, .getfield 9, 3), (46, .iload_n 3, 1), (47, .aload_n 2, 1), (48, .getfield 124, 3), (51, .iload_n 3, 1), (52, .baload, 1), (53, .ifCond .eq 10, 3), (56, .iload 4, 2), (58, .iload_n 1, 1), (59, .iadd, 1), (60, .goto 5, 3), (63, .iload 4, 2), (65, .iastore, 1), (66, .iinc 3 1, 3), (69, .goto (-59), 3), (72, .return_, 1)]
theorem T_cX5_putPlaces : tabOK cX5_putPlaces T_cX5_putPlacesL = true := by decide +kernel
def P_Laws_putPlaces_65 (post : Mem → Prop) (R10 : Int32 → Int32 → Mem → Prop) (x1 x3 s1 s2 : Int32) (M : Mem) : Prop :=
  vp_in s1 10 ∧ ∀ M1, M1 = ms M 64 s1.toNatClampNeg s2 → R10 x1 (x3 + (1 : Int32)) M1
theorem k_Laws_putPlaces_65 {X : FX} {g : GT} {ext : List CD} {A : Nat → Prop} {Z : State → Prop} {post : Mem → Prop} {R10 : Int32 → Int32 → Mem → Prop} (C : Cx X g (layC ++ ext) A cX5_putPlaces 5 RX5 3) (hr : 0 ≤ X.2.2.2.1.cells ∧ 0 ≤ X.2.2.2.1.slots) (hR : RetV X g (layC ++ ext) A cX5_putPlaces 5 0 0 Z post) (k10 : ∀ (y1 y3 : Int32) (M : Mem), R10 y1 y3 M → AtX X g (layC ++ ext) A 5 0 0 Z 10 [(0, .ref (ad g 63)), (2, .ref (ad g 8)), (1, .int y1), (3, .int y3)] [] M) (x1 x3 s1 s2 : Int32) (M : Mem) (h : P_Laws_putPlaces_65 post R10 x1 x3 s1 s2 M) : AtX X g (layC ++ ext) A 5 0 0 Z 65 [(0, .ref (ad g 63)), (2, .ref (ad g 8)), (1, .int x1), (3, .int x3)] [.int s2, .int s1, .ref (ad g 64)] M := by
  obtain ⟨hb, h⟩ := h
  refine a_iast C (tk T_cX5_putPlaces 36 rfl) lc64 hb ?_
  refine a_mem (fun M1 e_M1 => ?_)
  have h := h M1 e_M1
  refine a_iinc C (1 : Int32) (tk T_cX5_putPlaces 37 rfl) rfl kI_1 (by decide) rfl ?_
  refine a_goto C 10 (tk T_cX5_putPlaces 38 rfl) rfl ?_
  exact a_to (k10 x1 (x3 + (1 : Int32)) M1 h) rfl
def P_Laws_putPlaces_10 (post : Mem → Prop) : Nat → Int32 → Int32 → Mem → Prop
  | 0, _, _, _ => False
  | n + 1, x1, x3, M =>
    ((M 8 4) ≤ x3 → (post M)) ∧
  (¬ (M 8 4) ≤ x3 → (vp_in x3 10 ∧ vp_in x3 10 ∧ P_Screw_truePlace (fun r1 M1 =>
  vp_in x3 10 ∧ ((M1 12 x3.toNatClampNeg) = 0 → (P_Laws_putPlaces_65 post (P_Laws_putPlaces_10 post n) x1 x3 x3 r1 M1)) ∧
  (¬ (M1 12 x3.toNatClampNeg) = 0 → (P_Laws_putPlaces_65 post (P_Laws_putPlaces_10 post n) x1 x3 x3 (r1 + x1) M1))) (M 9 x3.toNatClampNeg) (M 10 x3.toNatClampNeg) M))
theorem k_Laws_putPlaces_10 {X : FX} {g : GT} {ext : List CD} {A : Nat → Prop} {Z : State → Prop} {post : Mem → Prop} (C : Cx X g (layC ++ ext) A cX5_putPlaces 5 RX5 3) (hr : 0 ≤ X.2.2.2.1.cells ∧ 0 ≤ X.2.2.2.1.slots) (hR : RetV X g (layC ++ ext) A cX5_putPlaces 5 0 0 Z post) : ∀ (n : Nat) (x1 x3 : Int32) (M : Mem), P_Laws_putPlaces_10 post n x1 x3 M → AtX X g (layC ++ ext) A 5 0 0 Z 10 [(0, .ref (ad g 63)), (2, .ref (ad g 8)), (1, .int x1), (3, .int x3)] [] M := by
  intro n
  induction n with
  | zero =>
    intro x1 x3 M h
    exact h.elim
  | succ n ih =>
    intro x1 x3 M h
    refine a_iload_n C (tk T_cX5_putPlaces 6 rfl) rfl ?_
    refine a_aload_n C (tk T_cX5_putPlaces 7 rfl) rfl ?_
    refine a_getI C f_RX5_102 (tk T_cX5_putPlaces 8 rfl) lc8 rfl ?_
    refine a_icmp_ge C 72 (tk T_cX5_putPlaces 9 rfl) rfl (fun c => ?_) (fun c => ?_)
    · have h := h.1 c
      exact hR _ _ _ (tk T_cX5_putPlaces 39 rfl) h
    · have h := h.2 c
      refine a_aload_n C (tk T_cX5_putPlaces 10 rfl) rfl ?_
      refine a_getR C f_RX5_27 (tk T_cX5_putPlaces 11 rfl) lc63 rfl ?_
      refine a_getR C f_RX5_107 (tk T_cX5_putPlaces 12 rfl) lc1 rfl ?_
      refine a_aload_n C (tk T_cX5_putPlaces 13 rfl) rfl ?_
      refine a_getR C f_RX5_111 (tk T_cX5_putPlaces 14 rfl) lc8 rfl ?_
      refine a_iload_n C (tk T_cX5_putPlaces 15 rfl) rfl ?_
      obtain ⟨hb, h⟩ := h
      refine a_iald C (tk T_cX5_putPlaces 16 rfl) lc9 hb ?_
      refine a_aload_n C (tk T_cX5_putPlaces 17 rfl) rfl ?_
      refine a_getR C f_RX5_114 (tk T_cX5_putPlaces 18 rfl) lc8 rfl ?_
      refine a_iload_n C (tk T_cX5_putPlaces 19 rfl) rfl ?_
      obtain ⟨hb, h⟩ := h
      refine a_zald C (tk T_cX5_putPlaces 20 rfl) lc10 hb ?_
      refine a_callI C [.int (M 9 x3.toNatClampNeg), .int (M 10 x3.toNatClampNeg)] me_yX8_truePlace lk_RX5_118 (ct_Screw_truePlace h) (by decide) lc2 rfl rfl rfl (Nat.le_of_ble_eq_true rfl) (tk T_cX5_putPlaces 21 rfl) hr (fun r1 M1 h => ?_)
      refine a_istore C (tk T_cX5_putPlaces 22 rfl) (by decide) rfl ?_
      refine a_aload_n C (tk T_cX5_putPlaces 23 rfl) rfl ?_
      refine a_getR C f_RX5_9 (tk T_cX5_putPlaces 24 rfl) lc63 rfl ?_
      refine a_iload_n C (tk T_cX5_putPlaces 25 rfl) rfl ?_
      refine a_aload_n C (tk T_cX5_putPlaces 26 rfl) rfl ?_
      refine a_getR C f_RX5_124 (tk T_cX5_putPlaces 27 rfl) lc8 rfl ?_
      refine a_iload_n C (tk T_cX5_putPlaces 28 rfl) rfl ?_
      obtain ⟨hb, h⟩ := h
      refine a_zald C (tk T_cX5_putPlaces 29 rfl) lc12 hb ?_
      refine a_if_eq C 63 (tk T_cX5_putPlaces 30 rfl) rfl (fun c => ?_) (fun c => ?_)
      · have h := h.1 c
        refine a_iload C (tk T_cX5_putPlaces 35 rfl) rfl ?_
        exact a_to (k_Laws_putPlaces_65 C hr hR ih x1 x3 x3 r1 M1 h) rfl
      · have h := h.2 c
        refine a_iload C (tk T_cX5_putPlaces 31 rfl) rfl ?_
        refine a_iload_n C (tk T_cX5_putPlaces 32 rfl) rfl ?_
        refine a_iadd C (tk T_cX5_putPlaces 33 rfl) ?_
        refine a_goto C 65 (tk T_cX5_putPlaces 34 rfl) rfl ?_
        exact a_to (k_Laws_putPlaces_65 C hr hR ih x1 x3 x3 (r1 + x1) M1 h) rfl
def P_Laws_putPlaces (post : Mem → Prop) (x1 : Int32) (M : Mem) : Prop :=
  ∃ j10, P_Laws_putPlaces_10 post j10 x1 (0 : Int32) M
theorem k_Laws_putPlaces {X : FX} {g : GT} {ext : List CD} {A : Nat → Prop} {Z : State → Prop} {post : Mem → Prop} (C : Cx X g (layC ++ ext) A cX5_putPlaces 5 RX5 3) (hr : 0 ≤ X.2.2.2.1.cells ∧ 0 ≤ X.2.2.2.1.slots) (hR : RetV X g (layC ++ ext) A cX5_putPlaces 5 0 0 Z post) (x1 : Int32) (M : Mem) (h : P_Laws_putPlaces post x1 M) : AtX X g (layC ++ ext) A 5 0 0 Z 0 [(0, .ref (ad g 63)), (1, .int x1)] [] M := by
  refine a_aload_n C (tk T_cX5_putPlaces 0 rfl) rfl ?_
  refine a_getR C f_RX5_27 (tk T_cX5_putPlaces 1 rfl) lc63 rfl ?_
  refine a_getR C f_RX5_96 (tk T_cX5_putPlaces 2 rfl) lc1 rfl ?_
  refine a_astore_n C (tk T_cX5_putPlaces 3 rfl) (by decide) rfl ?_
  refine a_iconst C (0 : Int32) (tk T_cX5_putPlaces 4 rfl) kI_0 ?_
  refine a_istore_n C (tk T_cX5_putPlaces 5 rfl) (by decide) rfl ?_
  obtain ⟨n1, h⟩ := h
  exact a_to (k_Laws_putPlaces_10 C hr hR n1 x1 (0 : Int32) M h) rfl
theorem ct_Laws_putPlaces {l : Launch} {g : GT} {ext : List CD} {post : Mem → Prop} {x1 : Int32} {M : Mem} (h : P_Laws_putPlaces post x1 M) : CV l g (layC ++ ext) yX5_putPlaces cX5_putPlaces 5 none 3 [.ref (ad g 63), .int x1] M post :=
  cv_of (plainFor_of_name (by decide +kernel)) (Nat.le_of_ble_eq_true rfl) (fun X A Z hl C hr hR => by subst hl; exact k_Laws_putPlaces C hr hR x1 M h)
def T_cX5_solveL : List (Nat × Instr × Nat) := [(0, .aload_n 0, 1), (1, .getfield 31, 3), (4, .ifCond .eq 4, 3), (7, .return_, 1), (8, .aload_n 0, 1), (9, .getfield 21, 3), (12, .ldc 35, 2), (14, .invokestatic 36, 3), (17, .aload_n 0, 1), (18, .iconst 0, 1), (19, .invokevirtual 42, 3), (22, .aload_n 0, 1), (23, .iconst 0, 1), (24, .putfield 46, 3), (27, .aload_n 0, 1), (28, .iconst 0, 1), (29, .putfield 50, 3), (32, .aload_n 0, 1), (33, .iconst 0, 1), (34, .putfield 53, 3), (37, .bipush (-9), 2), (39, .istore_n 1, 1), (40, .iload_n 1, 1), (41, .bipush 9, 2), (43, .if_icmp .gt 14, 3), (46, .aload_n 0, 1), (47, .iload_n 1, 1), (48, .invokevirtual 56, 3), (51, .iinc 1 1, 3), (54, .goto (-14), 3), (57, .aload_n 0, 1), (58, .iconst 1, 1), (59, .putfield 31, 3), (62, .return_, 1)]
theorem T_cX5_solve : tabOK cX5_solve T_cX5_solveL = true := by decide +kernel
def P_Laws_solve_40 (post : Mem → Prop) : Nat → Int32 → Mem → Prop
  | 0, _, _ => False
  | n + 1, x1, M =>
    ((9 : Int32) < x1 → (∀ M1, M1 = ms M 63 12 (1 : Int32) → post M1)) ∧
  (¬ (9 : Int32) < x1 → (P_Laws_solveBend (fun M2 =>
  P_Laws_solve_40 post n (x1 + (1 : Int32)) M2) x1 M))
theorem k_Laws_solve_40 {X : FX} {g : GT} {ext : List CD} {A : Nat → Prop} {Z : State → Prop} {post : Mem → Prop} (C : Cx X g (layC ++ ext) A cX5_solve 2 RX5 4) (hr : 0 ≤ X.2.2.2.1.cells ∧ 0 ≤ X.2.2.2.1.slots) (hR : RetV X g (layC ++ ext) A cX5_solve 2 0 0 Z post) : ∀ (n : Nat) (x1 : Int32) (M : Mem), P_Laws_solve_40 post n x1 M → AtX X g (layC ++ ext) A 2 0 0 Z 40 [(0, .ref (ad g 63)), (1, .int x1)] [] M := by
  intro n
  induction n with
  | zero =>
    intro x1 M h
    exact h.elim
  | succ n ih =>
    intro x1 M h
    refine a_iload_n C (tk T_cX5_solve 22 rfl) rfl ?_
    refine a_bipush C (9 : Int32) (tk T_cX5_solve 23 rfl) kB_9 ?_
    refine a_icmp_gt C 57 (tk T_cX5_solve 24 rfl) rfl (fun c => ?_) (fun c => ?_)
    · have h := h.1 c
      refine a_aload_n C (tk T_cX5_solve 30 rfl) rfl ?_
      refine a_iconst C (1 : Int32) (tk T_cX5_solve 31 rfl) kI_1 ?_
      refine a_put C f_RX5_31 f_RX5_31p (nar_z (Or.inr rfl)) (fit_z (Or.inr rfl)) (tk T_cX5_solve 32 rfl) lc63 rfl ?_
      refine a_mem (fun M1 e_M1 => ?_)
      have h := h M1 e_M1
      exact hR _ _ _ (tk T_cX5_solve 33 rfl) h
    · have h := h.2 c
      refine a_aload_n C (tk T_cX5_solve 25 rfl) rfl ?_
      refine a_iload_n C (tk T_cX5_solve 26 rfl) rfl ?_
      refine a_callV C [.int x1] me_yX5_solveBend lk_RX5_56 (ct_Laws_solveBend h) (by decide) lc63 rfl rfl rfl (Nat.le_of_ble_eq_true rfl) (tk T_cX5_solve 27 rfl) hr (fun M2 h => ?_)
      refine a_iinc C (1 : Int32) (tk T_cX5_solve 28 rfl) rfl kI_1 (by decide) rfl ?_
      refine a_goto C 40 (tk T_cX5_solve 29 rfl) rfl ?_
      exact a_to (ih (x1 + (1 : Int32)) M2 h) rfl
def P_Laws_solve (post : Mem → Prop) (M : Mem) : Prop :=
  ((M 63 12) = 0 → (P_Arrays_fill (fun M1 =>
  P_Laws_putPlaces (fun M2 =>
  ∀ M3, M3 = ms M2 63 8 (0 : Int32) → ∀ M4, M4 = ms M3 63 6 (0 : Int32) → ∀ M5, M5 = ms M4 63 7 (0 : Int32) → ∃ j40, P_Laws_solve_40 post j40 (-9 : Int32) M5) (0 : Int32) M1) (-1000000 : Int32) M)) ∧
  (¬ (M 63 12) = 0 → (post M))
theorem k_Laws_solve {X : FX} {g : GT} {ext : List CD} {A : Nat → Prop} {Z : State → Prop} {post : Mem → Prop} (C : Cx X g (layC ++ ext) A cX5_solve 2 RX5 4) (hr : 0 ≤ X.2.2.2.1.cells ∧ 0 ≤ X.2.2.2.1.slots) (hR : RetV X g (layC ++ ext) A cX5_solve 2 0 0 Z post) (M : Mem) (h : P_Laws_solve post M) : AtX X g (layC ++ ext) A 2 0 0 Z 0 [(0, .ref (ad g 63))] [] M := by
  refine a_aload_n C (tk T_cX5_solve 0 rfl) rfl ?_
  refine a_getI C f_RX5_31 (tk T_cX5_solve 1 rfl) lc63 rfl ?_
  refine a_if_eq C 8 (tk T_cX5_solve 2 rfl) rfl (fun c => ?_) (fun c => ?_)
  · have h := h.1 c
    refine a_aload_n C (tk T_cX5_solve 4 rfl) rfl ?_
    refine a_getR C f_RX5_21 (tk T_cX5_solve 5 rfl) lc63 rfl ?_
    refine a_ldc C c_RX5_35 (tk T_cX5_solve 6 rfl) ?_
    refine a_statV C [.ref (ad g 67), .int (-1000000 : Int32)] me_yJ7_fill_53178 lk_RX5_36 (ct_Arrays_fill h) (by decide) rfl rfl (Nat.le_of_ble_eq_true rfl) (tk T_cX5_solve 7 rfl) hr (fun M1 h => ?_)
    refine a_aload_n C (tk T_cX5_solve 8 rfl) rfl ?_
    refine a_iconst C (0 : Int32) (tk T_cX5_solve 9 rfl) kI_0 ?_
    refine a_callV C [.int (0 : Int32)] me_yX5_putPlaces lk_RX5_42 (ct_Laws_putPlaces h) (by decide) lc63 rfl rfl rfl (Nat.le_of_ble_eq_true rfl) (tk T_cX5_solve 10 rfl) hr (fun M2 h => ?_)
    refine a_aload_n C (tk T_cX5_solve 11 rfl) rfl ?_
    refine a_iconst C (0 : Int32) (tk T_cX5_solve 12 rfl) kI_0 ?_
    refine a_put C f_RX5_46 f_RX5_46p rfl rfl (tk T_cX5_solve 13 rfl) lc63 rfl ?_
    refine a_mem (fun M3 e_M3 => ?_)
    have h := h M3 e_M3
    refine a_aload_n C (tk T_cX5_solve 14 rfl) rfl ?_
    refine a_iconst C (0 : Int32) (tk T_cX5_solve 15 rfl) kI_0 ?_
    refine a_put C f_RX5_50 f_RX5_50p rfl rfl (tk T_cX5_solve 16 rfl) lc63 rfl ?_
    refine a_mem (fun M4 e_M4 => ?_)
    have h := h M4 e_M4
    refine a_aload_n C (tk T_cX5_solve 17 rfl) rfl ?_
    refine a_iconst C (0 : Int32) (tk T_cX5_solve 18 rfl) kI_0 ?_
    refine a_put C f_RX5_53 f_RX5_53p rfl rfl (tk T_cX5_solve 19 rfl) lc63 rfl ?_
    refine a_mem (fun M5 e_M5 => ?_)
    have h := h M5 e_M5
    refine a_bipush C (-9 : Int32) (tk T_cX5_solve 20 rfl) kB_m9 ?_
    refine a_istore_n C (tk T_cX5_solve 21 rfl) (by decide) rfl ?_
    obtain ⟨n1, h⟩ := h
    exact a_to (k_Laws_solve_40 C hr hR n1 (-9 : Int32) M5 h) rfl
  · have h := h.2 c
    exact hR _ _ _ (tk T_cX5_solve 3 rfl) h
theorem ct_Laws_solve {l : Launch} {g : GT} {ext : List CD} {post : Mem → Prop} {M : Mem} (h : P_Laws_solve post M) : CV l g (layC ++ ext) yX5_solve cX5_solve 2 none 4 [.ref (ad g 63)] M post :=
  cv_of (plainFor_of_name (by decide +kernel)) (Nat.le_of_ble_eq_true rfl) (fun X A Z hl C hr hR => by subst hl; exact k_Laws_solve C hr hR  M h)
def T_cX11_lawsL : List (Nat × Instr × Nat) := [(0, .aload_n 0, 1), (1, .getfield 24, 3), (4, .invokevirtual 160, 3), (7, .aload_n 0, 1), (8, .getfield 24, 3), (11, .getfield 163, 3), (14, .ireturn, 1)]
theorem T_cX11_laws : tabOK cX11_laws T_cX11_lawsL = true := by decide +kernel
def P_R_laws (post : Int32 → Mem → Prop) (M : Mem) : Prop :=
  P_Laws_solve (fun M1 =>
  post (M1 63 8) M1) M
theorem k_R_laws {X : FX} {g : GT} {ext : List CD} {A : Nat → Prop} {Z : State → Prop} {post : Int32 → Mem → Prop} (C : Cx X g (layC ++ ext) A cX11_laws 1 RX11 5) (hr : 0 ≤ X.2.2.2.1.cells ∧ 0 ≤ X.2.2.2.1.slots) (hR : RetI X g (layC ++ ext) A cX11_laws 1 0 0 Z post) (M : Mem) (h : P_R_laws post M) : AtX X g (layC ++ ext) A 1 0 0 Z 0 [(0, .ref (ad g 0))] [] M := by
  refine a_aload_n C (tk T_cX11_laws 0 rfl) rfl ?_
  refine a_getR C f_RX11_24 (tk T_cX11_laws 1 rfl) lc0 rfl ?_
  refine a_callV C [] me_yX5_solve lk_RX11_160 (ct_Laws_solve h) (by decide) lc63 rfl rfl rfl (Nat.le_of_ble_eq_true rfl) (tk T_cX11_laws 2 rfl) hr (fun M1 h => ?_)
  refine a_aload_n C (tk T_cX11_laws 3 rfl) rfl ?_
  refine a_getR C f_RX11_24 (tk T_cX11_laws 4 rfl) lc0 rfl ?_
  refine a_getI C f_RX11_163 (tk T_cX11_laws 5 rfl) lc63 rfl ?_
  exact hR _ _ _ _ (tk T_cX11_laws 6 rfl) h
theorem ct_R_laws {l : Launch} {g : GT} {ext : List CD} {post : Int32 → Mem → Prop} {M : Mem} (h : P_R_laws post M) : CI l g (layC ++ ext) yX11_laws cX11_laws 1 (some .int) 5 [.ref (ad g 0)] M post :=
  ci_of (plainFor_of_name (by decide +kernel)) (Nat.le_of_ble_eq_true rfl) (fun X A Z hl C hr hR => by subst hl; exact k_R_laws C hr hR  M h)
def T_cX11_lawL : List (Nat × Instr × Nat) := [(0, .iload_n 1, 1), (1, .iconst 0, 1), (2, .iconst 2, 1), (3, .invokestatic 68, 3), (6, .invokestatic 166, 3), (9, .aload_n 0, 1), (10, .getfield 24, 3), (13, .invokevirtual 160, 3), (16, .aload_n 0, 1), (17, .getfield 24, 3), (20, .getfield 163, 3), (23, .ifCond .ne 6, 3), (26, .ldc 169, 2), (28, .ireturn, 1), (29, .iload_n 1, 1), (30, .ifCond .ne 11, 3), (33, .aload_n 0, 1), (34, .getfield 24, 3), (37, .getfield 170, 3), (40, .ireturn, 1), (41, .iload_n 1, 1), (42, .iconst 1, 1), (43, .if_icmp .ne 13, 3), (46, .aload_n 0, 1), (47, .getfield 24, 3), (50, .getfield 173, 3), (53, .goto 10, 3), (56, .aload_n 0, 1), (57, .getfield 24, 3), (60, .getfield 176, 3), (63, .ireturn, 1)]
theorem T_cX11_law : tabOK cX11_law T_cX11_lawL = true := by decide +kernel
def P_R_law_63 (post : Int32 → Mem → Prop) (ex : String → Mem → Prop) (s0 : Int32) (M : Mem) : Prop :=
  post s0 M
theorem k_R_law_63 {X : FX} {g : GT} {ext : List CD} {A : Nat → Prop} {Z : State → Prop} {post : Int32 → Mem → Prop} {ex : String → Mem → Prop} {sk : Nat → Nat} (C : CxX X g (layC ++ ext) A cX11_law 2 RX11 7 1 sk) (hT : ThX X g (layC ++ ext) A 1 Z ex) (hR : RetI X g (layC ++ ext) A cX11_law 2 1 (6 * 1) Z post) (s0 : Int32) (M : Mem) (h : P_R_law_63 post ex s0 M) : AtX X g (layC ++ ext) A 2 1 (6 * 1) Z 63 [] [.int s0] M := by
  exact x_widen (by decide) (by decide) (hR _ _ _ _ (tk T_cX11_law 30 rfl) h)
def P_R_law (post : Int32 → Mem → Prop) (ex : String → Mem → Prop) (x1 : Int32) (M : Mem) : Prop :=
  P_R_within (fun r1 M1 =>
  P_R_wantWhat (fun M2 =>
  P_Laws_solve (fun M3 =>
  (¬ (M3 63 8) = 0 → ((¬ x1 = 0 → ((¬ x1 = (1 : Int32) → (P_R_law_63 post ex (M3 63 11) M3)) ∧
  (x1 = (1 : Int32) → (P_R_law_63 post ex (M3 63 10) M3)))) ∧
  (x1 = 0 → (post (M3 63 9) M3)))) ∧
  ((M3 63 8) = 0 → (post (99999 : Int32) M3))) M2) ex r1 M1) x1 (0 : Int32) (2 : Int32) M
theorem k_R_law {X : FX} {g : GT} {ext : List CD} {A : Nat → Prop} {Z : State → Prop} {post : Int32 → Mem → Prop} {ex : String → Mem → Prop} {sk : Nat → Nat} (C : CxX X g (layC ++ ext) A cX11_law 2 RX11 7 1 sk) (hT : ThX X g (layC ++ ext) A 1 Z ex) (hR : RetI X g (layC ++ ext) A cX11_law 2 1 (6 * 1) Z post) (x1 : Int32) (M : Mem) (h : P_R_law post ex x1 M) : AtX X g (layC ++ ext) A 2 0 0 Z 0 [(0, .ref (ad g 0)), (1, .int x1)] [] M := by
  refine a_iload_n C.1 (tk T_cX11_law 0 rfl) rfl ?_
  refine a_iconst C.1 (0 : Int32) (tk T_cX11_law 1 rfl) kI_0 ?_
  refine a_iconst C.1 (2 : Int32) (tk T_cX11_law 2 rfl) kI_2 ?_
  refine a_statI C.1 [.int x1, .int (0 : Int32), .int (2 : Int32)] me_yX11_within lk_RX11_68 (ct_R_within h) (by decide) rfl rfl (Nat.le_of_ble_eq_true rfl) (tk T_cX11_law 3 rfl) ⟨Nat.le_trans (by decide) C.2.2.1, Nat.le_trans (by decide) C.2.2.2⟩ (fun r1 M1 h => ?_)
  refine x_statV C hT [.int r1] me_yX11_wantWhat lk_RX11_166 (ct_R_wantWhat h) (by decide) rfl rfl (Nat.le_of_ble_eq_true rfl) (tk T_cX11_law 4 rfl) (by decide) (fun M2 h => ?_)
  refine a_aload_n C.1 (tk T_cX11_law 5 rfl) rfl ?_
  refine a_getR C.1 f_RX11_24 (tk T_cX11_law 6 rfl) lc0 rfl ?_
  refine a_callV C.1 [] me_yX5_solve lk_RX11_160 (ct_Laws_solve h) (by decide) lc63 rfl rfl rfl (Nat.le_of_ble_eq_true rfl) (tk T_cX11_law 7 rfl) ⟨Nat.le_trans (by decide) C.2.2.1, Nat.le_trans (by decide) C.2.2.2⟩ (fun M3 h => ?_)
  refine a_aload_n C.1 (tk T_cX11_law 8 rfl) rfl ?_
  refine a_getR C.1 f_RX11_24 (tk T_cX11_law 9 rfl) lc0 rfl ?_
  refine a_getI C.1 f_RX11_163 (tk T_cX11_law 10 rfl) lc63 rfl ?_
  refine a_if_ne C.1 29 (tk T_cX11_law 11 rfl) rfl (fun c => ?_) (fun c => ?_)
  · have h := h.1 c
    refine a_iload_n C.1 (tk T_cX11_law 14 rfl) rfl ?_
    refine a_if_ne C.1 41 (tk T_cX11_law 15 rfl) rfl (fun c => ?_) (fun c => ?_)
    · have h := h.1 c
      refine a_iload_n C.1 (tk T_cX11_law 20 rfl) rfl ?_
      refine a_iconst C.1 (1 : Int32) (tk T_cX11_law 21 rfl) kI_1 ?_
      refine a_icmp_ne C.1 56 (tk T_cX11_law 22 rfl) rfl (fun c => ?_) (fun c => ?_)
      · have h := h.1 c
        refine a_aload_n C.1 (tk T_cX11_law 27 rfl) rfl ?_
        refine a_getR C.1 f_RX11_24 (tk T_cX11_law 28 rfl) lc0 rfl ?_
        refine a_getI C.1 f_RX11_176 (tk T_cX11_law 29 rfl) lc63 rfl ?_
        exact x_widen (by decide) (by decide) (a_to (k_R_law_63 C hT hR (M3 63 11) M3 h) rfl)
      · have h := h.2 c
        refine a_aload_n C.1 (tk T_cX11_law 23 rfl) rfl ?_
        refine a_getR C.1 f_RX11_24 (tk T_cX11_law 24 rfl) lc0 rfl ?_
        refine a_getI C.1 f_RX11_173 (tk T_cX11_law 25 rfl) lc63 rfl ?_
        refine a_goto C.1 63 (tk T_cX11_law 26 rfl) rfl ?_
        exact x_widen (by decide) (by decide) (a_to (k_R_law_63 C hT hR (M3 63 10) M3 h) rfl)
    · have h := h.2 c
      refine a_aload_n C.1 (tk T_cX11_law 16 rfl) rfl ?_
      refine a_getR C.1 f_RX11_24 (tk T_cX11_law 17 rfl) lc0 rfl ?_
      refine a_getI C.1 f_RX11_170 (tk T_cX11_law 18 rfl) lc63 rfl ?_
      exact x_widen (by decide) (by decide) (hR _ _ _ _ (tk T_cX11_law 19 rfl) h)
  · have h := h.2 c
    refine a_ldc C.1 c_RX11_169 (tk T_cX11_law 12 rfl) ?_
    exact x_widen (by decide) (by decide) (hR _ _ _ _ (tk T_cX11_law 13 rfl) h)
theorem ct_R_law {l : Launch} {g : GT} {ext : List CD} {sk : Nat → Nat} {post : Int32 → Mem → Prop} {ex : String → Mem → Prop} {x1 : Int32} {M : Mem} (h : P_R_law post ex x1 M) : XI l g (layC ++ ext) sk yX11_law cX11_law 2 (some .int) 7 1 [.ref (ad g 0), .int x1] M post ex :=
  xi_of (by decide +kernel) (Nat.le_of_ble_eq_true rfl) (fun X A Z hl C hR hT _ => by subst hl; exact k_R_law C hT hR x1 M h)
def T_cX5_cOfL : List (Nat × Instr × Nat) := [(0, .iload_n 0, 1), (1, .bipush 31, 2), (3, .iand, 1), (4, .bipush 9, 2), (6, .isub, 1), (7, .ireturn, 1)]
theorem T_cX5_cOf : tabOK cX5_cOf T_cX5_cOfL = true := by decide +kernel
def P_Laws_cOf (post : Int32 → Mem → Prop) (x0 : Int32) (M : Mem) : Prop :=
  post ((x0 &&& (31 : Int32)) - (9 : Int32)) M
theorem k_Laws_cOf {X : FX} {g : GT} {ext : List CD} {A : Nat → Prop} {Z : State → Prop} {post : Int32 → Mem → Prop} (C : Cx X g (layC ++ ext) A cX5_cOf 1 RX5 0) (hr : 0 ≤ X.2.2.2.1.cells ∧ 0 ≤ X.2.2.2.1.slots) (hR : RetI X g (layC ++ ext) A cX5_cOf 1 0 0 Z post) (x0 : Int32) (M : Mem) (h : P_Laws_cOf post x0 M) : AtX X g (layC ++ ext) A 1 0 0 Z 0 [(0, .int x0)] [] M := by
  refine a_iload_n C (tk T_cX5_cOf 0 rfl) rfl ?_
  refine a_bipush C (31 : Int32) (tk T_cX5_cOf 1 rfl) kB_31 ?_
  refine a_iand C (tk T_cX5_cOf 2 rfl) ?_
  refine a_bipush C (9 : Int32) (tk T_cX5_cOf 3 rfl) kB_9 ?_
  refine a_isub C (tk T_cX5_cOf 4 rfl) ?_
  exact hR _ _ _ _ (tk T_cX5_cOf 5 rfl) h
theorem ct_Laws_cOf {l : Launch} {g : GT} {ext : List CD} {post : Int32 → Mem → Prop} {x0 : Int32} {M : Mem} (h : P_Laws_cOf post x0 M) : CI l g (layC ++ ext) yX5_cOf cX5_cOf 1 (some .int) 0 [.int x0] M post :=
  ci_of (plainFor_of_name (by decide +kernel)) (Nat.le_of_ble_eq_true rfl) (fun X A Z hl C hr hR => by subst hl; exact k_Laws_cOf C hr hR x0 M h)
def T_cX5_heightL : List (Nat × Instr × Nat) := [(0, .sipush 10000, 3), (3, .iload_n 0, 1), (4, .invokestatic 89, 3), (7, .imul, 1), (8, .sipush 1000, 3), (11, .iload_n 0, 1), (12, .invokestatic 93, 3), (15, .imul, 1), (16, .iload_n 0, 1), (17, .invokestatic 154, 3), (20, .iload_n 1, 1), (21, .imul, 1), (22, .iadd, 1), (23, .iload_n 1, 1), (24, .imul, 1), (25, .iadd, 1), (26, .ireturn, 1)]
theorem T_cX5_height : tabOK cX5_height T_cX5_heightL = true := by decide +kernel
def P_Laws_height (post : Int32 → Mem → Prop) (x0 x1 : Int32) (M : Mem) : Prop :=
  P_Laws_aOf (fun r1 M1 =>
  P_Laws_bOf (fun r2 M2 =>
  P_Laws_cOf (fun r3 M3 =>
  ∀ v4, v4 = (((10000 : Int32) * r1) + ((((1000 : Int32) * r2) + (r3 * x1)) * x1)) → post v4 M3) x0 M2) x0 M1) x0 M
theorem k_Laws_height {X : FX} {g : GT} {ext : List CD} {A : Nat → Prop} {Z : State → Prop} {post : Int32 → Mem → Prop} (C : Cx X g (layC ++ ext) A cX5_height 2 RX5 1) (hr : 0 ≤ X.2.2.2.1.cells ∧ 0 ≤ X.2.2.2.1.slots) (hR : RetI X g (layC ++ ext) A cX5_height 2 0 0 Z post) (x0 x1 : Int32) (M : Mem) (h : P_Laws_height post x0 x1 M) : AtX X g (layC ++ ext) A 2 0 0 Z 0 [(0, .int x0), (1, .int x1)] [] M := by
  refine a_sipush C (10000 : Int32) (tk T_cX5_height 0 rfl) kS_10000 ?_
  refine a_iload_n C (tk T_cX5_height 1 rfl) rfl ?_
  refine a_statI C [.int x0] me_yX5_aOf lk_RX5_89 (ct_Laws_aOf h) (by decide) rfl rfl (Nat.le_of_ble_eq_true rfl) (tk T_cX5_height 2 rfl) hr (fun r1 M1 h => ?_)
  refine a_imul C (tk T_cX5_height 3 rfl) ?_
  refine a_sipush C (1000 : Int32) (tk T_cX5_height 4 rfl) kS_1000 ?_
  refine a_iload_n C (tk T_cX5_height 5 rfl) rfl ?_
  refine a_statI C [.int x0] me_yX5_bOf lk_RX5_93 (ct_Laws_bOf h) (by decide) rfl rfl (Nat.le_of_ble_eq_true rfl) (tk T_cX5_height 6 rfl) hr (fun r2 M2 h => ?_)
  refine a_imul C (tk T_cX5_height 7 rfl) ?_
  refine a_iload_n C (tk T_cX5_height 8 rfl) rfl ?_
  refine a_statI C [.int x0] me_yX5_cOf lk_RX5_154 (ct_Laws_cOf h) (by decide) rfl rfl (Nat.le_of_ble_eq_true rfl) (tk T_cX5_height 9 rfl) hr (fun r3 M3 h => ?_)
  refine a_iload_n C (tk T_cX5_height 10 rfl) rfl ?_
  refine a_imul C (tk T_cX5_height 11 rfl) ?_
  refine a_iadd C (tk T_cX5_height 12 rfl) ?_
  refine a_iload_n C (tk T_cX5_height 13 rfl) rfl ?_
  refine a_imul C (tk T_cX5_height 14 rfl) ?_
  refine a_iadd C (tk T_cX5_height 15 rfl) ?_
  refine a_top (fun v4 e_v4 => ?_)
  have h := h v4 e_v4
  exact hR _ _ _ _ (tk T_cX5_height 16 rfl) h
theorem ct_Laws_height {l : Launch} {g : GT} {ext : List CD} {post : Int32 → Mem → Prop} {x0 x1 : Int32} {M : Mem} (h : P_Laws_height post x0 x1 M) : CI l g (layC ++ ext) yX5_height cX5_height 2 (some .int) 1 [.int x0, .int x1] M post :=
  ci_of (plainFor_of_name (by decide +kernel)) (Nat.le_of_ble_eq_true rfl) (fun X A Z hl C hr hR => by subst hl; exact k_Laws_height C hr hR x0 x1 M h)
def T_cX5_measureL : List (Nat × Instr × Nat) := [(0, .ldc 149, 2), (2, .istore_n 3, 1), (3, .iconst 0, 1), (4, .istore 4, 2), (6, .iload 4, 2), (8, .aload_n 0, 1), (9, .getfield 50, 3), (12, .if_icmp .ge 25, 3), (15, .iload_n 3, 1), (16, .aload_n 0, 1), (17, .getfield 15, 3), (20, .iload 4, 2), (22, .iaload, 1), (23, .iload_n 1, 1), (24, .invokestatic 150, 3), (27, .invokestatic 142, 3), (30, .istore_n 3, 1), (31, .iinc 4 1, 3), (34, .goto (-28), 3), (37, .ldc 153, 2), (39, .istore 4, 2), (41, .iconst 0, 1), (42, .istore 5, 2), (44, .iload 5, 2), (46, .aload_n 0, 1), (47, .getfield 53, 3), (50, .if_icmp .ge 27, 3), (53, .iload 4, 2), (55, .aload_n 0, 1), (56, .getfield 18, 3), (59, .iload 5, 2), (61, .iaload, 1), (62, .iload_n 1, 1), (63, .invokestatic 150, 3), (66, .invokestatic 139, 3), (69, .istore 4, 2), (71, .iinc 5 1, 3), (74, .goto (-30), 3), (77, .aload_n 0, 1), (78, .getfield 21, 3), (81, .iload_n 2, 1), (82, .iload_n 3, 1), (83, .sipush 10000, 3), (86, .invokestatic 127, 3), (89, .aload_n 0, 1), (90, .getfield 27, 3), (93, .getfield 96, 3), (96, .getfield 136, 3), (99, .isub, 1), (100, .iastore, 1), (101, .aload_n 0, 1), (102, .getfield 24, 3), (105, .iload_n 2, 1), (106, .iload 4, 2), (108, .sipush 10000, 3), (111, .invokestatic 127, 3), (114, .aload_n 0, 1), (115, .getfield 27, 3), (118, .getfield 96, 3), (121, .getfield 136, 3), (124, .iadd, 1), (125, .iastore, 1), (126, .return_, 1)]
theorem T_cX5_measure : tabOK cX5_measure T_cX5_measureL = true := by decide +kernel
def P_Laws_measure_44 (post : Mem → Prop) : Nat → Int32 → Int32 → Int32 → Int32 → Int32 → Mem → Prop
  | 0, _, _, _, _, _, _ => False
  | n + 1, x1, x2, x3, x4, x5, M =>
    ((M 63 7) ≤ x5 → (P_Math_floorDiv (fun r1 M1 =>
  vp_in x2 1087 ∧ ∀ M2, M2 = ms M1 67 x2.toNatClampNeg (r1 - (M1 8 5)) → P_Math_floorDiv (fun r3 M3 =>
  vp_in x2 1087 ∧ ∀ M4, M4 = ms M3 68 x2.toNatClampNeg (r3 + (M3 8 5)) → post M4) x4 (10000 : Int32) M2) x3 (10000 : Int32) M)) ∧
  (¬ (M 63 7) ≤ x5 → (vp_in x5 1710 ∧ P_Laws_height (fun r5 M5 =>
  P_Math_max (fun r6 M6 =>
  P_Laws_measure_44 post n x1 x2 x3 r6 (x5 + (1 : Int32)) M6) x4 r5 M5) (M 66 x5.toNatClampNeg) x1 M))
theorem k_Laws_measure_44 {X : FX} {g : GT} {ext : List CD} {A : Nat → Prop} {Z : State → Prop} {post : Mem → Prop} (C : Cx X g (layC ++ ext) A cX5_measure 6 RX5 2) (hr : 0 ≤ X.2.2.2.1.cells ∧ 0 ≤ X.2.2.2.1.slots) (hR : RetV X g (layC ++ ext) A cX5_measure 6 0 0 Z post) : ∀ (n : Nat) (x1 x2 x3 x4 x5 : Int32) (M : Mem), P_Laws_measure_44 post n x1 x2 x3 x4 x5 M → AtX X g (layC ++ ext) A 6 0 0 Z 44 [(0, .ref (ad g 63)), (1, .int x1), (2, .int x2), (3, .int x3), (4, .int x4), (5, .int x5)] [] M := by
  intro n
  induction n with
  | zero =>
    intro x1 x2 x3 x4 x5 M h
    exact h.elim
  | succ n ih =>
    intro x1 x2 x3 x4 x5 M h
    refine a_iload C (tk T_cX5_measure 23 rfl) rfl ?_
    refine a_aload_n C (tk T_cX5_measure 24 rfl) rfl ?_
    refine a_getI C f_RX5_53 (tk T_cX5_measure 25 rfl) lc63 rfl ?_
    refine a_icmp_ge C 77 (tk T_cX5_measure 26 rfl) rfl (fun c => ?_) (fun c => ?_)
    · have h := h.1 c
      refine a_aload_n C (tk T_cX5_measure 38 rfl) rfl ?_
      refine a_getR C f_RX5_21 (tk T_cX5_measure 39 rfl) lc63 rfl ?_
      refine a_iload_n C (tk T_cX5_measure 40 rfl) rfl ?_
      refine a_iload_n C (tk T_cX5_measure 41 rfl) rfl ?_
      refine a_sipush C (10000 : Int32) (tk T_cX5_measure 42 rfl) kS_10000 ?_
      refine a_statI C [.int x3, .int (10000 : Int32)] me_yJ9_floorDiv_7cf53 lk_RX5_127 (ct_Math_floorDiv h) (by decide) rfl rfl (Nat.le_of_ble_eq_true rfl) (tk T_cX5_measure 43 rfl) hr (fun r1 M1 h => ?_)
      refine a_aload_n C (tk T_cX5_measure 44 rfl) rfl ?_
      refine a_getR C f_RX5_27 (tk T_cX5_measure 45 rfl) lc63 rfl ?_
      refine a_getR C f_RX5_96 (tk T_cX5_measure 46 rfl) lc1 rfl ?_
      refine a_getI C f_RX5_136 (tk T_cX5_measure 47 rfl) lc8 rfl ?_
      refine a_isub C (tk T_cX5_measure 48 rfl) ?_
      obtain ⟨hb, h⟩ := h
      refine a_iast C (tk T_cX5_measure 49 rfl) lc67 hb ?_
      refine a_mem (fun M2 e_M2 => ?_)
      have h := h M2 e_M2
      refine a_aload_n C (tk T_cX5_measure 50 rfl) rfl ?_
      refine a_getR C f_RX5_24 (tk T_cX5_measure 51 rfl) lc63 rfl ?_
      refine a_iload_n C (tk T_cX5_measure 52 rfl) rfl ?_
      refine a_iload C (tk T_cX5_measure 53 rfl) rfl ?_
      refine a_sipush C (10000 : Int32) (tk T_cX5_measure 54 rfl) kS_10000 ?_
      refine a_statI C [.int x4, .int (10000 : Int32)] me_yJ9_floorDiv_7cf53 lk_RX5_127 (ct_Math_floorDiv h) (by decide) rfl rfl (Nat.le_of_ble_eq_true rfl) (tk T_cX5_measure 55 rfl) hr (fun r3 M3 h => ?_)
      refine a_aload_n C (tk T_cX5_measure 56 rfl) rfl ?_
      refine a_getR C f_RX5_27 (tk T_cX5_measure 57 rfl) lc63 rfl ?_
      refine a_getR C f_RX5_96 (tk T_cX5_measure 58 rfl) lc1 rfl ?_
      refine a_getI C f_RX5_136 (tk T_cX5_measure 59 rfl) lc8 rfl ?_
      refine a_iadd C (tk T_cX5_measure 60 rfl) ?_
      obtain ⟨hb, h⟩ := h
      refine a_iast C (tk T_cX5_measure 61 rfl) lc68 hb ?_
      refine a_mem (fun M4 e_M4 => ?_)
      have h := h M4 e_M4
      exact hR _ _ _ (tk T_cX5_measure 62 rfl) h
    · have h := h.2 c
      refine a_iload C (tk T_cX5_measure 27 rfl) rfl ?_
      refine a_aload_n C (tk T_cX5_measure 28 rfl) rfl ?_
      refine a_getR C f_RX5_18 (tk T_cX5_measure 29 rfl) lc63 rfl ?_
      refine a_iload C (tk T_cX5_measure 30 rfl) rfl ?_
      obtain ⟨hb, h⟩ := h
      refine a_iald C (tk T_cX5_measure 31 rfl) lc66 hb ?_
      refine a_iload_n C (tk T_cX5_measure 32 rfl) rfl ?_
      refine a_statI C [.int (M 66 x5.toNatClampNeg), .int x1] me_yX5_height lk_RX5_150 (ct_Laws_height h) (by decide) rfl rfl (Nat.le_of_ble_eq_true rfl) (tk T_cX5_measure 33 rfl) hr (fun r5 M5 h => ?_)
      refine a_statI C [.int x4, .int r5] me_yJ9_max_7cf53 lk_RX5_139 (ct_Math_max h) (by decide) rfl rfl (Nat.le_of_ble_eq_true rfl) (tk T_cX5_measure 34 rfl) hr (fun r6 M6 h => ?_)
      refine a_istore C (tk T_cX5_measure 35 rfl) (by decide) rfl ?_
      refine a_iinc C (1 : Int32) (tk T_cX5_measure 36 rfl) rfl kI_1 (by decide) rfl ?_
      refine a_goto C 44 (tk T_cX5_measure 37 rfl) rfl ?_
      exact a_to (ih x1 x2 x3 r6 (x5 + (1 : Int32)) M6 h) rfl
def P_Laws_measure_6 (post : Mem → Prop) : Nat → Int32 → Int32 → Int32 → Int32 → Mem → Prop
  | 0, _, _, _, _, _ => False
  | n + 1, x1, x2, x3, x4, M =>
    ((M 63 6) ≤ x4 → (∃ j44, P_Laws_measure_44 post j44 x1 x2 x3 (-1000000000 : Int32) (0 : Int32) M)) ∧
  (¬ (M 63 6) ≤ x4 → (vp_in x4 1710 ∧ P_Laws_height (fun r1 M1 =>
  P_Math_min (fun r2 M2 =>
  P_Laws_measure_6 post n x1 x2 r2 (x4 + (1 : Int32)) M2) x3 r1 M1) (M 65 x4.toNatClampNeg) x1 M))
theorem k_Laws_measure_6 {X : FX} {g : GT} {ext : List CD} {A : Nat → Prop} {Z : State → Prop} {post : Mem → Prop} (C : Cx X g (layC ++ ext) A cX5_measure 6 RX5 2) (hr : 0 ≤ X.2.2.2.1.cells ∧ 0 ≤ X.2.2.2.1.slots) (hR : RetV X g (layC ++ ext) A cX5_measure 6 0 0 Z post) : ∀ (n : Nat) (x1 x2 x3 x4 : Int32) (M : Mem), P_Laws_measure_6 post n x1 x2 x3 x4 M → AtX X g (layC ++ ext) A 6 0 0 Z 6 [(0, .ref (ad g 63)), (1, .int x1), (2, .int x2), (3, .int x3), (4, .int x4)] [] M := by
  intro n
  induction n with
  | zero =>
    intro x1 x2 x3 x4 M h
    exact h.elim
  | succ n ih =>
    intro x1 x2 x3 x4 M h
    refine a_iload C (tk T_cX5_measure 4 rfl) rfl ?_
    refine a_aload_n C (tk T_cX5_measure 5 rfl) rfl ?_
    refine a_getI C f_RX5_50 (tk T_cX5_measure 6 rfl) lc63 rfl ?_
    refine a_icmp_ge C 37 (tk T_cX5_measure 7 rfl) rfl (fun c => ?_) (fun c => ?_)
    · have h := h.1 c
      refine a_ldc C c_RX5_153 (tk T_cX5_measure 19 rfl) ?_
      refine a_istore C (tk T_cX5_measure 20 rfl) (by decide) rfl ?_
      refine a_iconst C (0 : Int32) (tk T_cX5_measure 21 rfl) kI_0 ?_
      refine a_istore C (tk T_cX5_measure 22 rfl) (by decide) rfl ?_
      obtain ⟨n1, h⟩ := h
      exact a_to (k_Laws_measure_44 C hr hR n1 x1 x2 x3 (-1000000000 : Int32) (0 : Int32) M h) rfl
    · have h := h.2 c
      refine a_iload_n C (tk T_cX5_measure 8 rfl) rfl ?_
      refine a_aload_n C (tk T_cX5_measure 9 rfl) rfl ?_
      refine a_getR C f_RX5_15 (tk T_cX5_measure 10 rfl) lc63 rfl ?_
      refine a_iload C (tk T_cX5_measure 11 rfl) rfl ?_
      obtain ⟨hb, h⟩ := h
      refine a_iald C (tk T_cX5_measure 12 rfl) lc65 hb ?_
      refine a_iload_n C (tk T_cX5_measure 13 rfl) rfl ?_
      refine a_statI C [.int (M 65 x4.toNatClampNeg), .int x1] me_yX5_height lk_RX5_150 (ct_Laws_height h) (by decide) rfl rfl (Nat.le_of_ble_eq_true rfl) (tk T_cX5_measure 14 rfl) hr (fun r1 M1 h => ?_)
      refine a_statI C [.int x3, .int r1] me_yJ9_min_7cf53 lk_RX5_142 (ct_Math_min h) (by decide) rfl rfl (Nat.le_of_ble_eq_true rfl) (tk T_cX5_measure 15 rfl) hr (fun r2 M2 h => ?_)
      refine a_istore_n C (tk T_cX5_measure 16 rfl) (by decide) rfl ?_
      refine a_iinc C (1 : Int32) (tk T_cX5_measure 17 rfl) rfl kI_1 (by decide) rfl ?_
      refine a_goto C 6 (tk T_cX5_measure 18 rfl) rfl ?_
      exact a_to (ih x1 x2 r2 (x4 + (1 : Int32)) M2 h) rfl
def P_Laws_measure (post : Mem → Prop) (x1 x2 : Int32) (M : Mem) : Prop :=
  ∃ j6, P_Laws_measure_6 post j6 x1 x2 (1000000000 : Int32) (0 : Int32) M
theorem k_Laws_measure {X : FX} {g : GT} {ext : List CD} {A : Nat → Prop} {Z : State → Prop} {post : Mem → Prop} (C : Cx X g (layC ++ ext) A cX5_measure 6 RX5 2) (hr : 0 ≤ X.2.2.2.1.cells ∧ 0 ≤ X.2.2.2.1.slots) (hR : RetV X g (layC ++ ext) A cX5_measure 6 0 0 Z post) (x1 x2 : Int32) (M : Mem) (h : P_Laws_measure post x1 x2 M) : AtX X g (layC ++ ext) A 6 0 0 Z 0 [(0, .ref (ad g 63)), (1, .int x1), (2, .int x2)] [] M := by
  refine a_ldc C c_RX5_149 (tk T_cX5_measure 0 rfl) ?_
  refine a_istore_n C (tk T_cX5_measure 1 rfl) (by decide) rfl ?_
  refine a_iconst C (0 : Int32) (tk T_cX5_measure 2 rfl) kI_0 ?_
  refine a_istore C (tk T_cX5_measure 3 rfl) (by decide) rfl ?_
  obtain ⟨n1, h⟩ := h
  exact a_to (k_Laws_measure_6 C hr hR n1 x1 x2 (1000000000 : Int32) (0 : Int32) M h) rfl
theorem ct_Laws_measure {l : Launch} {g : GT} {ext : List CD} {post : Mem → Prop} {x1 x2 : Int32} {M : Mem} (h : P_Laws_measure post x1 x2 M) : CV l g (layC ++ ext) yX5_measure cX5_measure 6 none 2 [.ref (ad g 63), .int x1, .int x2] M post :=
  cv_of (plainFor_of_name (by decide +kernel)) (Nat.le_of_ble_eq_true rfl) (fun X A Z hl C hr hR => by subst hl; exact k_Laws_measure C hr hR x1 x2 M h)
def T_cX5_slotOfL : List (Nat × Instr × Nat) := [(0, .iload_n 1, 1), (1, .bipush (-39), 2), (3, .isub, 1), (4, .istore_n 2, 1), (5, .aload_n 0, 1), (6, .getfield 46, 3), (9, .ifCond .eq 16, 3), (12, .iload_n 2, 1), (13, .ifCond .lt 12, 3), (16, .iload_n 2, 1), (17, .aload_n 0, 1), (18, .getfield 21, 3), (21, .arraylength, 1), (22, .if_icmp .lt 5, 3), (25, .iconst (-1), 1), (26, .ireturn, 1), (27, .aload_n 0, 1), (28, .getfield 21, 3), (31, .iload_n 2, 1), (32, .iaload, 1), (33, .ldc 35, 2), (35, .if_icmp .ne 9, 3), (38, .aload_n 0, 1), (39, .iload_n 1, 1), (40, .iload_n 2, 1), (41, .invokevirtual 145, 3), (44, .iload_n 2, 1), (45, .ireturn, 1)]
theorem T_cX5_slotOf : tabOK cX5_slotOf T_cX5_slotOfL = true := by decide +kernel
def P_Laws_slotOf_44 (post : Int32 → Mem → Prop) (x2 : Int32) (M : Mem) : Prop :=
  post x2 M
theorem k_Laws_slotOf_44 {X : FX} {g : GT} {ext : List CD} {A : Nat → Prop} {Z : State → Prop} {post : Int32 → Mem → Prop} (C : Cx X g (layC ++ ext) A cX5_slotOf 3 RX5 3) (hr : 0 ≤ X.2.2.2.1.cells ∧ 0 ≤ X.2.2.2.1.slots) (hR : RetI X g (layC ++ ext) A cX5_slotOf 3 0 0 Z post) (x2 : Int32) (M : Mem) (h : P_Laws_slotOf_44 post x2 M) : AtX X g (layC ++ ext) A 3 0 0 Z 44 [(2, .int x2)] [] M := by
  refine a_iload_n C (tk T_cX5_slotOf 26 rfl) rfl ?_
  exact hR _ _ _ _ (tk T_cX5_slotOf 27 rfl) h
def P_Laws_slotOf_25 (post : Int32 → Mem → Prop) (M : Mem) : Prop :=
  post (-1 : Int32) M
theorem k_Laws_slotOf_25 {X : FX} {g : GT} {ext : List CD} {A : Nat → Prop} {Z : State → Prop} {post : Int32 → Mem → Prop} (C : Cx X g (layC ++ ext) A cX5_slotOf 3 RX5 3) (hr : 0 ≤ X.2.2.2.1.cells ∧ 0 ≤ X.2.2.2.1.slots) (hR : RetI X g (layC ++ ext) A cX5_slotOf 3 0 0 Z post)  (M : Mem) (h : P_Laws_slotOf_25 post M) : AtX X g (layC ++ ext) A 3 0 0 Z 25 [] [] M := by
  refine a_iconst C (-1 : Int32) (tk T_cX5_slotOf 14 rfl) kI_m1 ?_
  exact hR _ _ _ _ (tk T_cX5_slotOf 15 rfl) h
def P_Laws_slotOf (post : Int32 → Mem → Prop) (x1 : Int32) (M : Mem) : Prop :=
  ∀ x2_1, x2_1 = (x1 - (-39 : Int32)) → ((M 63 8) = 0 → (P_Laws_slotOf_25 post M)) ∧
  (¬ (M 63 8) = 0 → ((x2_1 < 0 → (P_Laws_slotOf_25 post M)) ∧
  (¬ x2_1 < 0 → ((x2_1 < (1087 : Int32) → (vp_in x2_1 1087 ∧ (¬ (M 67 x2_1.toNatClampNeg) = (-1000000 : Int32) → (P_Laws_slotOf_44 post x2_1 M)) ∧
  ((M 67 x2_1.toNatClampNeg) = (-1000000 : Int32) → (P_Laws_measure (fun M2 =>
  P_Laws_slotOf_44 post x2_1 M2) x1 x2_1 M)))) ∧
  (¬ x2_1 < (1087 : Int32) → (P_Laws_slotOf_25 post M))))))
theorem k_Laws_slotOf {X : FX} {g : GT} {ext : List CD} {A : Nat → Prop} {Z : State → Prop} {post : Int32 → Mem → Prop} (C : Cx X g (layC ++ ext) A cX5_slotOf 3 RX5 3) (hr : 0 ≤ X.2.2.2.1.cells ∧ 0 ≤ X.2.2.2.1.slots) (hR : RetI X g (layC ++ ext) A cX5_slotOf 3 0 0 Z post) (x1 : Int32) (M : Mem) (h : P_Laws_slotOf post x1 M) : AtX X g (layC ++ ext) A 3 0 0 Z 0 [(0, .ref (ad g 63)), (1, .int x1)] [] M := by
  refine a_iload_n C (tk T_cX5_slotOf 0 rfl) rfl ?_
  refine a_bipush C (-39 : Int32) (tk T_cX5_slotOf 1 rfl) kB_m39 ?_
  refine a_isub C (tk T_cX5_slotOf 2 rfl) ?_
  refine a_top (fun x2_1 e_x2_1 => ?_)
  have h := h x2_1 e_x2_1
  refine a_istore_n C (tk T_cX5_slotOf 3 rfl) (by decide) rfl ?_
  refine a_aload_n C (tk T_cX5_slotOf 4 rfl) rfl ?_
  refine a_getI C f_RX5_46 (tk T_cX5_slotOf 5 rfl) lc63 rfl ?_
  refine a_if_eq C 25 (tk T_cX5_slotOf 6 rfl) rfl (fun c => ?_) (fun c => ?_)
  · have h := h.1 c
    exact a_to (k_Laws_slotOf_25 C hr hR M h) rfl
  · have h := h.2 c
    refine a_iload_n C (tk T_cX5_slotOf 7 rfl) rfl ?_
    refine a_if_lt C 25 (tk T_cX5_slotOf 8 rfl) rfl (fun c => ?_) (fun c => ?_)
    · have h := h.1 c
      exact a_to (k_Laws_slotOf_25 C hr hR M h) rfl
    · have h := h.2 c
      refine a_iload_n C (tk T_cX5_slotOf 9 rfl) rfl ?_
      refine a_aload_n C (tk T_cX5_slotOf 10 rfl) rfl ?_
      refine a_getR C f_RX5_21 (tk T_cX5_slotOf 11 rfl) lc63 rfl ?_
      refine a_alen0 C (tk T_cX5_slotOf 12 rfl) lc67 rfl ?_
      refine a_icmp_lt C 27 (tk T_cX5_slotOf 13 rfl) rfl (fun c => ?_) (fun c => ?_)
      · have h := h.1 c
        refine a_aload_n C (tk T_cX5_slotOf 16 rfl) rfl ?_
        refine a_getR C f_RX5_21 (tk T_cX5_slotOf 17 rfl) lc63 rfl ?_
        refine a_iload_n C (tk T_cX5_slotOf 18 rfl) rfl ?_
        obtain ⟨hb, h⟩ := h
        refine a_iald C (tk T_cX5_slotOf 19 rfl) lc67 hb ?_
        refine a_ldc C c_RX5_35 (tk T_cX5_slotOf 20 rfl) ?_
        refine a_icmp_ne C 44 (tk T_cX5_slotOf 21 rfl) rfl (fun c => ?_) (fun c => ?_)
        · have h := h.1 c
          exact a_to (k_Laws_slotOf_44 C hr hR x2_1 M h) rfl
        · have h := h.2 c
          refine a_aload_n C (tk T_cX5_slotOf 22 rfl) rfl ?_
          refine a_iload_n C (tk T_cX5_slotOf 23 rfl) rfl ?_
          refine a_iload_n C (tk T_cX5_slotOf 24 rfl) rfl ?_
          refine a_callV C [.int x1, .int x2_1] me_yX5_measure lk_RX5_145 (ct_Laws_measure h) (by decide) lc63 rfl rfl rfl (Nat.le_of_ble_eq_true rfl) (tk T_cX5_slotOf 25 rfl) hr (fun M2 h => ?_)
          exact a_to (k_Laws_slotOf_44 C hr hR x2_1 M2 h) rfl
      · have h := h.2 c
        exact a_to (k_Laws_slotOf_25 C hr hR M h) rfl
theorem ct_Laws_slotOf {l : Launch} {g : GT} {ext : List CD} {post : Int32 → Mem → Prop} {x1 : Int32} {M : Mem} (h : P_Laws_slotOf post x1 M) : CI l g (layC ++ ext) yX5_slotOf cX5_slotOf 3 (some .int) 3 [.ref (ad g 63), .int x1] M post :=
  ci_of (plainFor_of_name (by decide +kernel)) (Nat.le_of_ble_eq_true rfl) (fun X A Z hl C hr hR => by subst hl; exact k_Laws_slotOf C hr hR x1 M h)
def T_cX11_spanEndL : List (Nat × Instr × Nat) := [(0, .aload_n 0, 1), (1, .getfield 24, 3), (4, .invokevirtual 160, 3), (7, .aload_n 0, 1), (8, .getfield 24, 3), (11, .iload_n 1, 1), (12, .invokevirtual 418, 3), (15, .istore_n 3, 1), (16, .iload_n 3, 1), (17, .iconst (-1), 1), (18, .if_icmp .ne 7, 3), (21, .ldc_w 421, 3), (24, .ireturn, 1), (25, .iload_n 2, 1), (26, .ifCond .eq 15, 3), (29, .aload_n 0, 1), (30, .getfield 24, 3), (33, .getfield 422, 3), (36, .iload_n 3, 1), (37, .iaload, 1), (38, .goto 12, 3), (41, .aload_n 0, 1), (42, .getfield 24, 3), (45, .getfield 425, 3), (48, .iload_n 3, 1), (49, .iaload, 1), (50, .ireturn, 1)]
theorem T_cX11_spanEnd : tabOK cX11_spanEnd T_cX11_spanEndL = true := by decide +kernel
def P_R_spanEnd_50 (post : Int32 → Mem → Prop) (s0 : Int32) (M : Mem) : Prop :=
  post s0 M
theorem k_R_spanEnd_50 {X : FX} {g : GT} {ext : List CD} {A : Nat → Prop} {Z : State → Prop} {post : Int32 → Mem → Prop} (C : Cx X g (layC ++ ext) A cX11_spanEnd 4 RX11 5) (hr : 0 ≤ X.2.2.2.1.cells ∧ 0 ≤ X.2.2.2.1.slots) (hR : RetI X g (layC ++ ext) A cX11_spanEnd 4 0 0 Z post) (s0 : Int32) (M : Mem) (h : P_R_spanEnd_50 post s0 M) : AtX X g (layC ++ ext) A 4 0 0 Z 50 [] [.int s0] M := by
  exact hR _ _ _ _ (tk T_cX11_spanEnd 26 rfl) h
def P_R_spanEnd (post : Int32 → Mem → Prop) (x1 x2 : Int32) (M : Mem) : Prop :=
  P_Laws_solve (fun M1 =>
  P_Laws_slotOf (fun r2 M2 =>
  (¬ r2 = (-1 : Int32) → ((x2 = 0 → (vp_in r2 1087 ∧ P_R_spanEnd_50 post (M2 67 r2.toNatClampNeg) M2)) ∧
  (¬ x2 = 0 → (vp_in r2 1087 ∧ P_R_spanEnd_50 post (M2 68 r2.toNatClampNeg) M2)))) ∧
  (r2 = (-1 : Int32) → (post (-99999 : Int32) M2))) x1 M1) M
theorem k_R_spanEnd {X : FX} {g : GT} {ext : List CD} {A : Nat → Prop} {Z : State → Prop} {post : Int32 → Mem → Prop} (C : Cx X g (layC ++ ext) A cX11_spanEnd 4 RX11 5) (hr : 0 ≤ X.2.2.2.1.cells ∧ 0 ≤ X.2.2.2.1.slots) (hR : RetI X g (layC ++ ext) A cX11_spanEnd 4 0 0 Z post) (x1 x2 : Int32) (M : Mem) (h : P_R_spanEnd post x1 x2 M) : AtX X g (layC ++ ext) A 4 0 0 Z 0 [(0, .ref (ad g 0)), (1, .int x1), (2, .int x2)] [] M := by
  refine a_aload_n C (tk T_cX11_spanEnd 0 rfl) rfl ?_
  refine a_getR C f_RX11_24 (tk T_cX11_spanEnd 1 rfl) lc0 rfl ?_
  refine a_callV C [] me_yX5_solve lk_RX11_160 (ct_Laws_solve h) (by decide) lc63 rfl rfl rfl (Nat.le_of_ble_eq_true rfl) (tk T_cX11_spanEnd 2 rfl) hr (fun M1 h => ?_)
  refine a_aload_n C (tk T_cX11_spanEnd 3 rfl) rfl ?_
  refine a_getR C f_RX11_24 (tk T_cX11_spanEnd 4 rfl) lc0 rfl ?_
  refine a_iload_n C (tk T_cX11_spanEnd 5 rfl) rfl ?_
  refine a_callI C [.int x1] me_yX5_slotOf lk_RX11_418 (ct_Laws_slotOf h) (by decide) lc63 rfl rfl rfl (Nat.le_of_ble_eq_true rfl) (tk T_cX11_spanEnd 6 rfl) hr (fun r2 M2 h => ?_)
  refine a_istore_n C (tk T_cX11_spanEnd 7 rfl) (by decide) rfl ?_
  refine a_iload_n C (tk T_cX11_spanEnd 8 rfl) rfl ?_
  refine a_iconst C (-1 : Int32) (tk T_cX11_spanEnd 9 rfl) kI_m1 ?_
  refine a_icmp_ne C 25 (tk T_cX11_spanEnd 10 rfl) rfl (fun c => ?_) (fun c => ?_)
  · have h := h.1 c
    refine a_iload_n C (tk T_cX11_spanEnd 13 rfl) rfl ?_
    refine a_if_eq C 41 (tk T_cX11_spanEnd 14 rfl) rfl (fun c => ?_) (fun c => ?_)
    · have h := h.1 c
      refine a_aload_n C (tk T_cX11_spanEnd 21 rfl) rfl ?_
      refine a_getR C f_RX11_24 (tk T_cX11_spanEnd 22 rfl) lc0 rfl ?_
      refine a_getR C f_RX11_425 (tk T_cX11_spanEnd 23 rfl) lc63 rfl ?_
      refine a_iload_n C (tk T_cX11_spanEnd 24 rfl) rfl ?_
      obtain ⟨hb, h⟩ := h
      refine a_iald C (tk T_cX11_spanEnd 25 rfl) lc67 hb ?_
      exact a_to (k_R_spanEnd_50 C hr hR (M2 67 r2.toNatClampNeg) M2 h) rfl
    · have h := h.2 c
      refine a_aload_n C (tk T_cX11_spanEnd 15 rfl) rfl ?_
      refine a_getR C f_RX11_24 (tk T_cX11_spanEnd 16 rfl) lc0 rfl ?_
      refine a_getR C f_RX11_422 (tk T_cX11_spanEnd 17 rfl) lc63 rfl ?_
      refine a_iload_n C (tk T_cX11_spanEnd 18 rfl) rfl ?_
      obtain ⟨hb, h⟩ := h
      refine a_iald C (tk T_cX11_spanEnd 19 rfl) lc68 hb ?_
      refine a_goto C 50 (tk T_cX11_spanEnd 20 rfl) rfl ?_
      exact a_to (k_R_spanEnd_50 C hr hR (M2 68 r2.toNatClampNeg) M2 h) rfl
  · have h := h.2 c
    refine a_ldc_w C c_RX11_421 (tk T_cX11_spanEnd 11 rfl) ?_
    exact hR _ _ _ _ (tk T_cX11_spanEnd 12 rfl) h
theorem ct_R_spanEnd {l : Launch} {g : GT} {ext : List CD} {post : Int32 → Mem → Prop} {x1 x2 : Int32} {M : Mem} (h : P_R_spanEnd post x1 x2 M) : CI l g (layC ++ ext) yX11_spanEnd cX11_spanEnd 4 (some .int) 5 [.ref (ad g 0), .int x1, .int x2] M post :=
  ci_of (plainFor_of_name (by decide +kernel)) (Nat.le_of_ble_eq_true rfl) (fun X A Z hl C hr hR => by subst hl; exact k_R_spanEnd C hr hR x1 x2 M h)
def T_cX11_spanL : List (Nat × Instr × Nat) := [(0, .iload_n 1, 1), (1, .iconst 0, 1), (2, .sipush 999, 3), (5, .invokestatic 68, 3), (8, .invokestatic 72, 3), (11, .aload_n 0, 1), (12, .aload_n 0, 1), (13, .getfield 10, 3), (16, .getfield 76, 3), (19, .iload_n 1, 1), (20, .iload_n 2, 1), (21, .invokevirtual 97, 3), (24, .iload_n 3, 1), (25, .invokevirtual 179, 3), (28, .ireturn, 1)]
theorem T_cX11_span : tabOK cX11_span T_cX11_spanL = true := by decide +kernel
def P_R_span (post : Int32 → Mem → Prop) (ex : String → Mem → Prop) (x1 x2 x3 : Int32) (M : Mem) : Prop :=
  P_R_within (fun r1 M1 =>
  P_R_wantNumber (fun M2 =>
  P_Screw_truePlace (fun r3 M3 =>
  P_R_spanEnd (fun r4 M4 =>
  post r4 M4) r3 x3 M3) x1 x2 M2) ex r1 M1) x1 (0 : Int32) (999 : Int32) M
theorem k_R_span {X : FX} {g : GT} {ext : List CD} {A : Nat → Prop} {Z : State → Prop} {post : Int32 → Mem → Prop} {ex : String → Mem → Prop} {sk : Nat → Nat} (C : CxX X g (layC ++ ext) A cX11_span 4 RX11 7 1 sk) (hT : ThX X g (layC ++ ext) A 1 Z ex) (hR : RetI X g (layC ++ ext) A cX11_span 4 1 (6 * 1) Z post) (x1 x2 x3 : Int32) (M : Mem) (h : P_R_span post ex x1 x2 x3 M) : AtX X g (layC ++ ext) A 4 0 0 Z 0 [(0, .ref (ad g 0)), (1, .int x1), (2, .int x2), (3, .int x3)] [] M := by
  refine a_iload_n C.1 (tk T_cX11_span 0 rfl) rfl ?_
  refine a_iconst C.1 (0 : Int32) (tk T_cX11_span 1 rfl) kI_0 ?_
  refine a_sipush C.1 (999 : Int32) (tk T_cX11_span 2 rfl) kS_999 ?_
  refine a_statI C.1 [.int x1, .int (0 : Int32), .int (999 : Int32)] me_yX11_within lk_RX11_68 (ct_R_within h) (by decide) rfl rfl (Nat.le_of_ble_eq_true rfl) (tk T_cX11_span 3 rfl) ⟨Nat.le_trans (by decide) C.2.2.1, Nat.le_trans (by decide) C.2.2.2⟩ (fun r1 M1 h => ?_)
  refine x_statV C hT [.int r1] me_yX11_wantNumber lk_RX11_72 (ct_R_wantNumber h) (by decide) rfl rfl (Nat.le_of_ble_eq_true rfl) (tk T_cX11_span 4 rfl) (by decide) (fun M2 h => ?_)
  refine a_aload_n C.1 (tk T_cX11_span 5 rfl) rfl ?_
  refine a_aload_n C.1 (tk T_cX11_span 6 rfl) rfl ?_
  refine a_getR C.1 f_RX11_10 (tk T_cX11_span 7 rfl) lc0 rfl ?_
  refine a_getR C.1 f_RX11_76 (tk T_cX11_span 8 rfl) lc1 rfl ?_
  refine a_iload_n C.1 (tk T_cX11_span 9 rfl) rfl ?_
  refine a_iload_n C.1 (tk T_cX11_span 10 rfl) rfl ?_
  refine a_callI C.1 [.int x1, .int x2] me_yX8_truePlace lk_RX11_97 (ct_Screw_truePlace h) (by decide) lc2 rfl rfl rfl (Nat.le_of_ble_eq_true rfl) (tk T_cX11_span 11 rfl) ⟨Nat.le_trans (by decide) C.2.2.1, Nat.le_trans (by decide) C.2.2.2⟩ (fun r3 M3 h => ?_)
  refine a_iload_n C.1 (tk T_cX11_span 12 rfl) rfl ?_
  refine a_callI C.1 [.int r3, .int x3] me_yX11_spanEnd lk_RX11_179 (ct_R_spanEnd h) (by decide) lc0 rfl rfl rfl (Nat.le_of_ble_eq_true rfl) (tk T_cX11_span 13 rfl) ⟨Nat.le_trans (by decide) C.2.2.1, Nat.le_trans (by decide) C.2.2.2⟩ (fun r4 M4 h => ?_)
  exact x_widen (by decide) (by decide) (hR _ _ _ _ (tk T_cX11_span 14 rfl) h)
theorem ct_R_span {l : Launch} {g : GT} {ext : List CD} {sk : Nat → Nat} {post : Int32 → Mem → Prop} {ex : String → Mem → Prop} {x1 x2 x3 : Int32} {M : Mem} (h : P_R_span post ex x1 x2 x3 M) : XI l g (layC ++ ext) sk yX11_span cX11_span 4 (some .int) 7 1 [.ref (ad g 0), .int x1, .int x2, .int x3] M post ex :=
  xi_of (by decide +kernel) (Nat.le_of_ble_eq_true rfl) (fun X A Z hl C hR hT _ => by subst hl; exact k_R_span C hT hR x1 x2 x3 M h)
def T_cX11_outwardL : List (Nat × Instr × Nat) := [(0, .iload_n 0, 1), (1, .iconst 1, 1), (2, .iadd, 1), (3, .iconst 2, 1), (4, .idiv, 1), (5, .istore_n 1, 1), (6, .iload_n 0, 1), (7, .iconst 2, 1), (8, .irem, 1), (9, .iconst 1, 1), (10, .if_icmp .ne 8, 3), (13, .iload_n 1, 1), (14, .ineg, 1), (15, .goto 4, 3), (18, .iload_n 1, 1), (19, .ireturn, 1)]
theorem T_cX11_outward : tabOK cX11_outward T_cX11_outwardL = true := by decide +kernel
def P_R_outward_19 (post : Int32 → Mem → Prop) (s0 : Int32) (M : Mem) : Prop :=
  post s0 M
theorem k_R_outward_19 {X : FX} {g : GT} {ext : List CD} {A : Nat → Prop} {Z : State → Prop} {post : Int32 → Mem → Prop} (C : Cx X g (layC ++ ext) A cX11_outward 2 RX11 0) (hr : 0 ≤ X.2.2.2.1.cells ∧ 0 ≤ X.2.2.2.1.slots) (hR : RetI X g (layC ++ ext) A cX11_outward 2 0 0 Z post) (s0 : Int32) (M : Mem) (h : P_R_outward_19 post s0 M) : AtX X g (layC ++ ext) A 2 0 0 Z 19 [] [.int s0] M := by
  exact hR _ _ _ _ (tk T_cX11_outward 15 rfl) h
def P_R_outward (post : Int32 → Mem → Prop) (x0 : Int32) (M : Mem) : Prop :=
  ∀ x1_1, x1_1 = ((x0 + (1 : Int32)) / (2 : Int32)) → (¬ (irm x0 (2 : Int32)) = (1 : Int32) → (P_R_outward_19 post x1_1 M)) ∧
  ((irm x0 (2 : Int32)) = (1 : Int32) → (P_R_outward_19 post (-x1_1) M))
theorem k_R_outward {X : FX} {g : GT} {ext : List CD} {A : Nat → Prop} {Z : State → Prop} {post : Int32 → Mem → Prop} (C : Cx X g (layC ++ ext) A cX11_outward 2 RX11 0) (hr : 0 ≤ X.2.2.2.1.cells ∧ 0 ≤ X.2.2.2.1.slots) (hR : RetI X g (layC ++ ext) A cX11_outward 2 0 0 Z post) (x0 : Int32) (M : Mem) (h : P_R_outward post x0 M) : AtX X g (layC ++ ext) A 2 0 0 Z 0 [(0, .int x0)] [] M := by
  refine a_iload_n C (tk T_cX11_outward 0 rfl) rfl ?_
  refine a_iconst C (1 : Int32) (tk T_cX11_outward 1 rfl) kI_1 ?_
  refine a_iadd C (tk T_cX11_outward 2 rfl) ?_
  refine a_iconst C (2 : Int32) (tk T_cX11_outward 3 rfl) kI_2 ?_
  refine a_idiv C (tk T_cX11_outward 4 rfl) (by decide) ?_
  refine a_top (fun x1_1 e_x1_1 => ?_)
  have h := h x1_1 e_x1_1
  refine a_istore_n C (tk T_cX11_outward 5 rfl) (by decide) rfl ?_
  refine a_iload_n C (tk T_cX11_outward 6 rfl) rfl ?_
  refine a_iconst C (2 : Int32) (tk T_cX11_outward 7 rfl) kI_2 ?_
  refine a_irem C (tk T_cX11_outward 8 rfl) (by decide) ?_
  refine a_iconst C (1 : Int32) (tk T_cX11_outward 9 rfl) kI_1 ?_
  refine a_icmp_ne C 18 (tk T_cX11_outward 10 rfl) rfl (fun c => ?_) (fun c => ?_)
  · have h := h.1 c
    refine a_iload_n C (tk T_cX11_outward 14 rfl) rfl ?_
    exact a_to (k_R_outward_19 C hr hR x1_1 M h) rfl
  · have h := h.2 c
    refine a_iload_n C (tk T_cX11_outward 11 rfl) rfl ?_
    refine a_ineg C (tk T_cX11_outward 12 rfl) ?_
    refine a_goto C 19 (tk T_cX11_outward 13 rfl) rfl ?_
    exact a_to (k_R_outward_19 C hr hR (-x1_1) M h) rfl
theorem ct_R_outward {l : Launch} {g : GT} {ext : List CD} {post : Int32 → Mem → Prop} {x0 : Int32} {M : Mem} (h : P_R_outward post x0 M) : CI l g (layC ++ ext) yX11_outward cX11_outward 2 (some .int) 0 [.int x0] M post :=
  ci_of (plainFor_of_name (by decide +kernel)) (Nat.le_of_ble_eq_true rfl) (fun X A Z hl C hr hR => by subst hl; exact k_R_outward C hr hR x0 M h)
def T_cX5_someHoldsL : List (Nat × Instr × Nat) := [(0, .aload_n 0, 1), (1, .iload_n 1, 1), (2, .invokevirtual 42, 3), (5, .iconst 1, 1), (6, .istore_n 2, 1), (7, .iload_n 2, 1), (8, .bipush 90, 2), (10, .if_icmp .gt 35, 3), (13, .bipush (-9), 2), (15, .istore_n 3, 1), (16, .iload_n 3, 1), (17, .bipush 9, 2), (19, .if_icmp .gt 20, 3), (22, .aload_n 0, 1), (23, .iload_n 2, 1), (24, .iload_n 3, 1), (25, .invokevirtual 59, 3), (28, .ifCond .eq 5, 3), (31, .iconst 1, 1), (32, .ireturn, 1), (33, .iinc 3 1, 3), (36, .goto (-20), 3), (39, .iinc 2 1, 3), (42, .goto (-35), 3), (45, .iconst 0, 1), (46, .ireturn, 1)]
theorem T_cX5_someHolds : tabOK cX5_someHolds T_cX5_someHoldsL = true := by decide +kernel
def P_Laws_someHolds_16 (post : Int32 → Mem → Prop) (R7 : Int32 → Mem → Prop) : Nat → Int32 → Int32 → Mem → Prop
  | 0, _, _, _ => False
  | n + 1, x2, x3, M =>
    ((9 : Int32) < x3 → (R7 (x2 + (1 : Int32)) M)) ∧
  (¬ (9 : Int32) < x3 → (P_Laws_meetsAll (fun r1 M1 =>
  (r1 = 0 → (P_Laws_someHolds_16 post R7 n x2 (x3 + (1 : Int32)) M1)) ∧
  (¬ r1 = 0 → (post (1 : Int32) M1))) x2 x3 M))
theorem k_Laws_someHolds_16 {X : FX} {g : GT} {ext : List CD} {A : Nat → Prop} {Z : State → Prop} {post : Int32 → Mem → Prop} {R7 : Int32 → Mem → Prop} (C : Cx X g (layC ++ ext) A cX5_someHolds 4 RX5 4) (hr : 0 ≤ X.2.2.2.1.cells ∧ 0 ≤ X.2.2.2.1.slots) (hR : RetZ X g (layC ++ ext) A cX5_someHolds 4 0 0 Z post) (k7 : ∀ (y2 : Int32) (M : Mem), R7 y2 M → AtX X g (layC ++ ext) A 4 0 0 Z 7 [(0, .ref (ad g 63)), (2, .int y2)] [] M) : ∀ (n : Nat) (x2 x3 : Int32) (M : Mem), P_Laws_someHolds_16 post R7 n x2 x3 M → AtX X g (layC ++ ext) A 4 0 0 Z 16 [(0, .ref (ad g 63)), (2, .int x2), (3, .int x3)] [] M := by
  intro n
  induction n with
  | zero =>
    intro x2 x3 M h
    exact h.elim
  | succ n ih =>
    intro x2 x3 M h
    refine a_iload_n C (tk T_cX5_someHolds 10 rfl) rfl ?_
    refine a_bipush C (9 : Int32) (tk T_cX5_someHolds 11 rfl) kB_9 ?_
    refine a_icmp_gt C 39 (tk T_cX5_someHolds 12 rfl) rfl (fun c => ?_) (fun c => ?_)
    · have h := h.1 c
      refine a_iinc C (1 : Int32) (tk T_cX5_someHolds 22 rfl) rfl kI_1 (by decide) rfl ?_
      refine a_goto C 7 (tk T_cX5_someHolds 23 rfl) rfl ?_
      exact a_to (k7 (x2 + (1 : Int32)) M h) rfl
    · have h := h.2 c
      refine a_aload_n C (tk T_cX5_someHolds 13 rfl) rfl ?_
      refine a_iload_n C (tk T_cX5_someHolds 14 rfl) rfl ?_
      refine a_iload_n C (tk T_cX5_someHolds 15 rfl) rfl ?_
      refine a_callI C [.int x2, .int x3] me_yX5_meetsAll lk_RX5_59 (ct_Laws_meetsAll h) (by decide) lc63 rfl rfl rfl (Nat.le_of_ble_eq_true rfl) (tk T_cX5_someHolds 16 rfl) hr (fun r1 M1 h => ?_)
      refine a_if_eq C 33 (tk T_cX5_someHolds 17 rfl) rfl (fun c => ?_) (fun c => ?_)
      · have h := h.1 c
        refine a_iinc C (1 : Int32) (tk T_cX5_someHolds 20 rfl) rfl kI_1 (by decide) rfl ?_
        refine a_goto C 16 (tk T_cX5_someHolds 21 rfl) rfl ?_
        exact a_to (ih x2 (x3 + (1 : Int32)) M1 h) rfl
      · have h := h.2 c
        refine a_iconst C (1 : Int32) (tk T_cX5_someHolds 18 rfl) kI_1 ?_
        exact hR _ _ _ _ (tk T_cX5_someHolds 19 rfl) ⟨Or.inr rfl, h⟩
def P_Laws_someHolds_7 (post : Int32 → Mem → Prop) : Nat → Int32 → Mem → Prop
  | 0, _, _ => False
  | n + 1, x2, M =>
    ((90 : Int32) < x2 → (post (0 : Int32) M)) ∧
  (¬ (90 : Int32) < x2 → (∃ j16, P_Laws_someHolds_16 post (P_Laws_someHolds_7 post n) j16 x2 (-9 : Int32) M))
theorem k_Laws_someHolds_7 {X : FX} {g : GT} {ext : List CD} {A : Nat → Prop} {Z : State → Prop} {post : Int32 → Mem → Prop} (C : Cx X g (layC ++ ext) A cX5_someHolds 4 RX5 4) (hr : 0 ≤ X.2.2.2.1.cells ∧ 0 ≤ X.2.2.2.1.slots) (hR : RetZ X g (layC ++ ext) A cX5_someHolds 4 0 0 Z post) : ∀ (n : Nat) (x2 : Int32) (M : Mem), P_Laws_someHolds_7 post n x2 M → AtX X g (layC ++ ext) A 4 0 0 Z 7 [(0, .ref (ad g 63)), (2, .int x2)] [] M := by
  intro n
  induction n with
  | zero =>
    intro x2 M h
    exact h.elim
  | succ n ih =>
    intro x2 M h
    refine a_iload_n C (tk T_cX5_someHolds 5 rfl) rfl ?_
    refine a_bipush C (90 : Int32) (tk T_cX5_someHolds 6 rfl) kB_90 ?_
    refine a_icmp_gt C 45 (tk T_cX5_someHolds 7 rfl) rfl (fun c => ?_) (fun c => ?_)
    · have h := h.1 c
      refine a_iconst C (0 : Int32) (tk T_cX5_someHolds 24 rfl) kI_0 ?_
      exact hR _ _ _ _ (tk T_cX5_someHolds 25 rfl) ⟨Or.inl rfl, h⟩
    · have h := h.2 c
      refine a_bipush C (-9 : Int32) (tk T_cX5_someHolds 8 rfl) kB_m9 ?_
      refine a_istore_n C (tk T_cX5_someHolds 9 rfl) (by decide) rfl ?_
      obtain ⟨n1, h⟩ := h
      exact a_to (k_Laws_someHolds_16 C hr hR ih n1 x2 (-9 : Int32) M h) rfl
def P_Laws_someHolds (post : Int32 → Mem → Prop) (x1 : Int32) (M : Mem) : Prop :=
  P_Laws_putPlaces (fun M1 =>
  ∃ j7, P_Laws_someHolds_7 post j7 (1 : Int32) M1) x1 M
theorem k_Laws_someHolds {X : FX} {g : GT} {ext : List CD} {A : Nat → Prop} {Z : State → Prop} {post : Int32 → Mem → Prop} (C : Cx X g (layC ++ ext) A cX5_someHolds 4 RX5 4) (hr : 0 ≤ X.2.2.2.1.cells ∧ 0 ≤ X.2.2.2.1.slots) (hR : RetZ X g (layC ++ ext) A cX5_someHolds 4 0 0 Z post) (x1 : Int32) (M : Mem) (h : P_Laws_someHolds post x1 M) : AtX X g (layC ++ ext) A 4 0 0 Z 0 [(0, .ref (ad g 63)), (1, .int x1)] [] M := by
  refine a_aload_n C (tk T_cX5_someHolds 0 rfl) rfl ?_
  refine a_iload_n C (tk T_cX5_someHolds 1 rfl) rfl ?_
  refine a_callV C [.int x1] me_yX5_putPlaces lk_RX5_42 (ct_Laws_putPlaces h) (by decide) lc63 rfl rfl rfl (Nat.le_of_ble_eq_true rfl) (tk T_cX5_someHolds 2 rfl) hr (fun M1 h => ?_)
  refine a_iconst C (1 : Int32) (tk T_cX5_someHolds 3 rfl) kI_1 ?_
  refine a_istore_n C (tk T_cX5_someHolds 4 rfl) (by decide) rfl ?_
  obtain ⟨n1, h⟩ := h
  exact a_to (k_Laws_someHolds_7 C hr hR n1 (1 : Int32) M1 h) rfl
theorem ct_Laws_someHolds {l : Launch} {g : GT} {ext : List CD} {post : Int32 → Mem → Prop} {x1 : Int32} {M : Mem} (h : P_Laws_someHolds post x1 M) : CI l g (layC ++ ext) yX5_someHolds cX5_someHolds 4 (some .boolean) 4 [.ref (ad g 63), .int x1] M post :=
  cz_of (plainFor_of_name (by decide +kernel)) (Nat.le_of_ble_eq_true rfl) (fun X A Z hl C hr hR => by subst hl; exact k_Laws_someHolds C hr hR x1 M h)
def T_cX11_slippedL : List (Nat × Instr × Nat) := [(0, .iconst 0, 1), (1, .istore_n 1, 1), (2, .iload_n 1, 1), (3, .bipush 60, 2), (5, .if_icmp .gt 28, 3), (8, .aload_n 0, 1), (9, .getfield 24, 3), (12, .iload_n 1, 1), (13, .invokestatic 182, 3), (16, .invokevirtual 185, 3), (19, .ifCond .eq 8, 3), (22, .iload_n 1, 1), (23, .invokestatic 182, 3), (26, .ireturn, 1), (27, .iinc 1 1, 3), (30, .goto (-28), 3), (33, .bipush 99, 2), (35, .ireturn, 1)]
theorem T_cX11_slipped : tabOK cX11_slipped T_cX11_slippedL = true := by decide +kernel
def P_R_slipped_2 (post : Int32 → Mem → Prop) : Nat → Int32 → Mem → Prop
  | 0, _, _ => False
  | n + 1, x1, M =>
    ((60 : Int32) < x1 → (post (99 : Int32) M)) ∧
  (¬ (60 : Int32) < x1 → (P_R_outward (fun r1 M1 =>
  P_Laws_someHolds (fun r2 M2 =>
  (r2 = 0 → (P_R_slipped_2 post n (x1 + (1 : Int32)) M2)) ∧
  (¬ r2 = 0 → (P_R_outward (fun r3 M3 =>
  post r3 M3) x1 M2))) r1 M1) x1 M))
theorem k_R_slipped_2 {X : FX} {g : GT} {ext : List CD} {A : Nat → Prop} {Z : State → Prop} {post : Int32 → Mem → Prop} (C : Cx X g (layC ++ ext) A cX11_slipped 2 RX11 5) (hr : 0 ≤ X.2.2.2.1.cells ∧ 0 ≤ X.2.2.2.1.slots) (hR : RetI X g (layC ++ ext) A cX11_slipped 2 0 0 Z post) : ∀ (n : Nat) (x1 : Int32) (M : Mem), P_R_slipped_2 post n x1 M → AtX X g (layC ++ ext) A 2 0 0 Z 2 [(0, .ref (ad g 0)), (1, .int x1)] [] M := by
  intro n
  induction n with
  | zero =>
    intro x1 M h
    exact h.elim
  | succ n ih =>
    intro x1 M h
    refine a_iload_n C (tk T_cX11_slipped 2 rfl) rfl ?_
    refine a_bipush C (60 : Int32) (tk T_cX11_slipped 3 rfl) kB_60 ?_
    refine a_icmp_gt C 33 (tk T_cX11_slipped 4 rfl) rfl (fun c => ?_) (fun c => ?_)
    · have h := h.1 c
      refine a_bipush C (99 : Int32) (tk T_cX11_slipped 16 rfl) kB_99 ?_
      exact hR _ _ _ _ (tk T_cX11_slipped 17 rfl) h
    · have h := h.2 c
      refine a_aload_n C (tk T_cX11_slipped 5 rfl) rfl ?_
      refine a_getR C f_RX11_24 (tk T_cX11_slipped 6 rfl) lc0 rfl ?_
      refine a_iload_n C (tk T_cX11_slipped 7 rfl) rfl ?_
      refine a_statI C [.int x1] me_yX11_outward lk_RX11_182 (ct_R_outward h) (by decide) rfl rfl (Nat.le_of_ble_eq_true rfl) (tk T_cX11_slipped 8 rfl) hr (fun r1 M1 h => ?_)
      refine a_callI C [.int r1] me_yX5_someHolds lk_RX11_185 (ct_Laws_someHolds h) (by decide) lc63 rfl rfl rfl (Nat.le_of_ble_eq_true rfl) (tk T_cX11_slipped 9 rfl) hr (fun r2 M2 h => ?_)
      refine a_if_eq C 27 (tk T_cX11_slipped 10 rfl) rfl (fun c => ?_) (fun c => ?_)
      · have h := h.1 c
        refine a_iinc C (1 : Int32) (tk T_cX11_slipped 14 rfl) rfl kI_1 (by decide) rfl ?_
        refine a_goto C 2 (tk T_cX11_slipped 15 rfl) rfl ?_
        exact a_to (ih (x1 + (1 : Int32)) M2 h) rfl
      · have h := h.2 c
        refine a_iload_n C (tk T_cX11_slipped 11 rfl) rfl ?_
        refine a_statI C [.int x1] me_yX11_outward lk_RX11_182 (ct_R_outward h) (by decide) rfl rfl (Nat.le_of_ble_eq_true rfl) (tk T_cX11_slipped 12 rfl) hr (fun r3 M3 h => ?_)
        exact hR _ _ _ _ (tk T_cX11_slipped 13 rfl) h
def P_R_slipped (post : Int32 → Mem → Prop) (M : Mem) : Prop :=
  ∃ j2, P_R_slipped_2 post j2 (0 : Int32) M
theorem k_R_slipped {X : FX} {g : GT} {ext : List CD} {A : Nat → Prop} {Z : State → Prop} {post : Int32 → Mem → Prop} (C : Cx X g (layC ++ ext) A cX11_slipped 2 RX11 5) (hr : 0 ≤ X.2.2.2.1.cells ∧ 0 ≤ X.2.2.2.1.slots) (hR : RetI X g (layC ++ ext) A cX11_slipped 2 0 0 Z post) (M : Mem) (h : P_R_slipped post M) : AtX X g (layC ++ ext) A 2 0 0 Z 0 [(0, .ref (ad g 0))] [] M := by
  refine a_iconst C (0 : Int32) (tk T_cX11_slipped 0 rfl) kI_0 ?_
  refine a_istore_n C (tk T_cX11_slipped 1 rfl) (by decide) rfl ?_
  obtain ⟨n1, h⟩ := h
  exact a_to (k_R_slipped_2 C hr hR n1 (0 : Int32) M h) rfl
theorem ct_R_slipped {l : Launch} {g : GT} {ext : List CD} {post : Int32 → Mem → Prop} {M : Mem} (h : P_R_slipped post M) : CI l g (layC ++ ext) yX11_slipped cX11_slipped 2 (some .int) 5 [.ref (ad g 0)] M post :=
  ci_of (plainFor_of_name (by decide +kernel)) (Nat.le_of_ble_eq_true rfl) (fun X A Z hl C hr hR => by subst hl; exact k_R_slipped C hr hR  M h)
def T_cX11_elementL : List (Nat × Instr × Nat) := [(0, .aload_n 0, 1), (1, .getfield 10, 3), (4, .getfield 188, 3), (7, .getfield 192, 3), (10, .bipush 6, 2), (12, .if_icmp .ge 7, 3), (15, .iconst 1, 1), (16, .goto 4, 3), (19, .iconst 0, 1), (20, .invokestatic 104, 3), (23, .aload_n 0, 1), (24, .getfield 10, 3), (27, .getfield 188, 3), (30, .getfield 192, 3), (33, .istore_n 2, 1), (34, .aload_n 0, 1), (35, .getfield 10, 3), (38, .getfield 188, 3), (41, .getfield 195, 3), (44, .iload_n 2, 1), (45, .iload_n 1, 1), (46, .bastore, 1), (47, .aload_n 0, 1), (48, .getfield 10, 3), (51, .getfield 188, 3), (54, .getfield 198, 3), (57, .iload_n 2, 1), (58, .iconst 0, 1), (59, .iastore, 1), (60, .aload_n 0, 1), (61, .getfield 10, 3), (64, .getfield 188, 3), (67, .iload_n 2, 1), (68, .iconst 1, 1), (69, .iadd, 1), (70, .putfield 192, 3), (73, .iload_n 2, 1), (74, .ireturn, 1)]
theorem T_cX11_element : tabOK cX11_element T_cX11_elementL = true := by decide +kernel
def P_R_element_20 (post : Int32 → Mem → Prop) (ex : String → Mem → Prop) (x1 s0 : Int32) (M : Mem) : Prop :=
  P_R_wantRoom (fun M1 =>
  vp_in (M1 13 4) 6 ∧ ∀ M2, M2 = ms M1 14 (M1 13 4).toNatClampNeg (vp_nar .boolean x1) → vp_in (M1 13 4) 6 ∧ ∀ M3, M3 = ms M2 15 (M1 13 4).toNatClampNeg (0 : Int32) → ∀ M4, M4 = ms M3 13 4 ((M1 13 4) + (1 : Int32)) → post (M1 13 4) M4) ex s0 M
theorem k_R_element_20 {X : FX} {g : GT} {ext : List CD} {A : Nat → Prop} {Z : State → Prop} {post : Int32 → Mem → Prop} {ex : String → Mem → Prop} {sk : Nat → Nat} (C : CxX X g (layC ++ ext) A cX11_element 3 RX11 7 1 sk) (hT : ThX X g (layC ++ ext) A 1 Z ex) (hR : RetI X g (layC ++ ext) A cX11_element 3 1 (6 * 1) Z post) (x1 s0 : Int32) (M : Mem) (h : P_R_element_20 post ex x1 s0 M) : AtX X g (layC ++ ext) A 3 0 (6 * 0) Z 20 [(0, .ref (ad g 0)), (1, .int x1)] [.int s0] M := by
  refine x_statV C hT [.int s0] me_yX11_wantRoom lk_RX11_104 (ct_R_wantRoom h) (by decide) rfl rfl (Nat.le_of_ble_eq_true rfl) (tk T_cX11_element 9 rfl) (by decide) (fun M1 h => ?_)
  refine a_aload_n C.1 (tk T_cX11_element 10 rfl) rfl ?_
  refine a_getR C.1 f_RX11_10 (tk T_cX11_element 11 rfl) lc0 rfl ?_
  refine a_getR C.1 f_RX11_188 (tk T_cX11_element 12 rfl) lc1 rfl ?_
  refine a_getI C.1 f_RX11_192 (tk T_cX11_element 13 rfl) lc13 rfl ?_
  refine a_istore_n C.1 (tk T_cX11_element 14 rfl) (by decide) rfl ?_
  refine a_aload_n C.1 (tk T_cX11_element 15 rfl) rfl ?_
  refine a_getR C.1 f_RX11_10 (tk T_cX11_element 16 rfl) lc0 rfl ?_
  refine a_getR C.1 f_RX11_188 (tk T_cX11_element 17 rfl) lc1 rfl ?_
  refine a_getR C.1 f_RX11_195 (tk T_cX11_element 18 rfl) lc13 rfl ?_
  refine a_iload_n C.1 (tk T_cX11_element 19 rfl) rfl ?_
  refine a_iload_n C.1 (tk T_cX11_element 20 rfl) rfl ?_
  obtain ⟨hb, h⟩ := h
  refine a_zast C.1 (tk T_cX11_element 21 rfl) lc14 hb ?_
  refine a_mem (fun M2 e_M2 => ?_)
  have h := h M2 e_M2
  refine a_aload_n C.1 (tk T_cX11_element 22 rfl) rfl ?_
  refine a_getR C.1 f_RX11_10 (tk T_cX11_element 23 rfl) lc0 rfl ?_
  refine a_getR C.1 f_RX11_188 (tk T_cX11_element 24 rfl) lc1 rfl ?_
  refine a_getR C.1 f_RX11_198 (tk T_cX11_element 25 rfl) lc13 rfl ?_
  refine a_iload_n C.1 (tk T_cX11_element 26 rfl) rfl ?_
  refine a_iconst C.1 (0 : Int32) (tk T_cX11_element 27 rfl) kI_0 ?_
  obtain ⟨hb, h⟩ := h
  refine a_iast C.1 (tk T_cX11_element 28 rfl) lc15 hb ?_
  refine a_mem (fun M3 e_M3 => ?_)
  have h := h M3 e_M3
  refine a_aload_n C.1 (tk T_cX11_element 29 rfl) rfl ?_
  refine a_getR C.1 f_RX11_10 (tk T_cX11_element 30 rfl) lc0 rfl ?_
  refine a_getR C.1 f_RX11_188 (tk T_cX11_element 31 rfl) lc1 rfl ?_
  refine a_iload_n C.1 (tk T_cX11_element 32 rfl) rfl ?_
  refine a_iconst C.1 (1 : Int32) (tk T_cX11_element 33 rfl) kI_1 ?_
  refine a_iadd C.1 (tk T_cX11_element 34 rfl) ?_
  refine a_put C.1 f_RX11_192 f_RX11_192p rfl rfl (tk T_cX11_element 35 rfl) lc13 rfl ?_
  refine a_mem (fun M4 e_M4 => ?_)
  have h := h M4 e_M4
  refine a_iload_n C.1 (tk T_cX11_element 36 rfl) rfl ?_
  exact x_widen (by decide) (by decide) (hR _ _ _ _ (tk T_cX11_element 37 rfl) h)
def P_R_element (post : Int32 → Mem → Prop) (ex : String → Mem → Prop) (x1 : Int32) (M : Mem) : Prop :=
  ((6 : Int32) ≤ (M 13 4) → (P_R_element_20 post ex x1 (0 : Int32) M)) ∧
  (¬ (6 : Int32) ≤ (M 13 4) → (P_R_element_20 post ex x1 (1 : Int32) M))
theorem k_R_element {X : FX} {g : GT} {ext : List CD} {A : Nat → Prop} {Z : State → Prop} {post : Int32 → Mem → Prop} {ex : String → Mem → Prop} {sk : Nat → Nat} (C : CxX X g (layC ++ ext) A cX11_element 3 RX11 7 1 sk) (hT : ThX X g (layC ++ ext) A 1 Z ex) (hR : RetI X g (layC ++ ext) A cX11_element 3 1 (6 * 1) Z post) (x1 : Int32) (M : Mem) (h : P_R_element post ex x1 M) : AtX X g (layC ++ ext) A 3 0 0 Z 0 [(0, .ref (ad g 0)), (1, .int x1)] [] M := by
  refine a_aload_n C.1 (tk T_cX11_element 0 rfl) rfl ?_
  refine a_getR C.1 f_RX11_10 (tk T_cX11_element 1 rfl) lc0 rfl ?_
  refine a_getR C.1 f_RX11_188 (tk T_cX11_element 2 rfl) lc1 rfl ?_
  refine a_getI C.1 f_RX11_192 (tk T_cX11_element 3 rfl) lc13 rfl ?_
  refine a_bipush C.1 (6 : Int32) (tk T_cX11_element 4 rfl) kB_6 ?_
  refine a_icmp_ge C.1 19 (tk T_cX11_element 5 rfl) rfl (fun c => ?_) (fun c => ?_)
  · have h := h.1 c
    refine a_iconst C.1 (0 : Int32) (tk T_cX11_element 8 rfl) kI_0 ?_
    exact x_widen (by decide) (by decide) (a_to (k_R_element_20 C hT hR x1 (0 : Int32) M h) rfl)
  · have h := h.2 c
    refine a_iconst C.1 (1 : Int32) (tk T_cX11_element 6 rfl) kI_1 ?_
    refine a_goto C.1 20 (tk T_cX11_element 7 rfl) rfl ?_
    exact x_widen (by decide) (by decide) (a_to (k_R_element_20 C hT hR x1 (1 : Int32) M h) rfl)
theorem ct_R_element {l : Launch} {g : GT} {ext : List CD} {sk : Nat → Nat} {post : Int32 → Mem → Prop} {ex : String → Mem → Prop} {x1 : Int32} {M : Mem} (h : P_R_element post ex x1 M) : XI l g (layC ++ ext) sk yX11_element cX11_element 3 (some .int) 7 1 [.ref (ad g 0), .int x1] M post ex :=
  xi_of (by decide +kernel) (Nat.le_of_ble_eq_true rfl) (fun X A Z hl C hR hT _ => by subst hl; exact k_R_element C hT hR x1 M h)
def T_cX11_lineL : List (Nat × Instr × Nat) := [(0, .iload_n 1, 1), (1, .iconst 0, 1), (2, .aload_n 0, 1), (3, .getfield 10, 3), (6, .getfield 188, 3), (9, .getfield 192, 3), (12, .iconst 1, 1), (13, .isub, 1), (14, .invokestatic 68, 3), (17, .invokestatic 201, 3), (20, .iload_n 2, 1), (21, .invokestatic 141, 3), (24, .ifCond .eq 17, 3), (27, .iload_n 3, 1), (28, .iconst 1, 1), (29, .bipush 9, 2), (31, .invokestatic 68, 3), (34, .ifCond .eq 7, 3), (37, .iconst 1, 1), (38, .goto 4, 3), (41, .iconst 0, 1), (42, .invokestatic 72, 3), (45, .aload_n 0, 1), (46, .getfield 10, 3), (49, .getfield 188, 3), (52, .getfield 198, 3), (55, .iload_n 1, 1), (56, .iaload, 1), (57, .bipush 6, 2), (59, .if_icmp .ge 7, 3), (62, .iconst 1, 1), (63, .goto 4, 3), (66, .iconst 0, 1), (67, .invokestatic 104, 3), (70, .aload_n 0, 1), (71, .getfield 10, 3), (74, .getfield 188, 3), (77, .getfield 198, 3), (80, .iload_n 1, 1), (81, .iaload, 1), (82, .istore 4, 2), (84, .iload_n 1, 1), (85, .bipush 6, 2), (87, .imul, 1), (88, .iload 4, 2), (90, .iadd, 1), (91, .istore 5, 2), (93, .aload_n 0, 1), (94, .getfield 10, 3), (97, .getfield 188, 3), (100, .getfield 204, 3), (103, .iload 5, 2), (105, .iload_n 2, 1), (106, .iastore, 1), (107, .aload_n 0, 1), (108, .getfield 10, 3), (111, .getfield 188, 3), (114, .getfield 205, 3), (117, .iload 5, 2), (119, .iload_n 3, 1), (120, .iastore, 1), (121, .aload_n 0, 1), (122, .getfield 10, 3), (125, .getfield 188, 3), (128, .getfield 198, 3), (131, .iload_n 1, 1), (132, .iload 4, 2), (134, .iconst 1, 1), (135, .iadd, 1), (136, .iastore, 1), (137, .iload 4, 2), (139, .ireturn, 1)]
theorem T_cX11_line : tabOK cX11_line T_cX11_lineL = true := by decide +kernel
def P_R_line_67 (post : Int32 → Mem → Prop) (ex : String → Mem → Prop) (x1 x2 x3 s0 : Int32) (M : Mem) : Prop :=
  P_R_wantRoom (fun M1 =>
  vp_in x1 6 ∧ ∀ x5_2, x5_2 = ((x1 * (6 : Int32)) + (M1 15 x1.toNatClampNeg)) → vp_in x5_2 36 ∧ ∀ M3, M3 = ms M1 16 x5_2.toNatClampNeg x2 → vp_in x5_2 36 ∧ ∀ M4, M4 = ms M3 17 x5_2.toNatClampNeg x3 → vp_in x1 6 ∧ ∀ M5, M5 = ms M4 15 x1.toNatClampNeg ((M1 15 x1.toNatClampNeg) + (1 : Int32)) → post (M1 15 x1.toNatClampNeg) M5) ex s0 M
theorem k_R_line_67 {X : FX} {g : GT} {ext : List CD} {A : Nat → Prop} {Z : State → Prop} {post : Int32 → Mem → Prop} {ex : String → Mem → Prop} {sk : Nat → Nat} (C : CxX X g (layC ++ ext) A cX11_line 6 RX11 7 3 sk) (hT : ThX X g (layC ++ ext) A 3 Z ex) (hR : RetI X g (layC ++ ext) A cX11_line 6 3 (6 * 3) Z post) (x1 x2 x3 s0 : Int32) (M : Mem) (h : P_R_line_67 post ex x1 x2 x3 s0 M) : AtX X g (layC ++ ext) A 6 2 (6 * 2) Z 67 [(0, .ref (ad g 0)), (1, .int x1), (2, .int x2), (3, .int x3)] [.int s0] M := by
  refine x_statV C hT [.int s0] me_yX11_wantRoom lk_RX11_104 (ct_R_wantRoom h) (by decide) rfl rfl (Nat.le_of_ble_eq_true rfl) (tk T_cX11_line 33 rfl) (by decide) (fun M1 h => ?_)
  refine a_aload_n C.1 (tk T_cX11_line 34 rfl) rfl ?_
  refine a_getR C.1 f_RX11_10 (tk T_cX11_line 35 rfl) lc0 rfl ?_
  refine a_getR C.1 f_RX11_188 (tk T_cX11_line 36 rfl) lc1 rfl ?_
  refine a_getR C.1 f_RX11_198 (tk T_cX11_line 37 rfl) lc13 rfl ?_
  refine a_iload_n C.1 (tk T_cX11_line 38 rfl) rfl ?_
  obtain ⟨hb, h⟩ := h
  refine a_iald C.1 (tk T_cX11_line 39 rfl) lc15 hb ?_
  refine a_istore C.1 (tk T_cX11_line 40 rfl) (by decide) rfl ?_
  refine a_iload_n C.1 (tk T_cX11_line 41 rfl) rfl ?_
  refine a_bipush C.1 (6 : Int32) (tk T_cX11_line 42 rfl) kB_6 ?_
  refine a_imul C.1 (tk T_cX11_line 43 rfl) ?_
  refine a_iload C.1 (tk T_cX11_line 44 rfl) rfl ?_
  refine a_iadd C.1 (tk T_cX11_line 45 rfl) ?_
  refine a_top (fun x5_2 e_x5_2 => ?_)
  have h := h x5_2 e_x5_2
  refine a_istore C.1 (tk T_cX11_line 46 rfl) (by decide) rfl ?_
  refine a_aload_n C.1 (tk T_cX11_line 47 rfl) rfl ?_
  refine a_getR C.1 f_RX11_10 (tk T_cX11_line 48 rfl) lc0 rfl ?_
  refine a_getR C.1 f_RX11_188 (tk T_cX11_line 49 rfl) lc1 rfl ?_
  refine a_getR C.1 f_RX11_204 (tk T_cX11_line 50 rfl) lc13 rfl ?_
  refine a_iload C.1 (tk T_cX11_line 51 rfl) rfl ?_
  refine a_iload_n C.1 (tk T_cX11_line 52 rfl) rfl ?_
  obtain ⟨hb, h⟩ := h
  refine a_iast C.1 (tk T_cX11_line 53 rfl) lc16 hb ?_
  refine a_mem (fun M3 e_M3 => ?_)
  have h := h M3 e_M3
  refine a_aload_n C.1 (tk T_cX11_line 54 rfl) rfl ?_
  refine a_getR C.1 f_RX11_10 (tk T_cX11_line 55 rfl) lc0 rfl ?_
  refine a_getR C.1 f_RX11_188 (tk T_cX11_line 56 rfl) lc1 rfl ?_
  refine a_getR C.1 f_RX11_205 (tk T_cX11_line 57 rfl) lc13 rfl ?_
  refine a_iload C.1 (tk T_cX11_line 58 rfl) rfl ?_
  refine a_iload_n C.1 (tk T_cX11_line 59 rfl) rfl ?_
  obtain ⟨hb, h⟩ := h
  refine a_iast C.1 (tk T_cX11_line 60 rfl) lc17 hb ?_
  refine a_mem (fun M4 e_M4 => ?_)
  have h := h M4 e_M4
  refine a_aload_n C.1 (tk T_cX11_line 61 rfl) rfl ?_
  refine a_getR C.1 f_RX11_10 (tk T_cX11_line 62 rfl) lc0 rfl ?_
  refine a_getR C.1 f_RX11_188 (tk T_cX11_line 63 rfl) lc1 rfl ?_
  refine a_getR C.1 f_RX11_198 (tk T_cX11_line 64 rfl) lc13 rfl ?_
  refine a_iload_n C.1 (tk T_cX11_line 65 rfl) rfl ?_
  refine a_iload C.1 (tk T_cX11_line 66 rfl) rfl ?_
  refine a_iconst C.1 (1 : Int32) (tk T_cX11_line 67 rfl) kI_1 ?_
  refine a_iadd C.1 (tk T_cX11_line 68 rfl) ?_
  obtain ⟨hb, h⟩ := h
  refine a_iast C.1 (tk T_cX11_line 69 rfl) lc15 hb ?_
  refine a_mem (fun M5 e_M5 => ?_)
  have h := h M5 e_M5
  refine a_iload C.1 (tk T_cX11_line 70 rfl) rfl ?_
  exact x_widen (by decide) (by decide) (hR _ _ _ _ (tk T_cX11_line 71 rfl) h)
def P_R_line_42 (post : Int32 → Mem → Prop) (ex : String → Mem → Prop) (x1 x2 x3 s0 : Int32) (M : Mem) : Prop :=
  P_R_wantNumber (fun M1 =>
  vp_in x1 6 ∧ ((6 : Int32) ≤ (M1 15 x1.toNatClampNeg) → (P_R_line_67 post ex x1 x2 x3 (0 : Int32) M1)) ∧
  (¬ (6 : Int32) ≤ (M1 15 x1.toNatClampNeg) → (P_R_line_67 post ex x1 x2 x3 (1 : Int32) M1))) ex s0 M
theorem k_R_line_42 {X : FX} {g : GT} {ext : List CD} {A : Nat → Prop} {Z : State → Prop} {post : Int32 → Mem → Prop} {ex : String → Mem → Prop} {sk : Nat → Nat} (C : CxX X g (layC ++ ext) A cX11_line 6 RX11 7 3 sk) (hT : ThX X g (layC ++ ext) A 3 Z ex) (hR : RetI X g (layC ++ ext) A cX11_line 6 3 (6 * 3) Z post) (x1 x2 x3 s0 : Int32) (M : Mem) (h : P_R_line_42 post ex x1 x2 x3 s0 M) : AtX X g (layC ++ ext) A 6 1 (6 * 1) Z 42 [(0, .ref (ad g 0)), (1, .int x1), (2, .int x2), (3, .int x3)] [.int s0] M := by
  refine x_statV C hT [.int s0] me_yX11_wantNumber lk_RX11_72 (ct_R_wantNumber h) (by decide) rfl rfl (Nat.le_of_ble_eq_true rfl) (tk T_cX11_line 21 rfl) (by decide) (fun M1 h => ?_)
  refine a_aload_n C.1 (tk T_cX11_line 22 rfl) rfl ?_
  refine a_getR C.1 f_RX11_10 (tk T_cX11_line 23 rfl) lc0 rfl ?_
  refine a_getR C.1 f_RX11_188 (tk T_cX11_line 24 rfl) lc1 rfl ?_
  refine a_getR C.1 f_RX11_198 (tk T_cX11_line 25 rfl) lc13 rfl ?_
  refine a_iload_n C.1 (tk T_cX11_line 26 rfl) rfl ?_
  obtain ⟨hb, h⟩ := h
  refine a_iald C.1 (tk T_cX11_line 27 rfl) lc15 hb ?_
  refine a_bipush C.1 (6 : Int32) (tk T_cX11_line 28 rfl) kB_6 ?_
  refine a_icmp_ge C.1 66 (tk T_cX11_line 29 rfl) rfl (fun c => ?_) (fun c => ?_)
  · have h := h.1 c
    refine a_iconst C.1 (0 : Int32) (tk T_cX11_line 32 rfl) kI_0 ?_
    exact x_widen (by decide) (by decide) (a_to (k_R_line_67 C hT hR x1 x2 x3 (0 : Int32) M1 h) rfl)
  · have h := h.2 c
    refine a_iconst C.1 (1 : Int32) (tk T_cX11_line 30 rfl) kI_1 ?_
    refine a_goto C.1 67 (tk T_cX11_line 31 rfl) rfl ?_
    exact x_widen (by decide) (by decide) (a_to (k_R_line_67 C hT hR x1 x2 x3 (1 : Int32) M1 h) rfl)
def P_R_line_41 (post : Int32 → Mem → Prop) (ex : String → Mem → Prop) (x1 x2 x3 : Int32) (M : Mem) : Prop :=
  P_R_line_42 post ex x1 x2 x3 (0 : Int32) M
theorem k_R_line_41 {X : FX} {g : GT} {ext : List CD} {A : Nat → Prop} {Z : State → Prop} {post : Int32 → Mem → Prop} {ex : String → Mem → Prop} {sk : Nat → Nat} (C : CxX X g (layC ++ ext) A cX11_line 6 RX11 7 3 sk) (hT : ThX X g (layC ++ ext) A 3 Z ex) (hR : RetI X g (layC ++ ext) A cX11_line 6 3 (6 * 3) Z post) (x1 x2 x3 : Int32) (M : Mem) (h : P_R_line_41 post ex x1 x2 x3 M) : AtX X g (layC ++ ext) A 6 1 (6 * 1) Z 41 [(0, .ref (ad g 0)), (1, .int x1), (2, .int x2), (3, .int x3)] [] M := by
  refine a_iconst C.1 (0 : Int32) (tk T_cX11_line 20 rfl) kI_0 ?_
  exact x_widen (by decide) (by decide) (a_to (k_R_line_42 C hT hR x1 x2 x3 (0 : Int32) M h) rfl)
def P_R_line (post : Int32 → Mem → Prop) (ex : String → Mem → Prop) (x1 x2 x3 : Int32) (M : Mem) : Prop :=
  P_R_within (fun r1 M1 =>
  P_R_wantThere (fun M2 =>
  P_R_isWave (fun r3 M3 =>
  (r3 = 0 → (P_R_line_41 post ex x1 x2 x3 M3)) ∧
  (¬ r3 = 0 → (P_R_within (fun r4 M4 =>
  (r4 = 0 → (P_R_line_41 post ex x1 x2 x3 M4)) ∧
  (¬ r4 = 0 → (P_R_line_42 post ex x1 x2 x3 (1 : Int32) M4))) x3 (1 : Int32) (9 : Int32) M3))) x2 M2) ex r1 M1) x1 (0 : Int32) ((M 13 4) - (1 : Int32)) M
theorem k_R_line {X : FX} {g : GT} {ext : List CD} {A : Nat → Prop} {Z : State → Prop} {post : Int32 → Mem → Prop} {ex : String → Mem → Prop} {sk : Nat → Nat} (C : CxX X g (layC ++ ext) A cX11_line 6 RX11 7 3 sk) (hT : ThX X g (layC ++ ext) A 3 Z ex) (hR : RetI X g (layC ++ ext) A cX11_line 6 3 (6 * 3) Z post) (x1 x2 x3 : Int32) (M : Mem) (h : P_R_line post ex x1 x2 x3 M) : AtX X g (layC ++ ext) A 6 0 0 Z 0 [(0, .ref (ad g 0)), (1, .int x1), (2, .int x2), (3, .int x3)] [] M := by
  refine a_iload_n C.1 (tk T_cX11_line 0 rfl) rfl ?_
  refine a_iconst C.1 (0 : Int32) (tk T_cX11_line 1 rfl) kI_0 ?_
  refine a_aload_n C.1 (tk T_cX11_line 2 rfl) rfl ?_
  refine a_getR C.1 f_RX11_10 (tk T_cX11_line 3 rfl) lc0 rfl ?_
  refine a_getR C.1 f_RX11_188 (tk T_cX11_line 4 rfl) lc1 rfl ?_
  refine a_getI C.1 f_RX11_192 (tk T_cX11_line 5 rfl) lc13 rfl ?_
  refine a_iconst C.1 (1 : Int32) (tk T_cX11_line 6 rfl) kI_1 ?_
  refine a_isub C.1 (tk T_cX11_line 7 rfl) ?_
  refine a_statI C.1 [.int x1, .int (0 : Int32), .int ((M 13 4) - (1 : Int32))] me_yX11_within lk_RX11_68 (ct_R_within h) (by decide) rfl rfl (Nat.le_of_ble_eq_true rfl) (tk T_cX11_line 8 rfl) ⟨Nat.le_trans (by decide) C.2.2.1, Nat.le_trans (by decide) C.2.2.2⟩ (fun r1 M1 h => ?_)
  refine x_statV C hT [.int r1] me_yX11_wantThere lk_RX11_201 (ct_R_wantThere h) (by decide) rfl rfl (Nat.le_of_ble_eq_true rfl) (tk T_cX11_line 9 rfl) (by decide) (fun M2 h => ?_)
  refine a_iload_n C.1 (tk T_cX11_line 10 rfl) rfl ?_
  refine a_statI C.1 [.int x2] me_yX11_isWave lk_RX11_141 (ct_R_isWave h) (by decide) rfl rfl (Nat.le_of_ble_eq_true rfl) (tk T_cX11_line 11 rfl) ⟨Nat.le_trans (by decide) C.2.2.1, Nat.le_trans (by decide) C.2.2.2⟩ (fun r3 M3 h => ?_)
  refine a_if_eq C.1 41 (tk T_cX11_line 12 rfl) rfl (fun c => ?_) (fun c => ?_)
  · have h := h.1 c
    exact x_widen (by decide) (by decide) (a_to (k_R_line_41 C hT hR x1 x2 x3 M3 h) rfl)
  · have h := h.2 c
    refine a_iload_n C.1 (tk T_cX11_line 13 rfl) rfl ?_
    refine a_iconst C.1 (1 : Int32) (tk T_cX11_line 14 rfl) kI_1 ?_
    refine a_bipush C.1 (9 : Int32) (tk T_cX11_line 15 rfl) kB_9 ?_
    refine a_statI C.1 [.int x3, .int (1 : Int32), .int (9 : Int32)] me_yX11_within lk_RX11_68 (ct_R_within h) (by decide) rfl rfl (Nat.le_of_ble_eq_true rfl) (tk T_cX11_line 16 rfl) ⟨Nat.le_trans (by decide) C.2.2.1, Nat.le_trans (by decide) C.2.2.2⟩ (fun r4 M4 h => ?_)
    refine a_if_eq C.1 41 (tk T_cX11_line 17 rfl) rfl (fun c => ?_) (fun c => ?_)
    · have h := h.1 c
      exact x_widen (by decide) (by decide) (a_to (k_R_line_41 C hT hR x1 x2 x3 M4 h) rfl)
    · have h := h.2 c
      refine a_iconst C.1 (1 : Int32) (tk T_cX11_line 18 rfl) kI_1 ?_
      refine a_goto C.1 42 (tk T_cX11_line 19 rfl) rfl ?_
      exact x_widen (by decide) (by decide) (a_to (k_R_line_42 C hT hR x1 x2 x3 (1 : Int32) M4 h) rfl)
theorem ct_R_line {l : Launch} {g : GT} {ext : List CD} {sk : Nat → Nat} {post : Int32 → Mem → Prop} {ex : String → Mem → Prop} {x1 x2 x3 : Int32} {M : Mem} (h : P_R_line post ex x1 x2 x3 M) : XI l g (layC ++ ext) sk yX11_line cX11_line 6 (some .int) 7 3 [.ref (ad g 0), .int x1, .int x2, .int x3] M post ex :=
  xi_of (by decide +kernel) (Nat.le_of_ble_eq_true rfl) (fun X A Z hl C hR hT _ => by subst hl; exact k_R_line C hT hR x1 x2 x3 M h)
def T_cX11_plateL : List (Nat × Instr × Nat) := [(0, .iload_n 1, 1), (1, .iconst 1, 1), (2, .bipush 9, 2), (4, .invokestatic 68, 3), (7, .ifCond .eq 28, 3), (10, .iload_n 2, 1), (11, .iconst 1, 1), (12, .iconst 5, 1), (13, .invokestatic 68, 3), (16, .ifCond .eq 19, 3), (19, .iload 5, 2), (21, .iconst 0, 1), (22, .sipush 500, 3), (25, .invokestatic 68, 3), (28, .ifCond .eq 7, 3), (31, .iconst 1, 1), (32, .goto 4, 3), (35, .iconst 0, 1), (36, .invokestatic 72, 3), (39, .iload_n 3, 1), (40, .invokestatic 141, 3), (43, .ifCond .eq 21, 3), (46, .iload 4, 2), (48, .invokestatic 141, 3), (51, .ifCond .eq 13, 3), (54, .iload_n 3, 1), (55, .iload 4, 2), (57, .if_icmp .gt 7, 3), (60, .iconst 1, 1), (61, .goto 4, 3), (64, .iconst 0, 1), (65, .invokestatic 72, 3), (68, .aload_n 0, 1), (69, .getfield 10, 3), (72, .getfield 208, 3), (75, .getfield 212, 3), (78, .iconst 3, 1), (79, .if_icmp .ge 7, 3), (82, .iconst 1, 1), (83, .goto 4, 3), (86, .iconst 0, 1), (87, .invokestatic 104, 3), (90, .aload_n 0, 1), (91, .getfield 10, 3), (94, .getfield 208, 3), (97, .astore 6, 2), (99, .aload 6, 2), (101, .getfield 212, 3), (104, .istore 7, 2), (106, .aload 6, 2), (108, .getfield 217, 3), (111, .iload 7, 2), (113, .iload_n 1, 1), (114, .iastore, 1), (115, .aload 6, 2), (117, .getfield 220, 3), (120, .iload 7, 2), (122, .iload_n 2, 1), (123, .iastore, 1), (124, .aload 6, 2), (126, .getfield 223, 3), (129, .iload 7, 2), (131, .iload_n 3, 1), (132, .iastore, 1), (133, .aload 6, 2), (135, .getfield 226, 3), (138, .iload 7, 2), (140, .iload 4, 2), (142, .iastore, 1), (143, .aload 6, 2), (145, .getfield 229, 3), (148, .iload 7, 2), (150, .iload 5, 2), (152, .iastore, 1), (153, .aload 6, 2), (155, .iload 7, 2), (157, .iconst 1, 1), (158, .iadd, 1), (159, .putfield 212, 3), (162, .iload 7, 2), (164, .ireturn, 1)]
theorem T_cX11_plate : tabOK cX11_plate T_cX11_plateL = true := by decide +kernel
def P_R_plate_87 (post : Int32 → Mem → Prop) (ex : String → Mem → Prop) (x1 x2 x3 x4 x5 s0 : Int32) (M : Mem) : Prop :=
  P_R_wantRoom (fun M1 =>
  vp_in (M1 18 5) 3 ∧ ∀ M2, M2 = ms M1 19 (M1 18 5).toNatClampNeg x1 → vp_in (M1 18 5) 3 ∧ ∀ M3, M3 = ms M2 20 (M1 18 5).toNatClampNeg x2 → vp_in (M1 18 5) 3 ∧ ∀ M4, M4 = ms M3 21 (M1 18 5).toNatClampNeg x3 → vp_in (M1 18 5) 3 ∧ ∀ M5, M5 = ms M4 22 (M1 18 5).toNatClampNeg x4 → vp_in (M1 18 5) 3 ∧ ∀ M6, M6 = ms M5 23 (M1 18 5).toNatClampNeg x5 → ∀ M7, M7 = ms M6 18 5 ((M1 18 5) + (1 : Int32)) → post (M1 18 5) M7) ex s0 M
theorem k_R_plate_87 {X : FX} {g : GT} {ext : List CD} {A : Nat → Prop} {Z : State → Prop} {post : Int32 → Mem → Prop} {ex : String → Mem → Prop} {sk : Nat → Nat} (C : CxX X g (layC ++ ext) A cX11_plate 8 RX11 7 3 sk) (hT : ThX X g (layC ++ ext) A 3 Z ex) (hR : RetI X g (layC ++ ext) A cX11_plate 8 3 (6 * 3) Z post) (x1 x2 x3 x4 x5 s0 : Int32) (M : Mem) (h : P_R_plate_87 post ex x1 x2 x3 x4 x5 s0 M) : AtX X g (layC ++ ext) A 8 2 (6 * 2) Z 87 [(0, .ref (ad g 0)), (1, .int x1), (2, .int x2), (3, .int x3), (4, .int x4), (5, .int x5)] [.int s0] M := by
  refine x_statV C hT [.int s0] me_yX11_wantRoom lk_RX11_104 (ct_R_wantRoom h) (by decide) rfl rfl (Nat.le_of_ble_eq_true rfl) (tk T_cX11_plate 41 rfl) (by decide) (fun M1 h => ?_)
  refine a_aload_n C.1 (tk T_cX11_plate 42 rfl) rfl ?_
  refine a_getR C.1 f_RX11_10 (tk T_cX11_plate 43 rfl) lc0 rfl ?_
  refine a_getR C.1 f_RX11_208 (tk T_cX11_plate 44 rfl) lc1 rfl ?_
  refine a_astore C.1 (tk T_cX11_plate 45 rfl) (by decide) rfl ?_
  refine a_aload C.1 (tk T_cX11_plate 46 rfl) rfl ?_
  refine a_getI C.1 f_RX11_212 (tk T_cX11_plate 47 rfl) lc18 rfl ?_
  refine a_istore C.1 (tk T_cX11_plate 48 rfl) (by decide) rfl ?_
  refine a_aload C.1 (tk T_cX11_plate 49 rfl) rfl ?_
  refine a_getR C.1 f_RX11_217 (tk T_cX11_plate 50 rfl) lc18 rfl ?_
  refine a_iload C.1 (tk T_cX11_plate 51 rfl) rfl ?_
  refine a_iload_n C.1 (tk T_cX11_plate 52 rfl) rfl ?_
  obtain ⟨hb, h⟩ := h
  refine a_iast C.1 (tk T_cX11_plate 53 rfl) lc19 hb ?_
  refine a_mem (fun M2 e_M2 => ?_)
  have h := h M2 e_M2
  refine a_aload C.1 (tk T_cX11_plate 54 rfl) rfl ?_
  refine a_getR C.1 f_RX11_220 (tk T_cX11_plate 55 rfl) lc18 rfl ?_
  refine a_iload C.1 (tk T_cX11_plate 56 rfl) rfl ?_
  refine a_iload_n C.1 (tk T_cX11_plate 57 rfl) rfl ?_
  obtain ⟨hb, h⟩ := h
  refine a_iast C.1 (tk T_cX11_plate 58 rfl) lc20 hb ?_
  refine a_mem (fun M3 e_M3 => ?_)
  have h := h M3 e_M3
  refine a_aload C.1 (tk T_cX11_plate 59 rfl) rfl ?_
  refine a_getR C.1 f_RX11_223 (tk T_cX11_plate 60 rfl) lc18 rfl ?_
  refine a_iload C.1 (tk T_cX11_plate 61 rfl) rfl ?_
  refine a_iload_n C.1 (tk T_cX11_plate 62 rfl) rfl ?_
  obtain ⟨hb, h⟩ := h
  refine a_iast C.1 (tk T_cX11_plate 63 rfl) lc21 hb ?_
  refine a_mem (fun M4 e_M4 => ?_)
  have h := h M4 e_M4
  refine a_aload C.1 (tk T_cX11_plate 64 rfl) rfl ?_
  refine a_getR C.1 f_RX11_226 (tk T_cX11_plate 65 rfl) lc18 rfl ?_
  refine a_iload C.1 (tk T_cX11_plate 66 rfl) rfl ?_
  refine a_iload C.1 (tk T_cX11_plate 67 rfl) rfl ?_
  obtain ⟨hb, h⟩ := h
  refine a_iast C.1 (tk T_cX11_plate 68 rfl) lc22 hb ?_
  refine a_mem (fun M5 e_M5 => ?_)
  have h := h M5 e_M5
  refine a_aload C.1 (tk T_cX11_plate 69 rfl) rfl ?_
  refine a_getR C.1 f_RX11_229 (tk T_cX11_plate 70 rfl) lc18 rfl ?_
  refine a_iload C.1 (tk T_cX11_plate 71 rfl) rfl ?_
  refine a_iload C.1 (tk T_cX11_plate 72 rfl) rfl ?_
  obtain ⟨hb, h⟩ := h
  refine a_iast C.1 (tk T_cX11_plate 73 rfl) lc23 hb ?_
  refine a_mem (fun M6 e_M6 => ?_)
  have h := h M6 e_M6
  refine a_aload C.1 (tk T_cX11_plate 74 rfl) rfl ?_
  refine a_iload C.1 (tk T_cX11_plate 75 rfl) rfl ?_
  refine a_iconst C.1 (1 : Int32) (tk T_cX11_plate 76 rfl) kI_1 ?_
  refine a_iadd C.1 (tk T_cX11_plate 77 rfl) ?_
  refine a_put C.1 f_RX11_212 f_RX11_212p rfl rfl (tk T_cX11_plate 78 rfl) lc18 rfl ?_
  refine a_mem (fun M7 e_M7 => ?_)
  have h := h M7 e_M7
  refine a_iload C.1 (tk T_cX11_plate 79 rfl) rfl ?_
  exact x_widen (by decide) (by decide) (hR _ _ _ _ (tk T_cX11_plate 80 rfl) h)
def P_R_plate_65 (post : Int32 → Mem → Prop) (ex : String → Mem → Prop) (x1 x2 x3 x4 x5 s0 : Int32) (M : Mem) : Prop :=
  P_R_wantNumber (fun M1 =>
  ((3 : Int32) ≤ (M1 18 5) → (P_R_plate_87 post ex x1 x2 x3 x4 x5 (0 : Int32) M1)) ∧
  (¬ (3 : Int32) ≤ (M1 18 5) → (P_R_plate_87 post ex x1 x2 x3 x4 x5 (1 : Int32) M1))) ex s0 M
theorem k_R_plate_65 {X : FX} {g : GT} {ext : List CD} {A : Nat → Prop} {Z : State → Prop} {post : Int32 → Mem → Prop} {ex : String → Mem → Prop} {sk : Nat → Nat} (C : CxX X g (layC ++ ext) A cX11_plate 8 RX11 7 3 sk) (hT : ThX X g (layC ++ ext) A 3 Z ex) (hR : RetI X g (layC ++ ext) A cX11_plate 8 3 (6 * 3) Z post) (x1 x2 x3 x4 x5 s0 : Int32) (M : Mem) (h : P_R_plate_65 post ex x1 x2 x3 x4 x5 s0 M) : AtX X g (layC ++ ext) A 8 1 (6 * 1) Z 65 [(0, .ref (ad g 0)), (1, .int x1), (2, .int x2), (3, .int x3), (4, .int x4), (5, .int x5)] [.int s0] M := by
  refine x_statV C hT [.int s0] me_yX11_wantNumber lk_RX11_72 (ct_R_wantNumber h) (by decide) rfl rfl (Nat.le_of_ble_eq_true rfl) (tk T_cX11_plate 31 rfl) (by decide) (fun M1 h => ?_)
  refine a_aload_n C.1 (tk T_cX11_plate 32 rfl) rfl ?_
  refine a_getR C.1 f_RX11_10 (tk T_cX11_plate 33 rfl) lc0 rfl ?_
  refine a_getR C.1 f_RX11_208 (tk T_cX11_plate 34 rfl) lc1 rfl ?_
  refine a_getI C.1 f_RX11_212 (tk T_cX11_plate 35 rfl) lc18 rfl ?_
  refine a_iconst C.1 (3 : Int32) (tk T_cX11_plate 36 rfl) kI_3 ?_
  refine a_icmp_ge C.1 86 (tk T_cX11_plate 37 rfl) rfl (fun c => ?_) (fun c => ?_)
  · have h := h.1 c
    refine a_iconst C.1 (0 : Int32) (tk T_cX11_plate 40 rfl) kI_0 ?_
    exact x_widen (by decide) (by decide) (a_to (k_R_plate_87 C hT hR x1 x2 x3 x4 x5 (0 : Int32) M1 h) rfl)
  · have h := h.2 c
    refine a_iconst C.1 (1 : Int32) (tk T_cX11_plate 38 rfl) kI_1 ?_
    refine a_goto C.1 87 (tk T_cX11_plate 39 rfl) rfl ?_
    exact x_widen (by decide) (by decide) (a_to (k_R_plate_87 C hT hR x1 x2 x3 x4 x5 (1 : Int32) M1 h) rfl)
def P_R_plate_64 (post : Int32 → Mem → Prop) (ex : String → Mem → Prop) (x1 x2 x3 x4 x5 : Int32) (M : Mem) : Prop :=
  P_R_plate_65 post ex x1 x2 x3 x4 x5 (0 : Int32) M
theorem k_R_plate_64 {X : FX} {g : GT} {ext : List CD} {A : Nat → Prop} {Z : State → Prop} {post : Int32 → Mem → Prop} {ex : String → Mem → Prop} {sk : Nat → Nat} (C : CxX X g (layC ++ ext) A cX11_plate 8 RX11 7 3 sk) (hT : ThX X g (layC ++ ext) A 3 Z ex) (hR : RetI X g (layC ++ ext) A cX11_plate 8 3 (6 * 3) Z post) (x1 x2 x3 x4 x5 : Int32) (M : Mem) (h : P_R_plate_64 post ex x1 x2 x3 x4 x5 M) : AtX X g (layC ++ ext) A 8 1 (6 * 1) Z 64 [(0, .ref (ad g 0)), (1, .int x1), (2, .int x2), (3, .int x3), (4, .int x4), (5, .int x5)] [] M := by
  refine a_iconst C.1 (0 : Int32) (tk T_cX11_plate 30 rfl) kI_0 ?_
  exact x_widen (by decide) (by decide) (a_to (k_R_plate_65 C hT hR x1 x2 x3 x4 x5 (0 : Int32) M h) rfl)
def P_R_plate_36 (post : Int32 → Mem → Prop) (ex : String → Mem → Prop) (x1 x2 x3 x4 x5 s0 : Int32) (M : Mem) : Prop :=
  P_R_wantNumber (fun M1 =>
  P_R_isWave (fun r2 M2 =>
  (r2 = 0 → (P_R_plate_64 post ex x1 x2 x3 x4 x5 M2)) ∧
  (¬ r2 = 0 → (P_R_isWave (fun r3 M3 =>
  (r3 = 0 → (P_R_plate_64 post ex x1 x2 x3 x4 x5 M3)) ∧
  (¬ r3 = 0 → ((x4 < x3 → (P_R_plate_64 post ex x1 x2 x3 x4 x5 M3)) ∧
  (¬ x4 < x3 → (P_R_plate_65 post ex x1 x2 x3 x4 x5 (1 : Int32) M3))))) x4 M2))) x3 M1) ex s0 M
theorem k_R_plate_36 {X : FX} {g : GT} {ext : List CD} {A : Nat → Prop} {Z : State → Prop} {post : Int32 → Mem → Prop} {ex : String → Mem → Prop} {sk : Nat → Nat} (C : CxX X g (layC ++ ext) A cX11_plate 8 RX11 7 3 sk) (hT : ThX X g (layC ++ ext) A 3 Z ex) (hR : RetI X g (layC ++ ext) A cX11_plate 8 3 (6 * 3) Z post) (x1 x2 x3 x4 x5 s0 : Int32) (M : Mem) (h : P_R_plate_36 post ex x1 x2 x3 x4 x5 s0 M) : AtX X g (layC ++ ext) A 8 0 (6 * 0) Z 36 [(0, .ref (ad g 0)), (1, .int x1), (2, .int x2), (3, .int x3), (4, .int x4), (5, .int x5)] [.int s0] M := by
  refine x_statV C hT [.int s0] me_yX11_wantNumber lk_RX11_72 (ct_R_wantNumber h) (by decide) rfl rfl (Nat.le_of_ble_eq_true rfl) (tk T_cX11_plate 18 rfl) (by decide) (fun M1 h => ?_)
  refine a_iload_n C.1 (tk T_cX11_plate 19 rfl) rfl ?_
  refine a_statI C.1 [.int x3] me_yX11_isWave lk_RX11_141 (ct_R_isWave h) (by decide) rfl rfl (Nat.le_of_ble_eq_true rfl) (tk T_cX11_plate 20 rfl) ⟨Nat.le_trans (by decide) C.2.2.1, Nat.le_trans (by decide) C.2.2.2⟩ (fun r2 M2 h => ?_)
  refine a_if_eq C.1 64 (tk T_cX11_plate 21 rfl) rfl (fun c => ?_) (fun c => ?_)
  · have h := h.1 c
    exact x_widen (by decide) (by decide) (a_to (k_R_plate_64 C hT hR x1 x2 x3 x4 x5 M2 h) rfl)
  · have h := h.2 c
    refine a_iload C.1 (tk T_cX11_plate 22 rfl) rfl ?_
    refine a_statI C.1 [.int x4] me_yX11_isWave lk_RX11_141 (ct_R_isWave h) (by decide) rfl rfl (Nat.le_of_ble_eq_true rfl) (tk T_cX11_plate 23 rfl) ⟨Nat.le_trans (by decide) C.2.2.1, Nat.le_trans (by decide) C.2.2.2⟩ (fun r3 M3 h => ?_)
    refine a_if_eq C.1 64 (tk T_cX11_plate 24 rfl) rfl (fun c => ?_) (fun c => ?_)
    · have h := h.1 c
      exact x_widen (by decide) (by decide) (a_to (k_R_plate_64 C hT hR x1 x2 x3 x4 x5 M3 h) rfl)
    · have h := h.2 c
      refine a_iload_n C.1 (tk T_cX11_plate 25 rfl) rfl ?_
      refine a_iload C.1 (tk T_cX11_plate 26 rfl) rfl ?_
      refine a_icmp_gt C.1 64 (tk T_cX11_plate 27 rfl) rfl (fun c => ?_) (fun c => ?_)
      · have h := h.1 c
        exact x_widen (by decide) (by decide) (a_to (k_R_plate_64 C hT hR x1 x2 x3 x4 x5 M3 h) rfl)
      · have h := h.2 c
        refine a_iconst C.1 (1 : Int32) (tk T_cX11_plate 28 rfl) kI_1 ?_
        refine a_goto C.1 65 (tk T_cX11_plate 29 rfl) rfl ?_
        exact x_widen (by decide) (by decide) (a_to (k_R_plate_65 C hT hR x1 x2 x3 x4 x5 (1 : Int32) M3 h) rfl)
def P_R_plate_35 (post : Int32 → Mem → Prop) (ex : String → Mem → Prop) (x1 x2 x3 x4 x5 : Int32) (M : Mem) : Prop :=
  P_R_plate_36 post ex x1 x2 x3 x4 x5 (0 : Int32) M
theorem k_R_plate_35 {X : FX} {g : GT} {ext : List CD} {A : Nat → Prop} {Z : State → Prop} {post : Int32 → Mem → Prop} {ex : String → Mem → Prop} {sk : Nat → Nat} (C : CxX X g (layC ++ ext) A cX11_plate 8 RX11 7 3 sk) (hT : ThX X g (layC ++ ext) A 3 Z ex) (hR : RetI X g (layC ++ ext) A cX11_plate 8 3 (6 * 3) Z post) (x1 x2 x3 x4 x5 : Int32) (M : Mem) (h : P_R_plate_35 post ex x1 x2 x3 x4 x5 M) : AtX X g (layC ++ ext) A 8 0 (6 * 0) Z 35 [(0, .ref (ad g 0)), (1, .int x1), (2, .int x2), (3, .int x3), (4, .int x4), (5, .int x5)] [] M := by
  refine a_iconst C.1 (0 : Int32) (tk T_cX11_plate 17 rfl) kI_0 ?_
  exact x_widen (by decide) (by decide) (a_to (k_R_plate_36 C hT hR x1 x2 x3 x4 x5 (0 : Int32) M h) rfl)
def P_R_plate (post : Int32 → Mem → Prop) (ex : String → Mem → Prop) (x1 x2 x3 x4 x5 : Int32) (M : Mem) : Prop :=
  P_R_within (fun r1 M1 =>
  (r1 = 0 → (P_R_plate_35 post ex x1 x2 x3 x4 x5 M1)) ∧
  (¬ r1 = 0 → (P_R_within (fun r2 M2 =>
  (r2 = 0 → (P_R_plate_35 post ex x1 x2 x3 x4 x5 M2)) ∧
  (¬ r2 = 0 → (P_R_within (fun r3 M3 =>
  (r3 = 0 → (P_R_plate_35 post ex x1 x2 x3 x4 x5 M3)) ∧
  (¬ r3 = 0 → (P_R_plate_36 post ex x1 x2 x3 x4 x5 (1 : Int32) M3))) x5 (0 : Int32) (500 : Int32) M2))) x2 (1 : Int32) (5 : Int32) M1))) x1 (1 : Int32) (9 : Int32) M
theorem k_R_plate {X : FX} {g : GT} {ext : List CD} {A : Nat → Prop} {Z : State → Prop} {post : Int32 → Mem → Prop} {ex : String → Mem → Prop} {sk : Nat → Nat} (C : CxX X g (layC ++ ext) A cX11_plate 8 RX11 7 3 sk) (hT : ThX X g (layC ++ ext) A 3 Z ex) (hR : RetI X g (layC ++ ext) A cX11_plate 8 3 (6 * 3) Z post) (x1 x2 x3 x4 x5 : Int32) (M : Mem) (h : P_R_plate post ex x1 x2 x3 x4 x5 M) : AtX X g (layC ++ ext) A 8 0 0 Z 0 [(0, .ref (ad g 0)), (1, .int x1), (2, .int x2), (3, .int x3), (4, .int x4), (5, .int x5)] [] M := by
  refine a_iload_n C.1 (tk T_cX11_plate 0 rfl) rfl ?_
  refine a_iconst C.1 (1 : Int32) (tk T_cX11_plate 1 rfl) kI_1 ?_
  refine a_bipush C.1 (9 : Int32) (tk T_cX11_plate 2 rfl) kB_9 ?_
  refine a_statI C.1 [.int x1, .int (1 : Int32), .int (9 : Int32)] me_yX11_within lk_RX11_68 (ct_R_within h) (by decide) rfl rfl (Nat.le_of_ble_eq_true rfl) (tk T_cX11_plate 3 rfl) ⟨Nat.le_trans (by decide) C.2.2.1, Nat.le_trans (by decide) C.2.2.2⟩ (fun r1 M1 h => ?_)
  refine a_if_eq C.1 35 (tk T_cX11_plate 4 rfl) rfl (fun c => ?_) (fun c => ?_)
  · have h := h.1 c
    exact x_widen (by decide) (by decide) (a_to (k_R_plate_35 C hT hR x1 x2 x3 x4 x5 M1 h) rfl)
  · have h := h.2 c
    refine a_iload_n C.1 (tk T_cX11_plate 5 rfl) rfl ?_
    refine a_iconst C.1 (1 : Int32) (tk T_cX11_plate 6 rfl) kI_1 ?_
    refine a_iconst C.1 (5 : Int32) (tk T_cX11_plate 7 rfl) kI_5 ?_
    refine a_statI C.1 [.int x2, .int (1 : Int32), .int (5 : Int32)] me_yX11_within lk_RX11_68 (ct_R_within h) (by decide) rfl rfl (Nat.le_of_ble_eq_true rfl) (tk T_cX11_plate 8 rfl) ⟨Nat.le_trans (by decide) C.2.2.1, Nat.le_trans (by decide) C.2.2.2⟩ (fun r2 M2 h => ?_)
    refine a_if_eq C.1 35 (tk T_cX11_plate 9 rfl) rfl (fun c => ?_) (fun c => ?_)
    · have h := h.1 c
      exact x_widen (by decide) (by decide) (a_to (k_R_plate_35 C hT hR x1 x2 x3 x4 x5 M2 h) rfl)
    · have h := h.2 c
      refine a_iload C.1 (tk T_cX11_plate 10 rfl) rfl ?_
      refine a_iconst C.1 (0 : Int32) (tk T_cX11_plate 11 rfl) kI_0 ?_
      refine a_sipush C.1 (500 : Int32) (tk T_cX11_plate 12 rfl) kS_500 ?_
      refine a_statI C.1 [.int x5, .int (0 : Int32), .int (500 : Int32)] me_yX11_within lk_RX11_68 (ct_R_within h) (by decide) rfl rfl (Nat.le_of_ble_eq_true rfl) (tk T_cX11_plate 13 rfl) ⟨Nat.le_trans (by decide) C.2.2.1, Nat.le_trans (by decide) C.2.2.2⟩ (fun r3 M3 h => ?_)
      refine a_if_eq C.1 35 (tk T_cX11_plate 14 rfl) rfl (fun c => ?_) (fun c => ?_)
      · have h := h.1 c
        exact x_widen (by decide) (by decide) (a_to (k_R_plate_35 C hT hR x1 x2 x3 x4 x5 M3 h) rfl)
      · have h := h.2 c
        refine a_iconst C.1 (1 : Int32) (tk T_cX11_plate 15 rfl) kI_1 ?_
        refine a_goto C.1 36 (tk T_cX11_plate 16 rfl) rfl ?_
        exact x_widen (by decide) (by decide) (a_to (k_R_plate_36 C hT hR x1 x2 x3 x4 x5 (1 : Int32) M3 h) rfl)
theorem ct_R_plate {l : Launch} {g : GT} {ext : List CD} {sk : Nat → Nat} {post : Int32 → Mem → Prop} {ex : String → Mem → Prop} {x1 x2 x3 x4 x5 : Int32} {M : Mem} (h : P_R_plate post ex x1 x2 x3 x4 x5 M) : XI l g (layC ++ ext) sk yX11_plate cX11_plate 8 (some .int) 7 3 [.ref (ad g 0), .int x1, .int x2, .int x3, .int x4, .int x5] M post ex :=
  xi_of (by decide +kernel) (Nat.le_of_ble_eq_true rfl) (fun X A Z hl C hR hT _ => by subst hl; exact k_R_plate C hT hR x1 x2 x3 x4 x5 M h)
def T_cX11_wantPlateL : List (Nat × Instr × Nat) := [(0, .iload_n 1, 1), (1, .iconst 0, 1), (2, .aload_n 0, 1), (3, .getfield 10, 3), (6, .getfield 208, 3), (9, .getfield 212, 3), (12, .iconst 1, 1), (13, .isub, 1), (14, .invokestatic 68, 3), (17, .invokestatic 201, 3), (20, .return_, 1)]
theorem T_cX11_wantPlate : tabOK cX11_wantPlate T_cX11_wantPlateL = true := by decide +kernel
def P_R_wantPlate (post : Mem → Prop) (ex : String → Mem → Prop) (x1 : Int32) (M : Mem) : Prop :=
  P_R_within (fun r1 M1 =>
  P_R_wantThere (fun M2 =>
  post M2) ex r1 M1) x1 (0 : Int32) ((M 18 5) - (1 : Int32)) M
theorem k_R_wantPlate {X : FX} {g : GT} {ext : List CD} {A : Nat → Prop} {Z : State → Prop} {post : Mem → Prop} {ex : String → Mem → Prop} {sk : Nat → Nat} (C : CxX X g (layC ++ ext) A cX11_wantPlate 2 RX11 7 1 sk) (hT : ThX X g (layC ++ ext) A 1 Z ex) (hR : RetV X g (layC ++ ext) A cX11_wantPlate 2 1 (6 * 1) Z post) (x1 : Int32) (M : Mem) (h : P_R_wantPlate post ex x1 M) : AtX X g (layC ++ ext) A 2 0 0 Z 0 [(0, .ref (ad g 0)), (1, .int x1)] [] M := by
  refine a_iload_n C.1 (tk T_cX11_wantPlate 0 rfl) rfl ?_
  refine a_iconst C.1 (0 : Int32) (tk T_cX11_wantPlate 1 rfl) kI_0 ?_
  refine a_aload_n C.1 (tk T_cX11_wantPlate 2 rfl) rfl ?_
  refine a_getR C.1 f_RX11_10 (tk T_cX11_wantPlate 3 rfl) lc0 rfl ?_
  refine a_getR C.1 f_RX11_208 (tk T_cX11_wantPlate 4 rfl) lc1 rfl ?_
  refine a_getI C.1 f_RX11_212 (tk T_cX11_wantPlate 5 rfl) lc18 rfl ?_
  refine a_iconst C.1 (1 : Int32) (tk T_cX11_wantPlate 6 rfl) kI_1 ?_
  refine a_isub C.1 (tk T_cX11_wantPlate 7 rfl) ?_
  refine a_statI C.1 [.int x1, .int (0 : Int32), .int ((M 18 5) - (1 : Int32))] me_yX11_within lk_RX11_68 (ct_R_within h) (by decide) rfl rfl (Nat.le_of_ble_eq_true rfl) (tk T_cX11_wantPlate 8 rfl) ⟨Nat.le_trans (by decide) C.2.2.1, Nat.le_trans (by decide) C.2.2.2⟩ (fun r1 M1 h => ?_)
  refine x_statV C hT [.int r1] me_yX11_wantThere lk_RX11_201 (ct_R_wantThere h) (by decide) rfl rfl (Nat.le_of_ble_eq_true rfl) (tk T_cX11_wantPlate 9 rfl) (by decide) (fun M2 h => ?_)
  exact x_widen (by decide) (by decide) (hR _ _ _ (tk T_cX11_wantPlate 10 rfl) h)
theorem ct_R_wantPlate {l : Launch} {g : GT} {ext : List CD} {sk : Nat → Nat} {post : Mem → Prop} {ex : String → Mem → Prop} {x1 : Int32} {M : Mem} (h : P_R_wantPlate post ex x1 M) : XV l g (layC ++ ext) sk yX11_wantPlate cX11_wantPlate 2 none 7 1 [.ref (ad g 0), .int x1] M post ex :=
  xv_of (by decide +kernel) (Nat.le_of_ble_eq_true rfl) (fun X A Z hl C hR hT _ => by subst hl; exact k_R_wantPlate C hT hR x1 M h)
def T_cX11_readingL : List (Nat × Instr × Nat) := [(0, .aload_n 0, 1), (1, .iload_n 1, 1), (2, .invokevirtual 232, 3), (5, .iload_n 2, 1), (6, .iconst 0, 1), (7, .sipush 999, 3), (10, .invokestatic 68, 3), (13, .ifCond .eq 29, 3), (16, .iload 4, 2), (18, .iconst 1, 1), (19, .bipush 9, 2), (21, .invokestatic 68, 3), (24, .ifCond .eq 18, 3), (27, .iload 5, 2), (29, .iconst 1, 1), (30, .bipush 9, 2), (32, .invokestatic 68, 3), (35, .ifCond .eq 7, 3), (38, .iconst 1, 1), (39, .goto 4, 3), (42, .iconst 0, 1), (43, .invokestatic 72, 3), (46, .aload_n 0, 1), (47, .getfield 10, 3), (50, .getfield 208, 3), (53, .getfield 235, 3), (56, .bipush 24, 2), (58, .if_icmp .ge 7, 3), (61, .iconst 1, 1), (62, .goto 4, 3), (65, .iconst 0, 1), (66, .invokestatic 104, 3), (69, .aload_n 0, 1), (70, .getfield 10, 3), (73, .getfield 208, 3), (76, .astore 6, 2), (78, .aload 6, 2), (80, .getfield 235, 3), (83, .istore 7, 2), (85, .aload 6, 2), (87, .getfield 238, 3), (90, .iload 7, 2), (92, .iload_n 1, 1), (93, .iastore, 1), (94, .aload 6, 2), (96, .getfield 241, 3), (99, .iload 7, 2), (101, .iload_n 2, 1), (102, .iastore, 1), (103, .aload 6, 2), (105, .getfield 242, 3), (108, .iload 7, 2), (110, .iload_n 3, 1), (111, .bastore, 1), (112, .aload 6, 2), (114, .getfield 243, 3), (117, .iload 7, 2), (119, .iload 4, 2), (121, .iastore, 1), (122, .aload 6, 2), (124, .getfield 244, 3), (127, .iload 7, 2), (129, .iload 5, 2), (131, .iastore, 1), (132, .aload 6, 2), (134, .iload 7, 2), (136, .iconst 1, 1), (137, .iadd, 1), (138, .putfield 235, 3), (141, .iload 7, 2), (143, .ireturn, 1)]
theorem T_cX11_reading : tabOK cX11_reading T_cX11_readingL = true := by decide +kernel
def P_R_reading_66 (post : Int32 → Mem → Prop) (ex : String → Mem → Prop) (x1 x2 x3 x4 x5 s0 : Int32) (M : Mem) : Prop :=
  P_R_wantRoom (fun M1 =>
  vp_in (M1 18 11) 24 ∧ ∀ M2, M2 = ms M1 24 (M1 18 11).toNatClampNeg x1 → vp_in (M1 18 11) 24 ∧ ∀ M3, M3 = ms M2 25 (M1 18 11).toNatClampNeg x2 → vp_in (M1 18 11) 24 ∧ ∀ M4, M4 = ms M3 26 (M1 18 11).toNatClampNeg (vp_nar .boolean x3) → vp_in (M1 18 11) 24 ∧ ∀ M5, M5 = ms M4 27 (M1 18 11).toNatClampNeg x4 → vp_in (M1 18 11) 24 ∧ ∀ M6, M6 = ms M5 28 (M1 18 11).toNatClampNeg x5 → ∀ M7, M7 = ms M6 18 11 ((M1 18 11) + (1 : Int32)) → post (M1 18 11) M7) ex s0 M
theorem k_R_reading_66 {X : FX} {g : GT} {ext : List CD} {A : Nat → Prop} {Z : State → Prop} {post : Int32 → Mem → Prop} {ex : String → Mem → Prop} {sk : Nat → Nat} (C : CxX X g (layC ++ ext) A cX11_reading 8 RX11 8 3 sk) (hT : ThX X g (layC ++ ext) A 3 Z ex) (hR : RetI X g (layC ++ ext) A cX11_reading 8 3 (6 * 3) Z post) (x1 x2 x3 x4 x5 s0 : Int32) (M : Mem) (h : P_R_reading_66 post ex x1 x2 x3 x4 x5 s0 M) : AtX X g (layC ++ ext) A 8 2 (6 * 2) Z 66 [(0, .ref (ad g 0)), (1, .int x1), (2, .int x2), (3, .int x3), (4, .int x4), (5, .int x5)] [.int s0] M := by
  refine x_statV C hT [.int s0] me_yX11_wantRoom lk_RX11_104 (ct_R_wantRoom h) (by decide) rfl rfl (Nat.le_of_ble_eq_true rfl) (tk T_cX11_reading 31 rfl) (by decide) (fun M1 h => ?_)
  refine a_aload_n C.1 (tk T_cX11_reading 32 rfl) rfl ?_
  refine a_getR C.1 f_RX11_10 (tk T_cX11_reading 33 rfl) lc0 rfl ?_
  refine a_getR C.1 f_RX11_208 (tk T_cX11_reading 34 rfl) lc1 rfl ?_
  refine a_astore C.1 (tk T_cX11_reading 35 rfl) (by decide) rfl ?_
  refine a_aload C.1 (tk T_cX11_reading 36 rfl) rfl ?_
  refine a_getI C.1 f_RX11_235 (tk T_cX11_reading 37 rfl) lc18 rfl ?_
  refine a_istore C.1 (tk T_cX11_reading 38 rfl) (by decide) rfl ?_
  refine a_aload C.1 (tk T_cX11_reading 39 rfl) rfl ?_
  refine a_getR C.1 f_RX11_238 (tk T_cX11_reading 40 rfl) lc18 rfl ?_
  refine a_iload C.1 (tk T_cX11_reading 41 rfl) rfl ?_
  refine a_iload_n C.1 (tk T_cX11_reading 42 rfl) rfl ?_
  obtain ⟨hb, h⟩ := h
  refine a_iast C.1 (tk T_cX11_reading 43 rfl) lc24 hb ?_
  refine a_mem (fun M2 e_M2 => ?_)
  have h := h M2 e_M2
  refine a_aload C.1 (tk T_cX11_reading 44 rfl) rfl ?_
  refine a_getR C.1 f_RX11_241 (tk T_cX11_reading 45 rfl) lc18 rfl ?_
  refine a_iload C.1 (tk T_cX11_reading 46 rfl) rfl ?_
  refine a_iload_n C.1 (tk T_cX11_reading 47 rfl) rfl ?_
  obtain ⟨hb, h⟩ := h
  refine a_iast C.1 (tk T_cX11_reading 48 rfl) lc25 hb ?_
  refine a_mem (fun M3 e_M3 => ?_)
  have h := h M3 e_M3
  refine a_aload C.1 (tk T_cX11_reading 49 rfl) rfl ?_
  refine a_getR C.1 f_RX11_242 (tk T_cX11_reading 50 rfl) lc18 rfl ?_
  refine a_iload C.1 (tk T_cX11_reading 51 rfl) rfl ?_
  refine a_iload_n C.1 (tk T_cX11_reading 52 rfl) rfl ?_
  obtain ⟨hb, h⟩ := h
  refine a_zast C.1 (tk T_cX11_reading 53 rfl) lc26 hb ?_
  refine a_mem (fun M4 e_M4 => ?_)
  have h := h M4 e_M4
  refine a_aload C.1 (tk T_cX11_reading 54 rfl) rfl ?_
  refine a_getR C.1 f_RX11_243 (tk T_cX11_reading 55 rfl) lc18 rfl ?_
  refine a_iload C.1 (tk T_cX11_reading 56 rfl) rfl ?_
  refine a_iload C.1 (tk T_cX11_reading 57 rfl) rfl ?_
  obtain ⟨hb, h⟩ := h
  refine a_iast C.1 (tk T_cX11_reading 58 rfl) lc27 hb ?_
  refine a_mem (fun M5 e_M5 => ?_)
  have h := h M5 e_M5
  refine a_aload C.1 (tk T_cX11_reading 59 rfl) rfl ?_
  refine a_getR C.1 f_RX11_244 (tk T_cX11_reading 60 rfl) lc18 rfl ?_
  refine a_iload C.1 (tk T_cX11_reading 61 rfl) rfl ?_
  refine a_iload C.1 (tk T_cX11_reading 62 rfl) rfl ?_
  obtain ⟨hb, h⟩ := h
  refine a_iast C.1 (tk T_cX11_reading 63 rfl) lc28 hb ?_
  refine a_mem (fun M6 e_M6 => ?_)
  have h := h M6 e_M6
  refine a_aload C.1 (tk T_cX11_reading 64 rfl) rfl ?_
  refine a_iload C.1 (tk T_cX11_reading 65 rfl) rfl ?_
  refine a_iconst C.1 (1 : Int32) (tk T_cX11_reading 66 rfl) kI_1 ?_
  refine a_iadd C.1 (tk T_cX11_reading 67 rfl) ?_
  refine a_put C.1 f_RX11_235 f_RX11_235p rfl rfl (tk T_cX11_reading 68 rfl) lc18 rfl ?_
  refine a_mem (fun M7 e_M7 => ?_)
  have h := h M7 e_M7
  refine a_iload C.1 (tk T_cX11_reading 69 rfl) rfl ?_
  exact x_widen (by decide) (by decide) (hR _ _ _ _ (tk T_cX11_reading 70 rfl) h)
def P_R_reading_43 (post : Int32 → Mem → Prop) (ex : String → Mem → Prop) (x1 x2 x3 x4 x5 s0 : Int32) (M : Mem) : Prop :=
  P_R_wantNumber (fun M1 =>
  ((24 : Int32) ≤ (M1 18 11) → (P_R_reading_66 post ex x1 x2 x3 x4 x5 (0 : Int32) M1)) ∧
  (¬ (24 : Int32) ≤ (M1 18 11) → (P_R_reading_66 post ex x1 x2 x3 x4 x5 (1 : Int32) M1))) ex s0 M
theorem k_R_reading_43 {X : FX} {g : GT} {ext : List CD} {A : Nat → Prop} {Z : State → Prop} {post : Int32 → Mem → Prop} {ex : String → Mem → Prop} {sk : Nat → Nat} (C : CxX X g (layC ++ ext) A cX11_reading 8 RX11 8 3 sk) (hT : ThX X g (layC ++ ext) A 3 Z ex) (hR : RetI X g (layC ++ ext) A cX11_reading 8 3 (6 * 3) Z post) (x1 x2 x3 x4 x5 s0 : Int32) (M : Mem) (h : P_R_reading_43 post ex x1 x2 x3 x4 x5 s0 M) : AtX X g (layC ++ ext) A 8 1 (6 * 1) Z 43 [(0, .ref (ad g 0)), (1, .int x1), (2, .int x2), (3, .int x3), (4, .int x4), (5, .int x5)] [.int s0] M := by
  refine x_statV C hT [.int s0] me_yX11_wantNumber lk_RX11_72 (ct_R_wantNumber h) (by decide) rfl rfl (Nat.le_of_ble_eq_true rfl) (tk T_cX11_reading 21 rfl) (by decide) (fun M1 h => ?_)
  refine a_aload_n C.1 (tk T_cX11_reading 22 rfl) rfl ?_
  refine a_getR C.1 f_RX11_10 (tk T_cX11_reading 23 rfl) lc0 rfl ?_
  refine a_getR C.1 f_RX11_208 (tk T_cX11_reading 24 rfl) lc1 rfl ?_
  refine a_getI C.1 f_RX11_235 (tk T_cX11_reading 25 rfl) lc18 rfl ?_
  refine a_bipush C.1 (24 : Int32) (tk T_cX11_reading 26 rfl) kB_24 ?_
  refine a_icmp_ge C.1 65 (tk T_cX11_reading 27 rfl) rfl (fun c => ?_) (fun c => ?_)
  · have h := h.1 c
    refine a_iconst C.1 (0 : Int32) (tk T_cX11_reading 30 rfl) kI_0 ?_
    exact x_widen (by decide) (by decide) (a_to (k_R_reading_66 C hT hR x1 x2 x3 x4 x5 (0 : Int32) M1 h) rfl)
  · have h := h.2 c
    refine a_iconst C.1 (1 : Int32) (tk T_cX11_reading 28 rfl) kI_1 ?_
    refine a_goto C.1 66 (tk T_cX11_reading 29 rfl) rfl ?_
    exact x_widen (by decide) (by decide) (a_to (k_R_reading_66 C hT hR x1 x2 x3 x4 x5 (1 : Int32) M1 h) rfl)
def P_R_reading_42 (post : Int32 → Mem → Prop) (ex : String → Mem → Prop) (x1 x2 x3 x4 x5 : Int32) (M : Mem) : Prop :=
  P_R_reading_43 post ex x1 x2 x3 x4 x5 (0 : Int32) M
theorem k_R_reading_42 {X : FX} {g : GT} {ext : List CD} {A : Nat → Prop} {Z : State → Prop} {post : Int32 → Mem → Prop} {ex : String → Mem → Prop} {sk : Nat → Nat} (C : CxX X g (layC ++ ext) A cX11_reading 8 RX11 8 3 sk) (hT : ThX X g (layC ++ ext) A 3 Z ex) (hR : RetI X g (layC ++ ext) A cX11_reading 8 3 (6 * 3) Z post) (x1 x2 x3 x4 x5 : Int32) (M : Mem) (h : P_R_reading_42 post ex x1 x2 x3 x4 x5 M) : AtX X g (layC ++ ext) A 8 1 (6 * 1) Z 42 [(0, .ref (ad g 0)), (1, .int x1), (2, .int x2), (3, .int x3), (4, .int x4), (5, .int x5)] [] M := by
  refine a_iconst C.1 (0 : Int32) (tk T_cX11_reading 20 rfl) kI_0 ?_
  exact x_widen (by decide) (by decide) (a_to (k_R_reading_43 C hT hR x1 x2 x3 x4 x5 (0 : Int32) M h) rfl)
def P_R_reading (post : Int32 → Mem → Prop) (ex : String → Mem → Prop) (x1 x2 x3 x4 x5 : Int32) (M : Mem) : Prop :=
  P_R_wantPlate (fun M1 =>
  P_R_within (fun r2 M2 =>
  (r2 = 0 → (P_R_reading_42 post ex x1 x2 x3 x4 x5 M2)) ∧
  (¬ r2 = 0 → (P_R_within (fun r3 M3 =>
  (r3 = 0 → (P_R_reading_42 post ex x1 x2 x3 x4 x5 M3)) ∧
  (¬ r3 = 0 → (P_R_within (fun r4 M4 =>
  (r4 = 0 → (P_R_reading_42 post ex x1 x2 x3 x4 x5 M4)) ∧
  (¬ r4 = 0 → (P_R_reading_43 post ex x1 x2 x3 x4 x5 (1 : Int32) M4))) x5 (1 : Int32) (9 : Int32) M3))) x4 (1 : Int32) (9 : Int32) M2))) x2 (0 : Int32) (999 : Int32) M1) ex x1 M
theorem k_R_reading {X : FX} {g : GT} {ext : List CD} {A : Nat → Prop} {Z : State → Prop} {post : Int32 → Mem → Prop} {ex : String → Mem → Prop} {sk : Nat → Nat} (C : CxX X g (layC ++ ext) A cX11_reading 8 RX11 8 3 sk) (hT : ThX X g (layC ++ ext) A 3 Z ex) (hR : RetI X g (layC ++ ext) A cX11_reading 8 3 (6 * 3) Z post) (x1 x2 x3 x4 x5 : Int32) (M : Mem) (h : P_R_reading post ex x1 x2 x3 x4 x5 M) : AtX X g (layC ++ ext) A 8 0 0 Z 0 [(0, .ref (ad g 0)), (1, .int x1), (2, .int x2), (3, .int x3), (4, .int x4), (5, .int x5)] [] M := by
  refine a_aload_n C.1 (tk T_cX11_reading 0 rfl) rfl ?_
  refine a_iload_n C.1 (tk T_cX11_reading 1 rfl) rfl ?_
  refine x_callV C hT [.int x1] me_yX11_wantPlate lk_RX11_232 (ct_R_wantPlate h) (by decide) lc0 rfl rfl rfl (Nat.le_of_ble_eq_true rfl) (tk T_cX11_reading 2 rfl) (by decide) (fun M1 h => ?_)
  refine a_iload_n C.1 (tk T_cX11_reading 3 rfl) rfl ?_
  refine a_iconst C.1 (0 : Int32) (tk T_cX11_reading 4 rfl) kI_0 ?_
  refine a_sipush C.1 (999 : Int32) (tk T_cX11_reading 5 rfl) kS_999 ?_
  refine a_statI C.1 [.int x2, .int (0 : Int32), .int (999 : Int32)] me_yX11_within lk_RX11_68 (ct_R_within h) (by decide) rfl rfl (Nat.le_of_ble_eq_true rfl) (tk T_cX11_reading 6 rfl) ⟨Nat.le_trans (by decide) C.2.2.1, Nat.le_trans (by decide) C.2.2.2⟩ (fun r2 M2 h => ?_)
  refine a_if_eq C.1 42 (tk T_cX11_reading 7 rfl) rfl (fun c => ?_) (fun c => ?_)
  · have h := h.1 c
    exact x_widen (by decide) (by decide) (a_to (k_R_reading_42 C hT hR x1 x2 x3 x4 x5 M2 h) rfl)
  · have h := h.2 c
    refine a_iload C.1 (tk T_cX11_reading 8 rfl) rfl ?_
    refine a_iconst C.1 (1 : Int32) (tk T_cX11_reading 9 rfl) kI_1 ?_
    refine a_bipush C.1 (9 : Int32) (tk T_cX11_reading 10 rfl) kB_9 ?_
    refine a_statI C.1 [.int x4, .int (1 : Int32), .int (9 : Int32)] me_yX11_within lk_RX11_68 (ct_R_within h) (by decide) rfl rfl (Nat.le_of_ble_eq_true rfl) (tk T_cX11_reading 11 rfl) ⟨Nat.le_trans (by decide) C.2.2.1, Nat.le_trans (by decide) C.2.2.2⟩ (fun r3 M3 h => ?_)
    refine a_if_eq C.1 42 (tk T_cX11_reading 12 rfl) rfl (fun c => ?_) (fun c => ?_)
    · have h := h.1 c
      exact x_widen (by decide) (by decide) (a_to (k_R_reading_42 C hT hR x1 x2 x3 x4 x5 M3 h) rfl)
    · have h := h.2 c
      refine a_iload C.1 (tk T_cX11_reading 13 rfl) rfl ?_
      refine a_iconst C.1 (1 : Int32) (tk T_cX11_reading 14 rfl) kI_1 ?_
      refine a_bipush C.1 (9 : Int32) (tk T_cX11_reading 15 rfl) kB_9 ?_
      refine a_statI C.1 [.int x5, .int (1 : Int32), .int (9 : Int32)] me_yX11_within lk_RX11_68 (ct_R_within h) (by decide) rfl rfl (Nat.le_of_ble_eq_true rfl) (tk T_cX11_reading 16 rfl) ⟨Nat.le_trans (by decide) C.2.2.1, Nat.le_trans (by decide) C.2.2.2⟩ (fun r4 M4 h => ?_)
      refine a_if_eq C.1 42 (tk T_cX11_reading 17 rfl) rfl (fun c => ?_) (fun c => ?_)
      · have h := h.1 c
        exact x_widen (by decide) (by decide) (a_to (k_R_reading_42 C hT hR x1 x2 x3 x4 x5 M4 h) rfl)
      · have h := h.2 c
        refine a_iconst C.1 (1 : Int32) (tk T_cX11_reading 18 rfl) kI_1 ?_
        refine a_goto C.1 43 (tk T_cX11_reading 19 rfl) rfl ?_
        exact x_widen (by decide) (by decide) (a_to (k_R_reading_43 C hT hR x1 x2 x3 x4 x5 (1 : Int32) M4 h) rfl)
theorem ct_R_reading {l : Launch} {g : GT} {ext : List CD} {sk : Nat → Nat} {post : Int32 → Mem → Prop} {ex : String → Mem → Prop} {x1 x2 x3 x4 x5 : Int32} {M : Mem} (h : P_R_reading post ex x1 x2 x3 x4 x5 M) : XI l g (layC ++ ext) sk yX11_reading cX11_reading 8 (some .int) 8 3 [.ref (ad g 0), .int x1, .int x2, .int x3, .int x4, .int x5] M post ex :=
  xi_of (by decide +kernel) (Nat.le_of_ble_eq_true rfl) (fun X A Z hl C hR hT _ => by subst hl; exact k_R_reading C hT hR x1 x2 x3 x4 x5 M h)
def T_cX9_mayBeGhostL : List (Nat × Instr × Nat) := [(0, .aload_n 0, 1), (1, .getfield 27, 3), (4, .iload_n 1, 1), (5, .iaload, 1), (6, .istore_n 2, 1), (7, .aload_n 0, 1), (8, .getfield 24, 3), (11, .iload_n 2, 1), (12, .iaload, 1), (13, .ifCond .ne 5, 3), (16, .iconst 0, 1), (17, .ireturn, 1), (18, .iconst 0, 1), (19, .istore_n 3, 1), (20, .iload_n 3, 1), (21, .aload_n 0, 1), (22, .getfield 47, 3), (25, .if_icmp .ge 68, 3), (28, .iload_n 3, 1), (29, .iload_n 1, 1), (30, .if_icmp .eq 57, 3), (33, .aload_n 0, 1), (34, .getfield 27, 3), (37, .iload_n 3, 1), (38, .iaload, 1), (39, .iload_n 2, 1), (40, .if_icmp .ne 47, 3), (43, .aload_n 0, 1), (44, .getfield 37, 3), (47, .iload_n 3, 1), (48, .iaload, 1), (49, .bipush 7, 2), (51, .if_icmp .lt 36, 3), (54, .aload_n 0, 1), (55, .getfield 30, 3), (58, .iload_n 3, 1), (59, .iaload, 1), (60, .aload_n 0, 1), (61, .getfield 30, 3), (64, .iload_n 1, 1), (65, .iaload, 1), (66, .isub, 1), (67, .invokestatic 50, 3), (70, .aload_n 0, 1), (71, .getfield 24, 3), (74, .iload_n 2, 1), (75, .iaload, 1), (76, .isub, 1), (77, .iconst (-1), 1), (78, .iconst 1, 1), (79, .invokestatic 56, 3), (82, .ifCond .eq 5, 3), (85, .iconst 1, 1), (86, .ireturn, 1), (87, .iinc 3 1, 3), (90, .goto (-70), 3), (93, .iconst 0, 1), (94, .ireturn, 1)]
theorem T_cX9_mayBeGhost : tabOK cX9_mayBeGhost T_cX9_mayBeGhostL = true := by decide +kernel
def P_Shelf_mayBeGhost_87 (post : Int32 → Mem → Prop) (R20 : Int32 → Int32 → Int32 → Mem → Prop) (x1 x2 x3 : Int32) (M : Mem) : Prop :=
  R20 x1 x2 (x3 + (1 : Int32)) M
theorem k_Shelf_mayBeGhost_87 {X : FX} {g : GT} {ext : List CD} {A : Nat → Prop} {Z : State → Prop} {post : Int32 → Mem → Prop} {R20 : Int32 → Int32 → Int32 → Mem → Prop} (C : Cx X g (layC ++ ext) A cX9_mayBeGhost 4 RX9 1) (hr : 0 ≤ X.2.2.2.1.cells ∧ 0 ≤ X.2.2.2.1.slots) (hR : RetZ X g (layC ++ ext) A cX9_mayBeGhost 4 0 0 Z post) (k20 : ∀ (y1 y2 y3 : Int32) (M : Mem), R20 y1 y2 y3 M → AtX X g (layC ++ ext) A 4 0 0 Z 20 [(0, .ref (ad g 18)), (1, .int y1), (2, .int y2), (3, .int y3)] [] M) (x1 x2 x3 : Int32) (M : Mem) (h : P_Shelf_mayBeGhost_87 post R20 x1 x2 x3 M) : AtX X g (layC ++ ext) A 4 0 0 Z 87 [(0, .ref (ad g 18)), (1, .int x1), (2, .int x2), (3, .int x3)] [] M := by
  refine a_iinc C (1 : Int32) (tk T_cX9_mayBeGhost 54 rfl) rfl kI_1 (by decide) rfl ?_
  refine a_goto C 20 (tk T_cX9_mayBeGhost 55 rfl) rfl ?_
  exact a_to (k20 x1 x2 (x3 + (1 : Int32)) M h) rfl
def P_Shelf_mayBeGhost_20 (post : Int32 → Mem → Prop) : Nat → Int32 → Int32 → Int32 → Mem → Prop
  | 0, _, _, _, _ => False
  | n + 1, x1, x2, x3, M =>
    ((M 18 11) ≤ x3 → (post (0 : Int32) M)) ∧
  (¬ (M 18 11) ≤ x3 → ((x3 = x1 → (P_Shelf_mayBeGhost_87 post (P_Shelf_mayBeGhost_20 post n) x1 x2 x3 M)) ∧
  (¬ x3 = x1 → (vp_in x3 24 ∧ (¬ (M 24 x3.toNatClampNeg) = x2 → (P_Shelf_mayBeGhost_87 post (P_Shelf_mayBeGhost_20 post n) x1 x2 x3 M)) ∧
  ((M 24 x3.toNatClampNeg) = x2 → (vp_in x3 24 ∧ ((M 27 x3.toNatClampNeg) < (7 : Int32) → (P_Shelf_mayBeGhost_87 post (P_Shelf_mayBeGhost_20 post n) x1 x2 x3 M)) ∧
  (¬ (M 27 x3.toNatClampNeg) < (7 : Int32) → (vp_in x3 24 ∧ vp_in x1 24 ∧ P_Math_abs (fun r1 M1 =>
  vp_in x2 3 ∧ P_R_within (fun r2 M2 =>
  (r2 = 0 → (P_Shelf_mayBeGhost_87 post (P_Shelf_mayBeGhost_20 post n) x1 x2 x3 M2)) ∧
  (¬ r2 = 0 → (post (1 : Int32) M2))) (r1 - (M1 23 x2.toNatClampNeg)) (-1 : Int32) (1 : Int32) M1) ((M 25 x3.toNatClampNeg) - (M 25 x1.toNatClampNeg)) M))))))))
theorem k_Shelf_mayBeGhost_20 {X : FX} {g : GT} {ext : List CD} {A : Nat → Prop} {Z : State → Prop} {post : Int32 → Mem → Prop} (C : Cx X g (layC ++ ext) A cX9_mayBeGhost 4 RX9 1) (hr : 0 ≤ X.2.2.2.1.cells ∧ 0 ≤ X.2.2.2.1.slots) (hR : RetZ X g (layC ++ ext) A cX9_mayBeGhost 4 0 0 Z post) : ∀ (n : Nat) (x1 x2 x3 : Int32) (M : Mem), P_Shelf_mayBeGhost_20 post n x1 x2 x3 M → AtX X g (layC ++ ext) A 4 0 0 Z 20 [(0, .ref (ad g 18)), (1, .int x1), (2, .int x2), (3, .int x3)] [] M := by
  intro n
  induction n with
  | zero =>
    intro x1 x2 x3 M h
    exact h.elim
  | succ n ih =>
    intro x1 x2 x3 M h
    refine a_iload_n C (tk T_cX9_mayBeGhost 14 rfl) rfl ?_
    refine a_aload_n C (tk T_cX9_mayBeGhost 15 rfl) rfl ?_
    refine a_getI C f_RX9_47 (tk T_cX9_mayBeGhost 16 rfl) lc18 rfl ?_
    refine a_icmp_ge C 93 (tk T_cX9_mayBeGhost 17 rfl) rfl (fun c => ?_) (fun c => ?_)
    · have h := h.1 c
      refine a_iconst C (0 : Int32) (tk T_cX9_mayBeGhost 56 rfl) kI_0 ?_
      exact hR _ _ _ _ (tk T_cX9_mayBeGhost 57 rfl) ⟨Or.inl rfl, h⟩
    · have h := h.2 c
      refine a_iload_n C (tk T_cX9_mayBeGhost 18 rfl) rfl ?_
      refine a_iload_n C (tk T_cX9_mayBeGhost 19 rfl) rfl ?_
      refine a_icmp_eq C 87 (tk T_cX9_mayBeGhost 20 rfl) rfl (fun c => ?_) (fun c => ?_)
      · have h := h.1 c
        exact a_to (k_Shelf_mayBeGhost_87 C hr hR ih x1 x2 x3 M h) rfl
      · have h := h.2 c
        refine a_aload_n C (tk T_cX9_mayBeGhost 21 rfl) rfl ?_
        refine a_getR C f_RX9_27 (tk T_cX9_mayBeGhost 22 rfl) lc18 rfl ?_
        refine a_iload_n C (tk T_cX9_mayBeGhost 23 rfl) rfl ?_
        obtain ⟨hb, h⟩ := h
        refine a_iald C (tk T_cX9_mayBeGhost 24 rfl) lc24 hb ?_
        refine a_iload_n C (tk T_cX9_mayBeGhost 25 rfl) rfl ?_
        refine a_icmp_ne C 87 (tk T_cX9_mayBeGhost 26 rfl) rfl (fun c => ?_) (fun c => ?_)
        · have h := h.1 c
          exact a_to (k_Shelf_mayBeGhost_87 C hr hR ih x1 x2 x3 M h) rfl
        · have h := h.2 c
          refine a_aload_n C (tk T_cX9_mayBeGhost 27 rfl) rfl ?_
          refine a_getR C f_RX9_37 (tk T_cX9_mayBeGhost 28 rfl) lc18 rfl ?_
          refine a_iload_n C (tk T_cX9_mayBeGhost 29 rfl) rfl ?_
          obtain ⟨hb, h⟩ := h
          refine a_iald C (tk T_cX9_mayBeGhost 30 rfl) lc27 hb ?_
          refine a_bipush C (7 : Int32) (tk T_cX9_mayBeGhost 31 rfl) kB_7 ?_
          refine a_icmp_lt C 87 (tk T_cX9_mayBeGhost 32 rfl) rfl (fun c => ?_) (fun c => ?_)
          · have h := h.1 c
            exact a_to (k_Shelf_mayBeGhost_87 C hr hR ih x1 x2 x3 M h) rfl
          · have h := h.2 c
            refine a_aload_n C (tk T_cX9_mayBeGhost 33 rfl) rfl ?_
            refine a_getR C f_RX9_30 (tk T_cX9_mayBeGhost 34 rfl) lc18 rfl ?_
            refine a_iload_n C (tk T_cX9_mayBeGhost 35 rfl) rfl ?_
            obtain ⟨hb, h⟩ := h
            refine a_iald C (tk T_cX9_mayBeGhost 36 rfl) lc25 hb ?_
            refine a_aload_n C (tk T_cX9_mayBeGhost 37 rfl) rfl ?_
            refine a_getR C f_RX9_30 (tk T_cX9_mayBeGhost 38 rfl) lc18 rfl ?_
            refine a_iload_n C (tk T_cX9_mayBeGhost 39 rfl) rfl ?_
            obtain ⟨hb, h⟩ := h
            refine a_iald C (tk T_cX9_mayBeGhost 40 rfl) lc25 hb ?_
            refine a_isub C (tk T_cX9_mayBeGhost 41 rfl) ?_
            refine a_statI C [.int ((M 25 x3.toNatClampNeg) - (M 25 x1.toNatClampNeg))] me_yJ9_abs_0f7a4 lk_RX9_50 (ct_Math_abs h) (by decide) rfl rfl (Nat.le_of_ble_eq_true rfl) (tk T_cX9_mayBeGhost 42 rfl) hr (fun r1 M1 h => ?_)
            refine a_aload_n C (tk T_cX9_mayBeGhost 43 rfl) rfl ?_
            refine a_getR C f_RX9_24 (tk T_cX9_mayBeGhost 44 rfl) lc18 rfl ?_
            refine a_iload_n C (tk T_cX9_mayBeGhost 45 rfl) rfl ?_
            obtain ⟨hb, h⟩ := h
            refine a_iald C (tk T_cX9_mayBeGhost 46 rfl) lc23 hb ?_
            refine a_isub C (tk T_cX9_mayBeGhost 47 rfl) ?_
            refine a_iconst C (-1 : Int32) (tk T_cX9_mayBeGhost 48 rfl) kI_m1 ?_
            refine a_iconst C (1 : Int32) (tk T_cX9_mayBeGhost 49 rfl) kI_1 ?_
            refine a_nestI C [.int (r1 - (M1 23 x2.toNatClampNeg)), .int (-1 : Int32), .int (1 : Int32)] me_yX11_within lk_RX9_56 (ct_R_within h) (by decide) rfl rfl (Nat.le_of_ble_eq_true rfl) (tk T_cX9_mayBeGhost 50 rfl) hr (fun r2 M2 h => ?_)
            refine a_if_eq C 87 (tk T_cX9_mayBeGhost 51 rfl) rfl (fun c => ?_) (fun c => ?_)
            · have h := h.1 c
              exact a_to (k_Shelf_mayBeGhost_87 C hr hR ih x1 x2 x3 M2 h) rfl
            · have h := h.2 c
              refine a_iconst C (1 : Int32) (tk T_cX9_mayBeGhost 52 rfl) kI_1 ?_
              exact hR _ _ _ _ (tk T_cX9_mayBeGhost 53 rfl) ⟨Or.inr rfl, h⟩
def P_Shelf_mayBeGhost (post : Int32 → Mem → Prop) (x1 : Int32) (M : Mem) : Prop :=
  vp_in x1 24 ∧ vp_in (M 24 x1.toNatClampNeg) 3 ∧ (¬ (M 23 (M 24 x1.toNatClampNeg).toNatClampNeg) = 0 → (∃ j20, P_Shelf_mayBeGhost_20 post j20 x1 (M 24 x1.toNatClampNeg) (0 : Int32) M)) ∧
  ((M 23 (M 24 x1.toNatClampNeg).toNatClampNeg) = 0 → (post (0 : Int32) M))
theorem k_Shelf_mayBeGhost {X : FX} {g : GT} {ext : List CD} {A : Nat → Prop} {Z : State → Prop} {post : Int32 → Mem → Prop} (C : Cx X g (layC ++ ext) A cX9_mayBeGhost 4 RX9 1) (hr : 0 ≤ X.2.2.2.1.cells ∧ 0 ≤ X.2.2.2.1.slots) (hR : RetZ X g (layC ++ ext) A cX9_mayBeGhost 4 0 0 Z post) (x1 : Int32) (M : Mem) (h : P_Shelf_mayBeGhost post x1 M) : AtX X g (layC ++ ext) A 4 0 0 Z 0 [(0, .ref (ad g 18)), (1, .int x1)] [] M := by
  refine a_aload_n C (tk T_cX9_mayBeGhost 0 rfl) rfl ?_
  refine a_getR C f_RX9_27 (tk T_cX9_mayBeGhost 1 rfl) lc18 rfl ?_
  refine a_iload_n C (tk T_cX9_mayBeGhost 2 rfl) rfl ?_
  obtain ⟨hb, h⟩ := h
  refine a_iald C (tk T_cX9_mayBeGhost 3 rfl) lc24 hb ?_
  refine a_istore_n C (tk T_cX9_mayBeGhost 4 rfl) (by decide) rfl ?_
  refine a_aload_n C (tk T_cX9_mayBeGhost 5 rfl) rfl ?_
  refine a_getR C f_RX9_24 (tk T_cX9_mayBeGhost 6 rfl) lc18 rfl ?_
  refine a_iload_n C (tk T_cX9_mayBeGhost 7 rfl) rfl ?_
  obtain ⟨hb, h⟩ := h
  refine a_iald C (tk T_cX9_mayBeGhost 8 rfl) lc23 hb ?_
  refine a_if_ne C 18 (tk T_cX9_mayBeGhost 9 rfl) rfl (fun c => ?_) (fun c => ?_)
  · have h := h.1 c
    refine a_iconst C (0 : Int32) (tk T_cX9_mayBeGhost 12 rfl) kI_0 ?_
    refine a_istore_n C (tk T_cX9_mayBeGhost 13 rfl) (by decide) rfl ?_
    obtain ⟨n1, h⟩ := h
    exact a_to (k_Shelf_mayBeGhost_20 C hr hR n1 x1 (M 24 x1.toNatClampNeg) (0 : Int32) M h) rfl
  · have h := h.2 c
    refine a_iconst C (0 : Int32) (tk T_cX9_mayBeGhost 10 rfl) kI_0 ?_
    exact hR _ _ _ _ (tk T_cX9_mayBeGhost 11 rfl) ⟨Or.inl rfl, h⟩
theorem ct_Shelf_mayBeGhost {l : Launch} {g : GT} {ext : List CD} {post : Int32 → Mem → Prop} {x1 : Int32} {M : Mem} (h : P_Shelf_mayBeGhost post x1 M) : CI l g (layC ++ ext) yX9_mayBeGhost cX9_mayBeGhost 4 (some .boolean) 1 [.ref (ad g 18), .int x1] M post :=
  cz_of (plainFor_of_name (by decide +kernel)) (Nat.le_of_ble_eq_true rfl) (fun X A Z hl C hr hR => by subst hl; exact k_Shelf_mayBeGhost C hr hR x1 M h)
def T_cX11_lookL : List (Nat × Instr × Nat) := [(0, .aload_n 0, 1), (1, .getfield 10, 3), (4, .getfield 208, 3), (7, .astore_n 3, 1), (8, .iload_n 1, 1), (9, .iconst 0, 1), (10, .aload_n 3, 1), (11, .getfield 235, 3), (14, .iconst 1, 1), (15, .isub, 1), (16, .invokestatic 68, 3), (19, .invokestatic 201, 3), (22, .iload_n 2, 1), (23, .iconst 0, 1), (24, .bipush 8, 2), (26, .invokestatic 68, 3), (29, .invokestatic 166, 3), (32, .aload_n 0, 1), (33, .getfield 10, 3), (36, .getfield 76, 3), (39, .aload_n 3, 1), (40, .getfield 241, 3), (43, .iload_n 1, 1), (44, .iaload, 1), (45, .aload_n 3, 1), (46, .getfield 242, 3), (49, .iload_n 1, 1), (50, .baload, 1), (51, .invokevirtual 97, 3), (54, .istore 4, 2), (56, .iload_n 2, 1), (57, .tableswitch 109 0 7 #[47, 54, 61, 76, 83, 90, 93, 101], 47), (104, .aload_n 3, 1), (105, .getfield 238, 3), (108, .iload_n 1, 1), (109, .iaload, 1), (110, .ireturn, 1), (111, .aload_n 3, 1), (112, .getfield 241, 3), (115, .iload_n 1, 1), (116, .iaload, 1), (117, .ireturn, 1), (118, .aload_n 3, 1), (119, .getfield 242, 3), (122, .iload_n 1, 1), (123, .baload, 1), (124, .ifCond .eq 7, 3), (127, .iconst 1, 1), (128, .goto 4, 3), (131, .iconst 0, 1), (132, .ireturn, 1), (133, .aload_n 3, 1), (134, .getfield 243, 3), (137, .iload_n 1, 1), (138, .iaload, 1), (139, .ireturn, 1), (140, .aload_n 3, 1), (141, .getfield 244, 3), (144, .iload_n 1, 1), (145, .iaload, 1), (146, .ireturn, 1), (147, .iload 4, 2), (149, .ireturn, 1), (150, .aload_n 0, 1), (151, .iload 4, 2), (153, .iconst 0, 1), (154, .invokevirtual 179, 3), (157, .ireturn, 1), (158, .aload_n 0, 1), (159, .iload 4, 2), (161, .iconst 1, 1), (162, .invokevirtual 179, 3), (165, .ireturn, 1), (166, .aload_n 3, 1), (167, .iload_n 1, 1), (168, .invokevirtual 247, 3), (171, .ifCond .eq 7, 3), (174, .iconst 1, 1), (175, .goto 4, 3), (178, .iconst 0, 1), (179, .ireturn, 1)]
theorem T_cX11_look : tabOK cX11_look T_cX11_lookL = true := by decide +kernel
def P_R_look_179 (post : Int32 → Mem → Prop) (ex : String → Mem → Prop) (s0 : Int32) (M : Mem) : Prop :=
  post s0 M
theorem k_R_look_179 {X : FX} {g : GT} {ext : List CD} {A : Nat → Prop} {Z : State → Prop} {post : Int32 → Mem → Prop} {ex : String → Mem → Prop} {sk : Nat → Nat} (C : CxX X g (layC ++ ext) A cX11_look 5 RX11 7 2 sk) (hT : ThX X g (layC ++ ext) A 2 Z ex) (hR : RetI X g (layC ++ ext) A cX11_look 5 2 (6 * 2) Z post) (s0 : Int32) (M : Mem) (h : P_R_look_179 post ex s0 M) : AtX X g (layC ++ ext) A 5 2 (6 * 2) Z 179 [] [.int s0] M := by
  exact x_widen (by decide) (by decide) (hR _ _ _ _ (tk T_cX11_look 80 rfl) h)
def P_R_look_132 (post : Int32 → Mem → Prop) (ex : String → Mem → Prop) (s0 : Int32) (M : Mem) : Prop :=
  post s0 M
theorem k_R_look_132 {X : FX} {g : GT} {ext : List CD} {A : Nat → Prop} {Z : State → Prop} {post : Int32 → Mem → Prop} {ex : String → Mem → Prop} {sk : Nat → Nat} (C : CxX X g (layC ++ ext) A cX11_look 5 RX11 7 2 sk) (hT : ThX X g (layC ++ ext) A 2 Z ex) (hR : RetI X g (layC ++ ext) A cX11_look 5 2 (6 * 2) Z post) (s0 : Int32) (M : Mem) (h : P_R_look_132 post ex s0 M) : AtX X g (layC ++ ext) A 5 2 (6 * 2) Z 132 [] [.int s0] M := by
  exact x_widen (by decide) (by decide) (hR _ _ _ _ (tk T_cX11_look 50 rfl) h)
def P_R_look (post : Int32 → Mem → Prop) (ex : String → Mem → Prop) (x1 x2 : Int32) (M : Mem) : Prop :=
  P_R_within (fun r1 M1 =>
  P_R_wantThere (fun M2 =>
  P_R_within (fun r3 M3 =>
  P_R_wantWhat (fun M4 =>
  vp_in x1 24 ∧ vp_in x1 24 ∧ P_Screw_truePlace (fun r5 M5 =>
  (x2 = (0 : Int32) → (vp_in x1 24 ∧ post (M5 24 x1.toNatClampNeg) M5)) ∧
  (¬ x2 = (0 : Int32) → (x2 = (1 : Int32) → (vp_in x1 24 ∧ post (M5 25 x1.toNatClampNeg) M5)) ∧
  (¬ x2 = (1 : Int32) → (x2 = (2 : Int32) → (vp_in x1 24 ∧ ((M5 26 x1.toNatClampNeg) = 0 → (P_R_look_132 post ex (0 : Int32) M5)) ∧
  (¬ (M5 26 x1.toNatClampNeg) = 0 → (P_R_look_132 post ex (1 : Int32) M5)))) ∧
  (¬ x2 = (2 : Int32) → (x2 = (3 : Int32) → (vp_in x1 24 ∧ post (M5 27 x1.toNatClampNeg) M5)) ∧
  (¬ x2 = (3 : Int32) → (x2 = (4 : Int32) → (vp_in x1 24 ∧ post (M5 28 x1.toNatClampNeg) M5)) ∧
  (¬ x2 = (4 : Int32) → (x2 = (5 : Int32) → (post r5 M5)) ∧
  (¬ x2 = (5 : Int32) → (x2 = (6 : Int32) → (P_R_spanEnd (fun r6 M6 =>
  post r6 M6) r5 (0 : Int32) M5)) ∧
  (¬ x2 = (6 : Int32) → (x2 = (7 : Int32) → (P_R_spanEnd (fun r7 M7 =>
  post r7 M7) r5 (1 : Int32) M5)) ∧
  (¬ x2 = (7 : Int32) → (P_Shelf_mayBeGhost (fun r8 M8 =>
  (r8 = 0 → (P_R_look_179 post ex (0 : Int32) M8)) ∧
  (¬ r8 = 0 → (P_R_look_179 post ex (1 : Int32) M8))) x1 M5)))))))))) (M4 25 x1.toNatClampNeg) (M4 26 x1.toNatClampNeg) M4) ex r3 M3) x2 (0 : Int32) (8 : Int32) M2) ex r1 M1) x1 (0 : Int32) ((M 18 11) - (1 : Int32)) M
theorem k_R_look {X : FX} {g : GT} {ext : List CD} {A : Nat → Prop} {Z : State → Prop} {post : Int32 → Mem → Prop} {ex : String → Mem → Prop} {sk : Nat → Nat} (C : CxX X g (layC ++ ext) A cX11_look 5 RX11 7 2 sk) (hT : ThX X g (layC ++ ext) A 2 Z ex) (hR : RetI X g (layC ++ ext) A cX11_look 5 2 (6 * 2) Z post) (x1 x2 : Int32) (M : Mem) (h : P_R_look post ex x1 x2 M) : AtX X g (layC ++ ext) A 5 0 0 Z 0 [(0, .ref (ad g 0)), (1, .int x1), (2, .int x2)] [] M := by
  refine a_aload_n C.1 (tk T_cX11_look 0 rfl) rfl ?_
  refine a_getR C.1 f_RX11_10 (tk T_cX11_look 1 rfl) lc0 rfl ?_
  refine a_getR C.1 f_RX11_208 (tk T_cX11_look 2 rfl) lc1 rfl ?_
  refine a_astore_n C.1 (tk T_cX11_look 3 rfl) (by decide) rfl ?_
  refine a_iload_n C.1 (tk T_cX11_look 4 rfl) rfl ?_
  refine a_iconst C.1 (0 : Int32) (tk T_cX11_look 5 rfl) kI_0 ?_
  refine a_aload_n C.1 (tk T_cX11_look 6 rfl) rfl ?_
  refine a_getI C.1 f_RX11_235 (tk T_cX11_look 7 rfl) lc18 rfl ?_
  refine a_iconst C.1 (1 : Int32) (tk T_cX11_look 8 rfl) kI_1 ?_
  refine a_isub C.1 (tk T_cX11_look 9 rfl) ?_
  refine a_statI C.1 [.int x1, .int (0 : Int32), .int ((M 18 11) - (1 : Int32))] me_yX11_within lk_RX11_68 (ct_R_within h) (by decide) rfl rfl (Nat.le_of_ble_eq_true rfl) (tk T_cX11_look 10 rfl) ⟨Nat.le_trans (by decide) C.2.2.1, Nat.le_trans (by decide) C.2.2.2⟩ (fun r1 M1 h => ?_)
  refine x_statV C hT [.int r1] me_yX11_wantThere lk_RX11_201 (ct_R_wantThere h) (by decide) rfl rfl (Nat.le_of_ble_eq_true rfl) (tk T_cX11_look 11 rfl) (by decide) (fun M2 h => ?_)
  refine a_iload_n C.1 (tk T_cX11_look 12 rfl) rfl ?_
  refine a_iconst C.1 (0 : Int32) (tk T_cX11_look 13 rfl) kI_0 ?_
  refine a_bipush C.1 (8 : Int32) (tk T_cX11_look 14 rfl) kB_8 ?_
  refine a_statI C.1 [.int x2, .int (0 : Int32), .int (8 : Int32)] me_yX11_within lk_RX11_68 (ct_R_within h) (by decide) rfl rfl (Nat.le_of_ble_eq_true rfl) (tk T_cX11_look 15 rfl) ⟨Nat.le_trans (by decide) C.2.2.1, Nat.le_trans (by decide) C.2.2.2⟩ (fun r3 M3 h => ?_)
  refine x_statV C hT [.int r3] me_yX11_wantWhat lk_RX11_166 (ct_R_wantWhat h) (by decide) rfl rfl (Nat.le_of_ble_eq_true rfl) (tk T_cX11_look 16 rfl) (by decide) (fun M4 h => ?_)
  refine a_aload_n C.1 (tk T_cX11_look 17 rfl) rfl ?_
  refine a_getR C.1 f_RX11_10 (tk T_cX11_look 18 rfl) lc0 rfl ?_
  refine a_getR C.1 f_RX11_76 (tk T_cX11_look 19 rfl) lc1 rfl ?_
  refine a_aload_n C.1 (tk T_cX11_look 20 rfl) rfl ?_
  refine a_getR C.1 f_RX11_241 (tk T_cX11_look 21 rfl) lc18 rfl ?_
  refine a_iload_n C.1 (tk T_cX11_look 22 rfl) rfl ?_
  obtain ⟨hb, h⟩ := h
  refine a_iald C.1 (tk T_cX11_look 23 rfl) lc25 hb ?_
  refine a_aload_n C.1 (tk T_cX11_look 24 rfl) rfl ?_
  refine a_getR C.1 f_RX11_242 (tk T_cX11_look 25 rfl) lc18 rfl ?_
  refine a_iload_n C.1 (tk T_cX11_look 26 rfl) rfl ?_
  obtain ⟨hb, h⟩ := h
  refine a_zald C.1 (tk T_cX11_look 27 rfl) lc26 hb ?_
  refine a_callI C.1 [.int (M4 25 x1.toNatClampNeg), .int (M4 26 x1.toNatClampNeg)] me_yX8_truePlace lk_RX11_97 (ct_Screw_truePlace h) (by decide) lc2 rfl rfl rfl (Nat.le_of_ble_eq_true rfl) (tk T_cX11_look 28 rfl) ⟨Nat.le_trans (by decide) C.2.2.1, Nat.le_trans (by decide) C.2.2.2⟩ (fun r5 M5 h => ?_)
  refine a_istore C.1 (tk T_cX11_look 29 rfl) (by decide) rfl ?_
  refine a_iload_n C.1 (tk T_cX11_look 30 rfl) rfl ?_
  refine a_case (0 : Int32) (fun c => ?_) (fun c0 => ?_)
  · have h := h.1 c
    refine a_tswI C.1 (47) 104 (tk T_cX11_look 31 rfl) (by decide) rfl ?_
    refine a_aload_n C.1 (tk T_cX11_look 32 rfl) rfl ?_
    refine a_getR C.1 f_RX11_238 (tk T_cX11_look 33 rfl) lc18 rfl ?_
    refine a_iload_n C.1 (tk T_cX11_look 34 rfl) rfl ?_
    obtain ⟨hb, h⟩ := h
    refine a_iald C.1 (tk T_cX11_look 35 rfl) lc24 hb ?_
    exact x_widen (by decide) (by decide) (hR _ _ _ _ (tk T_cX11_look 36 rfl) h)
  · have h := h.2 c0
    refine a_case (1 : Int32) (fun c => ?_) (fun c1 => ?_)
    · have h := h.1 c
      refine a_tswI C.1 (54) 111 (tk T_cX11_look 31 rfl) (by decide) rfl ?_
      refine a_aload_n C.1 (tk T_cX11_look 37 rfl) rfl ?_
      refine a_getR C.1 f_RX11_241 (tk T_cX11_look 38 rfl) lc18 rfl ?_
      refine a_iload_n C.1 (tk T_cX11_look 39 rfl) rfl ?_
      obtain ⟨hb, h⟩ := h
      refine a_iald C.1 (tk T_cX11_look 40 rfl) lc25 hb ?_
      exact x_widen (by decide) (by decide) (hR _ _ _ _ (tk T_cX11_look 41 rfl) h)
    · have h := h.2 c1
      refine a_case (2 : Int32) (fun c => ?_) (fun c2 => ?_)
      · have h := h.1 c
        refine a_tswI C.1 (61) 118 (tk T_cX11_look 31 rfl) (by decide) rfl ?_
        refine a_aload_n C.1 (tk T_cX11_look 42 rfl) rfl ?_
        refine a_getR C.1 f_RX11_242 (tk T_cX11_look 43 rfl) lc18 rfl ?_
        refine a_iload_n C.1 (tk T_cX11_look 44 rfl) rfl ?_
        obtain ⟨hb, h⟩ := h
        refine a_zald C.1 (tk T_cX11_look 45 rfl) lc26 hb ?_
        refine a_if_eq C.1 131 (tk T_cX11_look 46 rfl) rfl (fun c => ?_) (fun c => ?_)
        · have h := h.1 c
          refine a_iconst C.1 (0 : Int32) (tk T_cX11_look 49 rfl) kI_0 ?_
          exact x_widen (by decide) (by decide) (a_to (k_R_look_132 C hT hR (0 : Int32) M5 h) rfl)
        · have h := h.2 c
          refine a_iconst C.1 (1 : Int32) (tk T_cX11_look 47 rfl) kI_1 ?_
          refine a_goto C.1 132 (tk T_cX11_look 48 rfl) rfl ?_
          exact x_widen (by decide) (by decide) (a_to (k_R_look_132 C hT hR (1 : Int32) M5 h) rfl)
      · have h := h.2 c2
        refine a_case (3 : Int32) (fun c => ?_) (fun c3 => ?_)
        · have h := h.1 c
          refine a_tswI C.1 (76) 133 (tk T_cX11_look 31 rfl) (by decide) rfl ?_
          refine a_aload_n C.1 (tk T_cX11_look 51 rfl) rfl ?_
          refine a_getR C.1 f_RX11_243 (tk T_cX11_look 52 rfl) lc18 rfl ?_
          refine a_iload_n C.1 (tk T_cX11_look 53 rfl) rfl ?_
          obtain ⟨hb, h⟩ := h
          refine a_iald C.1 (tk T_cX11_look 54 rfl) lc27 hb ?_
          exact x_widen (by decide) (by decide) (hR _ _ _ _ (tk T_cX11_look 55 rfl) h)
        · have h := h.2 c3
          refine a_case (4 : Int32) (fun c => ?_) (fun c4 => ?_)
          · have h := h.1 c
            refine a_tswI C.1 (83) 140 (tk T_cX11_look 31 rfl) (by decide) rfl ?_
            refine a_aload_n C.1 (tk T_cX11_look 56 rfl) rfl ?_
            refine a_getR C.1 f_RX11_244 (tk T_cX11_look 57 rfl) lc18 rfl ?_
            refine a_iload_n C.1 (tk T_cX11_look 58 rfl) rfl ?_
            obtain ⟨hb, h⟩ := h
            refine a_iald C.1 (tk T_cX11_look 59 rfl) lc28 hb ?_
            exact x_widen (by decide) (by decide) (hR _ _ _ _ (tk T_cX11_look 60 rfl) h)
          · have h := h.2 c4
            refine a_case (5 : Int32) (fun c => ?_) (fun c5 => ?_)
            · have h := h.1 c
              refine a_tswI C.1 (90) 147 (tk T_cX11_look 31 rfl) (by decide) rfl ?_
              refine a_iload C.1 (tk T_cX11_look 61 rfl) rfl ?_
              exact x_widen (by decide) (by decide) (hR _ _ _ _ (tk T_cX11_look 62 rfl) h)
            · have h := h.2 c5
              refine a_case (6 : Int32) (fun c => ?_) (fun c6 => ?_)
              · have h := h.1 c
                refine a_tswI C.1 (93) 150 (tk T_cX11_look 31 rfl) (by decide) rfl ?_
                refine a_aload_n C.1 (tk T_cX11_look 63 rfl) rfl ?_
                refine a_iload C.1 (tk T_cX11_look 64 rfl) rfl ?_
                refine a_iconst C.1 (0 : Int32) (tk T_cX11_look 65 rfl) kI_0 ?_
                refine a_callI C.1 [.int r5, .int (0 : Int32)] me_yX11_spanEnd lk_RX11_179 (ct_R_spanEnd h) (by decide) lc0 rfl rfl rfl (Nat.le_of_ble_eq_true rfl) (tk T_cX11_look 66 rfl) ⟨Nat.le_trans (by decide) C.2.2.1, Nat.le_trans (by decide) C.2.2.2⟩ (fun r6 M6 h => ?_)
                exact x_widen (by decide) (by decide) (hR _ _ _ _ (tk T_cX11_look 67 rfl) h)
              · have h := h.2 c6
                refine a_case (7 : Int32) (fun c => ?_) (fun c7 => ?_)
                · have h := h.1 c
                  refine a_tswI C.1 (101) 158 (tk T_cX11_look 31 rfl) (by decide) rfl ?_
                  refine a_aload_n C.1 (tk T_cX11_look 68 rfl) rfl ?_
                  refine a_iload C.1 (tk T_cX11_look 69 rfl) rfl ?_
                  refine a_iconst C.1 (1 : Int32) (tk T_cX11_look 70 rfl) kI_1 ?_
                  refine a_callI C.1 [.int r5, .int (1 : Int32)] me_yX11_spanEnd lk_RX11_179 (ct_R_spanEnd h) (by decide) lc0 rfl rfl rfl (Nat.le_of_ble_eq_true rfl) (tk T_cX11_look 71 rfl) ⟨Nat.le_trans (by decide) C.2.2.1, Nat.le_trans (by decide) C.2.2.2⟩ (fun r7 M7 h => ?_)
                  exact x_widen (by decide) (by decide) (hR _ _ _ _ (tk T_cX11_look 72 rfl) h)
                · have h := h.2 c7
                  have d0 := ne_toInt (z := 0) c0 (by decide)
                  have d1 := ne_toInt (z := 1) c1 (by decide)
                  have d2 := ne_toInt (z := 2) c2 (by decide)
                  have d3 := ne_toInt (z := 3) c3 (by decide)
                  have d4 := ne_toInt (z := 4) c4 (by decide)
                  have d5 := ne_toInt (z := 5) c5 (by decide)
                  have d6 := ne_toInt (z := 6) c6 (by decide)
                  have d7 := ne_toInt (z := 7) c7 (by decide)
                  refine a_tswO C.1 166 (tk T_cX11_look 31 rfl) (by omega) rfl ?_
                  refine a_aload_n C.1 (tk T_cX11_look 73 rfl) rfl ?_
                  refine a_iload_n C.1 (tk T_cX11_look 74 rfl) rfl ?_
                  refine a_callI C.1 [.int x1] me_yX9_mayBeGhost lk_RX11_247 (ct_Shelf_mayBeGhost h) (by decide) lc18 rfl rfl rfl (Nat.le_of_ble_eq_true rfl) (tk T_cX11_look 75 rfl) ⟨Nat.le_trans (by decide) C.2.2.1, Nat.le_trans (by decide) C.2.2.2⟩ (fun r8 M8 h => ?_)
                  refine a_if_eq C.1 178 (tk T_cX11_look 76 rfl) rfl (fun c => ?_) (fun c => ?_)
                  · have h := h.1 c
                    refine a_iconst C.1 (0 : Int32) (tk T_cX11_look 79 rfl) kI_0 ?_
                    exact x_widen (by decide) (by decide) (a_to (k_R_look_179 C hT hR (0 : Int32) M8 h) rfl)
                  · have h := h.2 c
                    refine a_iconst C.1 (1 : Int32) (tk T_cX11_look 77 rfl) kI_1 ?_
                    refine a_goto C.1 179 (tk T_cX11_look 78 rfl) rfl ?_
                    exact x_widen (by decide) (by decide) (a_to (k_R_look_179 C hT hR (1 : Int32) M8 h) rfl)
theorem ct_R_look {l : Launch} {g : GT} {ext : List CD} {sk : Nat → Nat} {post : Int32 → Mem → Prop} {ex : String → Mem → Prop} {x1 x2 : Int32} {M : Mem} (h : P_R_look post ex x1 x2 M) : XI l g (layC ++ ext) sk yX11_look cX11_look 5 (some .int) 7 2 [.ref (ad g 0), .int x1, .int x2] M post ex :=
  xi_of (by decide +kernel) (Nat.le_of_ble_eq_true rfl) (fun X A Z hl C hR hT _ => by subst hl; exact k_R_look C hT hR x1 x2 M h)
def T_cX11_awayL : List (Nat × Instr × Nat) := [(0, .aload_n 0, 1), (1, .getfield 10, 3), (4, .getfield 208, 3), (7, .getfield 235, 3), (10, .ifCond .ne 5, 3), (13, .iconst (-1), 1), (14, .ireturn, 1), (15, .aload_n 0, 1), (16, .getfield 10, 3), (19, .getfield 208, 3), (22, .dup, 1), (23, .getfield 235, 3), (26, .iconst 1, 1), (27, .isub, 1), (28, .putfield 235, 3), (31, .aload_n 0, 1), (32, .getfield 10, 3), (35, .getfield 208, 3), (38, .getfield 235, 3), (41, .ireturn, 1)]
theorem T_cX11_away : tabOK cX11_away T_cX11_awayL = true := by decide +kernel
def P_R_away (post : Int32 → Mem → Prop) (M : Mem) : Prop :=
  (¬ (M 18 11) = 0 → (∀ M1, M1 = ms M 18 11 ((M 18 11) - (1 : Int32)) → post (M1 18 11) M1)) ∧
  ((M 18 11) = 0 → (post (-1 : Int32) M))
theorem k_R_away {X : FX} {g : GT} {ext : List CD} {A : Nat → Prop} {Z : State → Prop} {post : Int32 → Mem → Prop} (C : Cx X g (layC ++ ext) A cX11_away 1 RX11 0) (hr : 0 ≤ X.2.2.2.1.cells ∧ 0 ≤ X.2.2.2.1.slots) (hR : RetI X g (layC ++ ext) A cX11_away 1 0 0 Z post) (M : Mem) (h : P_R_away post M) : AtX X g (layC ++ ext) A 1 0 0 Z 0 [(0, .ref (ad g 0))] [] M := by
  refine a_aload_n C (tk T_cX11_away 0 rfl) rfl ?_
  refine a_getR C f_RX11_10 (tk T_cX11_away 1 rfl) lc0 rfl ?_
  refine a_getR C f_RX11_208 (tk T_cX11_away 2 rfl) lc1 rfl ?_
  refine a_getI C f_RX11_235 (tk T_cX11_away 3 rfl) lc18 rfl ?_
  refine a_if_ne C 15 (tk T_cX11_away 4 rfl) rfl (fun c => ?_) (fun c => ?_)
  · have h := h.1 c
    refine a_aload_n C (tk T_cX11_away 7 rfl) rfl ?_
    refine a_getR C f_RX11_10 (tk T_cX11_away 8 rfl) lc0 rfl ?_
    refine a_getR C f_RX11_208 (tk T_cX11_away 9 rfl) lc1 rfl ?_
    refine a_dupr C (tk T_cX11_away 10 rfl) ?_
    refine a_getI C f_RX11_235 (tk T_cX11_away 11 rfl) lc18 rfl ?_
    refine a_iconst C (1 : Int32) (tk T_cX11_away 12 rfl) kI_1 ?_
    refine a_isub C (tk T_cX11_away 13 rfl) ?_
    refine a_put C f_RX11_235 f_RX11_235p rfl rfl (tk T_cX11_away 14 rfl) lc18 rfl ?_
    refine a_mem (fun M1 e_M1 => ?_)
    have h := h M1 e_M1
    refine a_aload_n C (tk T_cX11_away 15 rfl) rfl ?_
    refine a_getR C f_RX11_10 (tk T_cX11_away 16 rfl) lc0 rfl ?_
    refine a_getR C f_RX11_208 (tk T_cX11_away 17 rfl) lc1 rfl ?_
    refine a_getI C f_RX11_235 (tk T_cX11_away 18 rfl) lc18 rfl ?_
    exact hR _ _ _ _ (tk T_cX11_away 19 rfl) h
  · have h := h.2 c
    refine a_iconst C (-1 : Int32) (tk T_cX11_away 5 rfl) kI_m1 ?_
    exact hR _ _ _ _ (tk T_cX11_away 6 rfl) h
theorem ct_R_away {l : Launch} {g : GT} {ext : List CD} {post : Int32 → Mem → Prop} {M : Mem} (h : P_R_away post M) : CI l g (layC ++ ext) yX11_away cX11_away 1 (some .int) 0 [.ref (ad g 0)] M post :=
  ci_of (plainFor_of_name (by decide +kernel)) (Nat.le_of_ble_eq_true rfl) (fun X A Z hl C hr hR => by subst hl; exact k_R_away C hr hR  M h)
def T_cX11_wantElementL : List (Nat × Instr × Nat) := [(0, .iload_n 1, 1), (1, .iconst 0, 1), (2, .aload_n 0, 1), (3, .getfield 10, 3), (6, .getfield 188, 3), (9, .getfield 192, 3), (12, .iconst 1, 1), (13, .isub, 1), (14, .invokestatic 68, 3), (17, .invokestatic 201, 3), (20, .return_, 1)]
theorem T_cX11_wantElement : tabOK cX11_wantElement T_cX11_wantElementL = true := by decide +kernel
def P_R_wantElement (post : Mem → Prop) (ex : String → Mem → Prop) (x1 : Int32) (M : Mem) : Prop :=
  P_R_within (fun r1 M1 =>
  P_R_wantThere (fun M2 =>
  post M2) ex r1 M1) x1 (0 : Int32) ((M 13 4) - (1 : Int32)) M
theorem k_R_wantElement {X : FX} {g : GT} {ext : List CD} {A : Nat → Prop} {Z : State → Prop} {post : Mem → Prop} {ex : String → Mem → Prop} {sk : Nat → Nat} (C : CxX X g (layC ++ ext) A cX11_wantElement 2 RX11 7 1 sk) (hT : ThX X g (layC ++ ext) A 1 Z ex) (hR : RetV X g (layC ++ ext) A cX11_wantElement 2 1 (6 * 1) Z post) (x1 : Int32) (M : Mem) (h : P_R_wantElement post ex x1 M) : AtX X g (layC ++ ext) A 2 0 0 Z 0 [(0, .ref (ad g 0)), (1, .int x1)] [] M := by
  refine a_iload_n C.1 (tk T_cX11_wantElement 0 rfl) rfl ?_
  refine a_iconst C.1 (0 : Int32) (tk T_cX11_wantElement 1 rfl) kI_0 ?_
  refine a_aload_n C.1 (tk T_cX11_wantElement 2 rfl) rfl ?_
  refine a_getR C.1 f_RX11_10 (tk T_cX11_wantElement 3 rfl) lc0 rfl ?_
  refine a_getR C.1 f_RX11_188 (tk T_cX11_wantElement 4 rfl) lc1 rfl ?_
  refine a_getI C.1 f_RX11_192 (tk T_cX11_wantElement 5 rfl) lc13 rfl ?_
  refine a_iconst C.1 (1 : Int32) (tk T_cX11_wantElement 6 rfl) kI_1 ?_
  refine a_isub C.1 (tk T_cX11_wantElement 7 rfl) ?_
  refine a_statI C.1 [.int x1, .int (0 : Int32), .int ((M 13 4) - (1 : Int32))] me_yX11_within lk_RX11_68 (ct_R_within h) (by decide) rfl rfl (Nat.le_of_ble_eq_true rfl) (tk T_cX11_wantElement 8 rfl) ⟨Nat.le_trans (by decide) C.2.2.1, Nat.le_trans (by decide) C.2.2.2⟩ (fun r1 M1 h => ?_)
  refine x_statV C hT [.int r1] me_yX11_wantThere lk_RX11_201 (ct_R_wantThere h) (by decide) rfl rfl (Nat.le_of_ble_eq_true rfl) (tk T_cX11_wantElement 9 rfl) (by decide) (fun M2 h => ?_)
  exact x_widen (by decide) (by decide) (hR _ _ _ (tk T_cX11_wantElement 10 rfl) h)
theorem ct_R_wantElement {l : Launch} {g : GT} {ext : List CD} {sk : Nat → Nat} {post : Mem → Prop} {ex : String → Mem → Prop} {x1 : Int32} {M : Mem} (h : P_R_wantElement post ex x1 M) : XV l g (layC ++ ext) sk yX11_wantElement cX11_wantElement 2 none 7 1 [.ref (ad g 0), .int x1] M post ex :=
  xv_of (by decide +kernel) (Nat.le_of_ble_eq_true rfl) (fun X A Z hl C hR hT _ => by subst hl; exact k_R_wantElement C hT hR x1 M h)
def T_cX11_wantLineL : List (Nat × Instr × Nat) := [(0, .aload_n 0, 1), (1, .iload_n 1, 1), (2, .invokevirtual 299, 3), (5, .iload_n 2, 1), (6, .iconst 0, 1), (7, .aload_n 0, 1), (8, .getfield 10, 3), (11, .getfield 188, 3), (14, .getfield 198, 3), (17, .iload_n 1, 1), (18, .iaload, 1), (19, .iconst 1, 1), (20, .isub, 1), (21, .invokestatic 68, 3), (24, .invokestatic 201, 3), (27, .return_, 1)]
theorem T_cX11_wantLine : tabOK cX11_wantLine T_cX11_wantLineL = true := by decide +kernel
def P_R_wantLine (post : Mem → Prop) (ex : String → Mem → Prop) (x1 x2 : Int32) (M : Mem) : Prop :=
  P_R_wantElement (fun M1 =>
  vp_in x1 6 ∧ P_R_within (fun r2 M2 =>
  P_R_wantThere (fun M3 =>
  post M3) ex r2 M2) x2 (0 : Int32) ((M1 15 x1.toNatClampNeg) - (1 : Int32)) M1) ex x1 M
theorem k_R_wantLine {X : FX} {g : GT} {ext : List CD} {A : Nat → Prop} {Z : State → Prop} {post : Mem → Prop} {ex : String → Mem → Prop} {sk : Nat → Nat} (C : CxX X g (layC ++ ext) A cX11_wantLine 3 RX11 8 2 sk) (hT : ThX X g (layC ++ ext) A 2 Z ex) (hR : RetV X g (layC ++ ext) A cX11_wantLine 3 2 (6 * 2) Z post) (x1 x2 : Int32) (M : Mem) (h : P_R_wantLine post ex x1 x2 M) : AtX X g (layC ++ ext) A 3 0 0 Z 0 [(0, .ref (ad g 0)), (1, .int x1), (2, .int x2)] [] M := by
  refine a_aload_n C.1 (tk T_cX11_wantLine 0 rfl) rfl ?_
  refine a_iload_n C.1 (tk T_cX11_wantLine 1 rfl) rfl ?_
  refine x_callV C hT [.int x1] me_yX11_wantElement lk_RX11_299 (ct_R_wantElement h) (by decide) lc0 rfl rfl rfl (Nat.le_of_ble_eq_true rfl) (tk T_cX11_wantLine 2 rfl) (by decide) (fun M1 h => ?_)
  refine a_iload_n C.1 (tk T_cX11_wantLine 3 rfl) rfl ?_
  refine a_iconst C.1 (0 : Int32) (tk T_cX11_wantLine 4 rfl) kI_0 ?_
  refine a_aload_n C.1 (tk T_cX11_wantLine 5 rfl) rfl ?_
  refine a_getR C.1 f_RX11_10 (tk T_cX11_wantLine 6 rfl) lc0 rfl ?_
  refine a_getR C.1 f_RX11_188 (tk T_cX11_wantLine 7 rfl) lc1 rfl ?_
  refine a_getR C.1 f_RX11_198 (tk T_cX11_wantLine 8 rfl) lc13 rfl ?_
  refine a_iload_n C.1 (tk T_cX11_wantLine 9 rfl) rfl ?_
  obtain ⟨hb, h⟩ := h
  refine a_iald C.1 (tk T_cX11_wantLine 10 rfl) lc15 hb ?_
  refine a_iconst C.1 (1 : Int32) (tk T_cX11_wantLine 11 rfl) kI_1 ?_
  refine a_isub C.1 (tk T_cX11_wantLine 12 rfl) ?_
  refine a_statI C.1 [.int x2, .int (0 : Int32), .int ((M1 15 x1.toNatClampNeg) - (1 : Int32))] me_yX11_within lk_RX11_68 (ct_R_within h) (by decide) rfl rfl (Nat.le_of_ble_eq_true rfl) (tk T_cX11_wantLine 13 rfl) ⟨Nat.le_trans (by decide) C.2.2.1, Nat.le_trans (by decide) C.2.2.2⟩ (fun r2 M2 h => ?_)
  refine x_statV C hT [.int r2] me_yX11_wantThere lk_RX11_201 (ct_R_wantThere h) (by decide) rfl rfl (Nat.le_of_ble_eq_true rfl) (tk T_cX11_wantLine 14 rfl) (by decide) (fun M3 h => ?_)
  exact x_widen (by decide) (by decide) (hR _ _ _ (tk T_cX11_wantLine 15 rfl) h)
theorem ct_R_wantLine {l : Launch} {g : GT} {ext : List CD} {sk : Nat → Nat} {post : Mem → Prop} {ex : String → Mem → Prop} {x1 x2 : Int32} {M : Mem} (h : P_R_wantLine post ex x1 x2 M) : XV l g (layC ++ ext) sk yX11_wantLine cX11_wantLine 3 none 8 2 [.ref (ad g 0), .int x1, .int x2] M post ex :=
  xv_of (by decide +kernel) (Nat.le_of_ble_eq_true rfl) (fun X A Z hl C hR hT _ => by subst hl; exact k_R_wantLine C hT hR x1 x2 M h)
def T_cX11_wantSpeedL : List (Nat × Instr × Nat) := [(0, .iload_n 0, 1), (1, .bipush (-50), 2), (3, .bipush 50, 2), (5, .invokestatic 68, 3), (8, .invokestatic 72, 3), (11, .return_, 1)]
theorem T_cX11_wantSpeed : tabOK cX11_wantSpeed T_cX11_wantSpeedL = true := by decide +kernel
def P_R_wantSpeed (post : Mem → Prop) (ex : String → Mem → Prop) (x0 : Int32) (M : Mem) : Prop :=
  P_R_within (fun r1 M1 =>
  P_R_wantNumber (fun M2 =>
  post M2) ex r1 M1) x0 (-50 : Int32) (50 : Int32) M
theorem k_R_wantSpeed {X : FX} {g : GT} {ext : List CD} {A : Nat → Prop} {Z : State → Prop} {post : Mem → Prop} {ex : String → Mem → Prop} {sk : Nat → Nat} (C : CxX X g (layC ++ ext) A cX11_wantSpeed 1 RX11 7 1 sk) (hT : ThX X g (layC ++ ext) A 1 Z ex) (hR : RetV X g (layC ++ ext) A cX11_wantSpeed 1 1 (6 * 1) Z post) (x0 : Int32) (M : Mem) (h : P_R_wantSpeed post ex x0 M) : AtX X g (layC ++ ext) A 1 0 0 Z 0 [(0, .int x0)] [] M := by
  refine a_iload_n C.1 (tk T_cX11_wantSpeed 0 rfl) rfl ?_
  refine a_bipush C.1 (-50 : Int32) (tk T_cX11_wantSpeed 1 rfl) kB_m50 ?_
  refine a_bipush C.1 (50 : Int32) (tk T_cX11_wantSpeed 2 rfl) kB_50 ?_
  refine a_statI C.1 [.int x0, .int (-50 : Int32), .int (50 : Int32)] me_yX11_within lk_RX11_68 (ct_R_within h) (by decide) rfl rfl (Nat.le_of_ble_eq_true rfl) (tk T_cX11_wantSpeed 3 rfl) ⟨Nat.le_trans (by decide) C.2.2.1, Nat.le_trans (by decide) C.2.2.2⟩ (fun r1 M1 h => ?_)
  refine x_statV C hT [.int r1] me_yX11_wantNumber lk_RX11_72 (ct_R_wantNumber h) (by decide) rfl rfl (Nat.le_of_ble_eq_true rfl) (tk T_cX11_wantSpeed 4 rfl) (by decide) (fun M2 h => ?_)
  exact x_widen (by decide) (by decide) (hR _ _ _ (tk T_cX11_wantSpeed 5 rfl) h)
theorem ct_R_wantSpeed {l : Launch} {g : GT} {ext : List CD} {sk : Nat → Nat} {post : Mem → Prop} {ex : String → Mem → Prop} {x0 : Int32} {M : Mem} (h : P_R_wantSpeed post ex x0 M) : XV l g (layC ++ ext) sk yX11_wantSpeed cX11_wantSpeed 1 none 7 1 [.int x0] M post ex :=
  xv_of (by decide +kernel) (Nat.le_of_ble_eq_true rfl) (fun X A Z hl C hR hT _ => by subst hl; exact k_R_wantSpeed C hT hR x0 M h)
