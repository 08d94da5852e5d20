def T_cX3_linesInsideL : List (Nat × Instr × Nat) := [(0, .iconst 0, 1), (1, .istore_n 3, 1), (2, .iconst 0, 1), (3, .istore 4, 2), (5, .iload 4, 2), (7, .aload_n 0, 1), (8, .getfield 38, 3), (11, .getfield 123, 3), (14, .getfield 127, 3), (17, .if_icmp .ge 85, 3), (20, .iconst 0, 1), (21, .istore 5, 2), (23, .iload_n 1, 1), (24, .iload 4, 2), (26, .invokestatic 132, 3), (29, .ifCond .eq 67, 3), (32, .iload 5, 2), (34, .aload_n 0, 1), (35, .getfield 38, 3), (38, .getfield 123, 3), (41, .getfield 136, 3), (44, .iload 4, 2), (46, .iaload, 1), (47, .if_icmp .ge 49, 3), (50, .aload_n 0, 1), (51, .getfield 38, 3), (54, .getfield 123, 3), (57, .getfield 162, 3), (60, .iload 4, 2), (62, .bipush 6, 2), (64, .imul, 1), (65, .iload 5, 2), (67, .iadd, 1), (68, .iaload, 1), (69, .aload_n 0, 1), (70, .getfield 9, 3), (73, .iload_n 2, 1), (74, .iaload, 1), (75, .aload_n 0, 1), (76, .getfield 15, 3), (79, .iload_n 2, 1), (80, .iaload, 1), (81, .invokestatic 113, 3), (84, .ifCond .eq 6, 3), (87, .iinc 3 1, 3), (90, .iinc 5 1, 3), (93, .goto (-70), 3), (96, .iinc 4 1, 3), (99, .goto (-94), 3), (102, .iload_n 3, 1), (103, .ireturn, 1)]
theorem T_cX3_linesInside : tabOK cX3_linesInside T_cX3_linesInsideL = true := by decide +kernel
def P_Judge_linesInside_96 (post : Int32 → Mem → Prop) (R5 : Int32 → Int32 → Int32 → Int32 → Mem → Prop) (x1 x2 x3 x4 : Int32) (M : Mem) : Prop :=
  R5 x1 x2 x3 (x4 + (1 : Int32)) M
theorem k_Judge_linesInside_96 {X : FX} {g : GT} {ext : List CD} {A : Nat → Prop} {Z : State → Prop} {post : Int32 → Mem → Prop} {R5 : Int32 → Int32 → Int32 → Int32 → Mem → Prop} (C : Cx X g (layC ++ ext) A cX3_linesInside 6 RX3 1) (hr : 0 ≤ X.2.2.2.1.cells ∧ 0 ≤ X.2.2.2.1.slots) (hR : RetI X g (layC ++ ext) A cX3_linesInside 6 0 0 Z post) (k5 : ∀ (y1 y2 y3 y4 : Int32) (M : Mem), R5 y1 y2 y3 y4 M → AtX X g (layC ++ ext) A 6 0 0 Z 5 [(0, .ref (ad g 69)), (1, .int y1), (2, .int y2), (3, .int y3), (4, .int y4)] [] M) (x1 x2 x3 x4 : Int32) (M : Mem) (h : P_Judge_linesInside_96 post R5 x1 x2 x3 x4 M) : AtX X g (layC ++ ext) A 6 0 0 Z 96 [(0, .ref (ad g 69)), (1, .int x1), (2, .int x2), (3, .int x3), (4, .int x4)] [] M := by
  refine a_iinc C (1 : Int32) (tk T_cX3_linesInside 47 rfl) rfl kI_1 (by decide) rfl ?_
  refine a_goto C 5 (tk T_cX3_linesInside 48 rfl) rfl ?_
  exact a_to (k5 x1 x2 x3 (x4 + (1 : Int32)) M h) rfl
def P_Judge_linesInside_90 (post : Int32 → Mem → Prop) (R5 : Int32 → Int32 → Int32 → Int32 → Mem → Prop) (R23 : Int32 → Int32 → Int32 → Int32 → Int32 → Mem → Prop) (x1 x2 x3 x4 x5 : Int32) (M : Mem) : Prop :=
  R23 x1 x2 x3 x4 (x5 + (1 : Int32)) M
theorem k_Judge_linesInside_90 {X : FX} {g : GT} {ext : List CD} {A : Nat → Prop} {Z : State → Prop} {post : Int32 → Mem → Prop} {R5 : Int32 → Int32 → Int32 → Int32 → Mem → Prop} {R23 : Int32 → Int32 → Int32 → Int32 → Int32 → Mem → Prop} (C : Cx X g (layC ++ ext) A cX3_linesInside 6 RX3 1) (hr : 0 ≤ X.2.2.2.1.cells ∧ 0 ≤ X.2.2.2.1.slots) (hR : RetI X g (layC ++ ext) A cX3_linesInside 6 0 0 Z post) (k5 : ∀ (y1 y2 y3 y4 : Int32) (M : Mem), R5 y1 y2 y3 y4 M → AtX X g (layC ++ ext) A 6 0 0 Z 5 [(0, .ref (ad g 69)), (1, .int y1), (2, .int y2), (3, .int y3), (4, .int y4)] [] M) (k23 : ∀ (y1 y2 y3 y4 y5 : Int32) (M : Mem), R23 y1 y2 y3 y4 y5 M → AtX X g (layC ++ ext) A 6 0 0 Z 23 [(0, .ref (ad g 69)), (1, .int y1), (2, .int y2), (3, .int y3), (4, .int y4), (5, .int y5)] [] M) (x1 x2 x3 x4 x5 : Int32) (M : Mem) (h : P_Judge_linesInside_90 post R5 R23 x1 x2 x3 x4 x5 M) : AtX X g (layC ++ ext) A 6 0 0 Z 90 [(0, .ref (ad g 69)), (1, .int x1), (2, .int x2), (3, .int x3), (4, .int x4), (5, .int x5)] [] M := by
  refine a_iinc C (1 : Int32) (tk T_cX3_linesInside 45 rfl) rfl kI_1 (by decide) rfl ?_
  refine a_goto C 23 (tk T_cX3_linesInside 46 rfl) rfl ?_
  exact a_to (k23 x1 x2 x3 x4 (x5 + (1 : Int32)) M h) rfl
def P_Judge_linesInside_23 (post : Int32 → Mem → Prop) (R5 : Int32 → Int32 → Int32 → Int32 → Mem → Prop) : Nat → Int32 → Int32 → Int32 → Int32 → Int32 → Mem → Prop
  | 0, _, _, _, _, _, _ => False
  | n + 1, x1, x2, x3, x4, x5, M =>
    P_R_has (fun r1 M1 =>
  (r1 = 0 → (P_Judge_linesInside_96 post R5 x1 x2 x3 x4 M1)) ∧
  (¬ r1 = 0 → (vp_in x4 6 ∧ ((M1 15 x4.toNatClampNeg) ≤ x5 → (P_Judge_linesInside_96 post R5 x1 x2 x3 x4 M1)) ∧
  (¬ (M1 15 x4.toNatClampNeg) ≤ x5 → (vp_in ((x4 * (6 : Int32)) + x5) 36 ∧ vp_in x2 24 ∧ vp_in x2 24 ∧ P_R_within (fun r2 M2 =>
  (r2 = 0 → (P_Judge_linesInside_90 post R5 (P_Judge_linesInside_23 post R5 n) x1 x2 x3 x4 x5 M2)) ∧
  (¬ r2 = 0 → (P_Judge_linesInside_90 post R5 (P_Judge_linesInside_23 post R5 n) x1 x2 (x3 + (1 : Int32)) x4 x5 M2))) (M1 16 ((x4 * (6 : Int32)) + x5).toNatClampNeg) (M1 70 x2.toNatClampNeg) (M1 71 x2.toNatClampNeg) M1))))) x1 x4 M
theorem k_Judge_linesInside_23 {X : FX} {g : GT} {ext : List CD} {A : Nat → Prop} {Z : State → Prop} {post : Int32 → Mem → Prop} {R5 : Int32 → Int32 → Int32 → Int32 → Mem → Prop} (C : Cx X g (layC ++ ext) A cX3_linesInside 6 RX3 1) (hr : 0 ≤ X.2.2.2.1.cells ∧ 0 ≤ X.2.2.2.1.slots) (hR : RetI X g (layC ++ ext) A cX3_linesInside 6 0 0 Z post) (k5 : ∀ (y1 y2 y3 y4 : Int32) (M : Mem), R5 y1 y2 y3 y4 M → AtX X g (layC ++ ext) A 6 0 0 Z 5 [(0, .ref (ad g 69)), (1, .int y1), (2, .int y2), (3, .int y3), (4, .int y4)] [] M) : ∀ (n : Nat) (x1 x2 x3 x4 x5 : Int32) (M : Mem), P_Judge_linesInside_23 post R5 n x1 x2 x3 x4 x5 M → AtX X g (layC ++ ext) A 6 0 0 Z 23 [(0, .ref (ad g 69)), (1, .int x1), (2, .int x2), (3, .int x3), (4, .int x4), (5, .int x5)] [] M := by
  intro n
  induction n with
  | zero =>
    intro x1 x2 x3 x4 x5 M h
    exact h.elim
  | succ n ih =>
    intro x1 x2 x3 x4 x5 M h
    refine a_iload_n C (tk T_cX3_linesInside 12 rfl) rfl ?_
    refine a_iload C (tk T_cX3_linesInside 13 rfl) rfl ?_
    refine a_nestI C [.int x1, .int x4] me_yX11_has lk_RX3_132 (ct_R_has h) (by decide) rfl rfl (Nat.le_of_ble_eq_true rfl) (tk T_cX3_linesInside 14 rfl) hr (fun r1 M1 h => ?_)
    refine a_if_eq C 96 (tk T_cX3_linesInside 15 rfl) rfl (fun c => ?_) (fun c => ?_)
    · have h := h.1 c
      exact a_to (k_Judge_linesInside_96 C hr hR k5 x1 x2 x3 x4 M1 h) rfl
    · have h := h.2 c
      refine a_iload C (tk T_cX3_linesInside 16 rfl) rfl ?_
      refine a_aload_n C (tk T_cX3_linesInside 17 rfl) rfl ?_
      refine a_getR C f_RX3_38 (tk T_cX3_linesInside 18 rfl) lc69 rfl ?_
      refine a_getR C f_RX3_123 (tk T_cX3_linesInside 19 rfl) lc1 rfl ?_
      refine a_getR C f_RX3_136 (tk T_cX3_linesInside 20 rfl) lc13 rfl ?_
      refine a_iload C (tk T_cX3_linesInside 21 rfl) rfl ?_
      obtain ⟨hb, h⟩ := h
      refine a_iald C (tk T_cX3_linesInside 22 rfl) lc15 hb ?_
      refine a_icmp_ge C 96 (tk T_cX3_linesInside 23 rfl) rfl (fun c => ?_) (fun c => ?_)
      · have h := h.1 c
        exact a_to (k_Judge_linesInside_96 C hr hR k5 x1 x2 x3 x4 M1 h) rfl
      · have h := h.2 c
        refine a_aload_n C (tk T_cX3_linesInside 24 rfl) rfl ?_
        refine a_getR C f_RX3_38 (tk T_cX3_linesInside 25 rfl) lc69 rfl ?_
        refine a_getR C f_RX3_123 (tk T_cX3_linesInside 26 rfl) lc1 rfl ?_
        refine a_getR C f_RX3_162 (tk T_cX3_linesInside 27 rfl) lc13 rfl ?_
        refine a_iload C (tk T_cX3_linesInside 28 rfl) rfl ?_
        refine a_bipush C (6 : Int32) (tk T_cX3_linesInside 29 rfl) kB_6 ?_
        refine a_imul C (tk T_cX3_linesInside 30 rfl) ?_
        refine a_iload C (tk T_cX3_linesInside 31 rfl) rfl ?_
        refine a_iadd C (tk T_cX3_linesInside 32 rfl) ?_
        obtain ⟨hb, h⟩ := h
        refine a_iald C (tk T_cX3_linesInside 33 rfl) lc16 hb ?_
        refine a_aload_n C (tk T_cX3_linesInside 34 rfl) rfl ?_
        refine a_getR C f_RX3_9 (tk T_cX3_linesInside 35 rfl) lc69 rfl ?_
        refine a_iload_n C (tk T_cX3_linesInside 36 rfl) rfl ?_
        obtain ⟨hb, h⟩ := h
        refine a_iald C (tk T_cX3_linesInside 37 rfl) lc70 hb ?_
        refine a_aload_n C (tk T_cX3_linesInside 38 rfl) rfl ?_
        refine a_getR C f_RX3_15 (tk T_cX3_linesInside 39 rfl) lc69 rfl ?_
        refine a_iload_n C (tk T_cX3_linesInside 40 rfl) rfl ?_
        obtain ⟨hb, h⟩ := h
        refine a_iald C (tk T_cX3_linesInside 41 rfl) lc71 hb ?_
        refine a_nestI C [.int (M1 16 ((x4 * (6 : Int32)) + x5).toNatClampNeg), .int (M1 70 x2.toNatClampNeg), .int (M1 71 x2.toNatClampNeg)] me_yX11_within lk_RX3_113 (ct_R_within h) (by decide) rfl rfl (Nat.le_of_ble_eq_true rfl) (tk T_cX3_linesInside 42 rfl) hr (fun r2 M2 h => ?_)
        refine a_if_eq C 90 (tk T_cX3_linesInside 43 rfl) rfl (fun c => ?_) (fun c => ?_)
        · have h := h.1 c
          exact a_to (k_Judge_linesInside_90 C hr hR k5 ih x1 x2 x3 x4 x5 M2 h) rfl
        · have h := h.2 c
          refine a_iinc C (1 : Int32) (tk T_cX3_linesInside 44 rfl) rfl kI_1 (by decide) rfl ?_
          exact a_to (k_Judge_linesInside_90 C hr hR k5 ih x1 x2 (x3 + (1 : Int32)) x4 x5 M2 h) rfl
def P_Judge_linesInside_5 (post : Int32 → Mem → Prop) : Nat → Int32 → Int32 → Int32 → Int32 → Mem → Prop
  | 0, _, _, _, _, _ => False
  | n + 1, x1, x2, x3, x4, M =>
    ((M 13 4) ≤ x4 → (post x3 M)) ∧
  (¬ (M 13 4) ≤ x4 → (∃ j23, P_Judge_linesInside_23 post (P_Judge_linesInside_5 post n) j23 x1 x2 x3 x4 (0 : Int32) M))
theorem k_Judge_linesInside_5 {X : FX} {g : GT} {ext : List CD} {A : Nat → Prop} {Z : State → Prop} {post : Int32 → Mem → Prop} (C : Cx X g (layC ++ ext) A cX3_linesInside 6 RX3 1) (hr : 0 ≤ X.2.2.2.1.cells ∧ 0 ≤ X.2.2.2.1.slots) (hR : RetI X g (layC ++ ext) A cX3_linesInside 6 0 0 Z post) : ∀ (n : Nat) (x1 x2 x3 x4 : Int32) (M : Mem), P_Judge_linesInside_5 post n x1 x2 x3 x4 M → AtX X g (layC ++ ext) A 6 0 0 Z 5 [(0, .ref (ad g 69)), (1, .int x1), (2, .int x2), (3, .int x3), (4, .int x4)] [] M := by
  intro n
  induction n with
  | zero =>
    intro x1 x2 x3 x4 M h
    exact h.elim
  | succ n ih =>
    intro x1 x2 x3 x4 M h
    refine a_iload C (tk T_cX3_linesInside 4 rfl) rfl ?_
    refine a_aload_n C (tk T_cX3_linesInside 5 rfl) rfl ?_
    refine a_getR C f_RX3_38 (tk T_cX3_linesInside 6 rfl) lc69 rfl ?_
    refine a_getR C f_RX3_123 (tk T_cX3_linesInside 7 rfl) lc1 rfl ?_
    refine a_getI C f_RX3_127 (tk T_cX3_linesInside 8 rfl) lc13 rfl ?_
    refine a_icmp_ge C 102 (tk T_cX3_linesInside 9 rfl) rfl (fun c => ?_) (fun c => ?_)
    · have h := h.1 c
      refine a_iload_n C (tk T_cX3_linesInside 49 rfl) rfl ?_
      exact hR _ _ _ _ (tk T_cX3_linesInside 50 rfl) h
    · have h := h.2 c
      refine a_iconst C (0 : Int32) (tk T_cX3_linesInside 10 rfl) kI_0 ?_
      refine a_istore C (tk T_cX3_linesInside 11 rfl) (by decide) rfl ?_
      obtain ⟨n1, h⟩ := h
      exact a_to (k_Judge_linesInside_23 C hr hR ih n1 x1 x2 x3 x4 (0 : Int32) M h) rfl
def P_Judge_linesInside (post : Int32 → Mem → Prop) (x1 x2 : Int32) (M : Mem) : Prop :=
  ∃ j5, P_Judge_linesInside_5 post j5 x1 x2 (0 : Int32) (0 : Int32) M
theorem k_Judge_linesInside {X : FX} {g : GT} {ext : List CD} {A : Nat → Prop} {Z : State → Prop} {post : Int32 → Mem → Prop} (C : Cx X g (layC ++ ext) A cX3_linesInside 6 RX3 1) (hr : 0 ≤ X.2.2.2.1.cells ∧ 0 ≤ X.2.2.2.1.slots) (hR : RetI X g (layC ++ ext) A cX3_linesInside 6 0 0 Z post) (x1 x2 : Int32) (M : Mem) (h : P_Judge_linesInside post x1 x2 M) : AtX X g (layC ++ ext) A 6 0 0 Z 0 [(0, .ref (ad g 69)), (1, .int x1), (2, .int x2)] [] M := by
  refine a_iconst C (0 : Int32) (tk T_cX3_linesInside 0 rfl) kI_0 ?_
  refine a_istore_n C (tk T_cX3_linesInside 1 rfl) (by decide) rfl ?_
  refine a_iconst C (0 : Int32) (tk T_cX3_linesInside 2 rfl) kI_0 ?_
  refine a_istore C (tk T_cX3_linesInside 3 rfl) (by decide) rfl ?_
  obtain ⟨n1, h⟩ := h
  exact a_to (k_Judge_linesInside_5 C hr hR n1 x1 x2 (0 : Int32) (0 : Int32) M h) rfl
theorem ct_Judge_linesInside {l : Launch} {g : GT} {ext : List CD} {post : Int32 → Mem → Prop} {x1 x2 : Int32} {M : Mem} (h : P_Judge_linesInside post x1 x2 M) : CI l g (layC ++ ext) yX3_linesInside cX3_linesInside 6 (some .int) 1 [.ref (ad g 69), .int x1, .int x2] M post :=
  ci_of (plainFor_of_name (by decide +kernel)) (Nat.le_of_ble_eq_true rfl) (fun X A Z hl C hr hR => by subst hl; exact k_Judge_linesInside C hr hR x1 x2 M h)
def T_cX3_countInsideL : List (Nat × Instr × Nat) := [(0, .iconst 0, 1), (1, .istore_n 2, 1), (2, .iload_n 2, 1), (3, .aload_n 0, 1), (4, .getfield 38, 3), (7, .getfield 61, 3), (10, .getfield 67, 3), (13, .if_icmp .ge 21, 3), (16, .aload_n 0, 1), (17, .getfield 18, 3), (20, .iload_n 2, 1), (21, .aload_n 0, 1), (22, .iload_n 1, 1), (23, .iload_n 2, 1), (24, .invokevirtual 158, 3), (27, .iastore, 1), (28, .iinc 2 1, 3), (31, .goto (-29), 3), (34, .return_, 1)]
theorem T_cX3_countInside : tabOK cX3_countInside T_cX3_countInsideL = true := by decide +kernel
def P_Judge_countInside_2 (post : Mem → Prop) : Nat → Int32 → Int32 → Mem → Prop
  | 0, _, _, _ => False
  | n + 1, x1, x2, M =>
    ((M 18 11) ≤ x2 → (post M)) ∧
  (¬ (M 18 11) ≤ x2 → (P_Judge_linesInside (fun r1 M1 =>
  vp_in x2 24 ∧ ∀ M2, M2 = ms M1 72 x2.toNatClampNeg r1 → P_Judge_countInside_2 post n x1 (x2 + (1 : Int32)) M2) x1 x2 M))
theorem k_Judge_countInside_2 {X : FX} {g : GT} {ext : List CD} {A : Nat → Prop} {Z : State → Prop} {post : Mem → Prop} (C : Cx X g (layC ++ ext) A cX3_countInside 3 RX3 2) (hr : 0 ≤ X.2.2.2.1.cells ∧ 0 ≤ X.2.2.2.1.slots) (hR : RetV X g (layC ++ ext) A cX3_countInside 3 0 0 Z post) : ∀ (n : Nat) (x1 x2 : Int32) (M : Mem), P_Judge_countInside_2 post n x1 x2 M → AtX X g (layC ++ ext) A 3 0 0 Z 2 [(0, .ref (ad g 69)), (1, .int x1), (2, .int x2)] [] M := by
  intro n
  induction n with
  | zero =>
    intro x1 x2 M h
    exact h.elim
  | succ n ih =>
    intro x1 x2 M h
    refine a_iload_n C (tk T_cX3_countInside 2 rfl) rfl ?_
    refine a_aload_n C (tk T_cX3_countInside 3 rfl) rfl ?_
    refine a_getR C f_RX3_38 (tk T_cX3_countInside 4 rfl) lc69 rfl ?_
    refine a_getR C f_RX3_61 (tk T_cX3_countInside 5 rfl) lc1 rfl ?_
    refine a_getI C f_RX3_67 (tk T_cX3_countInside 6 rfl) lc18 rfl ?_
    refine a_icmp_ge C 34 (tk T_cX3_countInside 7 rfl) rfl (fun c => ?_) (fun c => ?_)
    · have h := h.1 c
      exact hR _ _ _ (tk T_cX3_countInside 18 rfl) h
    · have h := h.2 c
      refine a_aload_n C (tk T_cX3_countInside 8 rfl) rfl ?_
      refine a_getR C f_RX3_18 (tk T_cX3_countInside 9 rfl) lc69 rfl ?_
      refine a_iload_n C (tk T_cX3_countInside 10 rfl) rfl ?_
      refine a_aload_n C (tk T_cX3_countInside 11 rfl) rfl ?_
      refine a_iload_n C (tk T_cX3_countInside 12 rfl) rfl ?_
      refine a_iload_n C (tk T_cX3_countInside 13 rfl) rfl ?_
      refine a_callI C [.int x1, .int x2] me_yX3_linesInside lk_RX3_158 (ct_Judge_linesInside h) (by decide) lc69 rfl rfl rfl (Nat.le_of_ble_eq_true rfl) (tk T_cX3_countInside 14 rfl) hr (fun r1 M1 h => ?_)
      obtain ⟨hb, h⟩ := h
      refine a_iast C (tk T_cX3_countInside 15 rfl) lc72 hb ?_
      refine a_mem (fun M2 e_M2 => ?_)
      have h := h M2 e_M2
      refine a_iinc C (1 : Int32) (tk T_cX3_countInside 16 rfl) rfl kI_1 (by decide) rfl ?_
      refine a_goto C 2 (tk T_cX3_countInside 17 rfl) rfl ?_
      exact a_to (ih x1 (x2 + (1 : Int32)) M2 h) rfl
def P_Judge_countInside (post : Mem → Prop) (x1 : Int32) (M : Mem) : Prop :=
  ∃ j2, P_Judge_countInside_2 post j2 x1 (0 : Int32) M
theorem k_Judge_countInside {X : FX} {g : GT} {ext : List CD} {A : Nat → Prop} {Z : State → Prop} {post : Mem → Prop} (C : Cx X g (layC ++ ext) A cX3_countInside 3 RX3 2) (hr : 0 ≤ X.2.2.2.1.cells ∧ 0 ≤ X.2.2.2.1.slots) (hR : RetV X g (layC ++ ext) A cX3_countInside 3 0 0 Z post) (x1 : Int32) (M : Mem) (h : P_Judge_countInside post x1 M) : AtX X g (layC ++ ext) A 3 0 0 Z 0 [(0, .ref (ad g 69)), (1, .int x1)] [] M := by
  refine a_iconst C (0 : Int32) (tk T_cX3_countInside 0 rfl) kI_0 ?_
  refine a_istore_n C (tk T_cX3_countInside 1 rfl) (by decide) rfl ?_
  obtain ⟨n1, h⟩ := h
  exact a_to (k_Judge_countInside_2 C hr hR n1 x1 (0 : Int32) M h) rfl
theorem ct_Judge_countInside {l : Launch} {g : GT} {ext : List CD} {post : Mem → Prop} {x1 : Int32} {M : Mem} (h : P_Judge_countInside post x1 M) : CV l g (layC ++ ext) yX3_countInside cX3_countInside 3 none 2 [.ref (ad g 69), .int x1] M post :=
  cv_of (plainFor_of_name (by decide +kernel)) (Nat.le_of_ble_eq_true rfl) (fun X A Z hl C hr hR => by subst hl; exact k_Judge_countInside C hr hR x1 M h)
def T_cX3_amountBitsL : List (Nat × Instr × Nat) := [(0, .aload_n 0, 1), (1, .aload_n 0, 1), (2, .getfield 38, 3), (5, .getfield 123, 3), (8, .iload_n 1, 1), (9, .iconst 1, 1), (10, .iload_n 2, 1), (11, .ishl, 1), (12, .ior, 1), (13, .invokevirtual 152, 3), (16, .invokevirtual 188, 3), (19, .iconst 0, 1), (20, .istore_n 3, 1), (21, .iconst 1, 1), (22, .istore 4, 2), (24, .iload 4, 2), (26, .bipush 9, 2), (28, .if_icmp .gt 26, 3), (31, .aload_n 0, 1), (32, .iload_n 2, 1), (33, .iload 4, 2), (35, .invokevirtual 191, 3), (38, .ifCond .eq 10, 3), (41, .iload_n 3, 1), (42, .iconst 1, 1), (43, .iload 4, 2), (45, .ishl, 1), (46, .ior, 1), (47, .istore_n 3, 1), (48, .iinc 4 1, 3), (51, .goto (-27), 3), (54, .iload_n 3, 1), (55, .ireturn, 1)]
theorem T_cX3_amountBits : tabOK cX3_amountBits T_cX3_amountBitsL = true := by decide +kernel
def P_Judge_amountBits_48 (post : Int32 → Mem → Prop) (R24 : Int32 → Int32 → Int32 → Mem → Prop) (x2 x3 x4 : Int32) (M : Mem) : Prop :=
  R24 x2 x3 (x4 + (1 : Int32)) M
theorem k_Judge_amountBits_48 {X : FX} {g : GT} {ext : List CD} {A : Nat → Prop} {Z : State → Prop} {post : Int32 → Mem → Prop} {R24 : Int32 → Int32 → Int32 → Mem → Prop} (C : Cx X g (layC ++ ext) A cX3_amountBits 5 RX3 3) (hr : 0 ≤ X.2.2.2.1.cells ∧ 0 ≤ X.2.2.2.1.slots) (hR : RetI X g (layC ++ ext) A cX3_amountBits 5 0 0 Z post) (k24 : ∀ (y2 y3 y4 : Int32) (M : Mem), R24 y2 y3 y4 M → AtX X g (layC ++ ext) A 5 0 0 Z 24 [(0, .ref (ad g 69)), (2, .int y2), (3, .int y3), (4, .int y4)] [] M) (x2 x3 x4 : Int32) (M : Mem) (h : P_Judge_amountBits_48 post R24 x2 x3 x4 M) : AtX X g (layC ++ ext) A 5 0 0 Z 48 [(0, .ref (ad g 69)), (2, .int x2), (3, .int x3), (4, .int x4)] [] M := by
  refine a_iinc C (1 : Int32) (tk T_cX3_amountBits 29 rfl) rfl kI_1 (by decide) rfl ?_
  refine a_goto C 24 (tk T_cX3_amountBits 30 rfl) rfl ?_
  exact a_to (k24 x2 x3 (x4 + (1 : Int32)) M h) rfl
def P_Judge_amountBits_24 (post : Int32 → Mem → Prop) : Nat → Int32 → Int32 → Int32 → Mem → Prop
  | 0, _, _, _, _ => False
  | n + 1, x2, x3, x4, M =>
    ((9 : Int32) < x4 → (post x3 M)) ∧
  (¬ (9 : Int32) < x4 → (P_Judge_amountFits (fun r1 M1 =>
  (r1 = 0 → (P_Judge_amountBits_48 post (P_Judge_amountBits_24 post n) x2 x3 x4 M1)) ∧
  (¬ r1 = 0 → (∀ x3_2, x3_2 = (x3 ||| ((1 : Int32) <<< (x4 &&& 31))) → P_Judge_amountBits_48 post (P_Judge_amountBits_24 post n) x2 x3_2 x4 M1))) x2 x4 M))
theorem k_Judge_amountBits_24 {X : FX} {g : GT} {ext : List CD} {A : Nat → Prop} {Z : State → Prop} {post : Int32 → Mem → Prop} (C : Cx X g (layC ++ ext) A cX3_amountBits 5 RX3 3) (hr : 0 ≤ X.2.2.2.1.cells ∧ 0 ≤ X.2.2.2.1.slots) (hR : RetI X g (layC ++ ext) A cX3_amountBits 5 0 0 Z post) : ∀ (n : Nat) (x2 x3 x4 : Int32) (M : Mem), P_Judge_amountBits_24 post n x2 x3 x4 M → AtX X g (layC ++ ext) A 5 0 0 Z 24 [(0, .ref (ad g 69)), (2, .int x2), (3, .int x3), (4, .int x4)] [] M := by
  intro n
  induction n with
  | zero =>
    intro x2 x3 x4 M h
    exact h.elim
  | succ n ih =>
    intro x2 x3 x4 M h
    refine a_iload C (tk T_cX3_amountBits 15 rfl) rfl ?_
    refine a_bipush C (9 : Int32) (tk T_cX3_amountBits 16 rfl) kB_9 ?_
    refine a_icmp_gt C 54 (tk T_cX3_amountBits 17 rfl) rfl (fun c => ?_) (fun c => ?_)
    · have h := h.1 c
      refine a_iload_n C (tk T_cX3_amountBits 31 rfl) rfl ?_
      exact hR _ _ _ _ (tk T_cX3_amountBits 32 rfl) h
    · have h := h.2 c
      refine a_aload_n C (tk T_cX3_amountBits 18 rfl) rfl ?_
      refine a_iload_n C (tk T_cX3_amountBits 19 rfl) rfl ?_
      refine a_iload C (tk T_cX3_amountBits 20 rfl) rfl ?_
      refine a_callI C [.int x2, .int x4] me_yX3_amountFits lk_RX3_191 (ct_Judge_amountFits h) (by decide) lc69 rfl rfl rfl (Nat.le_of_ble_eq_true rfl) (tk T_cX3_amountBits 21 rfl) hr (fun r1 M1 h => ?_)
      refine a_if_eq C 48 (tk T_cX3_amountBits 22 rfl) rfl (fun c => ?_) (fun c => ?_)
      · have h := h.1 c
        exact a_to (k_Judge_amountBits_48 C hr hR ih x2 x3 x4 M1 h) rfl
      · have h := h.2 c
        refine a_iload_n C (tk T_cX3_amountBits 23 rfl) rfl ?_
        refine a_iconst C (1 : Int32) (tk T_cX3_amountBits 24 rfl) kI_1 ?_
        refine a_iload C (tk T_cX3_amountBits 25 rfl) rfl ?_
        refine a_ishl C (tk T_cX3_amountBits 26 rfl) ?_
        refine a_ior C (tk T_cX3_amountBits 27 rfl) ?_
        refine a_top (fun x3_2 e_x3_2 => ?_)
        have h := h x3_2 e_x3_2
        refine a_istore_n C (tk T_cX3_amountBits 28 rfl) (by decide) rfl ?_
        exact a_to (k_Judge_amountBits_48 C hr hR ih x2 x3_2 x4 M1 h) rfl
def P_Judge_amountBits (post : Int32 → Mem → Prop) (x1 x2 : Int32) (M : Mem) : Prop :=
  P_Table_withAir (fun r1 M1 =>
  P_Judge_countInside (fun M2 =>
  ∃ j24, P_Judge_amountBits_24 post j24 x2 (0 : Int32) (1 : Int32) M2) r1 M1) (x1 ||| ((1 : Int32) <<< (x2 &&& 31))) M
theorem k_Judge_amountBits {X : FX} {g : GT} {ext : List CD} {A : Nat → Prop} {Z : State → Prop} {post : Int32 → Mem → Prop} (C : Cx X g (layC ++ ext) A cX3_amountBits 5 RX3 3) (hr : 0 ≤ X.2.2.2.1.cells ∧ 0 ≤ X.2.2.2.1.slots) (hR : RetI X g (layC ++ ext) A cX3_amountBits 5 0 0 Z post) (x1 x2 : Int32) (M : Mem) (h : P_Judge_amountBits post x1 x2 M) : AtX X g (layC ++ ext) A 5 0 0 Z 0 [(0, .ref (ad g 69)), (1, .int x1), (2, .int x2)] [] M := by
  refine a_aload_n C (tk T_cX3_amountBits 0 rfl) rfl ?_
  refine a_aload_n C (tk T_cX3_amountBits 1 rfl) rfl ?_
  refine a_getR C f_RX3_38 (tk T_cX3_amountBits 2 rfl) lc69 rfl ?_
  refine a_getR C f_RX3_123 (tk T_cX3_amountBits 3 rfl) lc1 rfl ?_
  refine a_iload_n C (tk T_cX3_amountBits 4 rfl) rfl ?_
  refine a_iconst C (1 : Int32) (tk T_cX3_amountBits 5 rfl) kI_1 ?_
  refine a_iload_n C (tk T_cX3_amountBits 6 rfl) rfl ?_
  refine a_ishl C (tk T_cX3_amountBits 7 rfl) ?_
  refine a_ior C (tk T_cX3_amountBits 8 rfl) ?_
  refine a_callI C [.int (x1 ||| ((1 : Int32) <<< (x2 &&& 31)))] me_yX10_withAir lk_RX3_152 (ct_Table_withAir h) (by decide) lc13 rfl rfl rfl (Nat.le_of_ble_eq_true rfl) (tk T_cX3_amountBits 9 rfl) hr (fun r1 M1 h => ?_)
  refine a_callV C [.int r1] me_yX3_countInside lk_RX3_188 (ct_Judge_countInside h) (by decide) lc69 rfl rfl rfl (Nat.le_of_ble_eq_true rfl) (tk T_cX3_amountBits 10 rfl) hr (fun M2 h => ?_)
  refine a_iconst C (0 : Int32) (tk T_cX3_amountBits 11 rfl) kI_0 ?_
  refine a_istore_n C (tk T_cX3_amountBits 12 rfl) (by decide) rfl ?_
  refine a_iconst C (1 : Int32) (tk T_cX3_amountBits 13 rfl) kI_1 ?_
  refine a_istore C (tk T_cX3_amountBits 14 rfl) (by decide) rfl ?_
  obtain ⟨n1, h⟩ := h
  exact a_to (k_Judge_amountBits_24 C hr hR n1 x2 (0 : Int32) (1 : Int32) M2 h) rfl
theorem ct_Judge_amountBits {l : Launch} {g : GT} {ext : List CD} {post : Int32 → Mem → Prop} {x1 x2 : Int32} {M : Mem} (h : P_Judge_amountBits post x1 x2 M) : CI l g (layC ++ ext) yX3_amountBits cX3_amountBits 5 (some .int) 3 [.ref (ad g 69), .int x1, .int x2] M post :=
  ci_of (plainFor_of_name (by decide +kernel)) (Nat.le_of_ble_eq_true rfl) (fun X A Z hl C hr hR => by subst hl; exact k_Judge_amountBits C hr hR x1 x2 M h)
def T_cX11_amountL : List (Nat × Instr × Nat) := [(0, .aload_n 0, 1), (1, .iload_n 1, 1), (2, .invokevirtual 232, 3), (5, .aload_n 0, 1), (6, .iload_n 3, 1), (7, .invokevirtual 299, 3), (10, .aload_n 0, 1), (11, .getfield 33, 3), (14, .iload_n 1, 1), (15, .invokevirtual 264, 3), (18, .aload_n 0, 1), (19, .getfield 33, 3), (22, .iload_n 2, 1), (23, .iload_n 3, 1), (24, .invokevirtual 302, 3), (27, .istore 5, 2), (29, .iconst 1, 1), (30, .istore 6, 2), (32, .iload 6, 2), (34, .bipush 9, 2), (36, .if_icmp .gt 39, 3), (39, .iload 4, 2), (41, .ifCond .eq 11, 3), (44, .bipush 10, 2), (46, .iload 6, 2), (48, .isub, 1), (49, .goto 5, 3), (52, .iload 6, 2), (54, .istore 7, 2), (56, .iload 5, 2), (58, .iload 7, 2), (60, .invokestatic 305, 3), (63, .ifCond .eq 6, 3), (66, .iload 7, 2), (68, .ireturn, 1), (69, .iinc 6 1, 3), (72, .goto (-40), 3), (75, .iconst (-1), 1), (76, .ireturn, 1)]
theorem T_cX11_amount : tabOK cX11_amount T_cX11_amountL = true := by decide +kernel
def P_R_amount_54 (post : Int32 → Mem → Prop) (ex : String → Mem → Prop) (R32 : Int32 → Int32 → Int32 → Mem → Prop) (x4 x5 x6 s0 : Int32) (M : Mem) : Prop :=
  P_R_has (fun r1 M1 =>
  (r1 = 0 → (R32 x4 x5 (x6 + (1 : Int32)) M1)) ∧
  (¬ r1 = 0 → (post s0 M1))) x5 s0 M
theorem k_R_amount_54 {X : FX} {g : GT} {ext : List CD} {A : Nat → Prop} {Z : State → Prop} {post : Int32 → Mem → Prop} {R32 : Int32 → Int32 → Int32 → Mem → Prop} {ex : String → Mem → Prop} {sk : Nat → Nat} (C : CxX X g (layC ++ ext) A cX11_amount 8 RX11 8 2 sk) (hT : ThX X g (layC ++ ext) A 2 Z ex) (hR : RetI X g (layC ++ ext) A cX11_amount 8 2 (6 * 2) Z post) (k32 : ∀ (y4 y5 y6 : Int32) (M : Mem), R32 y4 y5 y6 M → AtX X g (layC ++ ext) A 8 2 (6 * 2) Z 32 [(4, .int y4), (5, .int y5), (6, .int y6)] [] M) (x4 x5 x6 s0 : Int32) (M : Mem) (h : P_R_amount_54 post ex R32 x4 x5 x6 s0 M) : AtX X g (layC ++ ext) A 8 2 (6 * 2) Z 54 [(4, .int x4), (5, .int x5), (6, .int x6)] [.int s0] M := by
  refine a_istore C.1 (tk T_cX11_amount 28 rfl) (by decide) rfl ?_
  refine a_iload C.1 (tk T_cX11_amount 29 rfl) rfl ?_
  refine a_iload C.1 (tk T_cX11_amount 30 rfl) rfl ?_
  refine a_statI C.1 [.int x5, .int s0] me_yX11_has lk_RX11_305 (ct_R_has h) (by decide) rfl rfl (Nat.le_of_ble_eq_true rfl) (tk T_cX11_amount 31 rfl) ⟨Nat.le_trans (by decide) C.2.2.1, Nat.le_trans (by decide) C.2.2.2⟩ (fun r1 M1 h => ?_)
  refine a_if_eq C.1 69 (tk T_cX11_amount 32 rfl) rfl (fun c => ?_) (fun c => ?_)
  · have h := h.1 c
    refine a_iinc C.1 (1 : Int32) (tk T_cX11_amount 35 rfl) rfl kI_1 (by decide) rfl ?_
    refine a_goto C.1 32 (tk T_cX11_amount 36 rfl) rfl ?_
    exact x_widen (by decide) (by decide) (a_to (k32 x4 x5 (x6 + (1 : Int32)) M1 h) rfl)
  · have h := h.2 c
    refine a_iload C.1 (tk T_cX11_amount 33 rfl) rfl ?_
    exact x_widen (by decide) (by decide) (hR _ _ _ _ (tk T_cX11_amount 34 rfl) h)
def P_R_amount_32 (post : Int32 → Mem → Prop) (ex : String → Mem → Prop) : Nat → Int32 → Int32 → Int32 → Mem → Prop
  | 0, _, _, _, _ => False
  | n + 1, x4, x5, x6, M =>
    ((9 : Int32) < x6 → (post (-1 : Int32) M)) ∧
  (¬ (9 : Int32) < x6 → ((x4 = 0 → (P_R_amount_54 post ex (P_R_amount_32 post ex n) x4 x5 x6 x6 M)) ∧
  (¬ x4 = 0 → (P_R_amount_54 post ex (P_R_amount_32 post ex n) x4 x5 x6 ((10 : Int32) - x6) M))))
theorem k_R_amount_32 {X : FX} {g : GT} {ext : List CD} {A : Nat → Prop} {Z : State → Prop} {post : Int32 → Mem → Prop} {ex : String → Mem → Prop} {sk : Nat → Nat} (C : CxX X g (layC ++ ext) A cX11_amount 8 RX11 8 2 sk) (hT : ThX X g (layC ++ ext) A 2 Z ex) (hR : RetI X g (layC ++ ext) A cX11_amount 8 2 (6 * 2) Z post) : ∀ (n : Nat) (x4 x5 x6 : Int32) (M : Mem), P_R_amount_32 post ex n x4 x5 x6 M → AtX X g (layC ++ ext) A 8 2 (6 * 2) Z 32 [(4, .int x4), (5, .int x5), (6, .int x6)] [] M := by
  intro n
  induction n with
  | zero =>
    intro x4 x5 x6 M h
    exact h.elim
  | succ n ih =>
    intro x4 x5 x6 M h
    refine a_iload C.1 (tk T_cX11_amount 18 rfl) rfl ?_
    refine a_bipush C.1 (9 : Int32) (tk T_cX11_amount 19 rfl) kB_9 ?_
    refine a_icmp_gt C.1 75 (tk T_cX11_amount 20 rfl) rfl (fun c => ?_) (fun c => ?_)
    · have h := h.1 c
      refine a_iconst C.1 (-1 : Int32) (tk T_cX11_amount 37 rfl) kI_m1 ?_
      exact x_widen (by decide) (by decide) (hR _ _ _ _ (tk T_cX11_amount 38 rfl) h)
    · have h := h.2 c
      refine a_iload C.1 (tk T_cX11_amount 21 rfl) rfl ?_
      refine a_if_eq C.1 52 (tk T_cX11_amount 22 rfl) rfl (fun c => ?_) (fun c => ?_)
      · have h := h.1 c
        refine a_iload C.1 (tk T_cX11_amount 27 rfl) rfl ?_
        exact x_widen (by decide) (by decide) (a_to (k_R_amount_54 C hT hR ih x4 x5 x6 x6 M h) rfl)
      · have h := h.2 c
        refine a_bipush C.1 (10 : Int32) (tk T_cX11_amount 23 rfl) kB_10 ?_
        refine a_iload C.1 (tk T_cX11_amount 24 rfl) rfl ?_
        refine a_isub C.1 (tk T_cX11_amount 25 rfl) ?_
        refine a_goto C.1 54 (tk T_cX11_amount 26 rfl) rfl ?_
        exact x_widen (by decide) (by decide) (a_to (k_R_amount_54 C hT hR ih x4 x5 x6 ((10 : Int32) - x6) M h) rfl)
def P_R_amount (post : Int32 → Mem → Prop) (ex : String → Mem → Prop) (x1 x2 x3 x4 : Int32) (M : Mem) : Prop :=
  P_R_wantPlate (fun M1 =>
  P_R_wantElement (fun M2 =>
  P_Judge_open (fun M3 =>
  P_Judge_amountBits (fun r4 M4 =>
  ∃ j32, P_R_amount_32 post ex j32 x4 r4 (1 : Int32) M4) x2 x3 M3) x1 M2) ex x3 M1) ex x1 M
theorem k_R_amount {X : FX} {g : GT} {ext : List CD} {A : Nat → Prop} {Z : State → Prop} {post : Int32 → Mem → Prop} {ex : String → Mem → Prop} {sk : Nat → Nat} (C : CxX X g (layC ++ ext) A cX11_amount 8 RX11 8 2 sk) (hT : ThX X g (layC ++ ext) A 2 Z ex) (hR : RetI X g (layC ++ ext) A cX11_amount 8 2 (6 * 2) Z post) (x1 x2 x3 x4 : Int32) (M : Mem) (h : P_R_amount post ex x1 x2 x3 x4 M) : AtX X g (layC ++ ext) A 8 0 0 Z 0 [(0, .ref (ad g 0)), (1, .int x1), (2, .int x2), (3, .int x3), (4, .int x4)] [] M := by
  refine a_aload_n C.1 (tk T_cX11_amount 0 rfl) rfl ?_
  refine a_iload_n C.1 (tk T_cX11_amount 1 rfl) rfl ?_
  refine x_callV C hT [.int x1] me_yX11_wantPlate lk_RX11_232 (ct_R_wantPlate h) (by decide) lc0 rfl rfl rfl (Nat.le_of_ble_eq_true rfl) (tk T_cX11_amount 2 rfl) (by decide) (fun M1 h => ?_)
  refine a_aload_n C.1 (tk T_cX11_amount 3 rfl) rfl ?_
  refine a_iload_n C.1 (tk T_cX11_amount 4 rfl) rfl ?_
  refine x_callV C hT [.int x3] me_yX11_wantElement lk_RX11_299 (ct_R_wantElement h) (by decide) lc0 rfl rfl rfl (Nat.le_of_ble_eq_true rfl) (tk T_cX11_amount 5 rfl) (by decide) (fun M2 h => ?_)
  refine a_aload_n C.1 (tk T_cX11_amount 6 rfl) rfl ?_
  refine a_getR C.1 f_RX11_33 (tk T_cX11_amount 7 rfl) lc0 rfl ?_
  refine a_iload_n C.1 (tk T_cX11_amount 8 rfl) rfl ?_
  refine a_callV C.1 [.int x1] me_yX3_open lk_RX11_264 (ct_Judge_open h) (by decide) lc69 rfl rfl rfl (Nat.le_of_ble_eq_true rfl) (tk T_cX11_amount 9 rfl) ⟨Nat.le_trans (by decide) C.2.2.1, Nat.le_trans (by decide) C.2.2.2⟩ (fun M3 h => ?_)
  refine a_aload_n C.1 (tk T_cX11_amount 10 rfl) rfl ?_
  refine a_getR C.1 f_RX11_33 (tk T_cX11_amount 11 rfl) lc0 rfl ?_
  refine a_iload_n C.1 (tk T_cX11_amount 12 rfl) rfl ?_
  refine a_iload_n C.1 (tk T_cX11_amount 13 rfl) rfl ?_
  refine a_callI C.1 [.int x2, .int x3] me_yX3_amountBits lk_RX11_302 (ct_Judge_amountBits h) (by decide) lc69 rfl rfl rfl (Nat.le_of_ble_eq_true rfl) (tk T_cX11_amount 14 rfl) ⟨Nat.le_trans (by decide) C.2.2.1, Nat.le_trans (by decide) C.2.2.2⟩ (fun r4 M4 h => ?_)
  refine a_istore C.1 (tk T_cX11_amount 15 rfl) (by decide) rfl ?_
  refine a_iconst C.1 (1 : Int32) (tk T_cX11_amount 16 rfl) kI_1 ?_
  refine a_istore C.1 (tk T_cX11_amount 17 rfl) (by decide) rfl ?_
  obtain ⟨n1, h⟩ := h
  exact x_widen (by decide) (by decide) (a_to (k_R_amount_32 C hT hR n1 x4 r4 (1 : Int32) M4 h) rfl)
theorem ct_R_amount {l : Launch} {g : GT} {ext : List CD} {sk : Nat → Nat} {post : Int32 → Mem → Prop} {ex : String → Mem → Prop} {x1 x2 x3 x4 : Int32} {M : Mem} (h : P_R_amount post ex x1 x2 x3 x4 M) : XI l g (layC ++ ext) sk yX11_amount cX11_amount 8 (some .int) 8 2 [.ref (ad g 0), .int x1, .int x2, .int x3, .int x4] M post ex :=
  xi_of (by decide +kernel) (Nat.le_of_ble_eq_true rfl) (fun X A Z hl C hR hT _ => by subst hl; exact k_R_amount C hT hR x1 x2 x3 x4 M h)
def T_cX3_wideBitsL : List (Nat × Instr × Nat) := [(0, .aload_n 0, 1), (1, .aload_n 0, 1), (2, .getfield 38, 3), (5, .getfield 123, 3), (8, .iload_n 1, 1), (9, .invokevirtual 152, 3), (12, .invokevirtual 188, 3), (15, .iconst 0, 1), (16, .istore_n 2, 1), (17, .iconst 0, 1), (18, .istore_n 3, 1), (19, .iload_n 3, 1), (20, .aload_n 0, 1), (21, .getfield 38, 3), (24, .getfield 61, 3), (27, .getfield 67, 3), (30, .if_icmp .ge 66, 3), (33, .aload_n 0, 1), (34, .getfield 55, 3), (37, .iload_n 3, 1), (38, .invokestatic 132, 3), (41, .ifCond .eq 49, 3), (44, .aload_n 0, 1), (45, .getfield 38, 3), (48, .getfield 61, 3), (51, .getfield 209, 3), (54, .iload_n 3, 1), (55, .iaload, 1), (56, .aload_n 0, 1), (57, .getfield 38, 3), (60, .getfield 61, 3), (63, .getfield 212, 3), (66, .aload_n 0, 1), (67, .getfield 51, 3), (70, .iaload, 1), (71, .if_icmp .le 19, 3), (74, .aload_n 0, 1), (75, .getfield 18, 3), (78, .iload_n 3, 1), (79, .iaload, 1), (80, .iconst 2, 1), (81, .if_icmp .ge 9, 3), (84, .iload_n 2, 1), (85, .iconst 1, 1), (86, .iload_n 3, 1), (87, .ishl, 1), (88, .ior, 1), (89, .istore_n 2, 1), (90, .iinc 3 1, 3), (93, .goto (-74), 3), (96, .iload_n 2, 1), (97, .ireturn, 1)]
theorem T_cX3_wideBits : tabOK cX3_wideBits T_cX3_wideBitsL = true := by decide +kernel
def P_Judge_wideBits_90 (post : Int32 → Mem → Prop) (R19 : Int32 → Int32 → Mem → Prop) (x2 x3 : Int32) (M : Mem) : Prop :=
  R19 x2 (x3 + (1 : Int32)) M
theorem k_Judge_wideBits_90 {X : FX} {g : GT} {ext : List CD} {A : Nat → Prop} {Z : State → Prop} {post : Int32 → Mem → Prop} {R19 : Int32 → Int32 → Mem → Prop} (C : Cx X g (layC ++ ext) A cX3_wideBits 4 RX3 3) (hr : 0 ≤ X.2.2.2.1.cells ∧ 0 ≤ X.2.2.2.1.slots) (hR : RetI X g (layC ++ ext) A cX3_wideBits 4 0 0 Z post) (k19 : ∀ (y2 y3 : Int32) (M : Mem), R19 y2 y3 M → AtX X g (layC ++ ext) A 4 0 0 Z 19 [(0, .ref (ad g 69)), (2, .int y2), (3, .int y3)] [] M) (x2 x3 : Int32) (M : Mem) (h : P_Judge_wideBits_90 post R19 x2 x3 M) : AtX X g (layC ++ ext) A 4 0 0 Z 90 [(0, .ref (ad g 69)), (2, .int x2), (3, .int x3)] [] M := by
  refine a_iinc C (1 : Int32) (tk T_cX3_wideBits 48 rfl) rfl kI_1 (by decide) rfl ?_
  refine a_goto C 19 (tk T_cX3_wideBits 49 rfl) rfl ?_
  exact a_to (k19 x2 (x3 + (1 : Int32)) M h) rfl
def P_Judge_wideBits_19 (post : Int32 → Mem → Prop) : Nat → Int32 → Int32 → Mem → Prop
  | 0, _, _, _ => False
  | n + 1, x2, x3, M =>
    ((M 18 11) ≤ x3 → (post x2 M)) ∧
  (¬ (M 18 11) ≤ x3 → (P_R_has (fun r1 M1 =>
  (r1 = 0 → (P_Judge_wideBits_90 post (P_Judge_wideBits_19 post n) x2 x3 M1)) ∧
  (¬ r1 = 0 → (vp_in x3 24 ∧ vp_in (M1 69 10) 3 ∧ ((M1 28 x3.toNatClampNeg) ≤ (M1 20 (M1 69 10).toNatClampNeg) → (P_Judge_wideBits_90 post (P_Judge_wideBits_19 post n) x2 x3 M1)) ∧
  (¬ (M1 28 x3.toNatClampNeg) ≤ (M1 20 (M1 69 10).toNatClampNeg) → (vp_in x3 24 ∧ ((2 : Int32) ≤ (M1 72 x3.toNatClampNeg) → (P_Judge_wideBits_90 post (P_Judge_wideBits_19 post n) x2 x3 M1)) ∧
  (¬ (2 : Int32) ≤ (M1 72 x3.toNatClampNeg) → (∀ x2_2, x2_2 = (x2 ||| ((1 : Int32) <<< (x3 &&& 31))) → P_Judge_wideBits_90 post (P_Judge_wideBits_19 post n) x2_2 x3 M1))))))) (M 69 11) x3 M))
theorem k_Judge_wideBits_19 {X : FX} {g : GT} {ext : List CD} {A : Nat → Prop} {Z : State → Prop} {post : Int32 → Mem → Prop} (C : Cx X g (layC ++ ext) A cX3_wideBits 4 RX3 3) (hr : 0 ≤ X.2.2.2.1.cells ∧ 0 ≤ X.2.2.2.1.slots) (hR : RetI X g (layC ++ ext) A cX3_wideBits 4 0 0 Z post) : ∀ (n : Nat) (x2 x3 : Int32) (M : Mem), P_Judge_wideBits_19 post n x2 x3 M → AtX X g (layC ++ ext) A 4 0 0 Z 19 [(0, .ref (ad g 69)), (2, .int x2), (3, .int x3)] [] M := by
  intro n
  induction n with
  | zero =>
    intro x2 x3 M h
    exact h.elim
  | succ n ih =>
    intro x2 x3 M h
    refine a_iload_n C (tk T_cX3_wideBits 11 rfl) rfl ?_
    refine a_aload_n C (tk T_cX3_wideBits 12 rfl) rfl ?_
    refine a_getR C f_RX3_38 (tk T_cX3_wideBits 13 rfl) lc69 rfl ?_
    refine a_getR C f_RX3_61 (tk T_cX3_wideBits 14 rfl) lc1 rfl ?_
    refine a_getI C f_RX3_67 (tk T_cX3_wideBits 15 rfl) lc18 rfl ?_
    refine a_icmp_ge C 96 (tk T_cX3_wideBits 16 rfl) rfl (fun c => ?_) (fun c => ?_)
    · have h := h.1 c
      refine a_iload_n C (tk T_cX3_wideBits 50 rfl) rfl ?_
      exact hR _ _ _ _ (tk T_cX3_wideBits 51 rfl) h
    · have h := h.2 c
      refine a_aload_n C (tk T_cX3_wideBits 17 rfl) rfl ?_
      refine a_getI C f_RX3_55 (tk T_cX3_wideBits 18 rfl) lc69 rfl ?_
      refine a_iload_n C (tk T_cX3_wideBits 19 rfl) rfl ?_
      refine a_nestI C [.int (M 69 11), .int x3] me_yX11_has lk_RX3_132 (ct_R_has h) (by decide) rfl rfl (Nat.le_of_ble_eq_true rfl) (tk T_cX3_wideBits 20 rfl) hr (fun r1 M1 h => ?_)
      refine a_if_eq C 90 (tk T_cX3_wideBits 21 rfl) rfl (fun c => ?_) (fun c => ?_)
      · have h := h.1 c
        exact a_to (k_Judge_wideBits_90 C hr hR ih x2 x3 M1 h) rfl
      · have h := h.2 c
        refine a_aload_n C (tk T_cX3_wideBits 22 rfl) rfl ?_
        refine a_getR C f_RX3_38 (tk T_cX3_wideBits 23 rfl) lc69 rfl ?_
        refine a_getR C f_RX3_61 (tk T_cX3_wideBits 24 rfl) lc1 rfl ?_
        refine a_getR C f_RX3_209 (tk T_cX3_wideBits 25 rfl) lc18 rfl ?_
        refine a_iload_n C (tk T_cX3_wideBits 26 rfl) rfl ?_
        obtain ⟨hb, h⟩ := h
        refine a_iald C (tk T_cX3_wideBits 27 rfl) lc28 hb ?_
        refine a_aload_n C (tk T_cX3_wideBits 28 rfl) rfl ?_
        refine a_getR C f_RX3_38 (tk T_cX3_wideBits 29 rfl) lc69 rfl ?_
        refine a_getR C f_RX3_61 (tk T_cX3_wideBits 30 rfl) lc1 rfl ?_
        refine a_getR C f_RX3_212 (tk T_cX3_wideBits 31 rfl) lc18 rfl ?_
        refine a_aload_n C (tk T_cX3_wideBits 32 rfl) rfl ?_
        refine a_getI C f_RX3_51 (tk T_cX3_wideBits 33 rfl) lc69 rfl ?_
        obtain ⟨hb, h⟩ := h
        refine a_iald C (tk T_cX3_wideBits 34 rfl) lc20 hb ?_
        refine a_icmp_le C 90 (tk T_cX3_wideBits 35 rfl) rfl (fun c => ?_) (fun c => ?_)
        · have h := h.1 c
          exact a_to (k_Judge_wideBits_90 C hr hR ih x2 x3 M1 h) rfl
        · have h := h.2 c
          refine a_aload_n C (tk T_cX3_wideBits 36 rfl) rfl ?_
          refine a_getR C f_RX3_18 (tk T_cX3_wideBits 37 rfl) lc69 rfl ?_
          refine a_iload_n C (tk T_cX3_wideBits 38 rfl) rfl ?_
          obtain ⟨hb, h⟩ := h
          refine a_iald C (tk T_cX3_wideBits 39 rfl) lc72 hb ?_
          refine a_iconst C (2 : Int32) (tk T_cX3_wideBits 40 rfl) kI_2 ?_
          refine a_icmp_ge C 90 (tk T_cX3_wideBits 41 rfl) rfl (fun c => ?_) (fun c => ?_)
          · have h := h.1 c
            exact a_to (k_Judge_wideBits_90 C hr hR ih x2 x3 M1 h) rfl
          · have h := h.2 c
            refine a_iload_n C (tk T_cX3_wideBits 42 rfl) rfl ?_
            refine a_iconst C (1 : Int32) (tk T_cX3_wideBits 43 rfl) kI_1 ?_
            refine a_iload_n C (tk T_cX3_wideBits 44 rfl) rfl ?_
            refine a_ishl C (tk T_cX3_wideBits 45 rfl) ?_
            refine a_ior C (tk T_cX3_wideBits 46 rfl) ?_
            refine a_top (fun x2_2 e_x2_2 => ?_)
            have h := h x2_2 e_x2_2
            refine a_istore_n C (tk T_cX3_wideBits 47 rfl) (by decide) rfl ?_
            exact a_to (k_Judge_wideBits_90 C hr hR ih x2_2 x3 M1 h) rfl
def P_Judge_wideBits (post : Int32 → Mem → Prop) (x1 : Int32) (M : Mem) : Prop :=
  P_Table_withAir (fun r1 M1 =>
  P_Judge_countInside (fun M2 =>
  ∃ j19, P_Judge_wideBits_19 post j19 (0 : Int32) (0 : Int32) M2) r1 M1) x1 M
theorem k_Judge_wideBits {X : FX} {g : GT} {ext : List CD} {A : Nat → Prop} {Z : State → Prop} {post : Int32 → Mem → Prop} (C : Cx X g (layC ++ ext) A cX3_wideBits 4 RX3 3) (hr : 0 ≤ X.2.2.2.1.cells ∧ 0 ≤ X.2.2.2.1.slots) (hR : RetI X g (layC ++ ext) A cX3_wideBits 4 0 0 Z post) (x1 : Int32) (M : Mem) (h : P_Judge_wideBits post x1 M) : AtX X g (layC ++ ext) A 4 0 0 Z 0 [(0, .ref (ad g 69)), (1, .int x1)] [] M := by
  refine a_aload_n C (tk T_cX3_wideBits 0 rfl) rfl ?_
  refine a_aload_n C (tk T_cX3_wideBits 1 rfl) rfl ?_
  refine a_getR C f_RX3_38 (tk T_cX3_wideBits 2 rfl) lc69 rfl ?_
  refine a_getR C f_RX3_123 (tk T_cX3_wideBits 3 rfl) lc1 rfl ?_
  refine a_iload_n C (tk T_cX3_wideBits 4 rfl) rfl ?_
  refine a_callI C [.int x1] me_yX10_withAir lk_RX3_152 (ct_Table_withAir h) (by decide) lc13 rfl rfl rfl (Nat.le_of_ble_eq_true rfl) (tk T_cX3_wideBits 5 rfl) hr (fun r1 M1 h => ?_)
  refine a_callV C [.int r1] me_yX3_countInside lk_RX3_188 (ct_Judge_countInside h) (by decide) lc69 rfl rfl rfl (Nat.le_of_ble_eq_true rfl) (tk T_cX3_wideBits 6 rfl) hr (fun M2 h => ?_)
  refine a_iconst C (0 : Int32) (tk T_cX3_wideBits 7 rfl) kI_0 ?_
  refine a_istore_n C (tk T_cX3_wideBits 8 rfl) (by decide) rfl ?_
  refine a_iconst C (0 : Int32) (tk T_cX3_wideBits 9 rfl) kI_0 ?_
  refine a_istore_n C (tk T_cX3_wideBits 10 rfl) (by decide) rfl ?_
  obtain ⟨n1, h⟩ := h
  exact a_to (k_Judge_wideBits_19 C hr hR n1 (0 : Int32) (0 : Int32) M2 h) rfl
theorem ct_Judge_wideBits {l : Launch} {g : GT} {ext : List CD} {post : Int32 → Mem → Prop} {x1 : Int32} {M : Mem} (h : P_Judge_wideBits post x1 M) : CI l g (layC ++ ext) yX3_wideBits cX3_wideBits 4 (some .int) 3 [.ref (ad g 69), .int x1] M post :=
  ci_of (plainFor_of_name (by decide +kernel)) (Nat.le_of_ble_eq_true rfl) (fun X A Z hl C hr hR => by subst hl; exact k_Judge_wideBits C hr hR x1 M h)
def T_cX3_sharedBitsL : List (Nat × Instr × Nat) := [(0, .aload_n 0, 1), (1, .getfield 38, 3), (4, .getfield 123, 3), (7, .iload_n 1, 1), (8, .invokevirtual 152, 3), (11, .istore_n 2, 1), (12, .iconst 0, 1), (13, .istore_n 3, 1), (14, .iconst 0, 1), (15, .istore 4, 2), (17, .iconst 0, 1), (18, .istore 5, 2), (20, .iload 5, 2), (22, .aload_n 0, 1), (23, .getfield 38, 3), (26, .getfield 123, 3), (29, .getfield 127, 3), (32, .if_icmp .ge 45, 3), (35, .iload_n 2, 1), (36, .iload 5, 2), (38, .invokestatic 132, 3), (41, .ifCond .eq 30, 3), (44, .aload_n 0, 1), (45, .iconst 1, 1), (46, .iload 5, 2), (48, .ishl, 1), (49, .iconst 0, 1), (50, .invokevirtual 155, 3), (53, .iload 4, 2), (55, .iload_n 3, 1), (56, .aload_n 0, 1), (57, .getfield 117, 3), (60, .iand, 1), (61, .ior, 1), (62, .istore 4, 2), (64, .iload_n 3, 1), (65, .aload_n 0, 1), (66, .getfield 117, 3), (69, .ior, 1), (70, .istore_n 3, 1), (71, .iinc 5 1, 3), (74, .goto (-54), 3), (77, .iload 4, 2), (79, .ireturn, 1)]
theorem T_cX3_sharedBits : tabOK cX3_sharedBits T_cX3_sharedBitsL = true := by decide +kernel
def P_Judge_sharedBits_71 (post : Int32 → Mem → Prop) (R20 : Int32 → Int32 → Int32 → Int32 → Mem → Prop) (x2 x3 x4 x5 : Int32) (M : Mem) : Prop :=
  R20 x2 x3 x4 (x5 + (1 : Int32)) M
theorem k_Judge_sharedBits_71 {X : FX} {g : GT} {ext : List CD} {A : Nat → Prop} {Z : State → Prop} {post : Int32 → Mem → Prop} {R20 : Int32 → Int32 → Int32 → Int32 → Mem → Prop} (C : Cx X g (layC ++ ext) A cX3_sharedBits 6 RX3 3) (hr : 0 ≤ X.2.2.2.1.cells ∧ 0 ≤ X.2.2.2.1.slots) (hR : RetI X g (layC ++ ext) A cX3_sharedBits 6 0 0 Z post) (k20 : ∀ (y2 y3 y4 y5 : Int32) (M : Mem), R20 y2 y3 y4 y5 M → AtX X g (layC ++ ext) A 6 0 0 Z 20 [(0, .ref (ad g 69)), (2, .int y2), (3, .int y3), (4, .int y4), (5, .int y5)] [] M) (x2 x3 x4 x5 : Int32) (M : Mem) (h : P_Judge_sharedBits_71 post R20 x2 x3 x4 x5 M) : AtX X g (layC ++ ext) A 6 0 0 Z 71 [(0, .ref (ad g 69)), (2, .int x2), (3, .int x3), (4, .int x4), (5, .int x5)] [] M := by
  refine a_iinc C (1 : Int32) (tk T_cX3_sharedBits 40 rfl) rfl kI_1 (by decide) rfl ?_
  refine a_goto C 20 (tk T_cX3_sharedBits 41 rfl) rfl ?_
  exact a_to (k20 x2 x3 x4 (x5 + (1 : Int32)) M h) rfl
def P_Judge_sharedBits_20 (post : Int32 → Mem → Prop) : Nat → Int32 → Int32 → Int32 → Int32 → Mem → Prop
  | 0, _, _, _, _, _ => False
  | n + 1, x2, x3, x4, x5, M =>
    ((M 13 4) ≤ x5 → (post x4 M)) ∧
  (¬ (M 13 4) ≤ x5 → (P_R_has (fun r1 M1 =>
  (r1 = 0 → (P_Judge_sharedBits_71 post (P_Judge_sharedBits_20 post n) x2 x3 x4 x5 M1)) ∧
  (¬ r1 = 0 → (P_Judge_survey (fun M2 =>
  ∀ x4_3, x4_3 = (x4 ||| (x3 &&& (M2 69 13))) → ∀ x3_4, x3_4 = (x3 ||| (M2 69 13)) → P_Judge_sharedBits_71 post (P_Judge_sharedBits_20 post n) x2 x3_4 x4_3 x5 M2) ((1 : Int32) <<< (x5 &&& 31)) (0 : Int32) M1))) x2 x5 M))
theorem k_Judge_sharedBits_20 {X : FX} {g : GT} {ext : List CD} {A : Nat → Prop} {Z : State → Prop} {post : Int32 → Mem → Prop} (C : Cx X g (layC ++ ext) A cX3_sharedBits 6 RX3 3) (hr : 0 ≤ X.2.2.2.1.cells ∧ 0 ≤ X.2.2.2.1.slots) (hR : RetI X g (layC ++ ext) A cX3_sharedBits 6 0 0 Z post) : ∀ (n : Nat) (x2 x3 x4 x5 : Int32) (M : Mem), P_Judge_sharedBits_20 post n x2 x3 x4 x5 M → AtX X g (layC ++ ext) A 6 0 0 Z 20 [(0, .ref (ad g 69)), (2, .int x2), (3, .int x3), (4, .int x4), (5, .int x5)] [] M := by
  intro n
  induction n with
  | zero =>
    intro x2 x3 x4 x5 M h
    exact h.elim
  | succ n ih =>
    intro x2 x3 x4 x5 M h
    refine a_iload C (tk T_cX3_sharedBits 12 rfl) rfl ?_
    refine a_aload_n C (tk T_cX3_sharedBits 13 rfl) rfl ?_
    refine a_getR C f_RX3_38 (tk T_cX3_sharedBits 14 rfl) lc69 rfl ?_
    refine a_getR C f_RX3_123 (tk T_cX3_sharedBits 15 rfl) lc1 rfl ?_
    refine a_getI C f_RX3_127 (tk T_cX3_sharedBits 16 rfl) lc13 rfl ?_
    refine a_icmp_ge C 77 (tk T_cX3_sharedBits 17 rfl) rfl (fun c => ?_) (fun c => ?_)
    · have h := h.1 c
      refine a_iload C (tk T_cX3_sharedBits 42 rfl) rfl ?_
      exact hR _ _ _ _ (tk T_cX3_sharedBits 43 rfl) h
    · have h := h.2 c
      refine a_iload_n C (tk T_cX3_sharedBits 18 rfl) rfl ?_
      refine a_iload C (tk T_cX3_sharedBits 19 rfl) rfl ?_
      refine a_nestI C [.int x2, .int x5] me_yX11_has lk_RX3_132 (ct_R_has h) (by decide) rfl rfl (Nat.le_of_ble_eq_true rfl) (tk T_cX3_sharedBits 20 rfl) hr (fun r1 M1 h => ?_)
      refine a_if_eq C 71 (tk T_cX3_sharedBits 21 rfl) rfl (fun c => ?_) (fun c => ?_)
      · have h := h.1 c
        exact a_to (k_Judge_sharedBits_71 C hr hR ih x2 x3 x4 x5 M1 h) rfl
      · have h := h.2 c
        refine a_aload_n C (tk T_cX3_sharedBits 22 rfl) rfl ?_
        refine a_iconst C (1 : Int32) (tk T_cX3_sharedBits 23 rfl) kI_1 ?_
        refine a_iload C (tk T_cX3_sharedBits 24 rfl) rfl ?_
        refine a_ishl C (tk T_cX3_sharedBits 25 rfl) ?_
        refine a_iconst C (0 : Int32) (tk T_cX3_sharedBits 26 rfl) kI_0 ?_
        refine a_callV C [.int ((1 : Int32) <<< (x5 &&& 31)), .int (0 : Int32)] me_yX3_survey lk_RX3_155 (ct_Judge_survey h) (by decide) lc69 rfl rfl rfl (Nat.le_of_ble_eq_true rfl) (tk T_cX3_sharedBits 27 rfl) hr (fun M2 h => ?_)
        refine a_iload C (tk T_cX3_sharedBits 28 rfl) rfl ?_
        refine a_iload_n C (tk T_cX3_sharedBits 29 rfl) rfl ?_
        refine a_aload_n C (tk T_cX3_sharedBits 30 rfl) rfl ?_
        refine a_getI C f_RX3_117 (tk T_cX3_sharedBits 31 rfl) lc69 rfl ?_
        refine a_iand C (tk T_cX3_sharedBits 32 rfl) ?_
        refine a_ior C (tk T_cX3_sharedBits 33 rfl) ?_
        refine a_top (fun x4_3 e_x4_3 => ?_)
        have h := h x4_3 e_x4_3
        refine a_istore C (tk T_cX3_sharedBits 34 rfl) (by decide) rfl ?_
        refine a_iload_n C (tk T_cX3_sharedBits 35 rfl) rfl ?_
        refine a_aload_n C (tk T_cX3_sharedBits 36 rfl) rfl ?_
        refine a_getI C f_RX3_117 (tk T_cX3_sharedBits 37 rfl) lc69 rfl ?_
        refine a_ior C (tk T_cX3_sharedBits 38 rfl) ?_
        refine a_top (fun x3_4 e_x3_4 => ?_)
        have h := h x3_4 e_x3_4
        refine a_istore_n C (tk T_cX3_sharedBits 39 rfl) (by decide) rfl ?_
        exact a_to (k_Judge_sharedBits_71 C hr hR ih x2 x3_4 x4_3 x5 M2 h) rfl
def P_Judge_sharedBits (post : Int32 → Mem → Prop) (x1 : Int32) (M : Mem) : Prop :=
  P_Table_withAir (fun r1 M1 =>
  ∃ j20, P_Judge_sharedBits_20 post j20 r1 (0 : Int32) (0 : Int32) (0 : Int32) M1) x1 M
theorem k_Judge_sharedBits {X : FX} {g : GT} {ext : List CD} {A : Nat → Prop} {Z : State → Prop} {post : Int32 → Mem → Prop} (C : Cx X g (layC ++ ext) A cX3_sharedBits 6 RX3 3) (hr : 0 ≤ X.2.2.2.1.cells ∧ 0 ≤ X.2.2.2.1.slots) (hR : RetI X g (layC ++ ext) A cX3_sharedBits 6 0 0 Z post) (x1 : Int32) (M : Mem) (h : P_Judge_sharedBits post x1 M) : AtX X g (layC ++ ext) A 6 0 0 Z 0 [(0, .ref (ad g 69)), (1, .int x1)] [] M := by
  refine a_aload_n C (tk T_cX3_sharedBits 0 rfl) rfl ?_
  refine a_getR C f_RX3_38 (tk T_cX3_sharedBits 1 rfl) lc69 rfl ?_
  refine a_getR C f_RX3_123 (tk T_cX3_sharedBits 2 rfl) lc1 rfl ?_
  refine a_iload_n C (tk T_cX3_sharedBits 3 rfl) rfl ?_
  refine a_callI C [.int x1] me_yX10_withAir lk_RX3_152 (ct_Table_withAir h) (by decide) lc13 rfl rfl rfl (Nat.le_of_ble_eq_true rfl) (tk T_cX3_sharedBits 4 rfl) hr (fun r1 M1 h => ?_)
  refine a_istore_n C (tk T_cX3_sharedBits 5 rfl) (by decide) rfl ?_
  refine a_iconst C (0 : Int32) (tk T_cX3_sharedBits 6 rfl) kI_0 ?_
  refine a_istore_n C (tk T_cX3_sharedBits 7 rfl) (by decide) rfl ?_
  refine a_iconst C (0 : Int32) (tk T_cX3_sharedBits 8 rfl) kI_0 ?_
  refine a_istore C (tk T_cX3_sharedBits 9 rfl) (by decide) rfl ?_
  refine a_iconst C (0 : Int32) (tk T_cX3_sharedBits 10 rfl) kI_0 ?_
  refine a_istore C (tk T_cX3_sharedBits 11 rfl) (by decide) rfl ?_
  obtain ⟨n1, h⟩ := h
  exact a_to (k_Judge_sharedBits_20 C hr hR n1 r1 (0 : Int32) (0 : Int32) (0 : Int32) M1 h) rfl
theorem ct_Judge_sharedBits {l : Launch} {g : GT} {ext : List CD} {post : Int32 → Mem → Prop} {x1 : Int32} {M : Mem} (h : P_Judge_sharedBits post x1 M) : CI l g (layC ++ ext) yX3_sharedBits cX3_sharedBits 6 (some .int) 3 [.ref (ad g 69), .int x1] M post :=
  ci_of (plainFor_of_name (by decide +kernel)) (Nat.le_of_ble_eq_true rfl) (fun X A Z hl C hr hR => by subst hl; exact k_Judge_sharedBits C hr hR x1 M h)
def T_cX11_wideL : List (Nat × Instr × Nat) := [(0, .aload_n 0, 1), (1, .iload_n 1, 1), (2, .invokevirtual 232, 3), (5, .aload_n 0, 1), (6, .getfield 33, 3), (9, .iload_n 1, 1), (10, .invokevirtual 264, 3), (13, .iload_n 3, 1), (14, .ifCond .eq 14, 3), (17, .aload_n 0, 1), (18, .getfield 33, 3), (21, .iload_n 2, 1), (22, .invokevirtual 308, 3), (25, .goto 11, 3), (28, .aload_n 0, 1), (29, .getfield 33, 3), (32, .iload_n 2, 1), (33, .invokevirtual 311, 3), (36, .ireturn, 1)]
theorem T_cX11_wide : tabOK cX11_wide T_cX11_wideL = true := by decide +kernel
def P_R_wide_36 (post : Int32 → Mem → Prop) (ex : String → Mem → Prop) (s0 : Int32) (M : Mem) : Prop :=
  post s0 M
theorem k_R_wide_36 {X : FX} {g : GT} {ext : List CD} {A : Nat → Prop} {Z : State → Prop} {post : Int32 → Mem → Prop} {ex : String → Mem → Prop} {sk : Nat → Nat} (C : CxX X g (layC ++ ext) A cX11_wide 4 RX11 8 1 sk) (hT : ThX X g (layC ++ ext) A 1 Z ex) (hR : RetI X g (layC ++ ext) A cX11_wide 4 1 (6 * 1) Z post) (s0 : Int32) (M : Mem) (h : P_R_wide_36 post ex s0 M) : AtX X g (layC ++ ext) A 4 1 (6 * 1) Z 36 [] [.int s0] M := by
  exact x_widen (by decide) (by decide) (hR _ _ _ _ (tk T_cX11_wide 18 rfl) h)
def P_R_wide (post : Int32 → Mem → Prop) (ex : String → Mem → Prop) (x1 x2 x3 : Int32) (M : Mem) : Prop :=
  P_R_wantPlate (fun M1 =>
  P_Judge_open (fun M2 =>
  (x3 = 0 → (P_Judge_wideBits (fun r3 M3 =>
  P_R_wide_36 post ex r3 M3) x2 M2)) ∧
  (¬ x3 = 0 → (P_Judge_sharedBits (fun r4 M4 =>
  P_R_wide_36 post ex r4 M4) x2 M2))) x1 M1) ex x1 M
theorem k_R_wide {X : FX} {g : GT} {ext : List CD} {A : Nat → Prop} {Z : State → Prop} {post : Int32 → Mem → Prop} {ex : String → Mem → Prop} {sk : Nat → Nat} (C : CxX X g (layC ++ ext) A cX11_wide 4 RX11 8 1 sk) (hT : ThX X g (layC ++ ext) A 1 Z ex) (hR : RetI X g (layC ++ ext) A cX11_wide 4 1 (6 * 1) Z post) (x1 x2 x3 : Int32) (M : Mem) (h : P_R_wide post ex x1 x2 x3 M) : AtX X g (layC ++ ext) A 4 0 0 Z 0 [(0, .ref (ad g 0)), (1, .int x1), (2, .int x2), (3, .int x3)] [] M := by
  refine a_aload_n C.1 (tk T_cX11_wide 0 rfl) rfl ?_
  refine a_iload_n C.1 (tk T_cX11_wide 1 rfl) rfl ?_
  refine x_callV C hT [.int x1] me_yX11_wantPlate lk_RX11_232 (ct_R_wantPlate h) (by decide) lc0 rfl rfl rfl (Nat.le_of_ble_eq_true rfl) (tk T_cX11_wide 2 rfl) (by decide) (fun M1 h => ?_)
  refine a_aload_n C.1 (tk T_cX11_wide 3 rfl) rfl ?_
  refine a_getR C.1 f_RX11_33 (tk T_cX11_wide 4 rfl) lc0 rfl ?_
  refine a_iload_n C.1 (tk T_cX11_wide 5 rfl) rfl ?_
  refine a_callV C.1 [.int x1] me_yX3_open lk_RX11_264 (ct_Judge_open h) (by decide) lc69 rfl rfl rfl (Nat.le_of_ble_eq_true rfl) (tk T_cX11_wide 6 rfl) ⟨Nat.le_trans (by decide) C.2.2.1, Nat.le_trans (by decide) C.2.2.2⟩ (fun M2 h => ?_)
  refine a_iload_n C.1 (tk T_cX11_wide 7 rfl) rfl ?_
  refine a_if_eq C.1 28 (tk T_cX11_wide 8 rfl) rfl (fun c => ?_) (fun c => ?_)
  · have h := h.1 c
    refine a_aload_n C.1 (tk T_cX11_wide 14 rfl) rfl ?_
    refine a_getR C.1 f_RX11_33 (tk T_cX11_wide 15 rfl) lc0 rfl ?_
    refine a_iload_n C.1 (tk T_cX11_wide 16 rfl) rfl ?_
    refine a_callI C.1 [.int x2] me_yX3_wideBits lk_RX11_311 (ct_Judge_wideBits h) (by decide) lc69 rfl rfl rfl (Nat.le_of_ble_eq_true rfl) (tk T_cX11_wide 17 rfl) ⟨Nat.le_trans (by decide) C.2.2.1, Nat.le_trans (by decide) C.2.2.2⟩ (fun r3 M3 h => ?_)
    exact x_widen (by decide) (by decide) (a_to (k_R_wide_36 C hT hR r3 M3 h) rfl)
  · have h := h.2 c
    refine a_aload_n C.1 (tk T_cX11_wide 9 rfl) rfl ?_
    refine a_getR C.1 f_RX11_33 (tk T_cX11_wide 10 rfl) lc0 rfl ?_
    refine a_iload_n C.1 (tk T_cX11_wide 11 rfl) rfl ?_
    refine a_callI C.1 [.int x2] me_yX3_sharedBits lk_RX11_308 (ct_Judge_sharedBits h) (by decide) lc69 rfl rfl rfl (Nat.le_of_ble_eq_true rfl) (tk T_cX11_wide 12 rfl) ⟨Nat.le_trans (by decide) C.2.2.1, Nat.le_trans (by decide) C.2.2.2⟩ (fun r4 M4 h => ?_)
    refine a_goto C.1 36 (tk T_cX11_wide 13 rfl) rfl ?_
    exact x_widen (by decide) (by decide) (a_to (k_R_wide_36 C hT hR r4 M4 h) rfl)
theorem ct_R_wide {l : Launch} {g : GT} {ext : List CD} {sk : Nat → Nat} {post : Int32 → Mem → Prop} {ex : String → Mem → Prop} {x1 x2 x3 : Int32} {M : Mem} (h : P_R_wide post ex x1 x2 x3 M) : XI l g (layC ++ ext) sk yX11_wide cX11_wide 4 (some .int) 8 1 [.ref (ad g 0), .int x1, .int x2, .int x3] M post ex :=
  xi_of (by decide +kernel) (Nat.le_of_ble_eq_true rfl) (fun X A Z hl C hR hT _ => by subst hl; exact k_R_wide C hT hR x1 x2 x3 M h)
def T_cX3_hasSpanL : List (Nat × Instr × Nat) := [(0, .aload_n 0, 1), (1, .getfield 9, 3), (4, .iload_n 1, 1), (5, .iaload, 1), (6, .aload_n 0, 1), (7, .getfield 15, 3), (10, .iload_n 1, 1), (11, .iaload, 1), (12, .if_icmp .gt 7, 3), (15, .iconst 1, 1), (16, .goto 4, 3), (19, .iconst 0, 1), (20, .ireturn, 1)]
theorem T_cX3_hasSpan : tabOK cX3_hasSpan T_cX3_hasSpanL = true := by decide +kernel
def P_Judge_hasSpan_20 (post : Int32 → Mem → Prop) (s0 : Int32) (M : Mem) : Prop :=
  (s0 = 0 ∨ s0 = 1) ∧ post s0 M
theorem k_Judge_hasSpan_20 {X : FX} {g : GT} {ext : List CD} {A : Nat → Prop} {Z : State → Prop} {post : Int32 → Mem → Prop} (C : Cx X g (layC ++ ext) A cX3_hasSpan 2 RX3 0) (hr : 0 ≤ X.2.2.2.1.cells ∧ 0 ≤ X.2.2.2.1.slots) (hR : RetZ X g (layC ++ ext) A cX3_hasSpan 2 0 0 Z post) (s0 : Int32) (M : Mem) (h : P_Judge_hasSpan_20 post s0 M) : AtX X g (layC ++ ext) A 2 0 0 Z 20 [] [.int s0] M := by
  exact hR _ _ _ _ (tk T_cX3_hasSpan 12 rfl) h
def P_Judge_hasSpan (post : Int32 → Mem → Prop) (x1 : Int32) (M : Mem) : Prop :=
  vp_in x1 24 ∧ vp_in x1 24 ∧ ((M 71 x1.toNatClampNeg) < (M 70 x1.toNatClampNeg) → (P_Judge_hasSpan_20 post (0 : Int32) M)) ∧
  (¬ (M 71 x1.toNatClampNeg) < (M 70 x1.toNatClampNeg) → (P_Judge_hasSpan_20 post (1 : Int32) M))
theorem k_Judge_hasSpan {X : FX} {g : GT} {ext : List CD} {A : Nat → Prop} {Z : State → Prop} {post : Int32 → Mem → Prop} (C : Cx X g (layC ++ ext) A cX3_hasSpan 2 RX3 0) (hr : 0 ≤ X.2.2.2.1.cells ∧ 0 ≤ X.2.2.2.1.slots) (hR : RetZ X g (layC ++ ext) A cX3_hasSpan 2 0 0 Z post) (x1 : Int32) (M : Mem) (h : P_Judge_hasSpan post x1 M) : AtX X g (layC ++ ext) A 2 0 0 Z 0 [(0, .ref (ad g 69)), (1, .int x1)] [] M := by
  refine a_aload_n C (tk T_cX3_hasSpan 0 rfl) rfl ?_
  refine a_getR C f_RX3_9 (tk T_cX3_hasSpan 1 rfl) lc69 rfl ?_
  refine a_iload_n C (tk T_cX3_hasSpan 2 rfl) rfl ?_
  obtain ⟨hb, h⟩ := h
  refine a_iald C (tk T_cX3_hasSpan 3 rfl) lc70 hb ?_
  refine a_aload_n C (tk T_cX3_hasSpan 4 rfl) rfl ?_
  refine a_getR C f_RX3_15 (tk T_cX3_hasSpan 5 rfl) lc69 rfl ?_
  refine a_iload_n C (tk T_cX3_hasSpan 6 rfl) rfl ?_
  obtain ⟨hb, h⟩ := h
  refine a_iald C (tk T_cX3_hasSpan 7 rfl) lc71 hb ?_
  refine a_icmp_gt C 19 (tk T_cX3_hasSpan 8 rfl) rfl (fun c => ?_) (fun c => ?_)
  · have h := h.1 c
    refine a_iconst C (0 : Int32) (tk T_cX3_hasSpan 11 rfl) kI_0 ?_
    exact a_to (k_Judge_hasSpan_20 C hr hR (0 : Int32) M h) rfl
  · have h := h.2 c
    refine a_iconst C (1 : Int32) (tk T_cX3_hasSpan 9 rfl) kI_1 ?_
    refine a_goto C 20 (tk T_cX3_hasSpan 10 rfl) rfl ?_
    exact a_to (k_Judge_hasSpan_20 C hr hR (1 : Int32) M h) rfl
theorem ct_Judge_hasSpan {l : Launch} {g : GT} {ext : List CD} {post : Int32 → Mem → Prop} {x1 : Int32} {M : Mem} (h : P_Judge_hasSpan post x1 M) : CI l g (layC ++ ext) yX3_hasSpan cX3_hasSpan 2 (some .boolean) 0 [.ref (ad g 69), .int x1] M post :=
  cz_of (plainFor_of_name (by decide +kernel)) (Nat.le_of_ble_eq_true rfl) (fun X A Z hl C hr hR => by subst hl; exact k_Judge_hasSpan C hr hR x1 M h)
def T_cX7_gatherL : List (Nat × Instr × Nat) := [(0, .aload_n 0, 1), (1, .getfield 26, 3), (4, .iload_n 1, 1), (5, .iconst 0, 1), (6, .invokevirtual 30, 3), (9, .istore_n 2, 1), (10, .aload_n 0, 1), (11, .iconst 0, 1), (12, .putfield 36, 3), (15, .iconst 0, 1), (16, .istore_n 3, 1), (17, .iload_n 3, 1), (18, .aload_n 0, 1), (19, .getfield 22, 3), (22, .getfield 40, 3), (25, .getfield 46, 3), (28, .if_icmp .ge 92, 3), (31, .aload_n 0, 1), (32, .getfield 36, 3), (35, .bipush 10, 2), (37, .if_icmp .ge 83, 3), (40, .aload_n 0, 1), (41, .getfield 26, 3), (44, .getfield 51, 3), (47, .iload_n 3, 1), (48, .iaload, 1), (49, .aload_n 0, 1), (50, .getfield 26, 3), (53, .getfield 54, 3), (56, .iload_n 3, 1), (57, .iaload, 1), (58, .iadd, 1), (59, .iconst 2, 1), (60, .invokestatic 57, 3), (63, .istore 4, 2), (65, .iload_n 2, 1), (66, .iload_n 3, 1), (67, .invokestatic 62, 3), (70, .ifCond .eq 44, 3), (73, .aload_n 0, 1), (74, .getfield 26, 3), (77, .iload_n 3, 1), (78, .invokevirtual 66, 3), (81, .ifCond .eq 33, 3), (84, .iload 4, 2), (86, .iconst 1, 1), (87, .if_icmp .lt 27, 3), (90, .aload_n 0, 1), (91, .getfield 11, 3), (94, .aload_n 0, 1), (95, .getfield 36, 3), (98, .ldc 70, 2), (100, .iload 4, 2), (102, .idiv, 1), (103, .iastore, 1), (104, .aload_n 0, 1), (105, .dup, 1), (106, .getfield 36, 3), (109, .iconst 1, 1), (110, .iadd, 1), (111, .putfield 36, 3), (114, .iinc 3 1, 3), (117, .goto (-100), 3), (120, .return_, 1)]
theorem T_cX7_gather : tabOK cX7_gather T_cX7_gatherL = true := by decide +kernel
def P_Rows_gather_120 (post : Mem → Prop) (M : Mem) : Prop :=
  post M
theorem k_Rows_gather_120 {X : FX} {g : GT} {ext : List CD} {A : Nat → Prop} {Z : State → Prop} {post : Mem → Prop} (C : Cx X g (layC ++ ext) A cX7_gather 5 RX7 4) (hr : 0 ≤ X.2.2.2.1.cells ∧ 0 ≤ X.2.2.2.1.slots) (hR : RetV X g (layC ++ ext) A cX7_gather 5 0 0 Z post)  (M : Mem) (h : P_Rows_gather_120 post M) : AtX X g (layC ++ ext) A 5 0 0 Z 120 [] [] M := by
  exact hR _ _ _ (tk T_cX7_gather 63 rfl) h
def P_Rows_gather_114 (post : Mem → Prop) (R17 : Int32 → Int32 → Mem → Prop) (x2 x3 : Int32) (M : Mem) : Prop :=
  R17 x2 (x3 + (1 : Int32)) M
theorem k_Rows_gather_114 {X : FX} {g : GT} {ext : List CD} {A : Nat → Prop} {Z : State → Prop} {post : Mem → Prop} {R17 : Int32 → Int32 → Mem → Prop} (C : Cx X g (layC ++ ext) A cX7_gather 5 RX7 4) (hr : 0 ≤ X.2.2.2.1.cells ∧ 0 ≤ X.2.2.2.1.slots) (hR : RetV X g (layC ++ ext) A cX7_gather 5 0 0 Z post) (k17 : ∀ (y2 y3 : Int32) (M : Mem), R17 y2 y3 M → AtX X g (layC ++ ext) A 5 0 0 Z 17 [(0, .ref (ad g 80)), (2, .int y2), (3, .int y3)] [] M) (x2 x3 : Int32) (M : Mem) (h : P_Rows_gather_114 post R17 x2 x3 M) : AtX X g (layC ++ ext) A 5 0 0 Z 114 [(0, .ref (ad g 80)), (2, .int x2), (3, .int x3)] [] M := by
  refine a_iinc C (1 : Int32) (tk T_cX7_gather 61 rfl) rfl kI_1 (by decide) rfl ?_
  refine a_goto C 17 (tk T_cX7_gather 62 rfl) rfl ?_
  exact a_to (k17 x2 (x3 + (1 : Int32)) M h) rfl
def P_Rows_gather_17 (post : Mem → Prop) : Nat → Int32 → Int32 → Mem → Prop
  | 0, _, _, _ => False
  | n + 1, x2, x3, M =>
    ((M 18 11) ≤ x3 → (P_Rows_gather_120 post M)) ∧
  (¬ (M 18 11) ≤ x3 → (((10 : Int32) ≤ (M 80 5) → (P_Rows_gather_120 post M)) ∧
  (¬ (10 : Int32) ≤ (M 80 5) → (vp_in x3 24 ∧ vp_in x3 24 ∧ P_Math_floorDiv (fun r1 M1 =>
  P_R_has (fun r2 M2 =>
  (r2 = 0 → (P_Rows_gather_114 post (P_Rows_gather_17 post n) x2 x3 M2)) ∧
  (¬ r2 = 0 → (P_Judge_hasSpan (fun r3 M3 =>
  (r3 = 0 → (P_Rows_gather_114 post (P_Rows_gather_17 post n) x2 x3 M3)) ∧
  (¬ r3 = 0 → ((r1 < (1 : Int32) → (P_Rows_gather_114 post (P_Rows_gather_17 post n) x2 x3 M3)) ∧
  (¬ r1 < (1 : Int32) → ((¬ r1 = 0) ∧ vp_in (M3 80 5) 10 ∧ ∀ M4, M4 = ms M3 81 (M3 80 5).toNatClampNeg ((10000000 : Int32) / r1) → ∀ M5, M5 = ms M4 80 5 ((M4 80 5) + (1 : Int32)) → P_Rows_gather_114 post (P_Rows_gather_17 post n) x2 x3 M5))))) x3 M2))) x2 x3 M1) ((M 70 x3.toNatClampNeg) + (M 71 x3.toNatClampNeg)) (2 : Int32) M))))
theorem k_Rows_gather_17 {X : FX} {g : GT} {ext : List CD} {A : Nat → Prop} {Z : State → Prop} {post : Mem → Prop} (C : Cx X g (layC ++ ext) A cX7_gather 5 RX7 4) (hr : 0 ≤ X.2.2.2.1.cells ∧ 0 ≤ X.2.2.2.1.slots) (hR : RetV X g (layC ++ ext) A cX7_gather 5 0 0 Z post) : ∀ (n : Nat) (x2 x3 : Int32) (M : Mem), P_Rows_gather_17 post n x2 x3 M → AtX X g (layC ++ ext) A 5 0 0 Z 17 [(0, .ref (ad g 80)), (2, .int x2), (3, .int x3)] [] M := by
  intro n
  induction n with
  | zero =>
    intro x2 x3 M h
    exact h.elim
  | succ n ih =>
    intro x2 x3 M h
    refine a_iload_n C (tk T_cX7_gather 11 rfl) rfl ?_
    refine a_aload_n C (tk T_cX7_gather 12 rfl) rfl ?_
    refine a_getR C f_RX7_22 (tk T_cX7_gather 13 rfl) lc80 rfl ?_
    refine a_getR C f_RX7_40 (tk T_cX7_gather 14 rfl) lc1 rfl ?_
    refine a_getI C f_RX7_46 (tk T_cX7_gather 15 rfl) lc18 rfl ?_
    refine a_icmp_ge C 120 (tk T_cX7_gather 16 rfl) rfl (fun c => ?_) (fun c => ?_)
    · have h := h.1 c
      exact a_to (k_Rows_gather_120 C hr hR M h) rfl
    · have h := h.2 c
      refine a_aload_n C (tk T_cX7_gather 17 rfl) rfl ?_
      refine a_getI C f_RX7_36 (tk T_cX7_gather 18 rfl) lc80 rfl ?_
      refine a_bipush C (10 : Int32) (tk T_cX7_gather 19 rfl) kB_10 ?_
      refine a_icmp_ge C 120 (tk T_cX7_gather 20 rfl) rfl (fun c => ?_) (fun c => ?_)
      · have h := h.1 c
        exact a_to (k_Rows_gather_120 C hr hR M h) rfl
      · have h := h.2 c
        refine a_aload_n C (tk T_cX7_gather 21 rfl) rfl ?_
        refine a_getR C f_RX7_26 (tk T_cX7_gather 22 rfl) lc80 rfl ?_
        refine a_getR C f_RX7_51 (tk T_cX7_gather 23 rfl) lc69 rfl ?_
        refine a_iload_n C (tk T_cX7_gather 24 rfl) rfl ?_
        obtain ⟨hb, h⟩ := h
        refine a_iald C (tk T_cX7_gather 25 rfl) lc70 hb ?_
        refine a_aload_n C (tk T_cX7_gather 26 rfl) rfl ?_
        refine a_getR C f_RX7_26 (tk T_cX7_gather 27 rfl) lc80 rfl ?_
        refine a_getR C f_RX7_54 (tk T_cX7_gather 28 rfl) lc69 rfl ?_
        refine a_iload_n C (tk T_cX7_gather 29 rfl) rfl ?_
        obtain ⟨hb, h⟩ := h
        refine a_iald C (tk T_cX7_gather 30 rfl) lc71 hb ?_
        refine a_iadd C (tk T_cX7_gather 31 rfl) ?_
        refine a_iconst C (2 : Int32) (tk T_cX7_gather 32 rfl) kI_2 ?_
        refine a_statI C [.int ((M 70 x3.toNatClampNeg) + (M 71 x3.toNatClampNeg)), .int (2 : Int32)] me_yJ9_floorDiv_7cf53 lk_RX7_57 (ct_Math_floorDiv h) (by decide) rfl rfl (Nat.le_of_ble_eq_true rfl) (tk T_cX7_gather 33 rfl) hr (fun r1 M1 h => ?_)
        refine a_istore C (tk T_cX7_gather 34 rfl) (by decide) rfl ?_
        refine a_iload_n C (tk T_cX7_gather 35 rfl) rfl ?_
        refine a_iload_n C (tk T_cX7_gather 36 rfl) rfl ?_
        refine a_nestI C [.int x2, .int x3] me_yX11_has lk_RX7_62 (ct_R_has h) (by decide) rfl rfl (Nat.le_of_ble_eq_true rfl) (tk T_cX7_gather 37 rfl) hr (fun r2 M2 h => ?_)
        refine a_if_eq C 114 (tk T_cX7_gather 38 rfl) rfl (fun c => ?_) (fun c => ?_)
        · have h := h.1 c
          exact a_to (k_Rows_gather_114 C hr hR ih x2 x3 M2 h) rfl
        · have h := h.2 c
          refine a_aload_n C (tk T_cX7_gather 39 rfl) rfl ?_
          refine a_getR C f_RX7_26 (tk T_cX7_gather 40 rfl) lc80 rfl ?_
          refine a_iload_n C (tk T_cX7_gather 41 rfl) rfl ?_
          refine a_callI C [.int x3] me_yX3_hasSpan lk_RX7_66 (ct_Judge_hasSpan h) (by decide) lc69 rfl rfl rfl (Nat.le_of_ble_eq_true rfl) (tk T_cX7_gather 42 rfl) hr (fun r3 M3 h => ?_)
          refine a_if_eq C 114 (tk T_cX7_gather 43 rfl) rfl (fun c => ?_) (fun c => ?_)
          · have h := h.1 c
            exact a_to (k_Rows_gather_114 C hr hR ih x2 x3 M3 h) rfl
          · have h := h.2 c
            refine a_iload C (tk T_cX7_gather 44 rfl) rfl ?_
            refine a_iconst C (1 : Int32) (tk T_cX7_gather 45 rfl) kI_1 ?_
            refine a_icmp_lt C 114 (tk T_cX7_gather 46 rfl) rfl (fun c => ?_) (fun c => ?_)
            · have h := h.1 c
              exact a_to (k_Rows_gather_114 C hr hR ih x2 x3 M3 h) rfl
            · have h := h.2 c
              refine a_aload_n C (tk T_cX7_gather 47 rfl) rfl ?_
              refine a_getR C f_RX7_11 (tk T_cX7_gather 48 rfl) lc80 rfl ?_
              refine a_aload_n C (tk T_cX7_gather 49 rfl) rfl ?_
              refine a_getI C f_RX7_36 (tk T_cX7_gather 50 rfl) lc80 rfl ?_
              refine a_ldc C c_RX7_70 (tk T_cX7_gather 51 rfl) ?_
              refine a_iload C (tk T_cX7_gather 52 rfl) rfl ?_
              obtain ⟨hy, h⟩ := h
              refine a_idiv C (tk T_cX7_gather 53 rfl) hy ?_
              obtain ⟨hb, h⟩ := h
              refine a_iast C (tk T_cX7_gather 54 rfl) lc81 hb ?_
              refine a_mem (fun M4 e_M4 => ?_)
              have h := h M4 e_M4
              refine a_aload_n C (tk T_cX7_gather 55 rfl) rfl ?_
              refine a_dupr C (tk T_cX7_gather 56 rfl) ?_
              refine a_getI C f_RX7_36 (tk T_cX7_gather 57 rfl) lc80 rfl ?_
              refine a_iconst C (1 : Int32) (tk T_cX7_gather 58 rfl) kI_1 ?_
              refine a_iadd C (tk T_cX7_gather 59 rfl) ?_
              refine a_put C f_RX7_36 f_RX7_36p rfl rfl (tk T_cX7_gather 60 rfl) lc80 rfl ?_
              refine a_mem (fun M5 e_M5 => ?_)
              have h := h M5 e_M5
              exact a_to (k_Rows_gather_114 C hr hR ih x2 x3 M5 h) rfl
def P_Rows_gather (post : Mem → Prop) (x1 : Int32) (M : Mem) : Prop :=
  P_Judge_leftBits (fun r1 M1 =>
  ∀ M2, M2 = ms M1 80 5 (0 : Int32) → ∃ j17, P_Rows_gather_17 post j17 r1 (0 : Int32) M2) x1 (0 : Int32) M
theorem k_Rows_gather {X : FX} {g : GT} {ext : List CD} {A : Nat → Prop} {Z : State → Prop} {post : Mem → Prop} (C : Cx X g (layC ++ ext) A cX7_gather 5 RX7 4) (hr : 0 ≤ X.2.2.2.1.cells ∧ 0 ≤ X.2.2.2.1.slots) (hR : RetV X g (layC ++ ext) A cX7_gather 5 0 0 Z post) (x1 : Int32) (M : Mem) (h : P_Rows_gather post x1 M) : AtX X g (layC ++ ext) A 5 0 0 Z 0 [(0, .ref (ad g 80)), (1, .int x1)] [] M := by
  refine a_aload_n C (tk T_cX7_gather 0 rfl) rfl ?_
  refine a_getR C f_RX7_26 (tk T_cX7_gather 1 rfl) lc80 rfl ?_
  refine a_iload_n C (tk T_cX7_gather 2 rfl) rfl ?_
  refine a_iconst C (0 : Int32) (tk T_cX7_gather 3 rfl) kI_0 ?_
  refine a_callI C [.int x1, .int (0 : Int32)] me_yX3_leftBits lk_RX7_30 (ct_Judge_leftBits h) (by decide) lc69 rfl rfl rfl (Nat.le_of_ble_eq_true rfl) (tk T_cX7_gather 4 rfl) hr (fun r1 M1 h => ?_)
  refine a_istore_n C (tk T_cX7_gather 5 rfl) (by decide) rfl ?_
  refine a_aload_n C (tk T_cX7_gather 6 rfl) rfl ?_
  refine a_iconst C (0 : Int32) (tk T_cX7_gather 7 rfl) kI_0 ?_
  refine a_put C f_RX7_36 f_RX7_36p rfl rfl (tk T_cX7_gather 8 rfl) lc80 rfl ?_
  refine a_mem (fun M2 e_M2 => ?_)
  have h := h M2 e_M2
  refine a_iconst C (0 : Int32) (tk T_cX7_gather 9 rfl) kI_0 ?_
  refine a_istore_n C (tk T_cX7_gather 10 rfl) (by decide) rfl ?_
  obtain ⟨n1, h⟩ := h
  exact a_to (k_Rows_gather_17 C hr hR n1 r1 (0 : Int32) M2 h) rfl
theorem ct_Rows_gather {l : Launch} {g : GT} {ext : List CD} {post : Mem → Prop} {x1 : Int32} {M : Mem} (h : P_Rows_gather post x1 M) : CV l g (layC ++ ext) yX7_gather cX7_gather 5 none 4 [.ref (ad g 80), .int x1] M post :=
  cv_of (plainFor_of_name (by decide +kernel)) (Nat.le_of_ble_eq_true rfl) (fun X A Z hl C hr hR => by subst hl; exact k_Rows_gather C hr hR x1 M h)
def T_cX7_leastStepAboveL : List (Nat × Instr × Nat) := [(0, .iconst (-1), 1), (1, .istore_n 2, 1), (2, .iconst 0, 1), (3, .istore_n 3, 1), (4, .iload_n 3, 1), (5, .aload_n 0, 1), (6, .getfield 36, 3), (9, .if_icmp .ge 63, 3), (12, .iconst 0, 1), (13, .istore 4, 2), (15, .iload 4, 2), (17, .iload_n 3, 1), (18, .if_icmp .ge 48, 3), (21, .aload_n 0, 1), (22, .getfield 11, 3), (25, .iload_n 3, 1), (26, .iaload, 1), (27, .aload_n 0, 1), (28, .getfield 11, 3), (31, .iload 4, 2), (33, .iaload, 1), (34, .isub, 1), (35, .invokestatic 88, 3), (38, .istore 5, 2), (40, .iload 5, 2), (42, .iload_n 1, 1), (43, .if_icmp .le 17, 3), (46, .iload_n 2, 1), (47, .iconst (-1), 1), (48, .if_icmp .eq 9, 3), (51, .iload 5, 2), (53, .iload_n 2, 1), (54, .if_icmp .ge 6, 3), (57, .iload 5, 2), (59, .istore_n 2, 1), (60, .iinc 4 1, 3), (63, .goto (-48), 3), (66, .iinc 3 1, 3), (69, .goto (-65), 3), (72, .iload_n 2, 1), (73, .ireturn, 1)]
theorem T_cX7_leastStepAbove : tabOK cX7_leastStepAbove T_cX7_leastStepAboveL = true := by decide +kernel
def P_Rows_leastStepAbove_60 (post : Int32 → Mem → Prop) (R4 : Int32 → Int32 → Int32 → Mem → Prop) (R15 : Int32 → Int32 → Int32 → Int32 → Mem → Prop) (x1 x2 x3 x4 : Int32) (M : Mem) : Prop :=
  R15 x1 x2 x3 (x4 + (1 : Int32)) M
theorem k_Rows_leastStepAbove_60 {X : FX} {g : GT} {ext : List CD} {A : Nat → Prop} {Z : State → Prop} {post : Int32 → Mem → Prop} {R4 : Int32 → Int32 → Int32 → Mem → Prop} {R15 : Int32 → Int32 → Int32 → Int32 → Mem → Prop} (C : Cx X g (layC ++ ext) A cX7_leastStepAbove 6 RX7 1) (hr : 0 ≤ X.2.2.2.1.cells ∧ 0 ≤ X.2.2.2.1.slots) (hR : RetI X g (layC ++ ext) A cX7_leastStepAbove 6 0 0 Z post) (k4 : ∀ (y1 y2 y3 : Int32) (M : Mem), R4 y1 y2 y3 M → AtX X g (layC ++ ext) A 6 0 0 Z 4 [(0, .ref (ad g 80)), (1, .int y1), (2, .int y2), (3, .int y3)] [] M) (k15 : ∀ (y1 y2 y3 y4 : Int32) (M : Mem), R15 y1 y2 y3 y4 M → AtX X g (layC ++ ext) A 6 0 0 Z 15 [(0, .ref (ad g 80)), (1, .int y1), (2, .int y2), (3, .int y3), (4, .int y4)] [] M) (x1 x2 x3 x4 : Int32) (M : Mem) (h : P_Rows_leastStepAbove_60 post R4 R15 x1 x2 x3 x4 M) : AtX X g (layC ++ ext) A 6 0 0 Z 60 [(0, .ref (ad g 80)), (1, .int x1), (2, .int x2), (3, .int x3), (4, .int x4)] [] M := by
  refine a_iinc C (1 : Int32) (tk T_cX7_leastStepAbove 35 rfl) rfl kI_1 (by decide) rfl ?_
  refine a_goto C 15 (tk T_cX7_leastStepAbove 36 rfl) rfl ?_
  exact a_to (k15 x1 x2 x3 (x4 + (1 : Int32)) M h) rfl
def P_Rows_leastStepAbove_57 (post : Int32 → Mem → Prop) (R4 : Int32 → Int32 → Int32 → Mem → Prop) (R15 : Int32 → Int32 → Int32 → Int32 → Mem → Prop) (x1 x3 x4 x5 : Int32) (M : Mem) : Prop :=
  P_Rows_leastStepAbove_60 post R4 R15 x1 x5 x3 x4 M
theorem k_Rows_leastStepAbove_57 {X : FX} {g : GT} {ext : List CD} {A : Nat → Prop} {Z : State → Prop} {post : Int32 → Mem → Prop} {R4 : Int32 → Int32 → Int32 → Mem → Prop} {R15 : Int32 → Int32 → Int32 → Int32 → Mem → Prop} (C : Cx X g (layC ++ ext) A cX7_leastStepAbove 6 RX7 1) (hr : 0 ≤ X.2.2.2.1.cells ∧ 0 ≤ X.2.2.2.1.slots) (hR : RetI X g (layC ++ ext) A cX7_leastStepAbove 6 0 0 Z post) (k4 : ∀ (y1 y2 y3 : Int32) (M : Mem), R4 y1 y2 y3 M → AtX X g (layC ++ ext) A 6 0 0 Z 4 [(0, .ref (ad g 80)), (1, .int y1), (2, .int y2), (3, .int y3)] [] M) (k15 : ∀ (y1 y2 y3 y4 : Int32) (M : Mem), R15 y1 y2 y3 y4 M → AtX X g (layC ++ ext) A 6 0 0 Z 15 [(0, .ref (ad g 80)), (1, .int y1), (2, .int y2), (3, .int y3), (4, .int y4)] [] M) (x1 x3 x4 x5 : Int32) (M : Mem) (h : P_Rows_leastStepAbove_57 post R4 R15 x1 x3 x4 x5 M) : AtX X g (layC ++ ext) A 6 0 0 Z 57 [(0, .ref (ad g 80)), (1, .int x1), (3, .int x3), (4, .int x4), (5, .int x5)] [] M := by
  refine a_iload C (tk T_cX7_leastStepAbove 33 rfl) rfl ?_
  refine a_istore_n C (tk T_cX7_leastStepAbove 34 rfl) (by decide) rfl ?_
  exact a_to (k_Rows_leastStepAbove_60 C hr hR k4 k15 x1 x5 x3 x4 M h) rfl
def P_Rows_leastStepAbove_15 (post : Int32 → Mem → Prop) (R4 : Int32 → Int32 → Int32 → Mem → Prop) : Nat → Int32 → Int32 → Int32 → Int32 → Mem → Prop
  | 0, _, _, _, _, _ => False
  | n + 1, x1, x2, x3, x4, M =>
    (x3 ≤ x4 → (R4 x1 x2 (x3 + (1 : Int32)) M)) ∧
  (¬ x3 ≤ x4 → (vp_in x3 10 ∧ vp_in x4 10 ∧ P_Math_abs (fun r1 M1 =>
  (r1 ≤ x1 → (P_Rows_leastStepAbove_60 post R4 (P_Rows_leastStepAbove_15 post R4 n) x1 x2 x3 x4 M1)) ∧
  (¬ r1 ≤ x1 → ((x2 = (-1 : Int32) → (P_Rows_leastStepAbove_57 post R4 (P_Rows_leastStepAbove_15 post R4 n) x1 x3 x4 r1 M1)) ∧
  (¬ x2 = (-1 : Int32) → ((x2 ≤ r1 → (P_Rows_leastStepAbove_60 post R4 (P_Rows_leastStepAbove_15 post R4 n) x1 x2 x3 x4 M1)) ∧
  (¬ x2 ≤ r1 → (P_Rows_leastStepAbove_57 post R4 (P_Rows_leastStepAbove_15 post R4 n) x1 x3 x4 r1 M1))))))) ((M 81 x3.toNatClampNeg) - (M 81 x4.toNatClampNeg)) M))
theorem k_Rows_leastStepAbove_15 {X : FX} {g : GT} {ext : List CD} {A : Nat → Prop} {Z : State → Prop} {post : Int32 → Mem → Prop} {R4 : Int32 → Int32 → Int32 → Mem → Prop} (C : Cx X g (layC ++ ext) A cX7_leastStepAbove 6 RX7 1) (hr : 0 ≤ X.2.2.2.1.cells ∧ 0 ≤ X.2.2.2.1.slots) (hR : RetI X g (layC ++ ext) A cX7_leastStepAbove 6 0 0 Z post) (k4 : ∀ (y1 y2 y3 : Int32) (M : Mem), R4 y1 y2 y3 M → AtX X g (layC ++ ext) A 6 0 0 Z 4 [(0, .ref (ad g 80)), (1, .int y1), (2, .int y2), (3, .int y3)] [] M) : ∀ (n : Nat) (x1 x2 x3 x4 : Int32) (M : Mem), P_Rows_leastStepAbove_15 post R4 n x1 x2 x3 x4 M → AtX X g (layC ++ ext) A 6 0 0 Z 15 [(0, .ref (ad g 80)), (1, .int x1), (2, .int x2), (3, .int x3), (4, .int x4)] [] M := by
  intro n
  induction n with
  | zero =>
    intro x1 x2 x3 x4 M h
    exact h.elim
  | succ n ih =>
    intro x1 x2 x3 x4 M h
    refine a_iload C (tk T_cX7_leastStepAbove 10 rfl) rfl ?_
    refine a_iload_n C (tk T_cX7_leastStepAbove 11 rfl) rfl ?_
    refine a_icmp_ge C 66 (tk T_cX7_leastStepAbove 12 rfl) rfl (fun c => ?_) (fun c => ?_)
    · have h := h.1 c
      refine a_iinc C (1 : Int32) (tk T_cX7_leastStepAbove 37 rfl) rfl kI_1 (by decide) rfl ?_
      refine a_goto C 4 (tk T_cX7_leastStepAbove 38 rfl) rfl ?_
      exact a_to (k4 x1 x2 (x3 + (1 : Int32)) M h) rfl
    · have h := h.2 c
      refine a_aload_n C (tk T_cX7_leastStepAbove 13 rfl) rfl ?_
      refine a_getR C f_RX7_11 (tk T_cX7_leastStepAbove 14 rfl) lc80 rfl ?_
      refine a_iload_n C (tk T_cX7_leastStepAbove 15 rfl) rfl ?_
      obtain ⟨hb, h⟩ := h
      refine a_iald C (tk T_cX7_leastStepAbove 16 rfl) lc81 hb ?_
      refine a_aload_n C (tk T_cX7_leastStepAbove 17 rfl) rfl ?_
      refine a_getR C f_RX7_11 (tk T_cX7_leastStepAbove 18 rfl) lc80 rfl ?_
      refine a_iload C (tk T_cX7_leastStepAbove 19 rfl) rfl ?_
      obtain ⟨hb, h⟩ := h
      refine a_iald C (tk T_cX7_leastStepAbove 20 rfl) lc81 hb ?_
      refine a_isub C (tk T_cX7_leastStepAbove 21 rfl) ?_
      refine a_statI C [.int ((M 81 x3.toNatClampNeg) - (M 81 x4.toNatClampNeg))] me_yJ9_abs_0f7a4 lk_RX7_88 (ct_Math_abs h) (by decide) rfl rfl (Nat.le_of_ble_eq_true rfl) (tk T_cX7_leastStepAbove 22 rfl) hr (fun r1 M1 h => ?_)
      refine a_istore C (tk T_cX7_leastStepAbove 23 rfl) (by decide) rfl ?_
      refine a_iload C (tk T_cX7_leastStepAbove 24 rfl) rfl ?_
      refine a_iload_n C (tk T_cX7_leastStepAbove 25 rfl) rfl ?_
      refine a_icmp_le C 60 (tk T_cX7_leastStepAbove 26 rfl) rfl (fun c => ?_) (fun c => ?_)
      · have h := h.1 c
        exact a_to (k_Rows_leastStepAbove_60 C hr hR k4 ih x1 x2 x3 x4 M1 h) rfl
      · have h := h.2 c
        refine a_iload_n C (tk T_cX7_leastStepAbove 27 rfl) rfl ?_
        refine a_iconst C (-1 : Int32) (tk T_cX7_leastStepAbove 28 rfl) kI_m1 ?_
        refine a_icmp_eq C 57 (tk T_cX7_leastStepAbove 29 rfl) rfl (fun c => ?_) (fun c => ?_)
        · have h := h.1 c
          exact a_to (k_Rows_leastStepAbove_57 C hr hR k4 ih x1 x3 x4 r1 M1 h) rfl
        · have h := h.2 c
          refine a_iload C (tk T_cX7_leastStepAbove 30 rfl) rfl ?_
          refine a_iload_n C (tk T_cX7_leastStepAbove 31 rfl) rfl ?_
          refine a_icmp_ge C 60 (tk T_cX7_leastStepAbove 32 rfl) rfl (fun c => ?_) (fun c => ?_)
          · have h := h.1 c
            exact a_to (k_Rows_leastStepAbove_60 C hr hR k4 ih x1 x2 x3 x4 M1 h) rfl
          · have h := h.2 c
            exact a_to (k_Rows_leastStepAbove_57 C hr hR k4 ih x1 x3 x4 r1 M1 h) rfl
def P_Rows_leastStepAbove_4 (post : Int32 → Mem → Prop) : Nat → Int32 → Int32 → Int32 → Mem → Prop
  | 0, _, _, _, _ => False
  | n + 1, x1, x2, x3, M =>
    ((M 80 5) ≤ x3 → (post x2 M)) ∧
  (¬ (M 80 5) ≤ x3 → (∃ j15, P_Rows_leastStepAbove_15 post (P_Rows_leastStepAbove_4 post n) j15 x1 x2 x3 (0 : Int32) M))
theorem k_Rows_leastStepAbove_4 {X : FX} {g : GT} {ext : List CD} {A : Nat → Prop} {Z : State → Prop} {post : Int32 → Mem → Prop} (C : Cx X g (layC ++ ext) A cX7_leastStepAbove 6 RX7 1) (hr : 0 ≤ X.2.2.2.1.cells ∧ 0 ≤ X.2.2.2.1.slots) (hR : RetI X g (layC ++ ext) A cX7_leastStepAbove 6 0 0 Z post) : ∀ (n : Nat) (x1 x2 x3 : Int32) (M : Mem), P_Rows_leastStepAbove_4 post n x1 x2 x3 M → AtX X g (layC ++ ext) A 6 0 0 Z 4 [(0, .ref (ad g 80)), (1, .int x1), (2, .int x2), (3, .int x3)] [] M := by
  intro n
  induction n with
  | zero =>
    intro x1 x2 x3 M h
    exact h.elim
  | succ n ih =>
    intro x1 x2 x3 M h
    refine a_iload_n C (tk T_cX7_leastStepAbove 4 rfl) rfl ?_
    refine a_aload_n C (tk T_cX7_leastStepAbove 5 rfl) rfl ?_
    refine a_getI C f_RX7_36 (tk T_cX7_leastStepAbove 6 rfl) lc80 rfl ?_
    refine a_icmp_ge C 72 (tk T_cX7_leastStepAbove 7 rfl) rfl (fun c => ?_) (fun c => ?_)
    · have h := h.1 c
      refine a_iload_n C (tk T_cX7_leastStepAbove 39 rfl) rfl ?_
      exact hR _ _ _ _ (tk T_cX7_leastStepAbove 40 rfl) h
    · have h := h.2 c
      refine a_iconst C (0 : Int32) (tk T_cX7_leastStepAbove 8 rfl) kI_0 ?_
      refine a_istore C (tk T_cX7_leastStepAbove 9 rfl) (by decide) rfl ?_
      obtain ⟨n1, h⟩ := h
      exact a_to (k_Rows_leastStepAbove_15 C hr hR ih n1 x1 x2 x3 (0 : Int32) M h) rfl
def P_Rows_leastStepAbove (post : Int32 → Mem → Prop) (x1 : Int32) (M : Mem) : Prop :=
  ∃ j4, P_Rows_leastStepAbove_4 post j4 x1 (-1 : Int32) (0 : Int32) M
theorem k_Rows_leastStepAbove {X : FX} {g : GT} {ext : List CD} {A : Nat → Prop} {Z : State → Prop} {post : Int32 → Mem → Prop} (C : Cx X g (layC ++ ext) A cX7_leastStepAbove 6 RX7 1) (hr : 0 ≤ X.2.2.2.1.cells ∧ 0 ≤ X.2.2.2.1.slots) (hR : RetI X g (layC ++ ext) A cX7_leastStepAbove 6 0 0 Z post) (x1 : Int32) (M : Mem) (h : P_Rows_leastStepAbove post x1 M) : AtX X g (layC ++ ext) A 6 0 0 Z 0 [(0, .ref (ad g 80)), (1, .int x1)] [] M := by
  refine a_iconst C (-1 : Int32) (tk T_cX7_leastStepAbove 0 rfl) kI_m1 ?_
  refine a_istore_n C (tk T_cX7_leastStepAbove 1 rfl) (by decide) rfl ?_
  refine a_iconst C (0 : Int32) (tk T_cX7_leastStepAbove 2 rfl) kI_0 ?_
  refine a_istore_n C (tk T_cX7_leastStepAbove 3 rfl) (by decide) rfl ?_
  obtain ⟨n1, h⟩ := h
  exact a_to (k_Rows_leastStepAbove_4 C hr hR n1 x1 (-1 : Int32) (0 : Int32) M h) rfl
theorem ct_Rows_leastStepAbove {l : Launch} {g : GT} {ext : List CD} {post : Int32 → Mem → Prop} {x1 : Int32} {M : Mem} (h : P_Rows_leastStepAbove post x1 M) : CI l g (layC ++ ext) yX7_leastStepAbove cX7_leastStepAbove 6 (some .int) 1 [.ref (ad g 80), .int x1] M post :=
  ci_of (plainFor_of_name (by decide +kernel)) (Nat.le_of_ble_eq_true rfl) (fun X A Z hl C hr hR => by subst hl; exact k_Rows_leastStepAbove C hr hR x1 M h)
def T_cX7_putPartnersL : List (Nat × Instr × Nat) := [(0, .iconst 0, 1), (1, .istore_n 3, 1), (2, .iconst 0, 1), (3, .istore 4, 2), (5, .iload 4, 2), (7, .aload_n 0, 1), (8, .getfield 36, 3), (11, .if_icmp .ge 76, 3), (14, .aload_n 0, 1), (15, .getfield 15, 3), (18, .iload 4, 2), (20, .iconst 0, 1), (21, .iastore, 1), (22, .iconst 0, 1), (23, .istore 5, 2), (25, .iload 5, 2), (27, .iload 4, 2), (29, .if_icmp .ge 52, 3), (32, .aload_n 0, 1), (33, .getfield 11, 3), (36, .iload 4, 2), (38, .iaload, 1), (39, .aload_n 0, 1), (40, .getfield 11, 3), (43, .iload 5, 2), (45, .iaload, 1), (46, .isub, 1), (47, .invokestatic 88, 3), (50, .iload_n 1, 1), (51, .iload_n 2, 1), (52, .invokestatic 91, 3), (55, .ifCond .eq 20, 3), (58, .aload_n 0, 1), (59, .getfield 15, 3), (62, .iload 4, 2), (64, .dup2, 1), (65, .iaload, 1), (66, .iconst 1, 1), (67, .iload 5, 2), (69, .ishl, 1), (70, .ior, 1), (71, .iastore, 1), (72, .iinc 3 1, 3), (75, .iinc 5 1, 3), (78, .goto (-53), 3), (81, .iinc 4 1, 3), (84, .goto (-79), 3), (87, .iload_n 3, 1), (88, .ireturn, 1)]
theorem T_cX7_putPartners : tabOK cX7_putPartners T_cX7_putPartnersL = true := by decide +kernel
def P_Rows_putPartners_75 (post : Int32 → Mem → Prop) (R5 : Int32 → Int32 → Int32 → Int32 → Mem → Prop) (R25 : Int32 → Int32 → Int32 → Int32 → Int32 → Mem → Prop) (x1 x2 x3 x4 x5 : Int32) (M : Mem) : Prop :=
  R25 x1 x2 x3 x4 (x5 + (1 : Int32)) M
theorem k_Rows_putPartners_75 {X : FX} {g : GT} {ext : List CD} {A : Nat → Prop} {Z : State → Prop} {post : Int32 → Mem → Prop} {R5 : Int32 → Int32 → Int32 → Int32 → Mem → Prop} {R25 : Int32 → Int32 → Int32 → Int32 → Int32 → Mem → Prop} (C : Cx X g (layC ++ ext) A cX7_putPartners 6 RX7 1) (hr : 0 ≤ X.2.2.2.1.cells ∧ 0 ≤ X.2.2.2.1.slots) (hR : RetI X g (layC ++ ext) A cX7_putPartners 6 0 0 Z post) (k5 : ∀ (y1 y2 y3 y4 : Int32) (M : Mem), R5 y1 y2 y3 y4 M → AtX X g (layC ++ ext) A 6 0 0 Z 5 [(0, .ref (ad g 80)), (1, .int y1), (2, .int y2), (3, .int y3), (4, .int y4)] [] M) (k25 : ∀ (y1 y2 y3 y4 y5 : Int32) (M : Mem), R25 y1 y2 y3 y4 y5 M → AtX X g (layC ++ ext) A 6 0 0 Z 25 [(0, .ref (ad g 80)), (1, .int y1), (2, .int y2), (3, .int y3), (4, .int y4), (5, .int y5)] [] M) (x1 x2 x3 x4 x5 : Int32) (M : Mem) (h : P_Rows_putPartners_75 post R5 R25 x1 x2 x3 x4 x5 M) : AtX X g (layC ++ ext) A 6 0 0 Z 75 [(0, .ref (ad g 80)), (1, .int x1), (2, .int x2), (3, .int x3), (4, .int x4), (5, .int x5)] [] M := by
  refine a_iinc C (1 : Int32) (tk T_cX7_putPartners 43 rfl) rfl kI_1 (by decide) rfl ?_
  refine a_goto C 25 (tk T_cX7_putPartners 44 rfl) rfl ?_
  exact a_to (k25 x1 x2 x3 x4 (x5 + (1 : Int32)) M h) rfl
def P_Rows_putPartners_25 (post : Int32 → Mem → Prop) (R5 : Int32 → Int32 → Int32 → Int32 → Mem → Prop) : Nat → Int32 → Int32 → Int32 → Int32 → Int32 → Mem → Prop
  | 0, _, _, _, _, _, _ => False
  | n + 1, x1, x2, x3, x4, x5, M =>
    (x4 ≤ x5 → (R5 x1 x2 x3 (x4 + (1 : Int32)) M)) ∧
  (¬ x4 ≤ x5 → (vp_in x4 10 ∧ vp_in x5 10 ∧ P_Math_abs (fun r1 M1 =>
  P_R_within (fun r2 M2 =>
  (r2 = 0 → (P_Rows_putPartners_75 post R5 (P_Rows_putPartners_25 post R5 n) x1 x2 x3 x4 x5 M2)) ∧
  (¬ r2 = 0 → (vp_in x4 10 ∧ vp_in x4 10 ∧ ∀ M3, M3 = ms M2 82 x4.toNatClampNeg ((M2 82 x4.toNatClampNeg) ||| ((1 : Int32) <<< (x5 &&& 31))) → P_Rows_putPartners_75 post R5 (P_Rows_putPartners_25 post R5 n) x1 x2 (x3 + (1 : Int32)) x4 x5 M3))) r1 x1 x2 M1) ((M 81 x4.toNatClampNeg) - (M 81 x5.toNatClampNeg)) M))
theorem k_Rows_putPartners_25 {X : FX} {g : GT} {ext : List CD} {A : Nat → Prop} {Z : State → Prop} {post : Int32 → Mem → Prop} {R5 : Int32 → Int32 → Int32 → Int32 → Mem → Prop} (C : Cx X g (layC ++ ext) A cX7_putPartners 6 RX7 1) (hr : 0 ≤ X.2.2.2.1.cells ∧ 0 ≤ X.2.2.2.1.slots) (hR : RetI X g (layC ++ ext) A cX7_putPartners 6 0 0 Z post) (k5 : ∀ (y1 y2 y3 y4 : Int32) (M : Mem), R5 y1 y2 y3 y4 M → AtX X g (layC ++ ext) A 6 0 0 Z 5 [(0, .ref (ad g 80)), (1, .int y1), (2, .int y2), (3, .int y3), (4, .int y4)] [] M) : ∀ (n : Nat) (x1 x2 x3 x4 x5 : Int32) (M : Mem), P_Rows_putPartners_25 post R5 n x1 x2 x3 x4 x5 M → AtX X g (layC ++ ext) A 6 0 0 Z 25 [(0, .ref (ad g 80)), (1, .int x1), (2, .int x2), (3, .int x3), (4, .int x4), (5, .int x5)] [] M := by
  intro n
  induction n with
  | zero =>
    intro x1 x2 x3 x4 x5 M h
    exact h.elim
  | succ n ih =>
    intro x1 x2 x3 x4 x5 M h
    refine a_iload C (tk T_cX7_putPartners 15 rfl) rfl ?_
    refine a_iload C (tk T_cX7_putPartners 16 rfl) rfl ?_
    refine a_icmp_ge C 81 (tk T_cX7_putPartners 17 rfl) rfl (fun c => ?_) (fun c => ?_)
    · have h := h.1 c
      refine a_iinc C (1 : Int32) (tk T_cX7_putPartners 45 rfl) rfl kI_1 (by decide) rfl ?_
      refine a_goto C 5 (tk T_cX7_putPartners 46 rfl) rfl ?_
      exact a_to (k5 x1 x2 x3 (x4 + (1 : Int32)) M h) rfl
    · have h := h.2 c
      refine a_aload_n C (tk T_cX7_putPartners 18 rfl) rfl ?_
      refine a_getR C f_RX7_11 (tk T_cX7_putPartners 19 rfl) lc80 rfl ?_
      refine a_iload C (tk T_cX7_putPartners 20 rfl) rfl ?_
      obtain ⟨hb, h⟩ := h
      refine a_iald C (tk T_cX7_putPartners 21 rfl) lc81 hb ?_
      refine a_aload_n C (tk T_cX7_putPartners 22 rfl) rfl ?_
      refine a_getR C f_RX7_11 (tk T_cX7_putPartners 23 rfl) lc80 rfl ?_
      refine a_iload C (tk T_cX7_putPartners 24 rfl) rfl ?_
      obtain ⟨hb, h⟩ := h
      refine a_iald C (tk T_cX7_putPartners 25 rfl) lc81 hb ?_
      refine a_isub C (tk T_cX7_putPartners 26 rfl) ?_
      refine a_statI C [.int ((M 81 x4.toNatClampNeg) - (M 81 x5.toNatClampNeg))] me_yJ9_abs_0f7a4 lk_RX7_88 (ct_Math_abs h) (by decide) rfl rfl (Nat.le_of_ble_eq_true rfl) (tk T_cX7_putPartners 27 rfl) hr (fun r1 M1 h => ?_)
      refine a_iload_n C (tk T_cX7_putPartners 28 rfl) rfl ?_
      refine a_iload_n C (tk T_cX7_putPartners 29 rfl) rfl ?_
      refine a_nestI C [.int r1, .int x1, .int x2] me_yX11_within lk_RX7_91 (ct_R_within h) (by decide) rfl rfl (Nat.le_of_ble_eq_true rfl) (tk T_cX7_putPartners 30 rfl) hr (fun r2 M2 h => ?_)
      refine a_if_eq C 75 (tk T_cX7_putPartners 31 rfl) rfl (fun c => ?_) (fun c => ?_)
      · have h := h.1 c
        exact a_to (k_Rows_putPartners_75 C hr hR k5 ih x1 x2 x3 x4 x5 M2 h) rfl
      · have h := h.2 c
        refine a_aload_n C (tk T_cX7_putPartners 32 rfl) rfl ?_
        refine a_getR C f_RX7_15 (tk T_cX7_putPartners 33 rfl) lc80 rfl ?_
        refine a_iload C (tk T_cX7_putPartners 34 rfl) rfl ?_
        refine a_dup2ir C (tk T_cX7_putPartners 35 rfl) ?_
        obtain ⟨hb, h⟩ := h
        refine a_iald C (tk T_cX7_putPartners 36 rfl) lc82 hb ?_
        refine a_iconst C (1 : Int32) (tk T_cX7_putPartners 37 rfl) kI_1 ?_
        refine a_iload C (tk T_cX7_putPartners 38 rfl) rfl ?_
        refine a_ishl C (tk T_cX7_putPartners 39 rfl) ?_
        refine a_ior C (tk T_cX7_putPartners 40 rfl) ?_
        obtain ⟨hb, h⟩ := h
        refine a_iast C (tk T_cX7_putPartners 41 rfl) lc82 hb ?_
        refine a_mem (fun M3 e_M3 => ?_)
        have h := h M3 e_M3
        refine a_iinc C (1 : Int32) (tk T_cX7_putPartners 42 rfl) rfl kI_1 (by decide) rfl ?_
        exact a_to (k_Rows_putPartners_75 C hr hR k5 ih x1 x2 (x3 + (1 : Int32)) x4 x5 M3 h) rfl
def P_Rows_putPartners_5 (post : Int32 → Mem → Prop) : Nat → Int32 → Int32 → Int32 → Int32 → Mem → Prop
  | 0, _, _, _, _, _ => False
  | n + 1, x1, x2, x3, x4, M =>
    ((M 80 5) ≤ x4 → (post x3 M)) ∧
  (¬ (M 80 5) ≤ x4 → (vp_in x4 10 ∧ ∀ M1, M1 = ms M 82 x4.toNatClampNeg (0 : Int32) → ∃ j25, P_Rows_putPartners_25 post (P_Rows_putPartners_5 post n) j25 x1 x2 x3 x4 (0 : Int32) M1))
theorem k_Rows_putPartners_5 {X : FX} {g : GT} {ext : List CD} {A : Nat → Prop} {Z : State → Prop} {post : Int32 → Mem → Prop} (C : Cx X g (layC ++ ext) A cX7_putPartners 6 RX7 1) (hr : 0 ≤ X.2.2.2.1.cells ∧ 0 ≤ X.2.2.2.1.slots) (hR : RetI X g (layC ++ ext) A cX7_putPartners 6 0 0 Z post) : ∀ (n : Nat) (x1 x2 x3 x4 : Int32) (M : Mem), P_Rows_putPartners_5 post n x1 x2 x3 x4 M → AtX X g (layC ++ ext) A 6 0 0 Z 5 [(0, .ref (ad g 80)), (1, .int x1), (2, .int x2), (3, .int x3), (4, .int x4)] [] M := by
  intro n
  induction n with
  | zero =>
    intro x1 x2 x3 x4 M h
    exact h.elim
  | succ n ih =>
    intro x1 x2 x3 x4 M h
    refine a_iload C (tk T_cX7_putPartners 4 rfl) rfl ?_
    refine a_aload_n C (tk T_cX7_putPartners 5 rfl) rfl ?_
    refine a_getI C f_RX7_36 (tk T_cX7_putPartners 6 rfl) lc80 rfl ?_
    refine a_icmp_ge C 87 (tk T_cX7_putPartners 7 rfl) rfl (fun c => ?_) (fun c => ?_)
    · have h := h.1 c
      refine a_iload_n C (tk T_cX7_putPartners 47 rfl) rfl ?_
      exact hR _ _ _ _ (tk T_cX7_putPartners 48 rfl) h
    · have h := h.2 c
      refine a_aload_n C (tk T_cX7_putPartners 8 rfl) rfl ?_
      refine a_getR C f_RX7_15 (tk T_cX7_putPartners 9 rfl) lc80 rfl ?_
      refine a_iload C (tk T_cX7_putPartners 10 rfl) rfl ?_
      refine a_iconst C (0 : Int32) (tk T_cX7_putPartners 11 rfl) kI_0 ?_
      obtain ⟨hb, h⟩ := h
      refine a_iast C (tk T_cX7_putPartners 12 rfl) lc82 hb ?_
      refine a_mem (fun M1 e_M1 => ?_)
      have h := h M1 e_M1
      refine a_iconst C (0 : Int32) (tk T_cX7_putPartners 13 rfl) kI_0 ?_
      refine a_istore C (tk T_cX7_putPartners 14 rfl) (by decide) rfl ?_
      obtain ⟨n1, h⟩ := h
      exact a_to (k_Rows_putPartners_25 C hr hR ih n1 x1 x2 x3 x4 (0 : Int32) M1 h) rfl
def P_Rows_putPartners (post : Int32 → Mem → Prop) (x1 x2 : Int32) (M : Mem) : Prop :=
  ∃ j5, P_Rows_putPartners_5 post j5 x1 x2 (0 : Int32) (0 : Int32) M
theorem k_Rows_putPartners {X : FX} {g : GT} {ext : List CD} {A : Nat → Prop} {Z : State → Prop} {post : Int32 → Mem → Prop} (C : Cx X g (layC ++ ext) A cX7_putPartners 6 RX7 1) (hr : 0 ≤ X.2.2.2.1.cells ∧ 0 ≤ X.2.2.2.1.slots) (hR : RetI X g (layC ++ ext) A cX7_putPartners 6 0 0 Z post) (x1 x2 : Int32) (M : Mem) (h : P_Rows_putPartners post x1 x2 M) : AtX X g (layC ++ ext) A 6 0 0 Z 0 [(0, .ref (ad g 80)), (1, .int x1), (2, .int x2)] [] M := by
  refine a_iconst C (0 : Int32) (tk T_cX7_putPartners 0 rfl) kI_0 ?_
  refine a_istore_n C (tk T_cX7_putPartners 1 rfl) (by decide) rfl ?_
  refine a_iconst C (0 : Int32) (tk T_cX7_putPartners 2 rfl) kI_0 ?_
  refine a_istore C (tk T_cX7_putPartners 3 rfl) (by decide) rfl ?_
  obtain ⟨n1, h⟩ := h
  exact a_to (k_Rows_putPartners_5 C hr hR n1 x1 x2 (0 : Int32) (0 : Int32) M h) rfl
theorem ct_Rows_putPartners {l : Launch} {g : GT} {ext : List CD} {post : Int32 → Mem → Prop} {x1 x2 : Int32} {M : Mem} (h : P_Rows_putPartners post x1 x2 M) : CI l g (layC ++ ext) yX7_putPartners cX7_putPartners 6 (some .int) 1 [.ref (ad g 80), .int x1, .int x2] M post :=
  ci_of (plainFor_of_name (by decide +kernel)) (Nat.le_of_ble_eq_true rfl) (fun X A Z hl C hr hR => by subst hl; exact k_Rows_putPartners C hr hR x1 x2 M h)
def T_cX7_mostPairsL : List (Nat × Instr × Nat) := [(0, .aload_n 0, 1), (1, .getfield 18, 3), (4, .iconst 0, 1), (5, .iconst 0, 1), (6, .bastore, 1), (7, .iconst 0, 1), (8, .istore_n 1, 1), (9, .iload_n 1, 1), (10, .aload_n 0, 1), (11, .getfield 36, 3), (14, .if_icmp .ge 115, 3), (17, .iconst 0, 1), (18, .istore_n 2, 1), (19, .iload_n 2, 1), (20, .iconst 1, 1), (21, .iload_n 1, 1), (22, .ishl, 1), (23, .if_icmp .ge 100, 3), (26, .aload_n 0, 1), (27, .getfield 15, 3), (30, .iload_n 1, 1), (31, .iaload, 1), (32, .iload_n 2, 1), (33, .iand, 1), (34, .istore_n 3, 1), (35, .aload_n 0, 1), (36, .getfield 18, 3), (39, .iload_n 2, 1), (40, .baload, 1), (41, .istore 4, 2), (43, .iconst 0, 1), (44, .istore 5, 2), (46, .iload 5, 2), (48, .iload_n 1, 1), (49, .if_icmp .ge 56, 3), (52, .iload_n 3, 1), (53, .ifCond .eq 52, 3), (56, .iload_n 3, 1), (57, .iload 5, 2), (59, .invokestatic 62, 3), (62, .ifCond .eq 37, 3), (65, .aload_n 0, 1), (66, .getfield 18, 3), (69, .iload_n 2, 1), (70, .iconst 1, 1), (71, .iload 5, 2), (73, .ishl, 1), (74, .isub, 1), (75, .baload, 1), (76, .iconst 1, 1), (77, .iadd, 1), (78, .iload 4, 2), (80, .if_icmp .le 19, 3), (83, .aload_n 0, 1), (84, .getfield 18, 3), (87, .iload_n 2, 1), (88, .iconst 1, 1), (89, .iload 5, 2), (91, .ishl, 1), (92, .isub, 1), (93, .baload, 1), (94, .iconst 1, 1), (95, .iadd, 1), (96, .i2b, 1), (97, .istore 4, 2), (99, .iinc 5 1, 3), (102, .goto (-56), 3), (105, .aload_n 0, 1), (106, .getfield 18, 3), (109, .iconst 1, 1), (110, .iload_n 1, 1), (111, .ishl, 1), (112, .iload_n 2, 1), (113, .iadd, 1), (114, .iload 4, 2), (116, .bastore, 1), (117, .iinc 2 1, 3), (120, .goto (-101), 3), (123, .iinc 1 1, 3), (126, .goto (-117), 3), (129, .aload_n 0, 1), (130, .getfield 18, 3), (133, .iconst 1, 1), (134, .aload_n 0, 1), (135, .getfield 36, 3), (138, .ishl, 1), (139, .iconst 1, 1), (140, .isub, 1), (141, .baload, 1), (142, .ireturn, 1)]
theorem T_cX7_mostPairs : tabOK cX7_mostPairs T_cX7_mostPairsL = true := by decide +kernel
def P_Rows_mostPairs_105 (post : Int32 → Mem → Prop) (R9 : Int32 → Mem → Prop) (R19 : Int32 → Int32 → Mem → Prop) (x1 x2 x4 : Int32) (M : Mem) : Prop :=
  vp_in (((1 : Int32) <<< (x1 &&& 31)) + x2) 1024 ∧ ∀ M1, M1 = ms M 83 (((1 : Int32) <<< (x1 &&& 31)) + x2).toNatClampNeg (vp_nar .byte x4) → R19 x1 (x2 + (1 : Int32)) M1
theorem k_Rows_mostPairs_105 {X : FX} {g : GT} {ext : List CD} {A : Nat → Prop} {Z : State → Prop} {post : Int32 → Mem → Prop} {R9 : Int32 → Mem → Prop} {R19 : Int32 → Int32 → Mem → Prop} (C : Cx X g (layC ++ ext) A cX7_mostPairs 6 RX7 1) (hr : 0 ≤ X.2.2.2.1.cells ∧ 0 ≤ X.2.2.2.1.slots) (hR : RetI X g (layC ++ ext) A cX7_mostPairs 6 0 0 Z post) (k9 : ∀ (y1 : Int32) (M : Mem), R9 y1 M → AtX X g (layC ++ ext) A 6 0 0 Z 9 [(0, .ref (ad g 80)), (1, .int y1)] [] M) (k19 : ∀ (y1 y2 : Int32) (M : Mem), R19 y1 y2 M → AtX X g (layC ++ ext) A 6 0 0 Z 19 [(0, .ref (ad g 80)), (1, .int y1), (2, .int y2)] [] M) (x1 x2 x4 : Int32) (M : Mem) (h : P_Rows_mostPairs_105 post R9 R19 x1 x2 x4 M) : AtX X g (layC ++ ext) A 6 0 0 Z 105 [(0, .ref (ad g 80)), (1, .int x1), (2, .int x2), (4, .int x4)] [] M := by
  refine a_aload_n C (tk T_cX7_mostPairs 67 rfl) rfl ?_
  refine a_getR C f_RX7_18 (tk T_cX7_mostPairs 68 rfl) lc80 rfl ?_
  refine a_iconst C (1 : Int32) (tk T_cX7_mostPairs 69 rfl) kI_1 ?_
  refine a_iload_n C (tk T_cX7_mostPairs 70 rfl) rfl ?_
  refine a_ishl C (tk T_cX7_mostPairs 71 rfl) ?_
  refine a_iload_n C (tk T_cX7_mostPairs 72 rfl) rfl ?_
  refine a_iadd C (tk T_cX7_mostPairs 73 rfl) ?_
  refine a_iload C (tk T_cX7_mostPairs 74 rfl) rfl ?_
  obtain ⟨hb, h⟩ := h
  refine a_bast C (tk T_cX7_mostPairs 75 rfl) lc83 hb ?_
  refine a_mem (fun M1 e_M1 => ?_)
  have h := h M1 e_M1
  refine a_iinc C (1 : Int32) (tk T_cX7_mostPairs 76 rfl) rfl kI_1 (by decide) rfl ?_
  refine a_goto C 19 (tk T_cX7_mostPairs 77 rfl) rfl ?_
  exact a_to (k19 x1 (x2 + (1 : Int32)) M1 h) rfl
def P_Rows_mostPairs_99 (post : Int32 → Mem → Prop) (R9 : Int32 → Mem → Prop) (R19 : Int32 → Int32 → Mem → Prop) (R46 : Int32 → Int32 → Int32 → Int32 → Int32 → Mem → Prop) (x1 x2 x3 x4 x5 : Int32) (M : Mem) : Prop :=
  R46 x1 x2 x3 x4 (x5 + (1 : Int32)) M
theorem k_Rows_mostPairs_99 {X : FX} {g : GT} {ext : List CD} {A : Nat → Prop} {Z : State → Prop} {post : Int32 → Mem → Prop} {R9 : Int32 → Mem → Prop} {R19 : Int32 → Int32 → Mem → Prop} {R46 : Int32 → Int32 → Int32 → Int32 → Int32 → Mem → Prop} (C : Cx X g (layC ++ ext) A cX7_mostPairs 6 RX7 1) (hr : 0 ≤ X.2.2.2.1.cells ∧ 0 ≤ X.2.2.2.1.slots) (hR : RetI X g (layC ++ ext) A cX7_mostPairs 6 0 0 Z post) (k9 : ∀ (y1 : Int32) (M : Mem), R9 y1 M → AtX X g (layC ++ ext) A 6 0 0 Z 9 [(0, .ref (ad g 80)), (1, .int y1)] [] M) (k19 : ∀ (y1 y2 : Int32) (M : Mem), R19 y1 y2 M → AtX X g (layC ++ ext) A 6 0 0 Z 19 [(0, .ref (ad g 80)), (1, .int y1), (2, .int y2)] [] M) (k46 : ∀ (y1 y2 y3 y4 y5 : Int32) (M : Mem), R46 y1 y2 y3 y4 y5 M → AtX X g (layC ++ ext) A 6 0 0 Z 46 [(0, .ref (ad g 80)), (1, .int y1), (2, .int y2), (3, .int y3), (4, .int y4), (5, .int y5)] [] M) (x1 x2 x3 x4 x5 : Int32) (M : Mem) (h : P_Rows_mostPairs_99 post R9 R19 R46 x1 x2 x3 x4 x5 M) : AtX X g (layC ++ ext) A 6 0 0 Z 99 [(0, .ref (ad g 80)), (1, .int x1), (2, .int x2), (3, .int x3), (4, .int x4), (5, .int x5)] [] M := by
  refine a_iinc C (1 : Int32) (tk T_cX7_mostPairs 65 rfl) rfl kI_1 (by decide) rfl ?_
  refine a_goto C 46 (tk T_cX7_mostPairs 66 rfl) rfl ?_
  exact a_to (k46 x1 x2 x3 x4 (x5 + (1 : Int32)) M h) rfl
def P_Rows_mostPairs_46 (post : Int32 → Mem → Prop) (R9 : Int32 → Mem → Prop) (R19 : Int32 → Int32 → Mem → Prop) : Nat → Int32 → Int32 → Int32 → Int32 → Int32 → Mem → Prop
  | 0, _, _, _, _, _, _ => False
  | n + 1, x1, x2, x3, x4, x5, M =>
    (x1 ≤ x5 → (P_Rows_mostPairs_105 post R9 R19 x1 x2 x4 M)) ∧
  (¬ x1 ≤ x5 → ((x3 = 0 → (P_Rows_mostPairs_105 post R9 R19 x1 x2 x4 M)) ∧
  (¬ x3 = 0 → (P_R_has (fun r1 M1 =>
  (r1 = 0 → (P_Rows_mostPairs_99 post R9 R19 (P_Rows_mostPairs_46 post R9 R19 n) x1 x2 x3 x4 x5 M1)) ∧
  (¬ r1 = 0 → (∀ i2, i2 = (x2 - ((1 : Int32) <<< (x5 &&& 31))) → vp_in i2 1024 ∧ (((M1 83 i2.toNatClampNeg) + (1 : Int32)) ≤ x4 → (P_Rows_mostPairs_99 post R9 R19 (P_Rows_mostPairs_46 post R9 R19 n) x1 x2 x3 x4 x5 M1)) ∧
  (¬ ((M1 83 i2.toNatClampNeg) + (1 : Int32)) ≤ x4 → (∀ i3, i3 = (x2 - ((1 : Int32) <<< (x5 &&& 31))) → vp_in i3 1024 ∧ ∀ x4_4, x4_4 = ((M1 83 i3.toNatClampNeg) + (1 : Int32)).toInt8.toInt32 → P_Rows_mostPairs_99 post R9 R19 (P_Rows_mostPairs_46 post R9 R19 n) x1 x2 x3 x4_4 x5 M1))))) x3 x5 M))))
theorem k_Rows_mostPairs_46 {X : FX} {g : GT} {ext : List CD} {A : Nat → Prop} {Z : State → Prop} {post : Int32 → Mem → Prop} {R9 : Int32 → Mem → Prop} {R19 : Int32 → Int32 → Mem → Prop} (C : Cx X g (layC ++ ext) A cX7_mostPairs 6 RX7 1) (hr : 0 ≤ X.2.2.2.1.cells ∧ 0 ≤ X.2.2.2.1.slots) (hR : RetI X g (layC ++ ext) A cX7_mostPairs 6 0 0 Z post) (k9 : ∀ (y1 : Int32) (M : Mem), R9 y1 M → AtX X g (layC ++ ext) A 6 0 0 Z 9 [(0, .ref (ad g 80)), (1, .int y1)] [] M) (k19 : ∀ (y1 y2 : Int32) (M : Mem), R19 y1 y2 M → AtX X g (layC ++ ext) A 6 0 0 Z 19 [(0, .ref (ad g 80)), (1, .int y1), (2, .int y2)] [] M) : ∀ (n : Nat) (x1 x2 x3 x4 x5 : Int32) (M : Mem), P_Rows_mostPairs_46 post R9 R19 n x1 x2 x3 x4 x5 M → AtX X g (layC ++ ext) A 6 0 0 Z 46 [(0, .ref (ad g 80)), (1, .int x1), (2, .int x2), (3, .int x3), (4, .int x4), (5, .int x5)] [] M := by
  intro n
  induction n with
  | zero =>
    intro x1 x2 x3 x4 x5 M h
    exact h.elim
  | succ n ih =>
    intro x1 x2 x3 x4 x5 M h
    refine a_iload C (tk T_cX7_mostPairs 32 rfl) rfl ?_
    refine a_iload_n C (tk T_cX7_mostPairs 33 rfl) rfl ?_
    refine a_icmp_ge C 105 (tk T_cX7_mostPairs 34 rfl) rfl (fun c => ?_) (fun c => ?_)
    · have h := h.1 c
      exact a_to (k_Rows_mostPairs_105 C hr hR k9 k19 x1 x2 x4 M h) rfl
    · have h := h.2 c
      refine a_iload_n C (tk T_cX7_mostPairs 35 rfl) rfl ?_
      refine a_if_eq C 105 (tk T_cX7_mostPairs 36 rfl) rfl (fun c => ?_) (fun c => ?_)
      · have h := h.1 c
        exact a_to (k_Rows_mostPairs_105 C hr hR k9 k19 x1 x2 x4 M h) rfl
      · have h := h.2 c
        refine a_iload_n C (tk T_cX7_mostPairs 37 rfl) rfl ?_
        refine a_iload C (tk T_cX7_mostPairs 38 rfl) rfl ?_
        refine a_nestI C [.int x3, .int x5] me_yX11_has lk_RX7_62 (ct_R_has h) (by decide) rfl rfl (Nat.le_of_ble_eq_true rfl) (tk T_cX7_mostPairs 39 rfl) hr (fun r1 M1 h => ?_)
        refine a_if_eq C 99 (tk T_cX7_mostPairs 40 rfl) rfl (fun c => ?_) (fun c => ?_)
        · have h := h.1 c
          exact a_to (k_Rows_mostPairs_99 C hr hR k9 k19 ih x1 x2 x3 x4 x5 M1 h) rfl
        · have h := h.2 c
          refine a_aload_n C (tk T_cX7_mostPairs 41 rfl) rfl ?_
          refine a_getR C f_RX7_18 (tk T_cX7_mostPairs 42 rfl) lc80 rfl ?_
          refine a_iload_n C (tk T_cX7_mostPairs 43 rfl) rfl ?_
          refine a_iconst C (1 : Int32) (tk T_cX7_mostPairs 44 rfl) kI_1 ?_
          refine a_iload C (tk T_cX7_mostPairs 45 rfl) rfl ?_
          refine a_ishl C (tk T_cX7_mostPairs 46 rfl) ?_
          refine a_isub C (tk T_cX7_mostPairs 47 rfl) ?_
          refine a_top (fun i2 e_i2 => ?_)
          have h := h i2 e_i2
          obtain ⟨hb, h⟩ := h
          refine a_bald C (tk T_cX7_mostPairs 48 rfl) lc83 hb ?_
          refine a_iconst C (1 : Int32) (tk T_cX7_mostPairs 49 rfl) kI_1 ?_
          refine a_iadd C (tk T_cX7_mostPairs 50 rfl) ?_
          refine a_iload C (tk T_cX7_mostPairs 51 rfl) rfl ?_
          refine a_icmp_le C 99 (tk T_cX7_mostPairs 52 rfl) rfl (fun c => ?_) (fun c => ?_)
          · have h := h.1 c
            exact a_to (k_Rows_mostPairs_99 C hr hR k9 k19 ih x1 x2 x3 x4 x5 M1 h) rfl
          · have h := h.2 c
            refine a_aload_n C (tk T_cX7_mostPairs 53 rfl) rfl ?_
            refine a_getR C f_RX7_18 (tk T_cX7_mostPairs 54 rfl) lc80 rfl ?_
            refine a_iload_n C (tk T_cX7_mostPairs 55 rfl) rfl ?_
            refine a_iconst C (1 : Int32) (tk T_cX7_mostPairs 56 rfl) kI_1 ?_
            refine a_iload C (tk T_cX7_mostPairs 57 rfl) rfl ?_
            refine a_ishl C (tk T_cX7_mostPairs 58 rfl) ?_
            refine a_isub C (tk T_cX7_mostPairs 59 rfl) ?_
            refine a_top (fun i3 e_i3 => ?_)
            have h := h i3 e_i3
            obtain ⟨hb, h⟩ := h
            refine a_bald C (tk T_cX7_mostPairs 60 rfl) lc83 hb ?_
            refine a_iconst C (1 : Int32) (tk T_cX7_mostPairs 61 rfl) kI_1 ?_
            refine a_iadd C (tk T_cX7_mostPairs 62 rfl) ?_
            refine a_i2b C (tk T_cX7_mostPairs 63 rfl) ?_
            refine a_top (fun x4_4 e_x4_4 => ?_)
            have h := h x4_4 e_x4_4
            refine a_istore C (tk T_cX7_mostPairs 64 rfl) (by decide) rfl ?_
            exact a_to (k_Rows_mostPairs_99 C hr hR k9 k19 ih x1 x2 x3 x4_4 x5 M1 h) rfl
def P_Rows_mostPairs_19 (post : Int32 → Mem → Prop) (R9 : Int32 → Mem → Prop) : Nat → Int32 → Int32 → Mem → Prop
  | 0, _, _, _ => False
  | n + 1, x1, x2, M =>
    (((1 : Int32) <<< (x1 &&& 31)) ≤ x2 → (R9 (x1 + (1 : Int32)) M)) ∧
  (¬ ((1 : Int32) <<< (x1 &&& 31)) ≤ x2 → (vp_in x1 10 ∧ ∀ x3_1, x3_1 = ((M 82 x1.toNatClampNeg) &&& x2) → vp_in x2 1024 ∧ ∃ j46, P_Rows_mostPairs_46 post R9 (P_Rows_mostPairs_19 post R9 n) j46 x1 x2 x3_1 (M 83 x2.toNatClampNeg) (0 : Int32) M))
theorem k_Rows_mostPairs_19 {X : FX} {g : GT} {ext : List CD} {A : Nat → Prop} {Z : State → Prop} {post : Int32 → Mem → Prop} {R9 : Int32 → Mem → Prop} (C : Cx X g (layC ++ ext) A cX7_mostPairs 6 RX7 1) (hr : 0 ≤ X.2.2.2.1.cells ∧ 0 ≤ X.2.2.2.1.slots) (hR : RetI X g (layC ++ ext) A cX7_mostPairs 6 0 0 Z post) (k9 : ∀ (y1 : Int32) (M : Mem), R9 y1 M → AtX X g (layC ++ ext) A 6 0 0 Z 9 [(0, .ref (ad g 80)), (1, .int y1)] [] M) : ∀ (n : Nat) (x1 x2 : Int32) (M : Mem), P_Rows_mostPairs_19 post R9 n x1 x2 M → AtX X g (layC ++ ext) A 6 0 0 Z 19 [(0, .ref (ad g 80)), (1, .int x1), (2, .int x2)] [] M := by
  intro n
  induction n with
  | zero =>
    intro x1 x2 M h
    exact h.elim
  | succ n ih =>
    intro x1 x2 M h
    refine a_iload_n C (tk T_cX7_mostPairs 13 rfl) rfl ?_
    refine a_iconst C (1 : Int32) (tk T_cX7_mostPairs 14 rfl) kI_1 ?_
    refine a_iload_n C (tk T_cX7_mostPairs 15 rfl) rfl ?_
    refine a_ishl C (tk T_cX7_mostPairs 16 rfl) ?_
    refine a_icmp_ge C 123 (tk T_cX7_mostPairs 17 rfl) rfl (fun c => ?_) (fun c => ?_)
    · have h := h.1 c
      refine a_iinc C (1 : Int32) (tk T_cX7_mostPairs 78 rfl) rfl kI_1 (by decide) rfl ?_
      refine a_goto C 9 (tk T_cX7_mostPairs 79 rfl) rfl ?_
      exact a_to (k9 (x1 + (1 : Int32)) M h) rfl
    · have h := h.2 c
      refine a_aload_n C (tk T_cX7_mostPairs 18 rfl) rfl ?_
      refine a_getR C f_RX7_15 (tk T_cX7_mostPairs 19 rfl) lc80 rfl ?_
      refine a_iload_n C (tk T_cX7_mostPairs 20 rfl) rfl ?_
      obtain ⟨hb, h⟩ := h
      refine a_iald C (tk T_cX7_mostPairs 21 rfl) lc82 hb ?_
      refine a_iload_n C (tk T_cX7_mostPairs 22 rfl) rfl ?_
      refine a_iand C (tk T_cX7_mostPairs 23 rfl) ?_
      refine a_top (fun x3_1 e_x3_1 => ?_)
      have h := h x3_1 e_x3_1
      refine a_istore_n C (tk T_cX7_mostPairs 24 rfl) (by decide) rfl ?_
      refine a_aload_n C (tk T_cX7_mostPairs 25 rfl) rfl ?_
      refine a_getR C f_RX7_18 (tk T_cX7_mostPairs 26 rfl) lc80 rfl ?_
      refine a_iload_n C (tk T_cX7_mostPairs 27 rfl) rfl ?_
      obtain ⟨hb, h⟩ := h
      refine a_bald C (tk T_cX7_mostPairs 28 rfl) lc83 hb ?_
      refine a_istore C (tk T_cX7_mostPairs 29 rfl) (by decide) rfl ?_
      refine a_iconst C (0 : Int32) (tk T_cX7_mostPairs 30 rfl) kI_0 ?_
      refine a_istore C (tk T_cX7_mostPairs 31 rfl) (by decide) rfl ?_
      obtain ⟨n1, h⟩ := h
      exact a_to (k_Rows_mostPairs_46 C hr hR k9 ih n1 x1 x2 x3_1 (M 83 x2.toNatClampNeg) (0 : Int32) M h) rfl
def P_Rows_mostPairs_9 (post : Int32 → Mem → Prop) : Nat → Int32 → Mem → Prop
  | 0, _, _ => False
  | n + 1, x1, M =>
    ((M 80 5) ≤ x1 → (∀ i1, i1 = (((1 : Int32) <<< ((M 80 5) &&& 31)) - (1 : Int32)) → vp_in i1 1024 ∧ post (M 83 i1.toNatClampNeg) M)) ∧
  (¬ (M 80 5) ≤ x1 → (∃ j19, P_Rows_mostPairs_19 post (P_Rows_mostPairs_9 post n) j19 x1 (0 : Int32) M))
theorem k_Rows_mostPairs_9 {X : FX} {g : GT} {ext : List CD} {A : Nat → Prop} {Z : State → Prop} {post : Int32 → Mem → Prop} (C : Cx X g (layC ++ ext) A cX7_mostPairs 6 RX7 1) (hr : 0 ≤ X.2.2.2.1.cells ∧ 0 ≤ X.2.2.2.1.slots) (hR : RetI X g (layC ++ ext) A cX7_mostPairs 6 0 0 Z post) : ∀ (n : Nat) (x1 : Int32) (M : Mem), P_Rows_mostPairs_9 post n x1 M → AtX X g (layC ++ ext) A 6 0 0 Z 9 [(0, .ref (ad g 80)), (1, .int x1)] [] M := by
  intro n
  induction n with
  | zero =>
    intro x1 M h
    exact h.elim
  | succ n ih =>
    intro x1 M h
    refine a_iload_n C (tk T_cX7_mostPairs 7 rfl) rfl ?_
    refine a_aload_n C (tk T_cX7_mostPairs 8 rfl) rfl ?_
    refine a_getI C f_RX7_36 (tk T_cX7_mostPairs 9 rfl) lc80 rfl ?_
    refine a_icmp_ge C 129 (tk T_cX7_mostPairs 10 rfl) rfl (fun c => ?_) (fun c => ?_)
    · have h := h.1 c
      refine a_aload_n C (tk T_cX7_mostPairs 80 rfl) rfl ?_
      refine a_getR C f_RX7_18 (tk T_cX7_mostPairs 81 rfl) lc80 rfl ?_
      refine a_iconst C (1 : Int32) (tk T_cX7_mostPairs 82 rfl) kI_1 ?_
      refine a_aload_n C (tk T_cX7_mostPairs 83 rfl) rfl ?_
      refine a_getI C f_RX7_36 (tk T_cX7_mostPairs 84 rfl) lc80 rfl ?_
      refine a_ishl C (tk T_cX7_mostPairs 85 rfl) ?_
      refine a_iconst C (1 : Int32) (tk T_cX7_mostPairs 86 rfl) kI_1 ?_
      refine a_isub C (tk T_cX7_mostPairs 87 rfl) ?_
      refine a_top (fun i1 e_i1 => ?_)
      have h := h i1 e_i1
      obtain ⟨hb, h⟩ := h
      refine a_bald C (tk T_cX7_mostPairs 88 rfl) lc83 hb ?_
      exact hR _ _ _ _ (tk T_cX7_mostPairs 89 rfl) h
    · have h := h.2 c
      refine a_iconst C (0 : Int32) (tk T_cX7_mostPairs 11 rfl) kI_0 ?_
      refine a_istore_n C (tk T_cX7_mostPairs 12 rfl) (by decide) rfl ?_
      obtain ⟨n1, h⟩ := h
      exact a_to (k_Rows_mostPairs_19 C hr hR ih n1 x1 (0 : Int32) M h) rfl
def P_Rows_mostPairs (post : Int32 → Mem → Prop) (M : Mem) : Prop :=
  vp_in (0 : Int32) 1024 ∧ ∀ M1, M1 = ms M 83 (0 : Int32).toNatClampNeg (vp_nar .byte (0 : Int32)) → ∃ j9, P_Rows_mostPairs_9 post j9 (0 : Int32) M1
theorem k_Rows_mostPairs {X : FX} {g : GT} {ext : List CD} {A : Nat → Prop} {Z : State → Prop} {post : Int32 → Mem → Prop} (C : Cx X g (layC ++ ext) A cX7_mostPairs 6 RX7 1) (hr : 0 ≤ X.2.2.2.1.cells ∧ 0 ≤ X.2.2.2.1.slots) (hR : RetI X g (layC ++ ext) A cX7_mostPairs 6 0 0 Z post) (M : Mem) (h : P_Rows_mostPairs post M) : AtX X g (layC ++ ext) A 6 0 0 Z 0 [(0, .ref (ad g 80))] [] M := by
  refine a_aload_n C (tk T_cX7_mostPairs 0 rfl) rfl ?_
  refine a_getR C f_RX7_18 (tk T_cX7_mostPairs 1 rfl) lc80 rfl ?_
  refine a_iconst C (0 : Int32) (tk T_cX7_mostPairs 2 rfl) kI_0 ?_
  refine a_iconst C (0 : Int32) (tk T_cX7_mostPairs 3 rfl) kI_0 ?_
  obtain ⟨hb, h⟩ := h
  refine a_bast C (tk T_cX7_mostPairs 4 rfl) lc83 hb ?_
  refine a_mem (fun M1 e_M1 => ?_)
  have h := h M1 e_M1
  refine a_iconst C (0 : Int32) (tk T_cX7_mostPairs 5 rfl) kI_0 ?_
  refine a_istore_n C (tk T_cX7_mostPairs 6 rfl) (by decide) rfl ?_
  obtain ⟨n1, h⟩ := h
  exact a_to (k_Rows_mostPairs_9 C hr hR n1 (0 : Int32) M1 h) rfl
theorem ct_Rows_mostPairs {l : Launch} {g : GT} {ext : List CD} {post : Int32 → Mem → Prop} {M : Mem} (h : P_Rows_mostPairs post M) : CI l g (layC ++ ext) yX7_mostPairs cX7_mostPairs 6 (some .int) 1 [.ref (ad g 80)] M post :=
  ci_of (plainFor_of_name (by decide +kernel)) (Nat.le_of_ble_eq_true rfl) (fun X A Z hl C hr hR => by subst hl; exact k_Rows_mostPairs C hr hR  M h)
def T_cX7_arrangeL : List (Nat × Instr × Nat) := [(0, .aload_n 0, 1), (1, .iconst 0, 1), (2, .putfield 71, 3), (5, .aload_n 0, 1), (6, .iconst (-1), 1), (7, .putfield 74, 3), (10, .aload_n 0, 1), (11, .iconst 0, 1), (12, .invokevirtual 77, 3), (15, .istore_n 2, 1), (16, .iconst 0, 1), (17, .istore_n 3, 1), (18, .iload_n 3, 1), (19, .bipush 45, 2), (21, .if_icmp .ge 82, 3), (24, .iload_n 2, 1), (25, .iconst (-1), 1), (26, .if_icmp .eq 77, 3), (29, .aload_n 0, 1), (30, .getfield 71, 3), (33, .aload_n 0, 1), (34, .getfield 36, 3), (37, .iconst 2, 1), (38, .idiv, 1), (39, .if_icmp .ge 64, 3), (42, .aload_n 0, 1), (43, .iload_n 2, 1), (44, .iload_n 2, 1), (45, .iload_n 1, 1), (46, .iadd, 1), (47, .invokevirtual 81, 3), (50, .istore 4, 2), (52, .iload 4, 2), (54, .aload_n 0, 1), (55, .getfield 71, 3), (58, .if_icmp .le 10, 3), (61, .aload_n 0, 1), (62, .invokevirtual 84, 3), (65, .goto 4, 3), (68, .iconst 0, 1), (69, .istore 5, 2), (71, .iload 5, 2), (73, .aload_n 0, 1), (74, .getfield 71, 3), (77, .if_icmp .le 14, 3), (80, .aload_n 0, 1), (81, .iload 5, 2), (83, .putfield 71, 3), (86, .aload_n 0, 1), (87, .iload_n 2, 1), (88, .putfield 74, 3), (91, .aload_n 0, 1), (92, .iload_n 2, 1), (93, .invokevirtual 77, 3), (96, .istore_n 2, 1), (97, .iinc 3 1, 3), (100, .goto (-82), 3), (103, .return_, 1)]
theorem T_cX7_arrange : tabOK cX7_arrange T_cX7_arrangeL = true := by decide +kernel
def P_Rows_arrange_103 (post : Mem → Prop) (M : Mem) : Prop :=
  post M
theorem k_Rows_arrange_103 {X : FX} {g : GT} {ext : List CD} {A : Nat → Prop} {Z : State → Prop} {post : Mem → Prop} (C : Cx X g (layC ++ ext) A cX7_arrange 6 RX7 2) (hr : 0 ≤ X.2.2.2.1.cells ∧ 0 ≤ X.2.2.2.1.slots) (hR : RetV X g (layC ++ ext) A cX7_arrange 6 0 0 Z post)  (M : Mem) (h : P_Rows_arrange_103 post M) : AtX X g (layC ++ ext) A 6 0 0 Z 103 [] [] M := by
  exact hR _ _ _ (tk T_cX7_arrange 57 rfl) h
def P_Rows_arrange_91 (post : Mem → Prop) (R18 : Int32 → Int32 → Int32 → Mem → Prop) (x1 x2 x3 : Int32) (M : Mem) : Prop :=
  P_Rows_leastStepAbove (fun r1 M1 =>
  R18 x1 r1 (x3 + (1 : Int32)) M1) x2 M
theorem k_Rows_arrange_91 {X : FX} {g : GT} {ext : List CD} {A : Nat → Prop} {Z : State → Prop} {post : Mem → Prop} {R18 : Int32 → Int32 → Int32 → Mem → Prop} (C : Cx X g (layC ++ ext) A cX7_arrange 6 RX7 2) (hr : 0 ≤ X.2.2.2.1.cells ∧ 0 ≤ X.2.2.2.1.slots) (hR : RetV X g (layC ++ ext) A cX7_arrange 6 0 0 Z post) (k18 : ∀ (y1 y2 y3 : Int32) (M : Mem), R18 y1 y2 y3 M → AtX X g (layC ++ ext) A 6 0 0 Z 18 [(0, .ref (ad g 80)), (1, .int y1), (2, .int y2), (3, .int y3)] [] M) (x1 x2 x3 : Int32) (M : Mem) (h : P_Rows_arrange_91 post R18 x1 x2 x3 M) : AtX X g (layC ++ ext) A 6 0 0 Z 91 [(0, .ref (ad g 80)), (1, .int x1), (2, .int x2), (3, .int x3)] [] M := by
  refine a_aload_n C (tk T_cX7_arrange 51 rfl) rfl ?_
  refine a_iload_n C (tk T_cX7_arrange 52 rfl) rfl ?_
  refine a_callI C [.int x2] me_yX7_leastStepAbove lk_RX7_77 (ct_Rows_leastStepAbove h) (by decide) lc80 rfl rfl rfl (Nat.le_of_ble_eq_true rfl) (tk T_cX7_arrange 53 rfl) hr (fun r1 M1 h => ?_)
  refine a_istore_n C (tk T_cX7_arrange 54 rfl) (by decide) rfl ?_
  refine a_iinc C (1 : Int32) (tk T_cX7_arrange 55 rfl) rfl kI_1 (by decide) rfl ?_
  refine a_goto C 18 (tk T_cX7_arrange 56 rfl) rfl ?_
  exact a_to (k18 x1 r1 (x3 + (1 : Int32)) M1 h) rfl
def P_Rows_arrange_69 (post : Mem → Prop) (R18 : Int32 → Int32 → Int32 → Mem → Prop) (x1 x2 x3 s0 : Int32) (M : Mem) : Prop :=
  (s0 ≤ (M 80 6) → (P_Rows_arrange_91 post R18 x1 x2 x3 M)) ∧
  (¬ s0 ≤ (M 80 6) → (∀ M1, M1 = ms M 80 6 s0 → ∀ M2, M2 = ms M1 80 7 x2 → P_Rows_arrange_91 post R18 x1 x2 x3 M2))
theorem k_Rows_arrange_69 {X : FX} {g : GT} {ext : List CD} {A : Nat → Prop} {Z : State → Prop} {post : Mem → Prop} {R18 : Int32 → Int32 → Int32 → Mem → Prop} (C : Cx X g (layC ++ ext) A cX7_arrange 6 RX7 2) (hr : 0 ≤ X.2.2.2.1.cells ∧ 0 ≤ X.2.2.2.1.slots) (hR : RetV X g (layC ++ ext) A cX7_arrange 6 0 0 Z post) (k18 : ∀ (y1 y2 y3 : Int32) (M : Mem), R18 y1 y2 y3 M → AtX X g (layC ++ ext) A 6 0 0 Z 18 [(0, .ref (ad g 80)), (1, .int y1), (2, .int y2), (3, .int y3)] [] M) (x1 x2 x3 s0 : Int32) (M : Mem) (h : P_Rows_arrange_69 post R18 x1 x2 x3 s0 M) : AtX X g (layC ++ ext) A 6 0 0 Z 69 [(0, .ref (ad g 80)), (1, .int x1), (2, .int x2), (3, .int x3)] [.int s0] M := by
  refine a_istore C (tk T_cX7_arrange 40 rfl) (by decide) rfl ?_
  refine a_iload C (tk T_cX7_arrange 41 rfl) rfl ?_
  refine a_aload_n C (tk T_cX7_arrange 42 rfl) rfl ?_
  refine a_getI C f_RX7_71 (tk T_cX7_arrange 43 rfl) lc80 rfl ?_
  refine a_icmp_le C 91 (tk T_cX7_arrange 44 rfl) rfl (fun c => ?_) (fun c => ?_)
  · have h := h.1 c
    exact a_to (k_Rows_arrange_91 C hr hR k18 x1 x2 x3 M h) rfl
  · have h := h.2 c
    refine a_aload_n C (tk T_cX7_arrange 45 rfl) rfl ?_
    refine a_iload C (tk T_cX7_arrange 46 rfl) rfl ?_
    refine a_put C f_RX7_71 f_RX7_71p rfl rfl (tk T_cX7_arrange 47 rfl) lc80 rfl ?_
    refine a_mem (fun M1 e_M1 => ?_)
    have h := h M1 e_M1
    refine a_aload_n C (tk T_cX7_arrange 48 rfl) rfl ?_
    refine a_iload_n C (tk T_cX7_arrange 49 rfl) rfl ?_
    refine a_put C f_RX7_74 f_RX7_74p rfl rfl (tk T_cX7_arrange 50 rfl) lc80 rfl ?_
    refine a_mem (fun M2 e_M2 => ?_)
    have h := h M2 e_M2
    exact a_to (k_Rows_arrange_91 C hr hR k18 x1 x2 x3 M2 h) rfl
def P_Rows_arrange_18 (post : Mem → Prop) : Nat → Int32 → Int32 → Int32 → Mem → Prop
  | 0, _, _, _, _ => False
  | n + 1, x1, x2, x3, M =>
    ((45 : Int32) ≤ x3 → (P_Rows_arrange_103 post M)) ∧
  (¬ (45 : Int32) ≤ x3 → ((x2 = (-1 : Int32) → (P_Rows_arrange_103 post M)) ∧
  (¬ x2 = (-1 : Int32) → ((((M 80 5) / (2 : Int32)) ≤ (M 80 6) → (P_Rows_arrange_103 post M)) ∧
  (¬ ((M 80 5) / (2 : Int32)) ≤ (M 80 6) → (P_Rows_putPartners (fun r1 M1 =>
  (r1 ≤ (M1 80 6) → (P_Rows_arrange_69 post (P_Rows_arrange_18 post n) x1 x2 x3 (0 : Int32) M1)) ∧
  (¬ r1 ≤ (M1 80 6) → (P_Rows_mostPairs (fun r2 M2 =>
  P_Rows_arrange_69 post (P_Rows_arrange_18 post n) x1 x2 x3 r2 M2) M1))) x2 (x2 + x1) M))))))
theorem k_Rows_arrange_18 {X : FX} {g : GT} {ext : List CD} {A : Nat → Prop} {Z : State → Prop} {post : Mem → Prop} (C : Cx X g (layC ++ ext) A cX7_arrange 6 RX7 2) (hr : 0 ≤ X.2.2.2.1.cells ∧ 0 ≤ X.2.2.2.1.slots) (hR : RetV X g (layC ++ ext) A cX7_arrange 6 0 0 Z post) : ∀ (n : Nat) (x1 x2 x3 : Int32) (M : Mem), P_Rows_arrange_18 post n x1 x2 x3 M → AtX X g (layC ++ ext) A 6 0 0 Z 18 [(0, .ref (ad g 80)), (1, .int x1), (2, .int x2), (3, .int x3)] [] M := by
  intro n
  induction n with
  | zero =>
    intro x1 x2 x3 M h
    exact h.elim
  | succ n ih =>
    intro x1 x2 x3 M h
    refine a_iload_n C (tk T_cX7_arrange 12 rfl) rfl ?_
    refine a_bipush C (45 : Int32) (tk T_cX7_arrange 13 rfl) kB_45 ?_
    refine a_icmp_ge C 103 (tk T_cX7_arrange 14 rfl) rfl (fun c => ?_) (fun c => ?_)
    · have h := h.1 c
      exact a_to (k_Rows_arrange_103 C hr hR M h) rfl
    · have h := h.2 c
      refine a_iload_n C (tk T_cX7_arrange 15 rfl) rfl ?_
      refine a_iconst C (-1 : Int32) (tk T_cX7_arrange 16 rfl) kI_m1 ?_
      refine a_icmp_eq C 103 (tk T_cX7_arrange 17 rfl) rfl (fun c => ?_) (fun c => ?_)
      · have h := h.1 c
        exact a_to (k_Rows_arrange_103 C hr hR M h) rfl
      · have h := h.2 c
        refine a_aload_n C (tk T_cX7_arrange 18 rfl) rfl ?_
        refine a_getI C f_RX7_71 (tk T_cX7_arrange 19 rfl) lc80 rfl ?_
        refine a_aload_n C (tk T_cX7_arrange 20 rfl) rfl ?_
        refine a_getI C f_RX7_36 (tk T_cX7_arrange 21 rfl) lc80 rfl ?_
        refine a_iconst C (2 : Int32) (tk T_cX7_arrange 22 rfl) kI_2 ?_
        refine a_idiv C (tk T_cX7_arrange 23 rfl) (by decide) ?_
        refine a_icmp_ge C 103 (tk T_cX7_arrange 24 rfl) rfl (fun c => ?_) (fun c => ?_)
        · have h := h.1 c
          exact a_to (k_Rows_arrange_103 C hr hR M h) rfl
        · have h := h.2 c
          refine a_aload_n C (tk T_cX7_arrange 25 rfl) rfl ?_
          refine a_iload_n C (tk T_cX7_arrange 26 rfl) rfl ?_
          refine a_iload_n C (tk T_cX7_arrange 27 rfl) rfl ?_
          refine a_iload_n C (tk T_cX7_arrange 28 rfl) rfl ?_
          refine a_iadd C (tk T_cX7_arrange 29 rfl) ?_
          refine a_callI C [.int x2, .int (x2 + x1)] me_yX7_putPartners lk_RX7_81 (ct_Rows_putPartners h) (by decide) lc80 rfl rfl rfl (Nat.le_of_ble_eq_true rfl) (tk T_cX7_arrange 30 rfl) hr (fun r1 M1 h => ?_)
          refine a_istore C (tk T_cX7_arrange 31 rfl) (by decide) rfl ?_
          refine a_iload C (tk T_cX7_arrange 32 rfl) rfl ?_
          refine a_aload_n C (tk T_cX7_arrange 33 rfl) rfl ?_
          refine a_getI C f_RX7_71 (tk T_cX7_arrange 34 rfl) lc80 rfl ?_
          refine a_icmp_le C 68 (tk T_cX7_arrange 35 rfl) rfl (fun c => ?_) (fun c => ?_)
          · have h := h.1 c
            refine a_iconst C (0 : Int32) (tk T_cX7_arrange 39 rfl) kI_0 ?_
            exact a_to (k_Rows_arrange_69 C hr hR ih x1 x2 x3 (0 : Int32) M1 h) rfl
          · have h := h.2 c
            refine a_aload_n C (tk T_cX7_arrange 36 rfl) rfl ?_
            refine a_callI C [] me_yX7_mostPairs lk_RX7_84 (ct_Rows_mostPairs h) (by decide) lc80 rfl rfl rfl (Nat.le_of_ble_eq_true rfl) (tk T_cX7_arrange 37 rfl) hr (fun r2 M2 h => ?_)
            refine a_goto C 69 (tk T_cX7_arrange 38 rfl) rfl ?_
            exact a_to (k_Rows_arrange_69 C hr hR ih x1 x2 x3 r2 M2 h) rfl
def P_Rows_arrange (post : Mem → Prop) (x1 : Int32) (M : Mem) : Prop :=
  ∀ M1, M1 = ms M 80 6 (0 : Int32) → ∀ M2, M2 = ms M1 80 7 (-1 : Int32) → P_Rows_leastStepAbove (fun r3 M3 =>
  ∃ j18, P_Rows_arrange_18 post j18 x1 r3 (0 : Int32) M3) (0 : Int32) M2
theorem k_Rows_arrange {X : FX} {g : GT} {ext : List CD} {A : Nat → Prop} {Z : State → Prop} {post : Mem → Prop} (C : Cx X g (layC ++ ext) A cX7_arrange 6 RX7 2) (hr : 0 ≤ X.2.2.2.1.cells ∧ 0 ≤ X.2.2.2.1.slots) (hR : RetV X g (layC ++ ext) A cX7_arrange 6 0 0 Z post) (x1 : Int32) (M : Mem) (h : P_Rows_arrange post x1 M) : AtX X g (layC ++ ext) A 6 0 0 Z 0 [(0, .ref (ad g 80)), (1, .int x1)] [] M := by
  refine a_aload_n C (tk T_cX7_arrange 0 rfl) rfl ?_
  refine a_iconst C (0 : Int32) (tk T_cX7_arrange 1 rfl) kI_0 ?_
  refine a_put C f_RX7_71 f_RX7_71p rfl rfl (tk T_cX7_arrange 2 rfl) lc80 rfl ?_
  refine a_mem (fun M1 e_M1 => ?_)
  have h := h M1 e_M1
  refine a_aload_n C (tk T_cX7_arrange 3 rfl) rfl ?_
  refine a_iconst C (-1 : Int32) (tk T_cX7_arrange 4 rfl) kI_m1 ?_
  refine a_put C f_RX7_74 f_RX7_74p rfl rfl (tk T_cX7_arrange 5 rfl) lc80 rfl ?_
  refine a_mem (fun M2 e_M2 => ?_)
  have h := h M2 e_M2
  refine a_aload_n C (tk T_cX7_arrange 6 rfl) rfl ?_
  refine a_iconst C (0 : Int32) (tk T_cX7_arrange 7 rfl) kI_0 ?_
  refine a_callI C [.int (0 : Int32)] me_yX7_leastStepAbove lk_RX7_77 (ct_Rows_leastStepAbove h) (by decide) lc80 rfl rfl rfl (Nat.le_of_ble_eq_true rfl) (tk T_cX7_arrange 8 rfl) hr (fun r3 M3 h => ?_)
  refine a_istore_n C (tk T_cX7_arrange 9 rfl) (by decide) rfl ?_
  refine a_iconst C (0 : Int32) (tk T_cX7_arrange 10 rfl) kI_0 ?_
  refine a_istore_n C (tk T_cX7_arrange 11 rfl) (by decide) rfl ?_
  obtain ⟨n1, h⟩ := h
  exact a_to (k_Rows_arrange_18 C hr hR n1 x1 r3 (0 : Int32) M3 h) rfl
theorem ct_Rows_arrange {l : Launch} {g : GT} {ext : List CD} {post : Mem → Prop} {x1 : Int32} {M : Mem} (h : P_Rows_arrange post x1 M) : CV l g (layC ++ ext) yX7_arrange cX7_arrange 6 none 2 [.ref (ad g 80), .int x1] M post :=
  cv_of (plainFor_of_name (by decide +kernel)) (Nat.le_of_ble_eq_true rfl) (fun X A Z hl C hr hR => by subst hl; exact k_Rows_arrange C hr hR x1 M h)
def T_cX11_rowsL : List (Nat × Instr × Nat) := [(0, .aload_n 0, 1), (1, .iload_n 1, 1), (2, .invokevirtual 232, 3), (5, .iload_n 3, 1), (6, .iconst 0, 1), (7, .sipush 999, 3), (10, .invokestatic 68, 3), (13, .invokestatic 72, 3), (16, .aload_n 0, 1), (17, .getfield 33, 3), (20, .iload_n 1, 1), (21, .invokevirtual 264, 3), (24, .aload_n 0, 1), (25, .getfield 49, 3), (28, .iload_n 2, 1), (29, .invokevirtual 314, 3), (32, .aload_n 0, 1), (33, .getfield 49, 3), (36, .iload_n 3, 1), (37, .invokevirtual 317, 3), (40, .iload 4, 2), (42, .ifCond .eq 13, 3), (45, .aload_n 0, 1), (46, .getfield 49, 3), (49, .getfield 320, 3), (52, .goto 10, 3), (55, .aload_n 0, 1), (56, .getfield 49, 3), (59, .getfield 323, 3), (62, .ireturn, 1)]
theorem T_cX11_rows : tabOK cX11_rows T_cX11_rowsL = true := by decide +kernel
def P_R_rows_62 (post : Int32 → Mem → Prop) (ex : String → Mem → Prop) (s0 : Int32) (M : Mem) : Prop :=
  post s0 M
theorem k_R_rows_62 {X : FX} {g : GT} {ext : List CD} {A : Nat → Prop} {Z : State → Prop} {post : Int32 → Mem → Prop} {ex : String → Mem → Prop} {sk : Nat → Nat} (C : CxX X g (layC ++ ext) A cX11_rows 5 RX11 8 2 sk) (hT : ThX X g (layC ++ ext) A 2 Z ex) (hR : RetI X g (layC ++ ext) A cX11_rows 5 2 (6 * 2) Z post) (s0 : Int32) (M : Mem) (h : P_R_rows_62 post ex s0 M) : AtX X g (layC ++ ext) A 5 2 (6 * 2) Z 62 [] [.int s0] M := by
  exact x_widen (by decide) (by decide) (hR _ _ _ _ (tk T_cX11_rows 29 rfl) h)
def P_R_rows (post : Int32 → Mem → Prop) (ex : String → Mem → Prop) (x1 x2 x3 x4 : Int32) (M : Mem) : Prop :=
  P_R_wantPlate (fun M1 =>
  P_R_within (fun r2 M2 =>
  P_R_wantNumber (fun M3 =>
  P_Judge_open (fun M4 =>
  P_Rows_gather (fun M5 =>
  P_Rows_arrange (fun M6 =>
  (x4 = 0 → (P_R_rows_62 post ex (M6 80 6) M6)) ∧
  (¬ x4 = 0 → (P_R_rows_62 post ex (M6 80 7) M6))) x3 M5) x2 M4) x1 M3) ex r2 M2) x3 (0 : Int32) (999 : Int32) M1) ex x1 M
theorem k_R_rows {X : FX} {g : GT} {ext : List CD} {A : Nat → Prop} {Z : State → Prop} {post : Int32 → Mem → Prop} {ex : String → Mem → Prop} {sk : Nat → Nat} (C : CxX X g (layC ++ ext) A cX11_rows 5 RX11 8 2 sk) (hT : ThX X g (layC ++ ext) A 2 Z ex) (hR : RetI X g (layC ++ ext) A cX11_rows 5 2 (6 * 2) Z post) (x1 x2 x3 x4 : Int32) (M : Mem) (h : P_R_rows post ex x1 x2 x3 x4 M) : AtX X g (layC ++ ext) A 5 0 0 Z 0 [(0, .ref (ad g 0)), (1, .int x1), (2, .int x2), (3, .int x3), (4, .int x4)] [] M := by
  refine a_aload_n C.1 (tk T_cX11_rows 0 rfl) rfl ?_
  refine a_iload_n C.1 (tk T_cX11_rows 1 rfl) rfl ?_
  refine x_callV C hT [.int x1] me_yX11_wantPlate lk_RX11_232 (ct_R_wantPlate h) (by decide) lc0 rfl rfl rfl (Nat.le_of_ble_eq_true rfl) (tk T_cX11_rows 2 rfl) (by decide) (fun M1 h => ?_)
  refine a_iload_n C.1 (tk T_cX11_rows 3 rfl) rfl ?_
  refine a_iconst C.1 (0 : Int32) (tk T_cX11_rows 4 rfl) kI_0 ?_
  refine a_sipush C.1 (999 : Int32) (tk T_cX11_rows 5 rfl) kS_999 ?_
  refine a_statI C.1 [.int x3, .int (0 : Int32), .int (999 : Int32)] me_yX11_within lk_RX11_68 (ct_R_within h) (by decide) rfl rfl (Nat.le_of_ble_eq_true rfl) (tk T_cX11_rows 6 rfl) ⟨Nat.le_trans (by decide) C.2.2.1, Nat.le_trans (by decide) C.2.2.2⟩ (fun r2 M2 h => ?_)
  refine x_statV C hT [.int r2] me_yX11_wantNumber lk_RX11_72 (ct_R_wantNumber h) (by decide) rfl rfl (Nat.le_of_ble_eq_true rfl) (tk T_cX11_rows 7 rfl) (by decide) (fun M3 h => ?_)
  refine a_aload_n C.1 (tk T_cX11_rows 8 rfl) rfl ?_
  refine a_getR C.1 f_RX11_33 (tk T_cX11_rows 9 rfl) lc0 rfl ?_
  refine a_iload_n C.1 (tk T_cX11_rows 10 rfl) rfl ?_
  refine a_callV C.1 [.int x1] me_yX3_open lk_RX11_264 (ct_Judge_open h) (by decide) lc69 rfl rfl rfl (Nat.le_of_ble_eq_true rfl) (tk T_cX11_rows 11 rfl) ⟨Nat.le_trans (by decide) C.2.2.1, Nat.le_trans (by decide) C.2.2.2⟩ (fun M4 h => ?_)
  refine a_aload_n C.1 (tk T_cX11_rows 12 rfl) rfl ?_
  refine a_getR C.1 f_RX11_49 (tk T_cX11_rows 13 rfl) lc0 rfl ?_
  refine a_iload_n C.1 (tk T_cX11_rows 14 rfl) rfl ?_
  refine a_callV C.1 [.int x2] me_yX7_gather lk_RX11_314 (ct_Rows_gather h) (by decide) lc80 rfl rfl rfl (Nat.le_of_ble_eq_true rfl) (tk T_cX11_rows 15 rfl) ⟨Nat.le_trans (by decide) C.2.2.1, Nat.le_trans (by decide) C.2.2.2⟩ (fun M5 h => ?_)
  refine a_aload_n C.1 (tk T_cX11_rows 16 rfl) rfl ?_
  refine a_getR C.1 f_RX11_49 (tk T_cX11_rows 17 rfl) lc0 rfl ?_
  refine a_iload_n C.1 (tk T_cX11_rows 18 rfl) rfl ?_
  refine a_callV C.1 [.int x3] me_yX7_arrange lk_RX11_317 (ct_Rows_arrange h) (by decide) lc80 rfl rfl rfl (Nat.le_of_ble_eq_true rfl) (tk T_cX11_rows 19 rfl) ⟨Nat.le_trans (by decide) C.2.2.1, Nat.le_trans (by decide) C.2.2.2⟩ (fun M6 h => ?_)
  refine a_iload C.1 (tk T_cX11_rows 20 rfl) rfl ?_
  refine a_if_eq C.1 55 (tk T_cX11_rows 21 rfl) rfl (fun c => ?_) (fun c => ?_)
  · have h := h.1 c
    refine a_aload_n C.1 (tk T_cX11_rows 26 rfl) rfl ?_
    refine a_getR C.1 f_RX11_49 (tk T_cX11_rows 27 rfl) lc0 rfl ?_
    refine a_getI C.1 f_RX11_323 (tk T_cX11_rows 28 rfl) lc80 rfl ?_
    exact x_widen (by decide) (by decide) (a_to (k_R_rows_62 C hT hR (M6 80 6) M6 h) rfl)
  · have h := h.2 c
    refine a_aload_n C.1 (tk T_cX11_rows 22 rfl) rfl ?_
    refine a_getR C.1 f_RX11_49 (tk T_cX11_rows 23 rfl) lc0 rfl ?_
    refine a_getI C.1 f_RX11_320 (tk T_cX11_rows 24 rfl) lc80 rfl ?_
    refine a_goto C.1 62 (tk T_cX11_rows 25 rfl) rfl ?_
    exact x_widen (by decide) (by decide) (a_to (k_R_rows_62 C hT hR (M6 80 7) M6 h) rfl)
theorem ct_R_rows {l : Launch} {g : GT} {ext : List CD} {sk : Nat → Nat} {post : Int32 → Mem → Prop} {ex : String → Mem → Prop} {x1 x2 x3 x4 : Int32} {M : Mem} (h : P_R_rows post ex x1 x2 x3 x4 M) : XI l g (layC ++ ext) sk yX11_rows cX11_rows 5 (some .int) 8 2 [.ref (ad g 0), .int x1, .int x2, .int x3, .int x4] M post ex :=
  xi_of (by decide +kernel) (Nat.le_of_ble_eq_true rfl) (fun X A Z hl C hR hT _ => by subst hl; exact k_R_rows C hT hR x1 x2 x3 x4 M h)
def T_cX10_isFarL : List (Nat × Instr × Nat) := [(0, .iconst 0, 1), (1, .istore 4, 2), (3, .iload 4, 2), (5, .aload_n 0, 1), (6, .getfield 25, 3), (9, .if_icmp .ge 63, 3), (12, .iconst 0, 1), (13, .istore 5, 2), (15, .iload_n 2, 1), (16, .iload 4, 2), (18, .invokestatic 33, 3), (21, .ifCond .eq 45, 3), (24, .iload 5, 2), (26, .aload_n 0, 1), (27, .getfield 15, 3), (30, .iload 4, 2), (32, .iaload, 1), (33, .if_icmp .ge 33, 3), (36, .aload_n 0, 1), (37, .getfield 19, 3), (40, .iload 4, 2), (42, .bipush 6, 2), (44, .imul, 1), (45, .iload 5, 2), (47, .iadd, 1), (48, .iaload, 1), (49, .iload_n 1, 1), (50, .isub, 1), (51, .invokestatic 37, 3), (54, .iload_n 3, 1), (55, .if_icmp .gt 5, 3), (58, .iconst 0, 1), (59, .ireturn, 1), (60, .iinc 5 1, 3), (63, .goto (-48), 3), (66, .iinc 4 1, 3), (69, .goto (-66), 3), (72, .iconst 1, 1), (73, .ireturn, 1)]
theorem T_cX10_isFar : tabOK cX10_isFar T_cX10_isFarL = true := by decide +kernel
def P_Table_isFar_66 (post : Int32 → Mem → Prop) (R3 : Int32 → Int32 → Int32 → Int32 → Mem → Prop) (x1 x2 x3 x4 : Int32) (M : Mem) : Prop :=
  R3 x1 x2 x3 (x4 + (1 : Int32)) M
theorem k_Table_isFar_66 {X : FX} {g : GT} {ext : List CD} {A : Nat → Prop} {Z : State → Prop} {post : Int32 → Mem → Prop} {R3 : Int32 → Int32 → Int32 → Int32 → Mem → Prop} (C : Cx X g (layC ++ ext) A cX10_isFar 6 RX10 1) (hr : 0 ≤ X.2.2.2.1.cells ∧ 0 ≤ X.2.2.2.1.slots) (hR : RetZ X g (layC ++ ext) A cX10_isFar 6 0 0 Z post) (k3 : ∀ (y1 y2 y3 y4 : Int32) (M : Mem), R3 y1 y2 y3 y4 M → AtX X g (layC ++ ext) A 6 0 0 Z 3 [(0, .ref (ad g 13)), (1, .int y1), (2, .int y2), (3, .int y3), (4, .int y4)] [] M) (x1 x2 x3 x4 : Int32) (M : Mem) (h : P_Table_isFar_66 post R3 x1 x2 x3 x4 M) : AtX X g (layC ++ ext) A 6 0 0 Z 66 [(0, .ref (ad g 13)), (1, .int x1), (2, .int x2), (3, .int x3), (4, .int x4)] [] M := by
  refine a_iinc C (1 : Int32) (tk T_cX10_isFar 35 rfl) rfl kI_1 (by decide) rfl ?_
  refine a_goto C 3 (tk T_cX10_isFar 36 rfl) rfl ?_
  exact a_to (k3 x1 x2 x3 (x4 + (1 : Int32)) M h) rfl
def P_Table_isFar_15 (post : Int32 → Mem → Prop) (R3 : Int32 → Int32 → Int32 → Int32 → Mem → Prop) : Nat → Int32 → Int32 → Int32 → Int32 → Int32 → Mem → Prop
  | 0, _, _, _, _, _, _ => False
  | n + 1, x1, x2, x3, x4, x5, M =>
    P_R_has (fun r1 M1 =>
  (r1 = 0 → (P_Table_isFar_66 post R3 x1 x2 x3 x4 M1)) ∧
  (¬ r1 = 0 → (vp_in x4 6 ∧ ((M1 15 x4.toNatClampNeg) ≤ x5 → (P_Table_isFar_66 post R3 x1 x2 x3 x4 M1)) ∧
  (¬ (M1 15 x4.toNatClampNeg) ≤ x5 → (vp_in ((x4 * (6 : Int32)) + x5) 36 ∧ P_Math_abs (fun r2 M2 =>
  (x3 < r2 → (P_Table_isFar_15 post R3 n x1 x2 x3 x4 (x5 + (1 : Int32)) M2)) ∧
  (¬ x3 < r2 → (post (0 : Int32) M2))) ((M1 16 ((x4 * (6 : Int32)) + x5).toNatClampNeg) - x1) M1))))) x2 x4 M
theorem k_Table_isFar_15 {X : FX} {g : GT} {ext : List CD} {A : Nat → Prop} {Z : State → Prop} {post : Int32 → Mem → Prop} {R3 : Int32 → Int32 → Int32 → Int32 → Mem → Prop} (C : Cx X g (layC ++ ext) A cX10_isFar 6 RX10 1) (hr : 0 ≤ X.2.2.2.1.cells ∧ 0 ≤ X.2.2.2.1.slots) (hR : RetZ X g (layC ++ ext) A cX10_isFar 6 0 0 Z post) (k3 : ∀ (y1 y2 y3 y4 : Int32) (M : Mem), R3 y1 y2 y3 y4 M → AtX X g (layC ++ ext) A 6 0 0 Z 3 [(0, .ref (ad g 13)), (1, .int y1), (2, .int y2), (3, .int y3), (4, .int y4)] [] M) : ∀ (n : Nat) (x1 x2 x3 x4 x5 : Int32) (M : Mem), P_Table_isFar_15 post R3 n x1 x2 x3 x4 x5 M → AtX X g (layC ++ ext) A 6 0 0 Z 15 [(0, .ref (ad g 13)), (1, .int x1), (2, .int x2), (3, .int x3), (4, .int x4), (5, .int x5)] [] M := by
  intro n
  induction n with
  | zero =>
    intro x1 x2 x3 x4 x5 M h
    exact h.elim
  | succ n ih =>
    intro x1 x2 x3 x4 x5 M h
    refine a_iload_n C (tk T_cX10_isFar 8 rfl) rfl ?_
    refine a_iload C (tk T_cX10_isFar 9 rfl) rfl ?_
    refine a_nestI C [.int x2, .int x4] me_yX11_has lk_RX10_33 (ct_R_has h) (by decide) rfl rfl (Nat.le_of_ble_eq_true rfl) (tk T_cX10_isFar 10 rfl) hr (fun r1 M1 h => ?_)
    refine a_if_eq C 66 (tk T_cX10_isFar 11 rfl) rfl (fun c => ?_) (fun c => ?_)
    · have h := h.1 c
      exact a_to (k_Table_isFar_66 C hr hR k3 x1 x2 x3 x4 M1 h) rfl
    · have h := h.2 c
      refine a_iload C (tk T_cX10_isFar 12 rfl) rfl ?_
      refine a_aload_n C (tk T_cX10_isFar 13 rfl) rfl ?_
      refine a_getR C f_RX10_15 (tk T_cX10_isFar 14 rfl) lc13 rfl ?_
      refine a_iload C (tk T_cX10_isFar 15 rfl) rfl ?_
      obtain ⟨hb, h⟩ := h
      refine a_iald C (tk T_cX10_isFar 16 rfl) lc15 hb ?_
      refine a_icmp_ge C 66 (tk T_cX10_isFar 17 rfl) rfl (fun c => ?_) (fun c => ?_)
      · have h := h.1 c
        exact a_to (k_Table_isFar_66 C hr hR k3 x1 x2 x3 x4 M1 h) rfl
      · have h := h.2 c
        refine a_aload_n C (tk T_cX10_isFar 18 rfl) rfl ?_
        refine a_getR C f_RX10_19 (tk T_cX10_isFar 19 rfl) lc13 rfl ?_
        refine a_iload C (tk T_cX10_isFar 20 rfl) rfl ?_
        refine a_bipush C (6 : Int32) (tk T_cX10_isFar 21 rfl) kB_6 ?_
        refine a_imul C (tk T_cX10_isFar 22 rfl) ?_
        refine a_iload C (tk T_cX10_isFar 23 rfl) rfl ?_
        refine a_iadd C (tk T_cX10_isFar 24 rfl) ?_
        obtain ⟨hb, h⟩ := h
        refine a_iald C (tk T_cX10_isFar 25 rfl) lc16 hb ?_
        refine a_iload_n C (tk T_cX10_isFar 26 rfl) rfl ?_
        refine a_isub C (tk T_cX10_isFar 27 rfl) ?_
        refine a_statI C [.int ((M1 16 ((x4 * (6 : Int32)) + x5).toNatClampNeg) - x1)] me_yJ9_abs_0f7a4 lk_RX10_37 (ct_Math_abs h) (by decide) rfl rfl (Nat.le_of_ble_eq_true rfl) (tk T_cX10_isFar 28 rfl) hr (fun r2 M2 h => ?_)
        refine a_iload_n C (tk T_cX10_isFar 29 rfl) rfl ?_
        refine a_icmp_gt C 60 (tk T_cX10_isFar 30 rfl) rfl (fun c => ?_) (fun c => ?_)
        · have h := h.1 c
          refine a_iinc C (1 : Int32) (tk T_cX10_isFar 33 rfl) rfl kI_1 (by decide) rfl ?_
          refine a_goto C 15 (tk T_cX10_isFar 34 rfl) rfl ?_
          exact a_to (ih x1 x2 x3 x4 (x5 + (1 : Int32)) M2 h) rfl
        · have h := h.2 c
          refine a_iconst C (0 : Int32) (tk T_cX10_isFar 31 rfl) kI_0 ?_
          exact hR _ _ _ _ (tk T_cX10_isFar 32 rfl) ⟨Or.inl rfl, h⟩
def P_Table_isFar_3 (post : Int32 → Mem → Prop) : Nat → Int32 → Int32 → Int32 → Int32 → Mem → Prop
  | 0, _, _, _, _, _ => False
  | n + 1, x1, x2, x3, x4, M =>
    ((M 13 4) ≤ x4 → (post (1 : Int32) M)) ∧
  (¬ (M 13 4) ≤ x4 → (∃ j15, P_Table_isFar_15 post (P_Table_isFar_3 post n) j15 x1 x2 x3 x4 (0 : Int32) M))
theorem k_Table_isFar_3 {X : FX} {g : GT} {ext : List CD} {A : Nat → Prop} {Z : State → Prop} {post : Int32 → Mem → Prop} (C : Cx X g (layC ++ ext) A cX10_isFar 6 RX10 1) (hr : 0 ≤ X.2.2.2.1.cells ∧ 0 ≤ X.2.2.2.1.slots) (hR : RetZ X g (layC ++ ext) A cX10_isFar 6 0 0 Z post) : ∀ (n : Nat) (x1 x2 x3 x4 : Int32) (M : Mem), P_Table_isFar_3 post n x1 x2 x3 x4 M → AtX X g (layC ++ ext) A 6 0 0 Z 3 [(0, .ref (ad g 13)), (1, .int x1), (2, .int x2), (3, .int x3), (4, .int x4)] [] M := by
  intro n
  induction n with
  | zero =>
    intro x1 x2 x3 x4 M h
    exact h.elim
  | succ n ih =>
    intro x1 x2 x3 x4 M h
    refine a_iload C (tk T_cX10_isFar 2 rfl) rfl ?_
    refine a_aload_n C (tk T_cX10_isFar 3 rfl) rfl ?_
    refine a_getI C f_RX10_25 (tk T_cX10_isFar 4 rfl) lc13 rfl ?_
    refine a_icmp_ge C 72 (tk T_cX10_isFar 5 rfl) rfl (fun c => ?_) (fun c => ?_)
    · have h := h.1 c
      refine a_iconst C (1 : Int32) (tk T_cX10_isFar 37 rfl) kI_1 ?_
      exact hR _ _ _ _ (tk T_cX10_isFar 38 rfl) ⟨Or.inr rfl, h⟩
    · have h := h.2 c
      refine a_iconst C (0 : Int32) (tk T_cX10_isFar 6 rfl) kI_0 ?_
      refine a_istore C (tk T_cX10_isFar 7 rfl) (by decide) rfl ?_
      obtain ⟨n1, h⟩ := h
      exact a_to (k_Table_isFar_15 C hr hR ih n1 x1 x2 x3 x4 (0 : Int32) M h) rfl
def P_Table_isFar (post : Int32 → Mem → Prop) (x1 x2 x3 : Int32) (M : Mem) : Prop :=
  ∃ j3, P_Table_isFar_3 post j3 x1 x2 x3 (0 : Int32) M
theorem k_Table_isFar {X : FX} {g : GT} {ext : List CD} {A : Nat → Prop} {Z : State → Prop} {post : Int32 → Mem → Prop} (C : Cx X g (layC ++ ext) A cX10_isFar 6 RX10 1) (hr : 0 ≤ X.2.2.2.1.cells ∧ 0 ≤ X.2.2.2.1.slots) (hR : RetZ X g (layC ++ ext) A cX10_isFar 6 0 0 Z post) (x1 x2 x3 : Int32) (M : Mem) (h : P_Table_isFar post x1 x2 x3 M) : AtX X g (layC ++ ext) A 6 0 0 Z 0 [(0, .ref (ad g 13)), (1, .int x1), (2, .int x2), (3, .int x3)] [] M := by
  refine a_iconst C (0 : Int32) (tk T_cX10_isFar 0 rfl) kI_0 ?_
  refine a_istore C (tk T_cX10_isFar 1 rfl) (by decide) rfl ?_
  obtain ⟨n1, h⟩ := h
  exact a_to (k_Table_isFar_3 C hr hR n1 x1 x2 x3 (0 : Int32) M h) rfl
theorem ct_Table_isFar {l : Launch} {g : GT} {ext : List CD} {post : Int32 → Mem → Prop} {x1 x2 x3 : Int32} {M : Mem} (h : P_Table_isFar post x1 x2 x3 M) : CI l g (layC ++ ext) yX10_isFar cX10_isFar 6 (some .boolean) 1 [.ref (ad g 13), .int x1, .int x2, .int x3] M post :=
  cz_of (plainFor_of_name (by decide +kernel)) (Nat.le_of_ble_eq_true rfl) (fun X A Z hl C hr hR => by subst hl; exact k_Table_isFar C hr hR x1 x2 x3 M h)
def T_cX10_partsL : List (Nat × Instr × Nat) := [(0, .aload_n 0, 1), (1, .iload_n 1, 1), (2, .invokevirtual 43, 3), (5, .istore 7, 2), (7, .iconst 0, 1), (8, .istore 8, 2), (10, .iload 8, 2), (12, .aload_n 0, 1), (13, .getfield 25, 3), (16, .if_icmp .ge 104, 3), (19, .iconst 0, 1), (20, .istore 9, 2), (22, .iload 7, 2), (24, .iload 8, 2), (26, .invokestatic 33, 3), (29, .ifCond .eq 85, 3), (32, .iload 9, 2), (34, .aload_n 0, 1), (35, .getfield 15, 3), (38, .iload 8, 2), (40, .iaload, 1), (41, .if_icmp .ge 73, 3), (44, .iload 8, 2), (46, .bipush 6, 2), (48, .imul, 1), (49, .iload 9, 2), (51, .iadd, 1), (52, .istore 10, 2), (54, .aload_n 0, 1), (55, .getfield 22, 3), (58, .iload 10, 2), (60, .iaload, 1), (61, .iload_n 3, 1), (62, .imul, 1), (63, .bipush 30, 2), (65, .if_icmp .lt 43, 3), (68, .aload_n 0, 1), (69, .getfield 19, 3), (72, .iload 10, 2), (74, .iaload, 1), (75, .iload 5, 2), (77, .iload 6, 2), (79, .invokestatic 46, 3), (82, .ifCond .eq 26, 3), (85, .aload_n 0, 1), (86, .aload_n 0, 1), (87, .getfield 19, 3), (90, .iload 10, 2), (92, .iaload, 1), (93, .aload_n 0, 1), (94, .iload_n 2, 1), (95, .invokevirtual 50, 3), (98, .iload 4, 2), (100, .invokevirtual 53, 3), (103, .ifCond .eq 5, 3), (106, .iconst 1, 1), (107, .ireturn, 1), (108, .iinc 9 1, 3), (111, .goto (-89), 3), (114, .iinc 8 1, 3), (117, .goto (-107), 3), (120, .iconst 0, 1), (121, .ireturn, 1)]
theorem T_cX10_parts : tabOK cX10_parts T_cX10_partsL = true := by decide +kernel
def P_Table_parts_114 (post : Int32 → Mem → Prop) (R10 : Int32 → Int32 → Int32 → Int32 → Int32 → Int32 → Int32 → Mem → Prop) (x2 x3 x4 x5 x6 x7 x8 : Int32) (M : Mem) : Prop :=
  R10 x2 x3 x4 x5 x6 x7 (x8 + (1 : Int32)) M
theorem k_Table_parts_114 {X : FX} {g : GT} {ext : List CD} {A : Nat → Prop} {Z : State → Prop} {post : Int32 → Mem → Prop} {R10 : Int32 → Int32 → Int32 → Int32 → Int32 → Int32 → Int32 → Mem → Prop} (C : Cx X g (layC ++ ext) A cX10_parts 11 RX10 2) (hr : 0 ≤ X.2.2.2.1.cells ∧ 0 ≤ X.2.2.2.1.slots) (hR : RetZ X g (layC ++ ext) A cX10_parts 11 0 0 Z post) (k10 : ∀ (y2 y3 y4 y5 y6 y7 y8 : Int32) (M : Mem), R10 y2 y3 y4 y5 y6 y7 y8 M → AtX X g (layC ++ ext) A 11 0 0 Z 10 [(0, .ref (ad g 13)), (2, .int y2), (3, .int y3), (4, .int y4), (5, .int y5), (6, .int y6), (7, .int y7), (8, .int y8)] [] M) (x2 x3 x4 x5 x6 x7 x8 : Int32) (M : Mem) (h : P_Table_parts_114 post R10 x2 x3 x4 x5 x6 x7 x8 M) : AtX X g (layC ++ ext) A 11 0 0 Z 114 [(0, .ref (ad g 13)), (2, .int x2), (3, .int x3), (4, .int x4), (5, .int x5), (6, .int x6), (7, .int x7), (8, .int x8)] [] M := by
  refine a_iinc C (1 : Int32) (tk T_cX10_parts 59 rfl) rfl kI_1 (by decide) rfl ?_
  refine a_goto C 10 (tk T_cX10_parts 60 rfl) rfl ?_
  exact a_to (k10 x2 x3 x4 x5 x6 x7 (x8 + (1 : Int32)) M h) rfl
def P_Table_parts_108 (post : Int32 → Mem → Prop) (R10 : Int32 → Int32 → Int32 → Int32 → Int32 → Int32 → Int32 → Mem → Prop) (R22 : Int32 → Int32 → Int32 → Int32 → Int32 → Int32 → Int32 → Int32 → Mem → Prop) (x2 x3 x4 x5 x6 x7 x8 x9 : Int32) (M : Mem) : Prop :=
  R22 x2 x3 x4 x5 x6 x7 x8 (x9 + (1 : Int32)) M
theorem k_Table_parts_108 {X : FX} {g : GT} {ext : List CD} {A : Nat → Prop} {Z : State → Prop} {post : Int32 → Mem → Prop} {R10 : Int32 → Int32 → Int32 → Int32 → Int32 → Int32 → Int32 → Mem → Prop} {R22 : Int32 → Int32 → Int32 → Int32 → Int32 → Int32 → Int32 → Int32 → Mem → Prop} (C : Cx X g (layC ++ ext) A cX10_parts 11 RX10 2) (hr : 0 ≤ X.2.2.2.1.cells ∧ 0 ≤ X.2.2.2.1.slots) (hR : RetZ X g (layC ++ ext) A cX10_parts 11 0 0 Z post) (k10 : ∀ (y2 y3 y4 y5 y6 y7 y8 : Int32) (M : Mem), R10 y2 y3 y4 y5 y6 y7 y8 M → AtX X g (layC ++ ext) A 11 0 0 Z 10 [(0, .ref (ad g 13)), (2, .int y2), (3, .int y3), (4, .int y4), (5, .int y5), (6, .int y6), (7, .int y7), (8, .int y8)] [] M) (k22 : ∀ (y2 y3 y4 y5 y6 y7 y8 y9 : Int32) (M : Mem), R22 y2 y3 y4 y5 y6 y7 y8 y9 M → AtX X g (layC ++ ext) A 11 0 0 Z 22 [(0, .ref (ad g 13)), (2, .int y2), (3, .int y3), (4, .int y4), (5, .int y5), (6, .int y6), (7, .int y7), (8, .int y8), (9, .int y9)] [] M) (x2 x3 x4 x5 x6 x7 x8 x9 : Int32) (M : Mem) (h : P_Table_parts_108 post R10 R22 x2 x3 x4 x5 x6 x7 x8 x9 M) : AtX X g (layC ++ ext) A 11 0 0 Z 108 [(0, .ref (ad g 13)), (2, .int x2), (3, .int x3), (4, .int x4), (5, .int x5), (6, .int x6), (7, .int x7), (8, .int x8), (9, .int x9)] [] M := by
  refine a_iinc C (1 : Int32) (tk T_cX10_parts 57 rfl) rfl kI_1 (by decide) rfl ?_
  refine a_goto C 22 (tk T_cX10_parts 58 rfl) rfl ?_
  exact a_to (k22 x2 x3 x4 x5 x6 x7 x8 (x9 + (1 : Int32)) M h) rfl
def P_Table_parts_22 (post : Int32 → Mem → Prop) (R10 : Int32 → Int32 → Int32 → Int32 → Int32 → Int32 → Int32 → Mem → Prop) : Nat → Int32 → Int32 → Int32 → Int32 → Int32 → Int32 → Int32 → Int32 → Mem → Prop
  | 0, _, _, _, _, _, _, _, _, _ => False
  | n + 1, x2, x3, x4, x5, x6, x7, x8, x9, M =>
    P_R_has (fun r1 M1 =>
  (r1 = 0 → (P_Table_parts_114 post R10 x2 x3 x4 x5 x6 x7 x8 M1)) ∧
  (¬ r1 = 0 → (vp_in x8 6 ∧ ((M1 15 x8.toNatClampNeg) ≤ x9 → (P_Table_parts_114 post R10 x2 x3 x4 x5 x6 x7 x8 M1)) ∧
  (¬ (M1 15 x8.toNatClampNeg) ≤ x9 → (∀ x10_2, x10_2 = ((x8 * (6 : Int32)) + x9) → vp_in x10_2 36 ∧ (((M1 17 x10_2.toNatClampNeg) * x3) < (30 : Int32) → (P_Table_parts_108 post R10 (P_Table_parts_22 post R10 n) x2 x3 x4 x5 x6 x7 x8 x9 M1)) ∧
  (¬ ((M1 17 x10_2.toNatClampNeg) * x3) < (30 : Int32) → (vp_in x10_2 36 ∧ P_R_within (fun r3 M3 =>
  (r3 = 0 → (P_Table_parts_108 post R10 (P_Table_parts_22 post R10 n) x2 x3 x4 x5 x6 x7 x8 x9 M3)) ∧
  (¬ r3 = 0 → (vp_in x10_2 36 ∧ P_Table_withAir (fun r4 M4 =>
  P_Table_isFar (fun r5 M5 =>
  (r5 = 0 → (P_Table_parts_108 post R10 (P_Table_parts_22 post R10 n) x2 x3 x4 x5 x6 x7 x8 x9 M5)) ∧
  (¬ r5 = 0 → (post (1 : Int32) M5))) (M3 16 x10_2.toNatClampNeg) r4 x4 M4) x2 M3))) (M1 16 x10_2.toNatClampNeg) x5 x6 M1))))))) x7 x8 M
theorem k_Table_parts_22 {X : FX} {g : GT} {ext : List CD} {A : Nat → Prop} {Z : State → Prop} {post : Int32 → Mem → Prop} {R10 : Int32 → Int32 → Int32 → Int32 → Int32 → Int32 → Int32 → Mem → Prop} (C : Cx X g (layC ++ ext) A cX10_parts 11 RX10 2) (hr : 0 ≤ X.2.2.2.1.cells ∧ 0 ≤ X.2.2.2.1.slots) (hR : RetZ X g (layC ++ ext) A cX10_parts 11 0 0 Z post) (k10 : ∀ (y2 y3 y4 y5 y6 y7 y8 : Int32) (M : Mem), R10 y2 y3 y4 y5 y6 y7 y8 M → AtX X g (layC ++ ext) A 11 0 0 Z 10 [(0, .ref (ad g 13)), (2, .int y2), (3, .int y3), (4, .int y4), (5, .int y5), (6, .int y6), (7, .int y7), (8, .int y8)] [] M) : ∀ (n : Nat) (x2 x3 x4 x5 x6 x7 x8 x9 : Int32) (M : Mem), P_Table_parts_22 post R10 n x2 x3 x4 x5 x6 x7 x8 x9 M → AtX X g (layC ++ ext) A 11 0 0 Z 22 [(0, .ref (ad g 13)), (2, .int x2), (3, .int x3), (4, .int x4), (5, .int x5), (6, .int x6), (7, .int x7), (8, .int x8), (9, .int x9)] [] M := by
  intro n
  induction n with
  | zero =>
    intro x2 x3 x4 x5 x6 x7 x8 x9 M h
    exact h.elim
  | succ n ih =>
    intro x2 x3 x4 x5 x6 x7 x8 x9 M h
    refine a_iload C (tk T_cX10_parts 12 rfl) rfl ?_
    refine a_iload C (tk T_cX10_parts 13 rfl) rfl ?_
    refine a_nestI C [.int x7, .int x8] me_yX11_has lk_RX10_33 (ct_R_has h) (by decide) rfl rfl (Nat.le_of_ble_eq_true rfl) (tk T_cX10_parts 14 rfl) hr (fun r1 M1 h => ?_)
    refine a_if_eq C 114 (tk T_cX10_parts 15 rfl) rfl (fun c => ?_) (fun c => ?_)
    · have h := h.1 c
      exact a_to (k_Table_parts_114 C hr hR k10 x2 x3 x4 x5 x6 x7 x8 M1 h) rfl
    · have h := h.2 c
      refine a_iload C (tk T_cX10_parts 16 rfl) rfl ?_
      refine a_aload_n C (tk T_cX10_parts 17 rfl) rfl ?_
      refine a_getR C f_RX10_15 (tk T_cX10_parts 18 rfl) lc13 rfl ?_
      refine a_iload C (tk T_cX10_parts 19 rfl) rfl ?_
      obtain ⟨hb, h⟩ := h
      refine a_iald C (tk T_cX10_parts 20 rfl) lc15 hb ?_
      refine a_icmp_ge C 114 (tk T_cX10_parts 21 rfl) rfl (fun c => ?_) (fun c => ?_)
      · have h := h.1 c
        exact a_to (k_Table_parts_114 C hr hR k10 x2 x3 x4 x5 x6 x7 x8 M1 h) rfl
      · have h := h.2 c
        refine a_iload C (tk T_cX10_parts 22 rfl) rfl ?_
        refine a_bipush C (6 : Int32) (tk T_cX10_parts 23 rfl) kB_6 ?_
        refine a_imul C (tk T_cX10_parts 24 rfl) ?_
        refine a_iload C (tk T_cX10_parts 25 rfl) rfl ?_
        refine a_iadd C (tk T_cX10_parts 26 rfl) ?_
        refine a_top (fun x10_2 e_x10_2 => ?_)
        have h := h x10_2 e_x10_2
        refine a_istore C (tk T_cX10_parts 27 rfl) (by decide) rfl ?_
        refine a_aload_n C (tk T_cX10_parts 28 rfl) rfl ?_
        refine a_getR C f_RX10_22 (tk T_cX10_parts 29 rfl) lc13 rfl ?_
        refine a_iload C (tk T_cX10_parts 30 rfl) rfl ?_
        obtain ⟨hb, h⟩ := h
        refine a_iald C (tk T_cX10_parts 31 rfl) lc17 hb ?_
        refine a_iload_n C (tk T_cX10_parts 32 rfl) rfl ?_
        refine a_imul C (tk T_cX10_parts 33 rfl) ?_
        refine a_bipush C (30 : Int32) (tk T_cX10_parts 34 rfl) kB_30 ?_
        refine a_icmp_lt C 108 (tk T_cX10_parts 35 rfl) rfl (fun c => ?_) (fun c => ?_)
        · have h := h.1 c
          exact a_to (k_Table_parts_108 C hr hR k10 ih x2 x3 x4 x5 x6 x7 x8 x9 M1 h) rfl
        · have h := h.2 c
          refine a_aload_n C (tk T_cX10_parts 36 rfl) rfl ?_
          refine a_getR C f_RX10_19 (tk T_cX10_parts 37 rfl) lc13 rfl ?_
          refine a_iload C (tk T_cX10_parts 38 rfl) rfl ?_
          obtain ⟨hb, h⟩ := h
          refine a_iald C (tk T_cX10_parts 39 rfl) lc16 hb ?_
          refine a_iload C (tk T_cX10_parts 40 rfl) rfl ?_
          refine a_iload C (tk T_cX10_parts 41 rfl) rfl ?_
          refine a_nestI C [.int (M1 16 x10_2.toNatClampNeg), .int x5, .int x6] me_yX11_within lk_RX10_46 (ct_R_within h) (by decide) rfl rfl (Nat.le_of_ble_eq_true rfl) (tk T_cX10_parts 42 rfl) hr (fun r3 M3 h => ?_)
          refine a_if_eq C 108 (tk T_cX10_parts 43 rfl) rfl (fun c => ?_) (fun c => ?_)
          · have h := h.1 c
            exact a_to (k_Table_parts_108 C hr hR k10 ih x2 x3 x4 x5 x6 x7 x8 x9 M3 h) rfl
          · have h := h.2 c
            refine a_aload_n C (tk T_cX10_parts 44 rfl) rfl ?_
            refine a_aload_n C (tk T_cX10_parts 45 rfl) rfl ?_
            refine a_getR C f_RX10_19 (tk T_cX10_parts 46 rfl) lc13 rfl ?_
            refine a_iload C (tk T_cX10_parts 47 rfl) rfl ?_
            obtain ⟨hb, h⟩ := h
            refine a_iald C (tk T_cX10_parts 48 rfl) lc16 hb ?_
            refine a_aload_n C (tk T_cX10_parts 49 rfl) rfl ?_
            refine a_iload_n C (tk T_cX10_parts 50 rfl) rfl ?_
            refine a_callI C [.int x2] me_yX10_withAir lk_RX10_50 (ct_Table_withAir h) (by decide) lc13 rfl rfl rfl (Nat.le_of_ble_eq_true rfl) (tk T_cX10_parts 51 rfl) hr (fun r4 M4 h => ?_)
            refine a_iload C (tk T_cX10_parts 52 rfl) rfl ?_
            refine a_callI C [.int (M3 16 x10_2.toNatClampNeg), .int r4, .int x4] me_yX10_isFar lk_RX10_53 (ct_Table_isFar h) (by decide) lc13 rfl rfl rfl (Nat.le_of_ble_eq_true rfl) (tk T_cX10_parts 53 rfl) hr (fun r5 M5 h => ?_)
            refine a_if_eq C 108 (tk T_cX10_parts 54 rfl) rfl (fun c => ?_) (fun c => ?_)
            · have h := h.1 c
              exact a_to (k_Table_parts_108 C hr hR k10 ih x2 x3 x4 x5 x6 x7 x8 x9 M5 h) rfl
            · have h := h.2 c
              refine a_iconst C (1 : Int32) (tk T_cX10_parts 55 rfl) kI_1 ?_
              exact hR _ _ _ _ (tk T_cX10_parts 56 rfl) ⟨Or.inr rfl, h⟩
def P_Table_parts_10 (post : Int32 → Mem → Prop) : Nat → Int32 → Int32 → Int32 → Int32 → Int32 → Int32 → Int32 → Mem → Prop
  | 0, _, _, _, _, _, _, _, _ => False
  | n + 1, x2, x3, x4, x5, x6, x7, x8, M =>
    ((M 13 4) ≤ x8 → (post (0 : Int32) M)) ∧
  (¬ (M 13 4) ≤ x8 → (∃ j22, P_Table_parts_22 post (P_Table_parts_10 post n) j22 x2 x3 x4 x5 x6 x7 x8 (0 : Int32) M))
theorem k_Table_parts_10 {X : FX} {g : GT} {ext : List CD} {A : Nat → Prop} {Z : State → Prop} {post : Int32 → Mem → Prop} (C : Cx X g (layC ++ ext) A cX10_parts 11 RX10 2) (hr : 0 ≤ X.2.2.2.1.cells ∧ 0 ≤ X.2.2.2.1.slots) (hR : RetZ X g (layC ++ ext) A cX10_parts 11 0 0 Z post) : ∀ (n : Nat) (x2 x3 x4 x5 x6 x7 x8 : Int32) (M : Mem), P_Table_parts_10 post n x2 x3 x4 x5 x6 x7 x8 M → AtX X g (layC ++ ext) A 11 0 0 Z 10 [(0, .ref (ad g 13)), (2, .int x2), (3, .int x3), (4, .int x4), (5, .int x5), (6, .int x6), (7, .int x7), (8, .int x8)] [] M := by
  intro n
  induction n with
  | zero =>
    intro x2 x3 x4 x5 x6 x7 x8 M h
    exact h.elim
  | succ n ih =>
    intro x2 x3 x4 x5 x6 x7 x8 M h
    refine a_iload C (tk T_cX10_parts 6 rfl) rfl ?_
    refine a_aload_n C (tk T_cX10_parts 7 rfl) rfl ?_
    refine a_getI C f_RX10_25 (tk T_cX10_parts 8 rfl) lc13 rfl ?_
    refine a_icmp_ge C 120 (tk T_cX10_parts 9 rfl) rfl (fun c => ?_) (fun c => ?_)
    · have h := h.1 c
      refine a_iconst C (0 : Int32) (tk T_cX10_parts 61 rfl) kI_0 ?_
      exact hR _ _ _ _ (tk T_cX10_parts 62 rfl) ⟨Or.inl rfl, h⟩
    · have h := h.2 c
      refine a_iconst C (0 : Int32) (tk T_cX10_parts 10 rfl) kI_0 ?_
      refine a_istore C (tk T_cX10_parts 11 rfl) (by decide) rfl ?_
      obtain ⟨n1, h⟩ := h
      exact a_to (k_Table_parts_22 C hr hR ih n1 x2 x3 x4 x5 x6 x7 x8 (0 : Int32) M h) rfl
def P_Table_parts (post : Int32 → Mem → Prop) (x1 x2 x3 x4 x5 x6 : Int32) (M : Mem) : Prop :=
  P_Table_withoutAir (fun r1 M1 =>
  ∃ j10, P_Table_parts_10 post j10 x2 x3 x4 x5 x6 r1 (0 : Int32) M1) x1 M
theorem k_Table_parts {X : FX} {g : GT} {ext : List CD} {A : Nat → Prop} {Z : State → Prop} {post : Int32 → Mem → Prop} (C : Cx X g (layC ++ ext) A cX10_parts 11 RX10 2) (hr : 0 ≤ X.2.2.2.1.cells ∧ 0 ≤ X.2.2.2.1.slots) (hR : RetZ X g (layC ++ ext) A cX10_parts 11 0 0 Z post) (x1 x2 x3 x4 x5 x6 : Int32) (M : Mem) (h : P_Table_parts post x1 x2 x3 x4 x5 x6 M) : AtX X g (layC ++ ext) A 11 0 0 Z 0 [(0, .ref (ad g 13)), (1, .int x1), (2, .int x2), (3, .int x3), (4, .int x4), (5, .int x5), (6, .int x6)] [] M := by
  refine a_aload_n C (tk T_cX10_parts 0 rfl) rfl ?_
  refine a_iload_n C (tk T_cX10_parts 1 rfl) rfl ?_
  refine a_callI C [.int x1] me_yX10_withoutAir lk_RX10_43 (ct_Table_withoutAir h) (by decide) lc13 rfl rfl rfl (Nat.le_of_ble_eq_true rfl) (tk T_cX10_parts 2 rfl) hr (fun r1 M1 h => ?_)
  refine a_istore C (tk T_cX10_parts 3 rfl) (by decide) rfl ?_
  refine a_iconst C (0 : Int32) (tk T_cX10_parts 4 rfl) kI_0 ?_
  refine a_istore C (tk T_cX10_parts 5 rfl) (by decide) rfl ?_
  obtain ⟨n1, h⟩ := h
  exact a_to (k_Table_parts_10 C hr hR n1 x2 x3 x4 x5 x6 r1 (0 : Int32) M1 h) rfl
theorem ct_Table_parts {l : Launch} {g : GT} {ext : List CD} {post : Int32 → Mem → Prop} {x1 x2 x3 x4 x5 x6 : Int32} {M : Mem} (h : P_Table_parts post x1 x2 x3 x4 x5 x6 M) : CI l g (layC ++ ext) yX10_parts cX10_parts 11 (some .boolean) 2 [.ref (ad g 13), .int x1, .int x2, .int x3, .int x4, .int x5, .int x6] M post :=
  cz_of (plainFor_of_name (by decide +kernel)) (Nat.le_of_ble_eq_true rfl) (fun X A Z hl C hr hR => by subst hl; exact k_Table_parts C hr hR x1 x2 x3 x4 x5 x6 M h)
def T_cX11_nextL : List (Nat × Instr × Nat) := [(0, .iload_n 3, 1), (1, .invokestatic 141, 3), (4, .ifCond .eq 21, 3), (7, .iload 4, 2), (9, .invokestatic 141, 3), (12, .ifCond .eq 13, 3), (15, .iload_n 3, 1), (16, .iload 4, 2), (18, .if_icmp .gt 7, 3), (21, .iconst 1, 1), (22, .goto 4, 3), (25, .iconst 0, 1), (26, .invokestatic 72, 3), (29, .iconst 1, 1), (30, .istore 5, 2), (32, .iload 5, 2), (34, .bipush 9, 2), (36, .if_icmp .gt 88, 3), (39, .iconst 1, 1), (40, .istore 6, 2), (42, .iload 6, 2), (44, .iconst 5, 1), (45, .if_icmp .gt 73, 3), (48, .iload 5, 2), (50, .iload 6, 2), (52, .imul, 1), (53, .istore 7, 2), (55, .aload_n 0, 1), (56, .getfield 10, 3), (59, .getfield 188, 3), (62, .iload_n 1, 1), (63, .iload_n 2, 1), (64, .iload 7, 2), (66, .iconst 2, 1), (67, .iload 6, 2), (69, .imul, 1), (70, .iload_n 3, 1), (71, .iload 4, 2), (73, .invokevirtual 326, 3), (76, .ifCond .ne 27, 3), (79, .aload_n 0, 1), (80, .getfield 10, 3), (83, .getfield 188, 3), (86, .iload_n 2, 1), (87, .iload_n 1, 1), (88, .iload 7, 2), (90, .iconst 2, 1), (91, .iload 6, 2), (93, .imul, 1), (94, .iload_n 3, 1), (95, .iload 4, 2), (97, .invokevirtual 326, 3), (100, .ifCond .eq 12, 3), (103, .bipush 10, 2), (105, .iload 5, 2), (107, .imul, 1), (108, .iload 6, 2), (110, .iadd, 1), (111, .ireturn, 1), (112, .iinc 6 1, 3), (115, .goto (-73), 3), (118, .iinc 5 1, 3), (121, .goto (-89), 3), (124, .iconst (-1), 1), (125, .ireturn, 1)]
theorem T_cX11_next : tabOK cX11_next T_cX11_nextL = true := by decide +kernel
def P_R_next_103 (post : Int32 → Mem → Prop) (ex : String → Mem → Prop) (R32 : Int32 → Int32 → Int32 → Int32 → Int32 → Mem → Prop) (R42 : Int32 → Int32 → Int32 → Int32 → Int32 → Int32 → Mem → Prop) (x5 x6 : Int32) (M : Mem) : Prop :=
  post (((10 : Int32) * x5) + x6) M
theorem k_R_next_103 {X : FX} {g : GT} {ext : List CD} {A : Nat → Prop} {Z : State → Prop} {post : Int32 → Mem → Prop} {R32 : Int32 → Int32 → Int32 → Int32 → Int32 → Mem → Prop} {R42 : Int32 → Int32 → Int32 → Int32 → Int32 → Int32 → Mem → Prop} {ex : String → Mem → Prop} {sk : Nat → Nat} (C : CxX X g (layC ++ ext) A cX11_next 8 RX11 7 1 sk) (hT : ThX X g (layC ++ ext) A 1 Z ex) (hR : RetI X g (layC ++ ext) A cX11_next 8 1 (6 * 1) Z post) (k32 : ∀ (y1 y2 y3 y4 y5 : Int32) (M : Mem), R32 y1 y2 y3 y4 y5 M → AtX X g (layC ++ ext) A 8 1 (6 * 1) Z 32 [(0, .ref (ad g 0)), (1, .int y1), (2, .int y2), (3, .int y3), (4, .int y4), (5, .int y5)] [] M) (k42 : ∀ (y1 y2 y3 y4 y5 y6 : Int32) (M : Mem), R42 y1 y2 y3 y4 y5 y6 M → AtX X g (layC ++ ext) A 8 1 (6 * 1) Z 42 [(0, .ref (ad g 0)), (1, .int y1), (2, .int y2), (3, .int y3), (4, .int y4), (5, .int y5), (6, .int y6)] [] M) (x5 x6 : Int32) (M : Mem) (h : P_R_next_103 post ex R32 R42 x5 x6 M) : AtX X g (layC ++ ext) A 8 1 (6 * 1) Z 103 [(5, .int x5), (6, .int x6)] [] M := by
  refine a_bipush C.1 (10 : Int32) (tk T_cX11_next 53 rfl) kB_10 ?_
  refine a_iload C.1 (tk T_cX11_next 54 rfl) rfl ?_
  refine a_imul C.1 (tk T_cX11_next 55 rfl) ?_
  refine a_iload C.1 (tk T_cX11_next 56 rfl) rfl ?_
  refine a_iadd C.1 (tk T_cX11_next 57 rfl) ?_
  exact x_widen (by decide) (by decide) (hR _ _ _ _ (tk T_cX11_next 58 rfl) h)
def P_R_next_42 (post : Int32 → Mem → Prop) (ex : String → Mem → Prop) (R32 : Int32 → Int32 → Int32 → Int32 → Int32 → Mem → Prop) : Nat → Int32 → Int32 → Int32 → Int32 → Int32 → Int32 → Mem → Prop
  | 0, _, _, _, _, _, _, _ => False
  | n + 1, x1, x2, x3, x4, x5, x6, M =>
    ((5 : Int32) < x6 → (R32 x1 x2 x3 x4 (x5 + (1 : Int32)) M)) ∧
  (¬ (5 : Int32) < x6 → (∀ x7_1, x7_1 = (x5 * x6) → P_Table_parts (fun r2 M2 =>
  (¬ r2 = 0 → (P_R_next_103 post ex R32 (P_R_next_42 post ex R32 n) x5 x6 M2)) ∧
  (r2 = 0 → (P_Table_parts (fun r3 M3 =>
  (r3 = 0 → (P_R_next_42 post ex R32 n x1 x2 x3 x4 x5 (x6 + (1 : Int32)) M3)) ∧
  (¬ r3 = 0 → (P_R_next_103 post ex R32 (P_R_next_42 post ex R32 n) x5 x6 M3))) x2 x1 x7_1 ((2 : Int32) * x6) x3 x4 M2))) x1 x2 x7_1 ((2 : Int32) * x6) x3 x4 M))
theorem k_R_next_42 {X : FX} {g : GT} {ext : List CD} {A : Nat → Prop} {Z : State → Prop} {post : Int32 → Mem → Prop} {R32 : Int32 → Int32 → Int32 → Int32 → Int32 → Mem → Prop} {ex : String → Mem → Prop} {sk : Nat → Nat} (C : CxX X g (layC ++ ext) A cX11_next 8 RX11 7 1 sk) (hT : ThX X g (layC ++ ext) A 1 Z ex) (hR : RetI X g (layC ++ ext) A cX11_next 8 1 (6 * 1) Z post) (k32 : ∀ (y1 y2 y3 y4 y5 : Int32) (M : Mem), R32 y1 y2 y3 y4 y5 M → AtX X g (layC ++ ext) A 8 1 (6 * 1) Z 32 [(0, .ref (ad g 0)), (1, .int y1), (2, .int y2), (3, .int y3), (4, .int y4), (5, .int y5)] [] M) : ∀ (n : Nat) (x1 x2 x3 x4 x5 x6 : Int32) (M : Mem), P_R_next_42 post ex R32 n x1 x2 x3 x4 x5 x6 M → AtX X g (layC ++ ext) A 8 1 (6 * 1) Z 42 [(0, .ref (ad g 0)), (1, .int x1), (2, .int x2), (3, .int x3), (4, .int x4), (5, .int x5), (6, .int x6)] [] M := by
  intro n
  induction n with
  | zero =>
    intro x1 x2 x3 x4 x5 x6 M h
    exact h.elim
  | succ n ih =>
    intro x1 x2 x3 x4 x5 x6 M h
    refine a_iload C.1 (tk T_cX11_next 20 rfl) rfl ?_
    refine a_iconst C.1 (5 : Int32) (tk T_cX11_next 21 rfl) kI_5 ?_
    refine a_icmp_gt C.1 118 (tk T_cX11_next 22 rfl) rfl (fun c => ?_) (fun c => ?_)
    · have h := h.1 c
      refine a_iinc C.1 (1 : Int32) (tk T_cX11_next 61 rfl) rfl kI_1 (by decide) rfl ?_
      refine a_goto C.1 32 (tk T_cX11_next 62 rfl) rfl ?_
      exact x_widen (by decide) (by decide) (a_to (k32 x1 x2 x3 x4 (x5 + (1 : Int32)) M h) rfl)
    · have h := h.2 c
      refine a_iload C.1 (tk T_cX11_next 23 rfl) rfl ?_
      refine a_iload C.1 (tk T_cX11_next 24 rfl) rfl ?_
      refine a_imul C.1 (tk T_cX11_next 25 rfl) ?_
      refine a_top (fun x7_1 e_x7_1 => ?_)
      have h := h x7_1 e_x7_1
      refine a_istore C.1 (tk T_cX11_next 26 rfl) (by decide) rfl ?_
      refine a_aload_n C.1 (tk T_cX11_next 27 rfl) rfl ?_
      refine a_getR C.1 f_RX11_10 (tk T_cX11_next 28 rfl) lc0 rfl ?_
      refine a_getR C.1 f_RX11_188 (tk T_cX11_next 29 rfl) lc1 rfl ?_
      refine a_iload_n C.1 (tk T_cX11_next 30 rfl) rfl ?_
      refine a_iload_n C.1 (tk T_cX11_next 31 rfl) rfl ?_
      refine a_iload C.1 (tk T_cX11_next 32 rfl) rfl ?_
      refine a_iconst C.1 (2 : Int32) (tk T_cX11_next 33 rfl) kI_2 ?_
      refine a_iload C.1 (tk T_cX11_next 34 rfl) rfl ?_
      refine a_imul C.1 (tk T_cX11_next 35 rfl) ?_
      refine a_iload_n C.1 (tk T_cX11_next 36 rfl) rfl ?_
      refine a_iload C.1 (tk T_cX11_next 37 rfl) rfl ?_
      refine a_callI C.1 [.int x1, .int x2, .int x7_1, .int ((2 : Int32) * x6), .int x3, .int x4] me_yX10_parts lk_RX11_326 (ct_Table_parts h) (by decide) lc13 rfl rfl rfl (Nat.le_of_ble_eq_true rfl) (tk T_cX11_next 38 rfl) ⟨Nat.le_trans (by decide) C.2.2.1, Nat.le_trans (by decide) C.2.2.2⟩ (fun r2 M2 h => ?_)
      refine a_if_ne C.1 103 (tk T_cX11_next 39 rfl) rfl (fun c => ?_) (fun c => ?_)
      · have h := h.1 c
        exact x_widen (by decide) (by decide) (a_to (k_R_next_103 C hT hR k32 ih x5 x6 M2 h) rfl)
      · have h := h.2 c
        refine a_aload_n C.1 (tk T_cX11_next 40 rfl) rfl ?_
        refine a_getR C.1 f_RX11_10 (tk T_cX11_next 41 rfl) lc0 rfl ?_
        refine a_getR C.1 f_RX11_188 (tk T_cX11_next 42 rfl) lc1 rfl ?_
        refine a_iload_n C.1 (tk T_cX11_next 43 rfl) rfl ?_
        refine a_iload_n C.1 (tk T_cX11_next 44 rfl) rfl ?_
        refine a_iload C.1 (tk T_cX11_next 45 rfl) rfl ?_
        refine a_iconst C.1 (2 : Int32) (tk T_cX11_next 46 rfl) kI_2 ?_
        refine a_iload C.1 (tk T_cX11_next 47 rfl) rfl ?_
        refine a_imul C.1 (tk T_cX11_next 48 rfl) ?_
        refine a_iload_n C.1 (tk T_cX11_next 49 rfl) rfl ?_
        refine a_iload C.1 (tk T_cX11_next 50 rfl) rfl ?_
        refine a_callI C.1 [.int x2, .int x1, .int x7_1, .int ((2 : Int32) * x6), .int x3, .int x4] me_yX10_parts lk_RX11_326 (ct_Table_parts h) (by decide) lc13 rfl rfl rfl (Nat.le_of_ble_eq_true rfl) (tk T_cX11_next 51 rfl) ⟨Nat.le_trans (by decide) C.2.2.1, Nat.le_trans (by decide) C.2.2.2⟩ (fun r3 M3 h => ?_)
        refine a_if_eq C.1 112 (tk T_cX11_next 52 rfl) rfl (fun c => ?_) (fun c => ?_)
        · have h := h.1 c
          refine a_iinc C.1 (1 : Int32) (tk T_cX11_next 59 rfl) rfl kI_1 (by decide) rfl ?_
          refine a_goto C.1 42 (tk T_cX11_next 60 rfl) rfl ?_
          exact x_widen (by decide) (by decide) (a_to (ih x1 x2 x3 x4 x5 (x6 + (1 : Int32)) M3 h) rfl)
        · have h := h.2 c
          exact x_widen (by decide) (by decide) (a_to (k_R_next_103 C hT hR k32 ih x5 x6 M3 h) rfl)
def P_R_next_32 (post : Int32 → Mem → Prop) (ex : String → Mem → Prop) : Nat → Int32 → Int32 → Int32 → Int32 → Int32 → Mem → Prop
  | 0, _, _, _, _, _, _ => False
  | n + 1, x1, x2, x3, x4, x5, M =>
    ((9 : Int32) < x5 → (post (-1 : Int32) M)) ∧
  (¬ (9 : Int32) < x5 → (∃ j42, P_R_next_42 post ex (P_R_next_32 post ex n) j42 x1 x2 x3 x4 x5 (1 : Int32) M))
theorem k_R_next_32 {X : FX} {g : GT} {ext : List CD} {A : Nat → Prop} {Z : State → Prop} {post : Int32 → Mem → Prop} {ex : String → Mem → Prop} {sk : Nat → Nat} (C : CxX X g (layC ++ ext) A cX11_next 8 RX11 7 1 sk) (hT : ThX X g (layC ++ ext) A 1 Z ex) (hR : RetI X g (layC ++ ext) A cX11_next 8 1 (6 * 1) Z post) : ∀ (n : Nat) (x1 x2 x3 x4 x5 : Int32) (M : Mem), P_R_next_32 post ex n x1 x2 x3 x4 x5 M → AtX X g (layC ++ ext) A 8 1 (6 * 1) Z 32 [(0, .ref (ad g 0)), (1, .int x1), (2, .int x2), (3, .int x3), (4, .int x4), (5, .int x5)] [] M := by
  intro n
  induction n with
  | zero =>
    intro x1 x2 x3 x4 x5 M h
    exact h.elim
  | succ n ih =>
    intro x1 x2 x3 x4 x5 M h
    refine a_iload C.1 (tk T_cX11_next 15 rfl) rfl ?_
    refine a_bipush C.1 (9 : Int32) (tk T_cX11_next 16 rfl) kB_9 ?_
    refine a_icmp_gt C.1 124 (tk T_cX11_next 17 rfl) rfl (fun c => ?_) (fun c => ?_)
    · have h := h.1 c
      refine a_iconst C.1 (-1 : Int32) (tk T_cX11_next 63 rfl) kI_m1 ?_
      exact x_widen (by decide) (by decide) (hR _ _ _ _ (tk T_cX11_next 64 rfl) h)
    · have h := h.2 c
      refine a_iconst C.1 (1 : Int32) (tk T_cX11_next 18 rfl) kI_1 ?_
      refine a_istore C.1 (tk T_cX11_next 19 rfl) (by decide) rfl ?_
      obtain ⟨n1, h⟩ := h
      exact x_widen (by decide) (by decide) (a_to (k_R_next_42 C hT hR ih n1 x1 x2 x3 x4 x5 (1 : Int32) M h) rfl)
def P_R_next_26 (post : Int32 → Mem → Prop) (ex : String → Mem → Prop) (x1 x2 x3 x4 s0 : Int32) (M : Mem) : Prop :=
  P_R_wantNumber (fun M1 =>
  ∃ j32, P_R_next_32 post ex j32 x1 x2 x3 x4 (1 : Int32) M1) ex s0 M
theorem k_R_next_26 {X : FX} {g : GT} {ext : List CD} {A : Nat → Prop} {Z : State → Prop} {post : Int32 → Mem → Prop} {ex : String → Mem → Prop} {sk : Nat → Nat} (C : CxX X g (layC ++ ext) A cX11_next 8 RX11 7 1 sk) (hT : ThX X g (layC ++ ext) A 1 Z ex) (hR : RetI X g (layC ++ ext) A cX11_next 8 1 (6 * 1) Z post) (x1 x2 x3 x4 s0 : Int32) (M : Mem) (h : P_R_next_26 post ex x1 x2 x3 x4 s0 M) : AtX X g (layC ++ ext) A 8 0 (6 * 0) Z 26 [(0, .ref (ad g 0)), (1, .int x1), (2, .int x2), (3, .int x3), (4, .int x4)] [.int s0] M := by
  refine x_statV C hT [.int s0] me_yX11_wantNumber lk_RX11_72 (ct_R_wantNumber h) (by decide) rfl rfl (Nat.le_of_ble_eq_true rfl) (tk T_cX11_next 12 rfl) (by decide) (fun M1 h => ?_)
  refine a_iconst C.1 (1 : Int32) (tk T_cX11_next 13 rfl) kI_1 ?_
  refine a_istore C.1 (tk T_cX11_next 14 rfl) (by decide) rfl ?_
  obtain ⟨n1, h⟩ := h
  exact x_widen (by decide) (by decide) (a_to (k_R_next_32 C hT hR n1 x1 x2 x3 x4 (1 : Int32) M1 h) rfl)
def P_R_next_25 (post : Int32 → Mem → Prop) (ex : String → Mem → Prop) (x1 x2 x3 x4 : Int32) (M : Mem) : Prop :=
  P_R_next_26 post ex x1 x2 x3 x4 (0 : Int32) M
theorem k_R_next_25 {X : FX} {g : GT} {ext : List CD} {A : Nat → Prop} {Z : State → Prop} {post : Int32 → Mem → Prop} {ex : String → Mem → Prop} {sk : Nat → Nat} (C : CxX X g (layC ++ ext) A cX11_next 8 RX11 7 1 sk) (hT : ThX X g (layC ++ ext) A 1 Z ex) (hR : RetI X g (layC ++ ext) A cX11_next 8 1 (6 * 1) Z post) (x1 x2 x3 x4 : Int32) (M : Mem) (h : P_R_next_25 post ex x1 x2 x3 x4 M) : AtX X g (layC ++ ext) A 8 0 (6 * 0) Z 25 [(0, .ref (ad g 0)), (1, .int x1), (2, .int x2), (3, .int x3), (4, .int x4)] [] M := by
  refine a_iconst C.1 (0 : Int32) (tk T_cX11_next 11 rfl) kI_0 ?_
  exact x_widen (by decide) (by decide) (a_to (k_R_next_26 C hT hR x1 x2 x3 x4 (0 : Int32) M h) rfl)
def P_R_next (post : Int32 → Mem → Prop) (ex : String → Mem → Prop) (x1 x2 x3 x4 : Int32) (M : Mem) : Prop :=
  P_R_isWave (fun r1 M1 =>
  (r1 = 0 → (P_R_next_25 post ex x1 x2 x3 x4 M1)) ∧
  (¬ r1 = 0 → (P_R_isWave (fun r2 M2 =>
  (r2 = 0 → (P_R_next_25 post ex x1 x2 x3 x4 M2)) ∧
  (¬ r2 = 0 → ((x4 < x3 → (P_R_next_25 post ex x1 x2 x3 x4 M2)) ∧
  (¬ x4 < x3 → (P_R_next_26 post ex x1 x2 x3 x4 (1 : Int32) M2))))) x4 M1))) x3 M
theorem k_R_next {X : FX} {g : GT} {ext : List CD} {A : Nat → Prop} {Z : State → Prop} {post : Int32 → Mem → Prop} {ex : String → Mem → Prop} {sk : Nat → Nat} (C : CxX X g (layC ++ ext) A cX11_next 8 RX11 7 1 sk) (hT : ThX X g (layC ++ ext) A 1 Z ex) (hR : RetI X g (layC ++ ext) A cX11_next 8 1 (6 * 1) Z post) (x1 x2 x3 x4 : Int32) (M : Mem) (h : P_R_next post ex x1 x2 x3 x4 M) : AtX X g (layC ++ ext) A 8 0 0 Z 0 [(0, .ref (ad g 0)), (1, .int x1), (2, .int x2), (3, .int x3), (4, .int x4)] [] M := by
  refine a_iload_n C.1 (tk T_cX11_next 0 rfl) rfl ?_
  refine a_statI C.1 [.int x3] me_yX11_isWave lk_RX11_141 (ct_R_isWave h) (by decide) rfl rfl (Nat.le_of_ble_eq_true rfl) (tk T_cX11_next 1 rfl) ⟨Nat.le_trans (by decide) C.2.2.1, Nat.le_trans (by decide) C.2.2.2⟩ (fun r1 M1 h => ?_)
  refine a_if_eq C.1 25 (tk T_cX11_next 2 rfl) rfl (fun c => ?_) (fun c => ?_)
  · have h := h.1 c
    exact x_widen (by decide) (by decide) (a_to (k_R_next_25 C hT hR x1 x2 x3 x4 M1 h) rfl)
  · have h := h.2 c
    refine a_iload C.1 (tk T_cX11_next 3 rfl) rfl ?_
    refine a_statI C.1 [.int x4] me_yX11_isWave lk_RX11_141 (ct_R_isWave h) (by decide) rfl rfl (Nat.le_of_ble_eq_true rfl) (tk T_cX11_next 4 rfl) ⟨Nat.le_trans (by decide) C.2.2.1, Nat.le_trans (by decide) C.2.2.2⟩ (fun r2 M2 h => ?_)
    refine a_if_eq C.1 25 (tk T_cX11_next 5 rfl) rfl (fun c => ?_) (fun c => ?_)
    · have h := h.1 c
      exact x_widen (by decide) (by decide) (a_to (k_R_next_25 C hT hR x1 x2 x3 x4 M2 h) rfl)
    · have h := h.2 c
      refine a_iload_n C.1 (tk T_cX11_next 6 rfl) rfl ?_
      refine a_iload C.1 (tk T_cX11_next 7 rfl) rfl ?_
      refine a_icmp_gt C.1 25 (tk T_cX11_next 8 rfl) rfl (fun c => ?_) (fun c => ?_)
      · have h := h.1 c
        exact x_widen (by decide) (by decide) (a_to (k_R_next_25 C hT hR x1 x2 x3 x4 M2 h) rfl)
      · have h := h.2 c
        refine a_iconst C.1 (1 : Int32) (tk T_cX11_next 9 rfl) kI_1 ?_
        refine a_goto C.1 26 (tk T_cX11_next 10 rfl) rfl ?_
        exact x_widen (by decide) (by decide) (a_to (k_R_next_26 C hT hR x1 x2 x3 x4 (1 : Int32) M2 h) rfl)
theorem ct_R_next {l : Launch} {g : GT} {ext : List CD} {sk : Nat → Nat} {post : Int32 → Mem → Prop} {ex : String → Mem → Prop} {x1 x2 x3 x4 : Int32} {M : Mem} (h : P_R_next post ex x1 x2 x3 x4 M) : XI l g (layC ++ ext) sk yX11_next cX11_next 8 (some .int) 7 1 [.ref (ad g 0), .int x1, .int x2, .int x3, .int x4] M post ex :=
  xi_of (by decide +kernel) (Nat.le_of_ble_eq_true rfl) (fun X A Z hl C hR hT _ => by subst hl; exact k_R_next C hT hR x1 x2 x3 x4 M h)
