def T_cX12_isInSetL : List (Nat × Instr × Nat) := [(0, .aload_n 0, 1), (1, .iload_n 2, 1), (2, .invokevirtual 148, 3), (5, .ifCond .ne 12, 3), (8, .iload_n 1, 1), (9, .iload_n 2, 1), (10, .ishr, 1), (11, .iconst 1, 1), (12, .iand, 1), (13, .iconst 1, 1), (14, .if_icmp .ne 7, 3), (17, .iconst 1, 1), (18, .goto 4, 3), (21, .iconst 0, 1), (22, .ireturn, 1)]
theorem T_cX12_isInSet : tabOK cX12_isInSet T_cX12_isInSetL = true := by decide +kernel
def P_M_isInSet_22 (post : Int32 → Mem → Prop) (s0 : Int32) (M : Mem) : Prop :=
  (s0 = 0 ∨ s0 = 1) ∧ post s0 M
theorem k_M_isInSet_22 {X : FX} {g : GT} {A : Nat → Prop} {Z : State → Prop} {post : Int32 → Mem → Prop} (C : Cx X g layM A cX12_isInSet 3 RX12 1) (hr : 0 ≤ X.2.2.2.1.cells ∧ 0 ≤ X.2.2.2.1.slots) (hR : RetZ X g layM A cX12_isInSet 3 0 0 Z post) (s0 : Int32) (M : Mem) (h : P_M_isInSet_22 post s0 M) : AtX X g layM A 3 0 0 Z 22 [] [.int s0] M := by
  exact hR _ _ _ _ (tk T_cX12_isInSet 14 rfl) h
def P_M_isInSet_17 (post : Int32 → Mem → Prop) (M : Mem) : Prop :=
  P_M_isInSet_22 post (1 : Int32) M
theorem k_M_isInSet_17 {X : FX} {g : GT} {A : Nat → Prop} {Z : State → Prop} {post : Int32 → Mem → Prop} (C : Cx X g layM A cX12_isInSet 3 RX12 1) (hr : 0 ≤ X.2.2.2.1.cells ∧ 0 ≤ X.2.2.2.1.slots) (hR : RetZ X g layM A cX12_isInSet 3 0 0 Z post)  (M : Mem) (h : P_M_isInSet_17 post M) : AtX X g layM A 3 0 0 Z 17 [] [] M := by
  refine a_iconst C (1 : Int32) (tk T_cX12_isInSet 11 rfl) kI_1 ?_
  refine a_goto C 22 (tk T_cX12_isInSet 12 rfl) rfl ?_
  exact a_to (k_M_isInSet_22 C hr hR (1 : Int32) M h) rfl
def P_M_isInSet (post : Int32 → Mem → Prop) (x1 x2 : Int32) (M : Mem) : Prop :=
  P_M_isAir (fun r1 M1 =>
  (¬ r1 = 0 → (P_M_isInSet_17 post M1)) ∧
  (r1 = 0 → ((¬ ((x1 >>> (x2 &&& 31)) &&& (1 : Int32)) = (1 : Int32) → (P_M_isInSet_22 post (0 : Int32) M1)) ∧
  (((x1 >>> (x2 &&& 31)) &&& (1 : Int32)) = (1 : Int32) → (P_M_isInSet_17 post M1))))) x2 M
theorem k_M_isInSet {X : FX} {g : GT} {A : Nat → Prop} {Z : State → Prop} {post : Int32 → Mem → Prop} (C : Cx X g layM A cX12_isInSet 3 RX12 1) (hr : 0 ≤ X.2.2.2.1.cells ∧ 0 ≤ X.2.2.2.1.slots) (hR : RetZ X g layM A cX12_isInSet 3 0 0 Z post) (x1 x2 : Int32) (M : Mem) (h : P_M_isInSet post x1 x2 M) : AtX X g layM A 3 0 0 Z 0 [(0, .ref (ad g 0)), (1, .int x1), (2, .int x2)] [] M := by
  refine a_aload_n C (tk T_cX12_isInSet 0 rfl) rfl ?_
  refine a_iload_n C (tk T_cX12_isInSet 1 rfl) rfl ?_
  refine a_callI C [.int x2] me_yX12_isAir lk_RX12_148 (ct_M_isAir h) (by decide) lm0 rfl rfl rfl (Nat.le_of_ble_eq_true rfl) (tk T_cX12_isInSet 2 rfl) hr (fun r1 M1 h => ?_)
  refine a_if_ne C 17 (tk T_cX12_isInSet 3 rfl) rfl (fun c => ?_) (fun c => ?_)
  · have h := h.1 c
    exact a_to (k_M_isInSet_17 C hr hR M1 h) rfl
  · have h := h.2 c
    refine a_iload_n C (tk T_cX12_isInSet 4 rfl) rfl ?_
    refine a_iload_n C (tk T_cX12_isInSet 5 rfl) rfl ?_
    refine a_ishr C (tk T_cX12_isInSet 6 rfl) ?_
    refine a_iconst C (1 : Int32) (tk T_cX12_isInSet 7 rfl) kI_1 ?_
    refine a_iand C (tk T_cX12_isInSet 8 rfl) ?_
    refine a_iconst C (1 : Int32) (tk T_cX12_isInSet 9 rfl) kI_1 ?_
    refine a_icmp_ne C 21 (tk T_cX12_isInSet 10 rfl) rfl (fun c => ?_) (fun c => ?_)
    · have h := h.1 c
      refine a_iconst C (0 : Int32) (tk T_cX12_isInSet 13 rfl) kI_0 ?_
      exact a_to (k_M_isInSet_22 C hr hR (0 : Int32) M1 h) rfl
    · have h := h.2 c
      exact a_to (k_M_isInSet_17 C hr hR M1 h) rfl
theorem ct_M_isInSet {l : Launch} {g : GT} {post : Int32 → Mem → Prop} {x1 x2 : Int32} {M : Mem} (h : P_M_isInSet post x1 x2 M) : CI l g layM yX12_isInSet cX12_isInSet 3 (some .boolean) 1 [.ref (ad g 0), .int x1, .int x2] M post :=
  cz_of (plainFor_of_name (by decide +kernel)) (Nat.le_of_ble_eq_true rfl) (fun X A Z hl C hr hR => by subst hl; exact k_M_isInSet C hr hR x1 x2 M h)
def T_cX12_linesInL : List (Nat × Instr × Nat) := [(0, .iconst 0, 1), (1, .istore 5, 2), (3, .iconst 0, 1), (4, .istore 6, 2), (6, .iload 6, 2), (8, .aload_n 0, 1), (9, .getfield 13, 3), (12, .bipush 7, 2), (14, .iaload, 1), (15, .if_icmp .ge 93, 3), (18, .aload_n 0, 1), (19, .iload_n 2, 1), (20, .iload 6, 2), (22, .invokevirtual 175, 3), (25, .ifCond .ne 6, 3), (28, .goto 74, 3), (31, .iconst 0, 1), (32, .istore 7, 2), (34, .iconst 0, 1), (35, .istore 8, 2), (37, .iload 8, 2), (39, .aload_n 0, 1), (40, .iload 6, 2), (42, .invokevirtual 125, 3), (45, .if_icmp .ge 36, 3), (48, .iload 7, 2), (50, .aload_n 0, 1), (51, .iload_n 1, 1), (52, .aload_n 0, 1), (53, .iload 6, 2), (55, .iload 8, 2), (57, .iload_n 3, 1), (58, .invokevirtual 160, 3), (61, .invokevirtual 178, 3), (64, .ifCond .eq 7, 3), (67, .iconst 1, 1), (68, .goto 4, 3), (71, .iconst 0, 1), (72, .iadd, 1), (73, .istore 7, 2), (75, .iinc 8 1, 3), (78, .goto (-41), 3), (81, .iload 5, 2), (83, .iload 4, 2), (85, .ifCond .eq 12, 3), (88, .iload 7, 2), (90, .iconst 1, 1), (91, .invokestatic 109, 3), (94, .goto 5, 3), (97, .iload 7, 2), (99, .iadd, 1), (100, .istore 5, 2), (102, .iinc 6 1, 3), (105, .goto (-99), 3), (108, .iload 5, 2), (110, .ireturn, 1)]
theorem T_cX12_linesIn : tabOK cX12_linesIn T_cX12_linesInL = true := by decide +kernel
def P_M_linesIn_102 (post : Int32 → Mem → Prop) (R6 : Int32 → Int32 → Int32 → Int32 → Int32 → Int32 → Mem → Prop) (x1 x2 x3 x4 x5 x6 : Int32) (M : Mem) : Prop :=
  R6 x1 x2 x3 x4 x5 (x6 + (1 : Int32)) M
theorem k_M_linesIn_102 {X : FX} {g : GT} {A : Nat → Prop} {Z : State → Prop} {post : Int32 → Mem → Prop} {R6 : Int32 → Int32 → Int32 → Int32 → Int32 → Int32 → Mem → Prop} (C : Cx X g layM A cX12_linesIn 9 RX12 2) (hr : 0 ≤ X.2.2.2.1.cells ∧ 0 ≤ X.2.2.2.1.slots) (hR : RetI X g layM A cX12_linesIn 9 0 0 Z post) (k6 : ∀ (y1 y2 y3 y4 y5 y6 : Int32) (M : Mem), R6 y1 y2 y3 y4 y5 y6 M → AtX X g layM A 9 0 0 Z 6 [(0, .ref (ad g 0)), (1, .int y1), (2, .int y2), (3, .int y3), (4, .int y4), (5, .int y5), (6, .int y6)] [] M) (x1 x2 x3 x4 x5 x6 : Int32) (M : Mem) (h : P_M_linesIn_102 post R6 x1 x2 x3 x4 x5 x6 M) : AtX X g layM A 9 0 0 Z 102 [(0, .ref (ad g 0)), (1, .int x1), (2, .int x2), (3, .int x3), (4, .int x4), (5, .int x5), (6, .int x6)] [] M := by
  refine a_iinc C (1 : Int32) (tk T_cX12_linesIn 52 rfl) rfl kI_1 (by decide) rfl ?_
  refine a_goto C 6 (tk T_cX12_linesIn 53 rfl) rfl ?_
  exact a_to (k6 x1 x2 x3 x4 x5 (x6 + (1 : Int32)) M h) rfl
def P_M_linesIn_99 (post : Int32 → Mem → Prop) (R6 : Int32 → Int32 → Int32 → Int32 → Int32 → Int32 → Mem → Prop) (x1 x2 x3 x4 x6 s0 s1 : Int32) (M : Mem) : Prop :=
  ∀ x5_1, x5_1 = (s0 + s1) → P_M_linesIn_102 post R6 x1 x2 x3 x4 x5_1 x6 M
theorem k_M_linesIn_99 {X : FX} {g : GT} {A : Nat → Prop} {Z : State → Prop} {post : Int32 → Mem → Prop} {R6 : Int32 → Int32 → Int32 → Int32 → Int32 → Int32 → Mem → Prop} (C : Cx X g layM A cX12_linesIn 9 RX12 2) (hr : 0 ≤ X.2.2.2.1.cells ∧ 0 ≤ X.2.2.2.1.slots) (hR : RetI X g layM A cX12_linesIn 9 0 0 Z post) (k6 : ∀ (y1 y2 y3 y4 y5 y6 : Int32) (M : Mem), R6 y1 y2 y3 y4 y5 y6 M → AtX X g layM A 9 0 0 Z 6 [(0, .ref (ad g 0)), (1, .int y1), (2, .int y2), (3, .int y3), (4, .int y4), (5, .int y5), (6, .int y6)] [] M) (x1 x2 x3 x4 x6 s0 s1 : Int32) (M : Mem) (h : P_M_linesIn_99 post R6 x1 x2 x3 x4 x6 s0 s1 M) : AtX X g layM A 9 0 0 Z 99 [(0, .ref (ad g 0)), (1, .int x1), (2, .int x2), (3, .int x3), (4, .int x4), (6, .int x6)] [.int s1, .int s0] M := by
  refine a_iadd C (tk T_cX12_linesIn 50 rfl) ?_
  refine a_top (fun x5_1 e_x5_1 => ?_)
  have h := h x5_1 e_x5_1
  refine a_istore C (tk T_cX12_linesIn 51 rfl) (by decide) rfl ?_
  exact a_to (k_M_linesIn_102 C hr hR k6 x1 x2 x3 x4 x5_1 x6 M h) rfl
def P_M_linesIn_72 (post : Int32 → Mem → Prop) (R6 : Int32 → Int32 → Int32 → Int32 → Int32 → Int32 → Mem → Prop) (R37 : Int32 → Int32 → Int32 → Int32 → Int32 → Int32 → Int32 → Int32 → Mem → Prop) (x1 x2 x3 x4 x5 x6 x8 s0 s1 : Int32) (M : Mem) : Prop :=
  ∀ x7_1, x7_1 = (s0 + s1) → R37 x1 x2 x3 x4 x5 x6 x7_1 (x8 + (1 : Int32)) M
theorem k_M_linesIn_72 {X : FX} {g : GT} {A : Nat → Prop} {Z : State → Prop} {post : Int32 → Mem → Prop} {R6 : Int32 → Int32 → Int32 → Int32 → Int32 → Int32 → Mem → Prop} {R37 : Int32 → Int32 → Int32 → Int32 → Int32 → Int32 → Int32 → Int32 → Mem → Prop} (C : Cx X g layM A cX12_linesIn 9 RX12 2) (hr : 0 ≤ X.2.2.2.1.cells ∧ 0 ≤ X.2.2.2.1.slots) (hR : RetI X g layM A cX12_linesIn 9 0 0 Z post) (k6 : ∀ (y1 y2 y3 y4 y5 y6 : Int32) (M : Mem), R6 y1 y2 y3 y4 y5 y6 M → AtX X g layM A 9 0 0 Z 6 [(0, .ref (ad g 0)), (1, .int y1), (2, .int y2), (3, .int y3), (4, .int y4), (5, .int y5), (6, .int y6)] [] M) (k37 : ∀ (y1 y2 y3 y4 y5 y6 y7 y8 : Int32) (M : Mem), R37 y1 y2 y3 y4 y5 y6 y7 y8 M → AtX X g layM A 9 0 0 Z 37 [(0, .ref (ad g 0)), (1, .int y1), (2, .int y2), (3, .int y3), (4, .int y4), (5, .int y5), (6, .int y6), (7, .int y7), (8, .int y8)] [] M) (x1 x2 x3 x4 x5 x6 x8 s0 s1 : Int32) (M : Mem) (h : P_M_linesIn_72 post R6 R37 x1 x2 x3 x4 x5 x6 x8 s0 s1 M) : AtX X g layM A 9 0 0 Z 72 [(0, .ref (ad g 0)), (1, .int x1), (2, .int x2), (3, .int x3), (4, .int x4), (5, .int x5), (6, .int x6), (8, .int x8)] [.int s1, .int s0] M := by
  refine a_iadd C (tk T_cX12_linesIn 38 rfl) ?_
  refine a_top (fun x7_1 e_x7_1 => ?_)
  have h := h x7_1 e_x7_1
  refine a_istore C (tk T_cX12_linesIn 39 rfl) (by decide) rfl ?_
  refine a_iinc C (1 : Int32) (tk T_cX12_linesIn 40 rfl) rfl kI_1 (by decide) rfl ?_
  refine a_goto C 37 (tk T_cX12_linesIn 41 rfl) rfl ?_
  exact a_to (k37 x1 x2 x3 x4 x5 x6 x7_1 (x8 + (1 : Int32)) M h) rfl
def P_M_linesIn_37 (post : Int32 → Mem → Prop) (R6 : Int32 → Int32 → Int32 → Int32 → Int32 → Int32 → Mem → Prop) : Nat → Int32 → Int32 → Int32 → Int32 → Int32 → Int32 → Int32 → Int32 → Mem → Prop
  | 0, _, _, _, _, _, _, _, _, _ => False
  | n + 1, x1, x2, x3, x4, x5, x6, x7, x8, M =>
    P_M_lines (fun r1 M1 =>
  (r1 ≤ x8 → ((x4 = 0 → (P_M_linesIn_99 post R6 x1 x2 x3 x4 x6 x5 x7 M1)) ∧
  (¬ x4 = 0 → (P_Math_min (fun r2 M2 =>
  P_M_linesIn_99 post R6 x1 x2 x3 x4 x6 x5 r2 M2) x7 (1 : Int32) M1)))) ∧
  (¬ r1 ≤ x8 → (P_M_shifted (fun r3 M3 =>
  P_M_isIn (fun r4 M4 =>
  (r4 = 0 → (P_M_linesIn_72 post R6 (P_M_linesIn_37 post R6 n) x1 x2 x3 x4 x5 x6 x8 x7 (0 : Int32) M4)) ∧
  (¬ r4 = 0 → (P_M_linesIn_72 post R6 (P_M_linesIn_37 post R6 n) x1 x2 x3 x4 x5 x6 x8 x7 (1 : Int32) M4))) x1 r3 M3) x6 x8 x3 M1))) x6 M
theorem k_M_linesIn_37 {X : FX} {g : GT} {A : Nat → Prop} {Z : State → Prop} {post : Int32 → Mem → Prop} {R6 : Int32 → Int32 → Int32 → Int32 → Int32 → Int32 → Mem → Prop} (C : Cx X g layM A cX12_linesIn 9 RX12 2) (hr : 0 ≤ X.2.2.2.1.cells ∧ 0 ≤ X.2.2.2.1.slots) (hR : RetI X g layM A cX12_linesIn 9 0 0 Z post) (k6 : ∀ (y1 y2 y3 y4 y5 y6 : Int32) (M : Mem), R6 y1 y2 y3 y4 y5 y6 M → AtX X g layM A 9 0 0 Z 6 [(0, .ref (ad g 0)), (1, .int y1), (2, .int y2), (3, .int y3), (4, .int y4), (5, .int y5), (6, .int y6)] [] M) : ∀ (n : Nat) (x1 x2 x3 x4 x5 x6 x7 x8 : Int32) (M : Mem), P_M_linesIn_37 post R6 n x1 x2 x3 x4 x5 x6 x7 x8 M → AtX X g layM A 9 0 0 Z 37 [(0, .ref (ad g 0)), (1, .int x1), (2, .int x2), (3, .int x3), (4, .int x4), (5, .int x5), (6, .int x6), (7, .int x7), (8, .int x8)] [] M := by
  intro n
  induction n with
  | zero =>
    intro x1 x2 x3 x4 x5 x6 x7 x8 M h
    exact h.elim
  | succ n ih =>
    intro x1 x2 x3 x4 x5 x6 x7 x8 M h
    refine a_iload C (tk T_cX12_linesIn 20 rfl) rfl ?_
    refine a_aload_n C (tk T_cX12_linesIn 21 rfl) rfl ?_
    refine a_iload C (tk T_cX12_linesIn 22 rfl) rfl ?_
    refine a_callI C [.int x6] me_yX12_lines lk_RX12_125 (ct_M_lines h) (by decide) lm0 rfl rfl rfl (Nat.le_of_ble_eq_true rfl) (tk T_cX12_linesIn 23 rfl) hr (fun r1 M1 h => ?_)
    refine a_icmp_ge C 81 (tk T_cX12_linesIn 24 rfl) rfl (fun c => ?_) (fun c => ?_)
    · have h := h.1 c
      refine a_iload C (tk T_cX12_linesIn 42 rfl) rfl ?_
      refine a_iload C (tk T_cX12_linesIn 43 rfl) rfl ?_
      refine a_if_eq C 97 (tk T_cX12_linesIn 44 rfl) rfl (fun c => ?_) (fun c => ?_)
      · have h := h.1 c
        refine a_iload C (tk T_cX12_linesIn 49 rfl) rfl ?_
        exact a_to (k_M_linesIn_99 C hr hR k6 x1 x2 x3 x4 x6 x5 x7 M1 h) rfl
      · have h := h.2 c
        refine a_iload C (tk T_cX12_linesIn 45 rfl) rfl ?_
        refine a_iconst C (1 : Int32) (tk T_cX12_linesIn 46 rfl) kI_1 ?_
        refine a_statI C [.int x7, .int (1 : Int32)] me_yJ9_min_7cf53 lk_RX12_109 (ct_Math_min h) (by decide) rfl rfl (Nat.le_of_ble_eq_true rfl) (tk T_cX12_linesIn 47 rfl) hr (fun r2 M2 h => ?_)
        refine a_goto C 99 (tk T_cX12_linesIn 48 rfl) rfl ?_
        exact a_to (k_M_linesIn_99 C hr hR k6 x1 x2 x3 x4 x6 x5 r2 M2 h) rfl
    · have h := h.2 c
      refine a_iload C (tk T_cX12_linesIn 25 rfl) rfl ?_
      refine a_aload_n C (tk T_cX12_linesIn 26 rfl) rfl ?_
      refine a_iload_n C (tk T_cX12_linesIn 27 rfl) rfl ?_
      refine a_aload_n C (tk T_cX12_linesIn 28 rfl) rfl ?_
      refine a_iload C (tk T_cX12_linesIn 29 rfl) rfl ?_
      refine a_iload C (tk T_cX12_linesIn 30 rfl) rfl ?_
      refine a_iload_n C (tk T_cX12_linesIn 31 rfl) rfl ?_
      refine a_callI C [.int x6, .int x8, .int x3] me_yX12_shifted lk_RX12_160 (ct_M_shifted h) (by decide) lm0 rfl rfl rfl (Nat.le_of_ble_eq_true rfl) (tk T_cX12_linesIn 32 rfl) hr (fun r3 M3 h => ?_)
      refine a_callI C [.int x1, .int r3] me_yX12_isIn lk_RX12_178 (ct_M_isIn h) (by decide) lm0 rfl rfl rfl (Nat.le_of_ble_eq_true rfl) (tk T_cX12_linesIn 33 rfl) hr (fun r4 M4 h => ?_)
      refine a_if_eq C 71 (tk T_cX12_linesIn 34 rfl) rfl (fun c => ?_) (fun c => ?_)
      · have h := h.1 c
        refine a_iconst C (0 : Int32) (tk T_cX12_linesIn 37 rfl) kI_0 ?_
        exact a_to (k_M_linesIn_72 C hr hR k6 ih x1 x2 x3 x4 x5 x6 x8 x7 (0 : Int32) M4 h) rfl
      · have h := h.2 c
        refine a_iconst C (1 : Int32) (tk T_cX12_linesIn 35 rfl) kI_1 ?_
        refine a_goto C 72 (tk T_cX12_linesIn 36 rfl) rfl ?_
        exact a_to (k_M_linesIn_72 C hr hR k6 ih x1 x2 x3 x4 x5 x6 x8 x7 (1 : Int32) M4 h) rfl
def P_M_linesIn_6 (post : Int32 → Mem → Prop) : Nat → Int32 → Int32 → Int32 → Int32 → Int32 → Int32 → Mem → Prop
  | 0, _, _, _, _, _, _, _ => False
  | n + 1, x1, x2, x3, x4, x5, x6, M =>
    vp_in (7 : Int32) 5966 ∧ ((M 1 (7 : Int32).toNatClampNeg) ≤ x6 → (post x5 M)) ∧
  (¬ (M 1 (7 : Int32).toNatClampNeg) ≤ x6 → (P_M_isInSet (fun r1 M1 =>
  (¬ r1 = 0 → (∃ j37, P_M_linesIn_37 post (P_M_linesIn_6 post n) j37 x1 x2 x3 x4 x5 x6 (0 : Int32) (0 : Int32) M1)) ∧
  (r1 = 0 → (P_M_linesIn_102 post (P_M_linesIn_6 post n) x1 x2 x3 x4 x5 x6 M1))) x2 x6 M))
theorem k_M_linesIn_6 {X : FX} {g : GT} {A : Nat → Prop} {Z : State → Prop} {post : Int32 → Mem → Prop} (C : Cx X g layM A cX12_linesIn 9 RX12 2) (hr : 0 ≤ X.2.2.2.1.cells ∧ 0 ≤ X.2.2.2.1.slots) (hR : RetI X g layM A cX12_linesIn 9 0 0 Z post) : ∀ (n : Nat) (x1 x2 x3 x4 x5 x6 : Int32) (M : Mem), P_M_linesIn_6 post n x1 x2 x3 x4 x5 x6 M → AtX X g layM A 9 0 0 Z 6 [(0, .ref (ad g 0)), (1, .int x1), (2, .int x2), (3, .int x3), (4, .int x4), (5, .int x5), (6, .int x6)] [] M := by
  intro n
  induction n with
  | zero =>
    intro x1 x2 x3 x4 x5 x6 M h
    exact h.elim
  | succ n ih =>
    intro x1 x2 x3 x4 x5 x6 M h
    refine a_iload C (tk T_cX12_linesIn 4 rfl) rfl ?_
    refine a_aload_n C (tk T_cX12_linesIn 5 rfl) rfl ?_
    refine a_getR C f_RX12_13 (tk T_cX12_linesIn 6 rfl) lm0 rfl ?_
    refine a_bipush C (7 : Int32) (tk T_cX12_linesIn 7 rfl) kB_7 ?_
    obtain ⟨hb, h⟩ := h
    refine a_iald C (tk T_cX12_linesIn 8 rfl) lm1 hb ?_
    refine a_icmp_ge C 108 (tk T_cX12_linesIn 9 rfl) rfl (fun c => ?_) (fun c => ?_)
    · have h := h.1 c
      refine a_iload C (tk T_cX12_linesIn 54 rfl) rfl ?_
      exact hR _ _ _ _ (tk T_cX12_linesIn 55 rfl) h
    · have h := h.2 c
      refine a_aload_n C (tk T_cX12_linesIn 10 rfl) rfl ?_
      refine a_iload_n C (tk T_cX12_linesIn 11 rfl) rfl ?_
      refine a_iload C (tk T_cX12_linesIn 12 rfl) rfl ?_
      refine a_callI C [.int x2, .int x6] me_yX12_isInSet lk_RX12_175 (ct_M_isInSet h) (by decide) lm0 rfl rfl rfl (Nat.le_of_ble_eq_true rfl) (tk T_cX12_linesIn 13 rfl) hr (fun r1 M1 h => ?_)
      refine a_if_ne C 31 (tk T_cX12_linesIn 14 rfl) rfl (fun c => ?_) (fun c => ?_)
      · have h := h.1 c
        refine a_iconst C (0 : Int32) (tk T_cX12_linesIn 16 rfl) kI_0 ?_
        refine a_istore C (tk T_cX12_linesIn 17 rfl) (by decide) rfl ?_
        refine a_iconst C (0 : Int32) (tk T_cX12_linesIn 18 rfl) kI_0 ?_
        refine a_istore C (tk T_cX12_linesIn 19 rfl) (by decide) rfl ?_
        obtain ⟨n1, h⟩ := h
        exact a_to (k_M_linesIn_37 C hr hR ih n1 x1 x2 x3 x4 x5 x6 (0 : Int32) (0 : Int32) M1 h) rfl
      · have h := h.2 c
        refine a_goto C 102 (tk T_cX12_linesIn 15 rfl) rfl ?_
        exact a_to (k_M_linesIn_102 C hr hR ih x1 x2 x3 x4 x5 x6 M1 h) rfl
def P_M_linesIn (post : Int32 → Mem → Prop) (x1 x2 x3 x4 : Int32) (M : Mem) : Prop :=
  ∃ j6, P_M_linesIn_6 post j6 x1 x2 x3 x4 (0 : Int32) (0 : Int32) M
theorem k_M_linesIn {X : FX} {g : GT} {A : Nat → Prop} {Z : State → Prop} {post : Int32 → Mem → Prop} (C : Cx X g layM A cX12_linesIn 9 RX12 2) (hr : 0 ≤ X.2.2.2.1.cells ∧ 0 ≤ X.2.2.2.1.slots) (hR : RetI X g layM A cX12_linesIn 9 0 0 Z post) (x1 x2 x3 x4 : Int32) (M : Mem) (h : P_M_linesIn post x1 x2 x3 x4 M) : AtX X g layM A 9 0 0 Z 0 [(0, .ref (ad g 0)), (1, .int x1), (2, .int x2), (3, .int x3), (4, .int x4)] [] M := by
  refine a_iconst C (0 : Int32) (tk T_cX12_linesIn 0 rfl) kI_0 ?_
  refine a_istore C (tk T_cX12_linesIn 1 rfl) (by decide) rfl ?_
  refine a_iconst C (0 : Int32) (tk T_cX12_linesIn 2 rfl) kI_0 ?_
  refine a_istore C (tk T_cX12_linesIn 3 rfl) (by decide) rfl ?_
  obtain ⟨n1, h⟩ := h
  exact a_to (k_M_linesIn_6 C hr hR n1 x1 x2 x3 x4 (0 : Int32) (0 : Int32) M h) rfl
theorem ct_M_linesIn {l : Launch} {g : GT} {post : Int32 → Mem → Prop} {x1 x2 x3 x4 : Int32} {M : Mem} (h : P_M_linesIn post x1 x2 x3 x4 M) : CI l g layM yX12_linesIn cX12_linesIn 9 (some .int) 2 [.ref (ad g 0), .int x1, .int x2, .int x3, .int x4] M post :=
  ci_of (plainFor_of_name (by decide +kernel)) (Nat.le_of_ble_eq_true rfl) (fun X A Z hl C hr hR => by subst hl; exact k_M_linesIn C hr hR x1 x2 x3 x4 M h)
def T_cX12_leftOfL : List (Nat × Instr × Nat) := [(0, .iconst 0, 1), (1, .istore 4, 2), (3, .iconst 0, 1), (4, .istore 5, 2), (6, .iload 5, 2), (8, .aload_n 0, 1), (9, .invokevirtual 128, 3), (12, .if_icmp .ge 50, 3), (15, .aload_n 0, 1), (16, .iload 5, 2), (18, .iconst 0, 1), (19, .invokevirtual 132, 3), (22, .iload_n 1, 1), (23, .if_icmp .ne 33, 3), (26, .aload_n 0, 1), (27, .iload 5, 2), (29, .invokevirtual 145, 3), (32, .ifCond .ne 24, 3), (35, .aload_n 0, 1), (36, .iload 5, 2), (38, .iload_n 2, 1), (39, .iload_n 3, 1), (40, .iconst 0, 1), (41, .invokevirtual 181, 3), (44, .ifCond .ne 12, 3), (47, .iload 4, 2), (49, .iconst 1, 1), (50, .iload 5, 2), (52, .ishl, 1), (53, .ior, 1), (54, .istore 4, 2), (56, .iinc 5 1, 3), (59, .goto (-53), 3), (62, .iload 4, 2), (64, .ireturn, 1)]
theorem T_cX12_leftOf : tabOK cX12_leftOf T_cX12_leftOfL = true := by decide +kernel
def P_M_leftOf_56 (post : Int32 → Mem → Prop) (R6 : Int32 → Int32 → Int32 → Int32 → Int32 → Mem → Prop) (x1 x2 x3 x4 x5 : Int32) (M : Mem) : Prop :=
  R6 x1 x2 x3 x4 (x5 + (1 : Int32)) M
theorem k_M_leftOf_56 {X : FX} {g : GT} {A : Nat → Prop} {Z : State → Prop} {post : Int32 → Mem → Prop} {R6 : Int32 → Int32 → Int32 → Int32 → Int32 → Mem → Prop} (C : Cx X g layM A cX12_leftOf 6 RX12 3) (hr : 0 ≤ X.2.2.2.1.cells ∧ 0 ≤ X.2.2.2.1.slots) (hR : RetI X g layM A cX12_leftOf 6 0 0 Z post) (k6 : ∀ (y1 y2 y3 y4 y5 : Int32) (M : Mem), R6 y1 y2 y3 y4 y5 M → AtX X g layM A 6 0 0 Z 6 [(0, .ref (ad g 0)), (1, .int y1), (2, .int y2), (3, .int y3), (4, .int y4), (5, .int y5)] [] M) (x1 x2 x3 x4 x5 : Int32) (M : Mem) (h : P_M_leftOf_56 post R6 x1 x2 x3 x4 x5 M) : AtX X g layM A 6 0 0 Z 56 [(0, .ref (ad g 0)), (1, .int x1), (2, .int x2), (3, .int x3), (4, .int x4), (5, .int x5)] [] M := by
  refine a_iinc C (1 : Int32) (tk T_cX12_leftOf 31 rfl) rfl kI_1 (by decide) rfl ?_
  refine a_goto C 6 (tk T_cX12_leftOf 32 rfl) rfl ?_
  exact a_to (k6 x1 x2 x3 x4 (x5 + (1 : Int32)) M h) rfl
def P_M_leftOf_6 (post : Int32 → Mem → Prop) : Nat → Int32 → Int32 → Int32 → Int32 → Int32 → Mem → Prop
  | 0, _, _, _, _, _, _ => False
  | n + 1, x1, x2, x3, x4, x5, M =>
    P_M_readings (fun r1 M1 =>
  (r1 ≤ x5 → (post x4 M1)) ∧
  (¬ r1 ≤ x5 → (P_M_of (fun r2 M2 =>
  (¬ r2 = x1 → (P_M_leftOf_56 post (P_M_leftOf_6 post n) x1 x2 x3 x4 x5 M2)) ∧
  (r2 = x1 → (P_M_isGhost (fun r3 M3 =>
  (¬ r3 = 0 → (P_M_leftOf_56 post (P_M_leftOf_6 post n) x1 x2 x3 x4 x5 M3)) ∧
  (r3 = 0 → (P_M_linesIn (fun r4 M4 =>
  (¬ r4 = 0 → (P_M_leftOf_56 post (P_M_leftOf_6 post n) x1 x2 x3 x4 x5 M4)) ∧
  (r4 = 0 → (∀ x4_5, x4_5 = (x4 ||| ((1 : Int32) <<< (x5 &&& 31))) → P_M_leftOf_56 post (P_M_leftOf_6 post n) x1 x2 x3 x4_5 x5 M4))) x5 x2 x3 (0 : Int32) M3))) x5 M2))) x5 (0 : Int32) M1))) M
theorem k_M_leftOf_6 {X : FX} {g : GT} {A : Nat → Prop} {Z : State → Prop} {post : Int32 → Mem → Prop} (C : Cx X g layM A cX12_leftOf 6 RX12 3) (hr : 0 ≤ X.2.2.2.1.cells ∧ 0 ≤ X.2.2.2.1.slots) (hR : RetI X g layM A cX12_leftOf 6 0 0 Z post) : ∀ (n : Nat) (x1 x2 x3 x4 x5 : Int32) (M : Mem), P_M_leftOf_6 post n x1 x2 x3 x4 x5 M → AtX X g layM A 6 0 0 Z 6 [(0, .ref (ad g 0)), (1, .int x1), (2, .int x2), (3, .int x3), (4, .int x4), (5, .int x5)] [] M := by
  intro n
  induction n with
  | zero =>
    intro x1 x2 x3 x4 x5 M h
    exact h.elim
  | succ n ih =>
    intro x1 x2 x3 x4 x5 M h
    refine a_iload C (tk T_cX12_leftOf 4 rfl) rfl ?_
    refine a_aload_n C (tk T_cX12_leftOf 5 rfl) rfl ?_
    refine a_callI C [] me_yX12_readings lk_RX12_128 (ct_M_readings h) (by decide) lm0 rfl rfl rfl (Nat.le_of_ble_eq_true rfl) (tk T_cX12_leftOf 6 rfl) hr (fun r1 M1 h => ?_)
    refine a_icmp_ge C 62 (tk T_cX12_leftOf 7 rfl) rfl (fun c => ?_) (fun c => ?_)
    · have h := h.1 c
      refine a_iload C (tk T_cX12_leftOf 33 rfl) rfl ?_
      exact hR _ _ _ _ (tk T_cX12_leftOf 34 rfl) h
    · have h := h.2 c
      refine a_aload_n C (tk T_cX12_leftOf 8 rfl) rfl ?_
      refine a_iload C (tk T_cX12_leftOf 9 rfl) rfl ?_
      refine a_iconst C (0 : Int32) (tk T_cX12_leftOf 10 rfl) kI_0 ?_
      refine a_callI C [.int x5, .int (0 : Int32)] me_yX12_of lk_RX12_132 (ct_M_of h) (by decide) lm0 rfl rfl rfl (Nat.le_of_ble_eq_true rfl) (tk T_cX12_leftOf 11 rfl) hr (fun r2 M2 h => ?_)
      refine a_iload_n C (tk T_cX12_leftOf 12 rfl) rfl ?_
      refine a_icmp_ne C 56 (tk T_cX12_leftOf 13 rfl) rfl (fun c => ?_) (fun c => ?_)
      · have h := h.1 c
        exact a_to (k_M_leftOf_56 C hr hR ih x1 x2 x3 x4 x5 M2 h) rfl
      · have h := h.2 c
        refine a_aload_n C (tk T_cX12_leftOf 14 rfl) rfl ?_
        refine a_iload C (tk T_cX12_leftOf 15 rfl) rfl ?_
        refine a_callI C [.int x5] me_yX12_isGhost lk_RX12_145 (ct_M_isGhost h) (by decide) lm0 rfl rfl rfl (Nat.le_of_ble_eq_true rfl) (tk T_cX12_leftOf 16 rfl) hr (fun r3 M3 h => ?_)
        refine a_if_ne C 56 (tk T_cX12_leftOf 17 rfl) rfl (fun c => ?_) (fun c => ?_)
        · have h := h.1 c
          exact a_to (k_M_leftOf_56 C hr hR ih x1 x2 x3 x4 x5 M3 h) rfl
        · have h := h.2 c
          refine a_aload_n C (tk T_cX12_leftOf 18 rfl) rfl ?_
          refine a_iload C (tk T_cX12_leftOf 19 rfl) rfl ?_
          refine a_iload_n C (tk T_cX12_leftOf 20 rfl) rfl ?_
          refine a_iload_n C (tk T_cX12_leftOf 21 rfl) rfl ?_
          refine a_iconst C (0 : Int32) (tk T_cX12_leftOf 22 rfl) kI_0 ?_
          refine a_callI C [.int x5, .int x2, .int x3, .int (0 : Int32)] me_yX12_linesIn lk_RX12_181 (ct_M_linesIn h) (by decide) lm0 rfl rfl rfl (Nat.le_of_ble_eq_true rfl) (tk T_cX12_leftOf 23 rfl) hr (fun r4 M4 h => ?_)
          refine a_if_ne C 56 (tk T_cX12_leftOf 24 rfl) rfl (fun c => ?_) (fun c => ?_)
          · have h := h.1 c
            exact a_to (k_M_leftOf_56 C hr hR ih x1 x2 x3 x4 x5 M4 h) rfl
          · have h := h.2 c
            refine a_iload C (tk T_cX12_leftOf 25 rfl) rfl ?_
            refine a_iconst C (1 : Int32) (tk T_cX12_leftOf 26 rfl) kI_1 ?_
            refine a_iload C (tk T_cX12_leftOf 27 rfl) rfl ?_
            refine a_ishl C (tk T_cX12_leftOf 28 rfl) ?_
            refine a_ior C (tk T_cX12_leftOf 29 rfl) ?_
            refine a_top (fun x4_5 e_x4_5 => ?_)
            have h := h x4_5 e_x4_5
            refine a_istore C (tk T_cX12_leftOf 30 rfl) (by decide) rfl ?_
            exact a_to (k_M_leftOf_56 C hr hR ih x1 x2 x3 x4_5 x5 M4 h) rfl
def P_M_leftOf (post : Int32 → Mem → Prop) (x1 x2 x3 : Int32) (M : Mem) : Prop :=
  ∃ j6, P_M_leftOf_6 post j6 x1 x2 x3 (0 : Int32) (0 : Int32) M
theorem k_M_leftOf {X : FX} {g : GT} {A : Nat → Prop} {Z : State → Prop} {post : Int32 → Mem → Prop} (C : Cx X g layM A cX12_leftOf 6 RX12 3) (hr : 0 ≤ X.2.2.2.1.cells ∧ 0 ≤ X.2.2.2.1.slots) (hR : RetI X g layM A cX12_leftOf 6 0 0 Z post) (x1 x2 x3 : Int32) (M : Mem) (h : P_M_leftOf post x1 x2 x3 M) : AtX X g layM A 6 0 0 Z 0 [(0, .ref (ad g 0)), (1, .int x1), (2, .int x2), (3, .int x3)] [] M := by
  refine a_iconst C (0 : Int32) (tk T_cX12_leftOf 0 rfl) kI_0 ?_
  refine a_istore C (tk T_cX12_leftOf 1 rfl) (by decide) rfl ?_
  refine a_iconst C (0 : Int32) (tk T_cX12_leftOf 2 rfl) kI_0 ?_
  refine a_istore C (tk T_cX12_leftOf 3 rfl) (by decide) rfl ?_
  obtain ⟨n1, h⟩ := h
  exact a_to (k_M_leftOf_6 C hr hR n1 x1 x2 x3 (0 : Int32) (0 : Int32) M h) rfl
theorem ct_M_leftOf {l : Launch} {g : GT} {post : Int32 → Mem → Prop} {x1 x2 x3 : Int32} {M : Mem} (h : P_M_leftOf post x1 x2 x3 M) : CI l g layM yX12_leftOf cX12_leftOf 6 (some .int) 3 [.ref (ad g 0), .int x1, .int x2, .int x3] M post :=
  ci_of (plainFor_of_name (by decide +kernel)) (Nat.le_of_ble_eq_true rfl) (fun X A Z hl C hr hR => by subst hl; exact k_M_leftOf C hr hR x1 x2 x3 M h)
def T_cX12_isSeenL : List (Nat × Instr × Nat) := [(0, .iconst 0, 1), (1, .istore_n 3, 1), (2, .iconst 0, 1), (3, .istore 4, 2), (5, .iload 4, 2), (7, .aload_n 0, 1), (8, .invokevirtual 128, 3), (11, .if_icmp .ge 40, 3), (14, .iload_n 3, 1), (15, .ifCond .ne 24, 3), (18, .aload_n 0, 1), (19, .iload 4, 2), (21, .iconst 0, 1), (22, .invokevirtual 132, 3), (25, .iload_n 1, 1), (26, .if_icmp .ne 17, 3), (29, .aload_n 0, 1), (30, .iload 4, 2), (32, .iload_n 2, 1), (33, .invokevirtual 178, 3), (36, .ifCond .eq 7, 3), (39, .iconst 1, 1), (40, .goto 4, 3), (43, .iconst 0, 1), (44, .istore_n 3, 1), (45, .iinc 4 1, 3), (48, .goto (-43), 3), (51, .iload_n 3, 1), (52, .ireturn, 1)]
theorem T_cX12_isSeen : tabOK cX12_isSeen T_cX12_isSeenL = true := by decide +kernel
def P_M_isSeen_44 (post : Int32 → Mem → Prop) (R5 : Int32 → Int32 → Int32 → Int32 → Mem → Prop) (x1 x2 x4 s0 : Int32) (M : Mem) : Prop :=
  R5 x1 x2 s0 (x4 + (1 : Int32)) M
theorem k_M_isSeen_44 {X : FX} {g : GT} {A : Nat → Prop} {Z : State → Prop} {post : Int32 → Mem → Prop} {R5 : Int32 → Int32 → Int32 → Int32 → Mem → Prop} (C : Cx X g layM A cX12_isSeen 5 RX12 2) (hr : 0 ≤ X.2.2.2.1.cells ∧ 0 ≤ X.2.2.2.1.slots) (hR : RetZ X g layM A cX12_isSeen 5 0 0 Z post) (k5 : ∀ (y1 y2 y3 y4 : Int32) (M : Mem), R5 y1 y2 y3 y4 M → AtX X g layM A 5 0 0 Z 5 [(0, .ref (ad g 0)), (1, .int y1), (2, .int y2), (3, .int y3), (4, .int y4)] [] M) (x1 x2 x4 s0 : Int32) (M : Mem) (h : P_M_isSeen_44 post R5 x1 x2 x4 s0 M) : AtX X g layM A 5 0 0 Z 44 [(0, .ref (ad g 0)), (1, .int x1), (2, .int x2), (4, .int x4)] [.int s0] M := by
  refine a_istore_n C (tk T_cX12_isSeen 24 rfl) (by decide) rfl ?_
  refine a_iinc C (1 : Int32) (tk T_cX12_isSeen 25 rfl) rfl kI_1 (by decide) rfl ?_
  refine a_goto C 5 (tk T_cX12_isSeen 26 rfl) rfl ?_
  exact a_to (k5 x1 x2 s0 (x4 + (1 : Int32)) M h) rfl
def P_M_isSeen_43 (post : Int32 → Mem → Prop) (R5 : Int32 → Int32 → Int32 → Int32 → Mem → Prop) (x1 x2 x4 : Int32) (M : Mem) : Prop :=
  P_M_isSeen_44 post R5 x1 x2 x4 (0 : Int32) M
theorem k_M_isSeen_43 {X : FX} {g : GT} {A : Nat → Prop} {Z : State → Prop} {post : Int32 → Mem → Prop} {R5 : Int32 → Int32 → Int32 → Int32 → Mem → Prop} (C : Cx X g layM A cX12_isSeen 5 RX12 2) (hr : 0 ≤ X.2.2.2.1.cells ∧ 0 ≤ X.2.2.2.1.slots) (hR : RetZ X g layM A cX12_isSeen 5 0 0 Z post) (k5 : ∀ (y1 y2 y3 y4 : Int32) (M : Mem), R5 y1 y2 y3 y4 M → AtX X g layM A 5 0 0 Z 5 [(0, .ref (ad g 0)), (1, .int y1), (2, .int y2), (3, .int y3), (4, .int y4)] [] M) (x1 x2 x4 : Int32) (M : Mem) (h : P_M_isSeen_43 post R5 x1 x2 x4 M) : AtX X g layM A 5 0 0 Z 43 [(0, .ref (ad g 0)), (1, .int x1), (2, .int x2), (4, .int x4)] [] M := by
  refine a_iconst C (0 : Int32) (tk T_cX12_isSeen 23 rfl) kI_0 ?_
  exact a_to (k_M_isSeen_44 C hr hR k5 x1 x2 x4 (0 : Int32) M h) rfl
def P_M_isSeen_39 (post : Int32 → Mem → Prop) (R5 : Int32 → Int32 → Int32 → Int32 → Mem → Prop) (x1 x2 x4 : Int32) (M : Mem) : Prop :=
  P_M_isSeen_44 post R5 x1 x2 x4 (1 : Int32) M
theorem k_M_isSeen_39 {X : FX} {g : GT} {A : Nat → Prop} {Z : State → Prop} {post : Int32 → Mem → Prop} {R5 : Int32 → Int32 → Int32 → Int32 → Mem → Prop} (C : Cx X g layM A cX12_isSeen 5 RX12 2) (hr : 0 ≤ X.2.2.2.1.cells ∧ 0 ≤ X.2.2.2.1.slots) (hR : RetZ X g layM A cX12_isSeen 5 0 0 Z post) (k5 : ∀ (y1 y2 y3 y4 : Int32) (M : Mem), R5 y1 y2 y3 y4 M → AtX X g layM A 5 0 0 Z 5 [(0, .ref (ad g 0)), (1, .int y1), (2, .int y2), (3, .int y3), (4, .int y4)] [] M) (x1 x2 x4 : Int32) (M : Mem) (h : P_M_isSeen_39 post R5 x1 x2 x4 M) : AtX X g layM A 5 0 0 Z 39 [(0, .ref (ad g 0)), (1, .int x1), (2, .int x2), (4, .int x4)] [] M := by
  refine a_iconst C (1 : Int32) (tk T_cX12_isSeen 21 rfl) kI_1 ?_
  refine a_goto C 44 (tk T_cX12_isSeen 22 rfl) rfl ?_
  exact a_to (k_M_isSeen_44 C hr hR k5 x1 x2 x4 (1 : Int32) M h) rfl
def P_M_isSeen_5 (post : Int32 → Mem → Prop) : Nat → Int32 → Int32 → Int32 → Int32 → Mem → Prop
  | 0, _, _, _, _, _ => False
  | n + 1, x1, x2, x3, x4, M =>
    P_M_readings (fun r1 M1 =>
  (r1 ≤ x4 → ((x3 = 0 ∨ x3 = 1) ∧ post x3 M1)) ∧
  (¬ r1 ≤ x4 → ((¬ x3 = 0 → (P_M_isSeen_39 post (P_M_isSeen_5 post n) x1 x2 x4 M1)) ∧
  (x3 = 0 → (P_M_of (fun r2 M2 =>
  (¬ r2 = x1 → (P_M_isSeen_43 post (P_M_isSeen_5 post n) x1 x2 x4 M2)) ∧
  (r2 = x1 → (P_M_isIn (fun r3 M3 =>
  (r3 = 0 → (P_M_isSeen_43 post (P_M_isSeen_5 post n) x1 x2 x4 M3)) ∧
  (¬ r3 = 0 → (P_M_isSeen_39 post (P_M_isSeen_5 post n) x1 x2 x4 M3))) x4 x2 M2))) x4 (0 : Int32) M1))))) M
theorem k_M_isSeen_5 {X : FX} {g : GT} {A : Nat → Prop} {Z : State → Prop} {post : Int32 → Mem → Prop} (C : Cx X g layM A cX12_isSeen 5 RX12 2) (hr : 0 ≤ X.2.2.2.1.cells ∧ 0 ≤ X.2.2.2.1.slots) (hR : RetZ X g layM A cX12_isSeen 5 0 0 Z post) : ∀ (n : Nat) (x1 x2 x3 x4 : Int32) (M : Mem), P_M_isSeen_5 post n x1 x2 x3 x4 M → AtX X g layM A 5 0 0 Z 5 [(0, .ref (ad g 0)), (1, .int x1), (2, .int x2), (3, .int x3), (4, .int x4)] [] M := by
  intro n
  induction n with
  | zero =>
    intro x1 x2 x3 x4 M h
    exact h.elim
  | succ n ih =>
    intro x1 x2 x3 x4 M h
    refine a_iload C (tk T_cX12_isSeen 4 rfl) rfl ?_
    refine a_aload_n C (tk T_cX12_isSeen 5 rfl) rfl ?_
    refine a_callI C [] me_yX12_readings lk_RX12_128 (ct_M_readings h) (by decide) lm0 rfl rfl rfl (Nat.le_of_ble_eq_true rfl) (tk T_cX12_isSeen 6 rfl) hr (fun r1 M1 h => ?_)
    refine a_icmp_ge C 51 (tk T_cX12_isSeen 7 rfl) rfl (fun c => ?_) (fun c => ?_)
    · have h := h.1 c
      refine a_iload_n C (tk T_cX12_isSeen 27 rfl) rfl ?_
      exact hR _ _ _ _ (tk T_cX12_isSeen 28 rfl) h
    · have h := h.2 c
      refine a_iload_n C (tk T_cX12_isSeen 8 rfl) rfl ?_
      refine a_if_ne C 39 (tk T_cX12_isSeen 9 rfl) rfl (fun c => ?_) (fun c => ?_)
      · have h := h.1 c
        exact a_to (k_M_isSeen_39 C hr hR ih x1 x2 x4 M1 h) rfl
      · have h := h.2 c
        refine a_aload_n C (tk T_cX12_isSeen 10 rfl) rfl ?_
        refine a_iload C (tk T_cX12_isSeen 11 rfl) rfl ?_
        refine a_iconst C (0 : Int32) (tk T_cX12_isSeen 12 rfl) kI_0 ?_
        refine a_callI C [.int x4, .int (0 : Int32)] me_yX12_of lk_RX12_132 (ct_M_of h) (by decide) lm0 rfl rfl rfl (Nat.le_of_ble_eq_true rfl) (tk T_cX12_isSeen 13 rfl) hr (fun r2 M2 h => ?_)
        refine a_iload_n C (tk T_cX12_isSeen 14 rfl) rfl ?_
        refine a_icmp_ne C 43 (tk T_cX12_isSeen 15 rfl) rfl (fun c => ?_) (fun c => ?_)
        · have h := h.1 c
          exact a_to (k_M_isSeen_43 C hr hR ih x1 x2 x4 M2 h) rfl
        · have h := h.2 c
          refine a_aload_n C (tk T_cX12_isSeen 16 rfl) rfl ?_
          refine a_iload C (tk T_cX12_isSeen 17 rfl) rfl ?_
          refine a_iload_n C (tk T_cX12_isSeen 18 rfl) rfl ?_
          refine a_callI C [.int x4, .int x2] me_yX12_isIn lk_RX12_178 (ct_M_isIn h) (by decide) lm0 rfl rfl rfl (Nat.le_of_ble_eq_true rfl) (tk T_cX12_isSeen 19 rfl) hr (fun r3 M3 h => ?_)
          refine a_if_eq C 43 (tk T_cX12_isSeen 20 rfl) rfl (fun c => ?_) (fun c => ?_)
          · have h := h.1 c
            exact a_to (k_M_isSeen_43 C hr hR ih x1 x2 x4 M3 h) rfl
          · have h := h.2 c
            exact a_to (k_M_isSeen_39 C hr hR ih x1 x2 x4 M3 h) rfl
def P_M_isSeen (post : Int32 → Mem → Prop) (x1 x2 : Int32) (M : Mem) : Prop :=
  ∃ j5, P_M_isSeen_5 post j5 x1 x2 (0 : Int32) (0 : Int32) M
theorem k_M_isSeen {X : FX} {g : GT} {A : Nat → Prop} {Z : State → Prop} {post : Int32 → Mem → Prop} (C : Cx X g layM A cX12_isSeen 5 RX12 2) (hr : 0 ≤ X.2.2.2.1.cells ∧ 0 ≤ X.2.2.2.1.slots) (hR : RetZ X g layM A cX12_isSeen 5 0 0 Z post) (x1 x2 : Int32) (M : Mem) (h : P_M_isSeen post x1 x2 M) : AtX X g layM A 5 0 0 Z 0 [(0, .ref (ad g 0)), (1, .int x1), (2, .int x2)] [] M := by
  refine a_iconst C (0 : Int32) (tk T_cX12_isSeen 0 rfl) kI_0 ?_
  refine a_istore_n C (tk T_cX12_isSeen 1 rfl) (by decide) rfl ?_
  refine a_iconst C (0 : Int32) (tk T_cX12_isSeen 2 rfl) kI_0 ?_
  refine a_istore C (tk T_cX12_isSeen 3 rfl) (by decide) rfl ?_
  obtain ⟨n1, h⟩ := h
  exact a_to (k_M_isSeen_5 C hr hR n1 x1 x2 (0 : Int32) (0 : Int32) M h) rfl
theorem ct_M_isSeen {l : Launch} {g : GT} {post : Int32 → Mem → Prop} {x1 x2 : Int32} {M : Mem} (h : P_M_isSeen post x1 x2 M) : CI l g layM yX12_isSeen cX12_isSeen 5 (some .boolean) 2 [.ref (ad g 0), .int x1, .int x2] M post :=
  cz_of (plainFor_of_name (by decide +kernel)) (Nat.le_of_ble_eq_true rfl) (fun X A Z hl C hr hR => by subst hl; exact k_M_isSeen C hr hR x1 x2 M h)
def T_cX12_missedOfL : List (Nat × Instr × Nat) := [(0, .iconst 0, 1), (1, .istore 4, 2), (3, .iconst 0, 1), (4, .istore 5, 2), (6, .iload 5, 2), (8, .aload_n 0, 1), (9, .getfield 13, 3), (12, .bipush 7, 2), (14, .iaload, 1), (15, .if_icmp .ge 79, 3), (18, .iconst 0, 1), (19, .istore 6, 2), (21, .iload 6, 2), (23, .aload_n 0, 1), (24, .iload 5, 2), (26, .invokevirtual 125, 3), (29, .if_icmp .ge 59, 3), (32, .iload 4, 2), (34, .aload_n 0, 1), (35, .iload_n 2, 1), (36, .iload 5, 2), (38, .invokevirtual 175, 3), (41, .ifCond .eq 37, 3), (44, .aload_n 0, 1), (45, .iload_n 1, 1), (46, .iload 5, 2), (48, .iload 6, 2), (50, .iload_n 3, 1), (51, .invokevirtual 171, 3), (54, .ifCond .eq 24, 3), (57, .aload_n 0, 1), (58, .iload_n 1, 1), (59, .aload_n 0, 1), (60, .iload 5, 2), (62, .iload 6, 2), (64, .iload_n 3, 1), (65, .invokevirtual 160, 3), (68, .invokevirtual 185, 3), (71, .ifCond .ne 7, 3), (74, .iconst 1, 1), (75, .goto 4, 3), (78, .iconst 0, 1), (79, .iadd, 1), (80, .istore 4, 2), (82, .iinc 6 1, 3), (85, .goto (-64), 3), (88, .iinc 5 1, 3), (91, .goto (-85), 3), (94, .iload 4, 2), (96, .ireturn, 1)]
theorem T_cX12_missedOf : tabOK cX12_missedOf T_cX12_missedOfL = true := by decide +kernel
def P_M_missedOf_79 (post : Int32 → Mem → Prop) (R6 : Int32 → Int32 → Int32 → Int32 → Int32 → Mem → Prop) (R21 : Int32 → Int32 → Int32 → Int32 → Int32 → Int32 → Mem → Prop) (x1 x2 x3 x5 x6 s0 s1 : Int32) (M : Mem) : Prop :=
  ∀ x4_1, x4_1 = (s0 + s1) → R21 x1 x2 x3 x4_1 x5 (x6 + (1 : Int32)) M
theorem k_M_missedOf_79 {X : FX} {g : GT} {A : Nat → Prop} {Z : State → Prop} {post : Int32 → Mem → Prop} {R6 : Int32 → Int32 → Int32 → Int32 → Int32 → Mem → Prop} {R21 : Int32 → Int32 → Int32 → Int32 → Int32 → Int32 → Mem → Prop} (C : Cx X g layM A cX12_missedOf 7 RX12 4) (hr : 0 ≤ X.2.2.2.1.cells ∧ 0 ≤ X.2.2.2.1.slots) (hR : RetI X g layM A cX12_missedOf 7 0 0 Z post) (k6 : ∀ (y1 y2 y3 y4 y5 : Int32) (M : Mem), R6 y1 y2 y3 y4 y5 M → AtX X g layM A 7 0 0 Z 6 [(0, .ref (ad g 0)), (1, .int y1), (2, .int y2), (3, .int y3), (4, .int y4), (5, .int y5)] [] M) (k21 : ∀ (y1 y2 y3 y4 y5 y6 : Int32) (M : Mem), R21 y1 y2 y3 y4 y5 y6 M → AtX X g layM A 7 0 0 Z 21 [(0, .ref (ad g 0)), (1, .int y1), (2, .int y2), (3, .int y3), (4, .int y4), (5, .int y5), (6, .int y6)] [] M) (x1 x2 x3 x5 x6 s0 s1 : Int32) (M : Mem) (h : P_M_missedOf_79 post R6 R21 x1 x2 x3 x5 x6 s0 s1 M) : AtX X g layM A 7 0 0 Z 79 [(0, .ref (ad g 0)), (1, .int x1), (2, .int x2), (3, .int x3), (5, .int x5), (6, .int x6)] [.int s1, .int s0] M := by
  refine a_iadd C (tk T_cX12_missedOf 42 rfl) ?_
  refine a_top (fun x4_1 e_x4_1 => ?_)
  have h := h x4_1 e_x4_1
  refine a_istore C (tk T_cX12_missedOf 43 rfl) (by decide) rfl ?_
  refine a_iinc C (1 : Int32) (tk T_cX12_missedOf 44 rfl) rfl kI_1 (by decide) rfl ?_
  refine a_goto C 21 (tk T_cX12_missedOf 45 rfl) rfl ?_
  exact a_to (k21 x1 x2 x3 x4_1 x5 (x6 + (1 : Int32)) M h) rfl
def P_M_missedOf_78 (post : Int32 → Mem → Prop) (R6 : Int32 → Int32 → Int32 → Int32 → Int32 → Mem → Prop) (R21 : Int32 → Int32 → Int32 → Int32 → Int32 → Int32 → Mem → Prop) (x1 x2 x3 x5 x6 s0 : Int32) (M : Mem) : Prop :=
  P_M_missedOf_79 post R6 R21 x1 x2 x3 x5 x6 s0 (0 : Int32) M
theorem k_M_missedOf_78 {X : FX} {g : GT} {A : Nat → Prop} {Z : State → Prop} {post : Int32 → Mem → Prop} {R6 : Int32 → Int32 → Int32 → Int32 → Int32 → Mem → Prop} {R21 : Int32 → Int32 → Int32 → Int32 → Int32 → Int32 → Mem → Prop} (C : Cx X g layM A cX12_missedOf 7 RX12 4) (hr : 0 ≤ X.2.2.2.1.cells ∧ 0 ≤ X.2.2.2.1.slots) (hR : RetI X g layM A cX12_missedOf 7 0 0 Z post) (k6 : ∀ (y1 y2 y3 y4 y5 : Int32) (M : Mem), R6 y1 y2 y3 y4 y5 M → AtX X g layM A 7 0 0 Z 6 [(0, .ref (ad g 0)), (1, .int y1), (2, .int y2), (3, .int y3), (4, .int y4), (5, .int y5)] [] M) (k21 : ∀ (y1 y2 y3 y4 y5 y6 : Int32) (M : Mem), R21 y1 y2 y3 y4 y5 y6 M → AtX X g layM A 7 0 0 Z 21 [(0, .ref (ad g 0)), (1, .int y1), (2, .int y2), (3, .int y3), (4, .int y4), (5, .int y5), (6, .int y6)] [] M) (x1 x2 x3 x5 x6 s0 : Int32) (M : Mem) (h : P_M_missedOf_78 post R6 R21 x1 x2 x3 x5 x6 s0 M) : AtX X g layM A 7 0 0 Z 78 [(0, .ref (ad g 0)), (1, .int x1), (2, .int x2), (3, .int x3), (5, .int x5), (6, .int x6)] [.int s0] M := by
  refine a_iconst C (0 : Int32) (tk T_cX12_missedOf 41 rfl) kI_0 ?_
  exact a_to (k_M_missedOf_79 C hr hR k6 k21 x1 x2 x3 x5 x6 s0 (0 : Int32) M h) rfl
def P_M_missedOf_21 (post : Int32 → Mem → Prop) (R6 : Int32 → Int32 → Int32 → Int32 → Int32 → Mem → Prop) : Nat → Int32 → Int32 → Int32 → Int32 → Int32 → Int32 → Mem → Prop
  | 0, _, _, _, _, _, _, _ => False
  | n + 1, x1, x2, x3, x4, x5, x6, M =>
    P_M_lines (fun r1 M1 =>
  (r1 ≤ x6 → (R6 x1 x2 x3 x4 (x5 + (1 : Int32)) M1)) ∧
  (¬ r1 ≤ x6 → (P_M_isInSet (fun r2 M2 =>
  (r2 = 0 → (P_M_missedOf_78 post R6 (P_M_missedOf_21 post R6 n) x1 x2 x3 x5 x6 x4 M2)) ∧
  (¬ r2 = 0 → (P_M_mustOn (fun r3 M3 =>
  (r3 = 0 → (P_M_missedOf_78 post R6 (P_M_missedOf_21 post R6 n) x1 x2 x3 x5 x6 x4 M3)) ∧
  (¬ r3 = 0 → (P_M_shifted (fun r4 M4 =>
  P_M_isSeen (fun r5 M5 =>
  (¬ r5 = 0 → (P_M_missedOf_78 post R6 (P_M_missedOf_21 post R6 n) x1 x2 x3 x5 x6 x4 M5)) ∧
  (r5 = 0 → (P_M_missedOf_79 post R6 (P_M_missedOf_21 post R6 n) x1 x2 x3 x5 x6 x4 (1 : Int32) M5))) x1 r4 M4) x5 x6 x3 M3))) x1 x5 x6 x3 M2))) x2 x5 M1))) x5 M
theorem k_M_missedOf_21 {X : FX} {g : GT} {A : Nat → Prop} {Z : State → Prop} {post : Int32 → Mem → Prop} {R6 : Int32 → Int32 → Int32 → Int32 → Int32 → Mem → Prop} (C : Cx X g layM A cX12_missedOf 7 RX12 4) (hr : 0 ≤ X.2.2.2.1.cells ∧ 0 ≤ X.2.2.2.1.slots) (hR : RetI X g layM A cX12_missedOf 7 0 0 Z post) (k6 : ∀ (y1 y2 y3 y4 y5 : Int32) (M : Mem), R6 y1 y2 y3 y4 y5 M → AtX X g layM A 7 0 0 Z 6 [(0, .ref (ad g 0)), (1, .int y1), (2, .int y2), (3, .int y3), (4, .int y4), (5, .int y5)] [] M) : ∀ (n : Nat) (x1 x2 x3 x4 x5 x6 : Int32) (M : Mem), P_M_missedOf_21 post R6 n x1 x2 x3 x4 x5 x6 M → AtX X g layM A 7 0 0 Z 21 [(0, .ref (ad g 0)), (1, .int x1), (2, .int x2), (3, .int x3), (4, .int x4), (5, .int x5), (6, .int x6)] [] M := by
  intro n
  induction n with
  | zero =>
    intro x1 x2 x3 x4 x5 x6 M h
    exact h.elim
  | succ n ih =>
    intro x1 x2 x3 x4 x5 x6 M h
    refine a_iload C (tk T_cX12_missedOf 12 rfl) rfl ?_
    refine a_aload_n C (tk T_cX12_missedOf 13 rfl) rfl ?_
    refine a_iload C (tk T_cX12_missedOf 14 rfl) rfl ?_
    refine a_callI C [.int x5] me_yX12_lines lk_RX12_125 (ct_M_lines h) (by decide) lm0 rfl rfl rfl (Nat.le_of_ble_eq_true rfl) (tk T_cX12_missedOf 15 rfl) hr (fun r1 M1 h => ?_)
    refine a_icmp_ge C 88 (tk T_cX12_missedOf 16 rfl) rfl (fun c => ?_) (fun c => ?_)
    · have h := h.1 c
      refine a_iinc C (1 : Int32) (tk T_cX12_missedOf 46 rfl) rfl kI_1 (by decide) rfl ?_
      refine a_goto C 6 (tk T_cX12_missedOf 47 rfl) rfl ?_
      exact a_to (k6 x1 x2 x3 x4 (x5 + (1 : Int32)) M1 h) rfl
    · have h := h.2 c
      refine a_iload C (tk T_cX12_missedOf 17 rfl) rfl ?_
      refine a_aload_n C (tk T_cX12_missedOf 18 rfl) rfl ?_
      refine a_iload_n C (tk T_cX12_missedOf 19 rfl) rfl ?_
      refine a_iload C (tk T_cX12_missedOf 20 rfl) rfl ?_
      refine a_callI C [.int x2, .int x5] me_yX12_isInSet lk_RX12_175 (ct_M_isInSet h) (by decide) lm0 rfl rfl rfl (Nat.le_of_ble_eq_true rfl) (tk T_cX12_missedOf 21 rfl) hr (fun r2 M2 h => ?_)
      refine a_if_eq C 78 (tk T_cX12_missedOf 22 rfl) rfl (fun c => ?_) (fun c => ?_)
      · have h := h.1 c
        exact a_to (k_M_missedOf_78 C hr hR k6 ih x1 x2 x3 x5 x6 x4 M2 h) rfl
      · have h := h.2 c
        refine a_aload_n C (tk T_cX12_missedOf 23 rfl) rfl ?_
        refine a_iload_n C (tk T_cX12_missedOf 24 rfl) rfl ?_
        refine a_iload C (tk T_cX12_missedOf 25 rfl) rfl ?_
        refine a_iload C (tk T_cX12_missedOf 26 rfl) rfl ?_
        refine a_iload_n C (tk T_cX12_missedOf 27 rfl) rfl ?_
        refine a_callI C [.int x1, .int x5, .int x6, .int x3] me_yX12_mustOn lk_RX12_171 (ct_M_mustOn h) (by decide) lm0 rfl rfl rfl (Nat.le_of_ble_eq_true rfl) (tk T_cX12_missedOf 28 rfl) hr (fun r3 M3 h => ?_)
        refine a_if_eq C 78 (tk T_cX12_missedOf 29 rfl) rfl (fun c => ?_) (fun c => ?_)
        · have h := h.1 c
          exact a_to (k_M_missedOf_78 C hr hR k6 ih x1 x2 x3 x5 x6 x4 M3 h) rfl
        · have h := h.2 c
          refine a_aload_n C (tk T_cX12_missedOf 30 rfl) rfl ?_
          refine a_iload_n C (tk T_cX12_missedOf 31 rfl) rfl ?_
          refine a_aload_n C (tk T_cX12_missedOf 32 rfl) rfl ?_
          refine a_iload C (tk T_cX12_missedOf 33 rfl) rfl ?_
          refine a_iload C (tk T_cX12_missedOf 34 rfl) rfl ?_
          refine a_iload_n C (tk T_cX12_missedOf 35 rfl) rfl ?_
          refine a_callI C [.int x5, .int x6, .int x3] me_yX12_shifted lk_RX12_160 (ct_M_shifted h) (by decide) lm0 rfl rfl rfl (Nat.le_of_ble_eq_true rfl) (tk T_cX12_missedOf 36 rfl) hr (fun r4 M4 h => ?_)
          refine a_callI C [.int x1, .int r4] me_yX12_isSeen lk_RX12_185 (ct_M_isSeen h) (by decide) lm0 rfl rfl rfl (Nat.le_of_ble_eq_true rfl) (tk T_cX12_missedOf 37 rfl) hr (fun r5 M5 h => ?_)
          refine a_if_ne C 78 (tk T_cX12_missedOf 38 rfl) rfl (fun c => ?_) (fun c => ?_)
          · have h := h.1 c
            exact a_to (k_M_missedOf_78 C hr hR k6 ih x1 x2 x3 x5 x6 x4 M5 h) rfl
          · have h := h.2 c
            refine a_iconst C (1 : Int32) (tk T_cX12_missedOf 39 rfl) kI_1 ?_
            refine a_goto C 79 (tk T_cX12_missedOf 40 rfl) rfl ?_
            exact a_to (k_M_missedOf_79 C hr hR k6 ih x1 x2 x3 x5 x6 x4 (1 : Int32) M5 h) rfl
def P_M_missedOf_6 (post : Int32 → Mem → Prop) : Nat → Int32 → Int32 → Int32 → Int32 → Int32 → Mem → Prop
  | 0, _, _, _, _, _, _ => False
  | n + 1, x1, x2, x3, x4, x5, M =>
    vp_in (7 : Int32) 5966 ∧ ((M 1 (7 : Int32).toNatClampNeg) ≤ x5 → (post x4 M)) ∧
  (¬ (M 1 (7 : Int32).toNatClampNeg) ≤ x5 → (∃ j21, P_M_missedOf_21 post (P_M_missedOf_6 post n) j21 x1 x2 x3 x4 x5 (0 : Int32) M))
theorem k_M_missedOf_6 {X : FX} {g : GT} {A : Nat → Prop} {Z : State → Prop} {post : Int32 → Mem → Prop} (C : Cx X g layM A cX12_missedOf 7 RX12 4) (hr : 0 ≤ X.2.2.2.1.cells ∧ 0 ≤ X.2.2.2.1.slots) (hR : RetI X g layM A cX12_missedOf 7 0 0 Z post) : ∀ (n : Nat) (x1 x2 x3 x4 x5 : Int32) (M : Mem), P_M_missedOf_6 post n x1 x2 x3 x4 x5 M → AtX X g layM A 7 0 0 Z 6 [(0, .ref (ad g 0)), (1, .int x1), (2, .int x2), (3, .int x3), (4, .int x4), (5, .int x5)] [] M := by
  intro n
  induction n with
  | zero =>
    intro x1 x2 x3 x4 x5 M h
    exact h.elim
  | succ n ih =>
    intro x1 x2 x3 x4 x5 M h
    refine a_iload C (tk T_cX12_missedOf 4 rfl) rfl ?_
    refine a_aload_n C (tk T_cX12_missedOf 5 rfl) rfl ?_
    refine a_getR C f_RX12_13 (tk T_cX12_missedOf 6 rfl) lm0 rfl ?_
    refine a_bipush C (7 : Int32) (tk T_cX12_missedOf 7 rfl) kB_7 ?_
    obtain ⟨hb, h⟩ := h
    refine a_iald C (tk T_cX12_missedOf 8 rfl) lm1 hb ?_
    refine a_icmp_ge C 94 (tk T_cX12_missedOf 9 rfl) rfl (fun c => ?_) (fun c => ?_)
    · have h := h.1 c
      refine a_iload C (tk T_cX12_missedOf 48 rfl) rfl ?_
      exact hR _ _ _ _ (tk T_cX12_missedOf 49 rfl) h
    · have h := h.2 c
      refine a_iconst C (0 : Int32) (tk T_cX12_missedOf 10 rfl) kI_0 ?_
      refine a_istore C (tk T_cX12_missedOf 11 rfl) (by decide) rfl ?_
      obtain ⟨n1, h⟩ := h
      exact a_to (k_M_missedOf_21 C hr hR ih n1 x1 x2 x3 x4 x5 (0 : Int32) M h) rfl
def P_M_missedOf (post : Int32 → Mem → Prop) (x1 x2 x3 : Int32) (M : Mem) : Prop :=
  ∃ j6, P_M_missedOf_6 post j6 x1 x2 x3 (0 : Int32) (0 : Int32) M
theorem k_M_missedOf {X : FX} {g : GT} {A : Nat → Prop} {Z : State → Prop} {post : Int32 → Mem → Prop} (C : Cx X g layM A cX12_missedOf 7 RX12 4) (hr : 0 ≤ X.2.2.2.1.cells ∧ 0 ≤ X.2.2.2.1.slots) (hR : RetI X g layM A cX12_missedOf 7 0 0 Z post) (x1 x2 x3 : Int32) (M : Mem) (h : P_M_missedOf post x1 x2 x3 M) : AtX X g layM A 7 0 0 Z 0 [(0, .ref (ad g 0)), (1, .int x1), (2, .int x2), (3, .int x3)] [] M := by
  refine a_iconst C (0 : Int32) (tk T_cX12_missedOf 0 rfl) kI_0 ?_
  refine a_istore C (tk T_cX12_missedOf 1 rfl) (by decide) rfl ?_
  refine a_iconst C (0 : Int32) (tk T_cX12_missedOf 2 rfl) kI_0 ?_
  refine a_istore C (tk T_cX12_missedOf 3 rfl) (by decide) rfl ?_
  obtain ⟨n1, h⟩ := h
  exact a_to (k_M_missedOf_6 C hr hR n1 x1 x2 x3 (0 : Int32) (0 : Int32) M h) rfl
theorem ct_M_missedOf {l : Launch} {g : GT} {post : Int32 → Mem → Prop} {x1 x2 x3 : Int32} {M : Mem} (h : P_M_missedOf post x1 x2 x3 M) : CI l g layM yX12_missedOf cX12_missedOf 7 (some .int) 4 [.ref (ad g 0), .int x1, .int x2, .int x3] M post :=
  ci_of (plainFor_of_name (by decide +kernel)) (Nat.le_of_ble_eq_true rfl) (fun X A Z hl C hr hR => by subst hl; exact k_M_missedOf C hr hR x1 x2 x3 M h)
def T_cX12_explainsByL : List (Nat × Instr × Nat) := [(0, .aload_n 0, 1), (1, .iload_n 1, 1), (2, .iload_n 2, 1), (3, .iload_n 3, 1), (4, .invokevirtual 188, 3), (7, .ifCond .ne 17, 3), (10, .aload_n 0, 1), (11, .iload_n 1, 1), (12, .iload_n 2, 1), (13, .iload_n 3, 1), (14, .invokevirtual 191, 3), (17, .ifCond .ne 7, 3), (20, .iconst 1, 1), (21, .goto 4, 3), (24, .iconst 0, 1), (25, .ireturn, 1)]
theorem T_cX12_explainsBy : tabOK cX12_explainsBy T_cX12_explainsByL = true := by decide +kernel
def P_M_explainsBy_25 (post : Int32 → Mem → Prop) (s0 : Int32) (M : Mem) : Prop :=
  (s0 = 0 ∨ s0 = 1) ∧ post s0 M
theorem k_M_explainsBy_25 {X : FX} {g : GT} {A : Nat → Prop} {Z : State → Prop} {post : Int32 → Mem → Prop} (C : Cx X g layM A cX12_explainsBy 4 RX12 5) (hr : 0 ≤ X.2.2.2.1.cells ∧ 0 ≤ X.2.2.2.1.slots) (hR : RetZ X g layM A cX12_explainsBy 4 0 0 Z post) (s0 : Int32) (M : Mem) (h : P_M_explainsBy_25 post s0 M) : AtX X g layM A 4 0 0 Z 25 [] [.int s0] M := by
  exact hR _ _ _ _ (tk T_cX12_explainsBy 15 rfl) h
def P_M_explainsBy_24 (post : Int32 → Mem → Prop) (M : Mem) : Prop :=
  P_M_explainsBy_25 post (0 : Int32) M
theorem k_M_explainsBy_24 {X : FX} {g : GT} {A : Nat → Prop} {Z : State → Prop} {post : Int32 → Mem → Prop} (C : Cx X g layM A cX12_explainsBy 4 RX12 5) (hr : 0 ≤ X.2.2.2.1.cells ∧ 0 ≤ X.2.2.2.1.slots) (hR : RetZ X g layM A cX12_explainsBy 4 0 0 Z post)  (M : Mem) (h : P_M_explainsBy_24 post M) : AtX X g layM A 4 0 0 Z 24 [] [] M := by
  refine a_iconst C (0 : Int32) (tk T_cX12_explainsBy 14 rfl) kI_0 ?_
  exact a_to (k_M_explainsBy_25 C hr hR (0 : Int32) M h) rfl
def P_M_explainsBy (post : Int32 → Mem → Prop) (x1 x2 x3 : Int32) (M : Mem) : Prop :=
  P_M_leftOf (fun r1 M1 =>
  (¬ r1 = 0 → (P_M_explainsBy_24 post M1)) ∧
  (r1 = 0 → (P_M_missedOf (fun r2 M2 =>
  (¬ r2 = 0 → (P_M_explainsBy_24 post M2)) ∧
  (r2 = 0 → (P_M_explainsBy_25 post (1 : Int32) M2))) x1 x2 x3 M1))) x1 x2 x3 M
theorem k_M_explainsBy {X : FX} {g : GT} {A : Nat → Prop} {Z : State → Prop} {post : Int32 → Mem → Prop} (C : Cx X g layM A cX12_explainsBy 4 RX12 5) (hr : 0 ≤ X.2.2.2.1.cells ∧ 0 ≤ X.2.2.2.1.slots) (hR : RetZ X g layM A cX12_explainsBy 4 0 0 Z post) (x1 x2 x3 : Int32) (M : Mem) (h : P_M_explainsBy post x1 x2 x3 M) : AtX X g layM A 4 0 0 Z 0 [(0, .ref (ad g 0)), (1, .int x1), (2, .int x2), (3, .int x3)] [] M := by
  refine a_aload_n C (tk T_cX12_explainsBy 0 rfl) rfl ?_
  refine a_iload_n C (tk T_cX12_explainsBy 1 rfl) rfl ?_
  refine a_iload_n C (tk T_cX12_explainsBy 2 rfl) rfl ?_
  refine a_iload_n C (tk T_cX12_explainsBy 3 rfl) rfl ?_
  refine a_callI C [.int x1, .int x2, .int x3] me_yX12_leftOf lk_RX12_188 (ct_M_leftOf h) (by decide) lm0 rfl rfl rfl (Nat.le_of_ble_eq_true rfl) (tk T_cX12_explainsBy 4 rfl) hr (fun r1 M1 h => ?_)
  refine a_if_ne C 24 (tk T_cX12_explainsBy 5 rfl) rfl (fun c => ?_) (fun c => ?_)
  · have h := h.1 c
    exact a_to (k_M_explainsBy_24 C hr hR M1 h) rfl
  · have h := h.2 c
    refine a_aload_n C (tk T_cX12_explainsBy 6 rfl) rfl ?_
    refine a_iload_n C (tk T_cX12_explainsBy 7 rfl) rfl ?_
    refine a_iload_n C (tk T_cX12_explainsBy 8 rfl) rfl ?_
    refine a_iload_n C (tk T_cX12_explainsBy 9 rfl) rfl ?_
    refine a_callI C [.int x1, .int x2, .int x3] me_yX12_missedOf lk_RX12_191 (ct_M_missedOf h) (by decide) lm0 rfl rfl rfl (Nat.le_of_ble_eq_true rfl) (tk T_cX12_explainsBy 10 rfl) hr (fun r2 M2 h => ?_)
    refine a_if_ne C 24 (tk T_cX12_explainsBy 11 rfl) rfl (fun c => ?_) (fun c => ?_)
    · have h := h.1 c
      exact a_to (k_M_explainsBy_24 C hr hR M2 h) rfl
    · have h := h.2 c
      refine a_iconst C (1 : Int32) (tk T_cX12_explainsBy 12 rfl) kI_1 ?_
      refine a_goto C 25 (tk T_cX12_explainsBy 13 rfl) rfl ?_
      exact a_to (k_M_explainsBy_25 C hr hR (1 : Int32) M2 h) rfl
theorem ct_M_explainsBy {l : Launch} {g : GT} {post : Int32 → Mem → Prop} {x1 x2 x3 : Int32} {M : Mem} (h : P_M_explainsBy post x1 x2 x3 M) : CI l g layM yX12_explainsBy cX12_explainsBy 4 (some .boolean) 5 [.ref (ad g 0), .int x1, .int x2, .int x3] M post :=
  cz_of (plainFor_of_name (by decide +kernel)) (Nat.le_of_ble_eq_true rfl) (fun X A Z hl C hr hR => by subst hl; exact k_M_explainsBy C hr hR x1 x2 x3 M h)
def T_cX12_noQuestionL : List (Nat × Instr × Nat) := [(0, .aload_n 0, 1), (1, .aload_n 0, 1), (2, .iload_n 1, 1), (3, .bipush 8, 2), (5, .invokevirtual 121, 3), (8, .iconst 1, 1), (9, .invokevirtual 72, 3), (12, .ifCond .ne 15, 3), (15, .aload_n 0, 1), (16, .iload_n 2, 1), (17, .invokestatic 157, 3), (20, .iconst 2, 1), (21, .invokevirtual 72, 3), (24, .ifCond .eq 7, 3), (27, .iconst 1, 1), (28, .goto 4, 3), (31, .iconst 0, 1), (32, .ireturn, 1)]
theorem T_cX12_noQuestion : tabOK cX12_noQuestion T_cX12_noQuestionL = true := by decide +kernel
def P_M_noQuestion_32 (post : Int32 → Mem → Prop) (s0 : Int32) (M : Mem) : Prop :=
  (s0 = 0 ∨ s0 = 1) ∧ post s0 M
theorem k_M_noQuestion_32 {X : FX} {g : GT} {A : Nat → Prop} {Z : State → Prop} {post : Int32 → Mem → Prop} (C : Cx X g layM A cX12_noQuestion 3 RX12 2) (hr : 0 ≤ X.2.2.2.1.cells ∧ 0 ≤ X.2.2.2.1.slots) (hR : RetZ X g layM A cX12_noQuestion 3 0 0 Z post) (s0 : Int32) (M : Mem) (h : P_M_noQuestion_32 post s0 M) : AtX X g layM A 3 0 0 Z 32 [] [.int s0] M := by
  exact hR _ _ _ _ (tk T_cX12_noQuestion 17 rfl) h
def P_M_noQuestion_27 (post : Int32 → Mem → Prop) (M : Mem) : Prop :=
  P_M_noQuestion_32 post (1 : Int32) M
theorem k_M_noQuestion_27 {X : FX} {g : GT} {A : Nat → Prop} {Z : State → Prop} {post : Int32 → Mem → Prop} (C : Cx X g layM A cX12_noQuestion 3 RX12 2) (hr : 0 ≤ X.2.2.2.1.cells ∧ 0 ≤ X.2.2.2.1.slots) (hR : RetZ X g layM A cX12_noQuestion 3 0 0 Z post)  (M : Mem) (h : P_M_noQuestion_27 post M) : AtX X g layM A 3 0 0 Z 27 [] [] M := by
  refine a_iconst C (1 : Int32) (tk T_cX12_noQuestion 14 rfl) kI_1 ?_
  refine a_goto C 32 (tk T_cX12_noQuestion 15 rfl) rfl ?_
  exact a_to (k_M_noQuestion_32 C hr hR (1 : Int32) M h) rfl
def P_M_noQuestion (post : Int32 → Mem → Prop) (x1 x2 : Int32) (M : Mem) : Prop :=
  P_M_none (fun r1 M1 =>
  P_M_throwsIf (fun r2 M2 =>
  (¬ r2 = 0 → (P_M_noQuestion_27 post M2)) ∧
  (r2 = 0 → (P_M_noSpeed (fun r3 M3 =>
  P_M_throwsIf (fun r4 M4 =>
  (r4 = 0 → (P_M_noQuestion_32 post (0 : Int32) M4)) ∧
  (¬ r4 = 0 → (P_M_noQuestion_27 post M4))) r3 (2 : Int32) M3) x2 M2))) r1 (1 : Int32) M1) x1 (8 : Int32) M
theorem k_M_noQuestion {X : FX} {g : GT} {A : Nat → Prop} {Z : State → Prop} {post : Int32 → Mem → Prop} (C : Cx X g layM A cX12_noQuestion 3 RX12 2) (hr : 0 ≤ X.2.2.2.1.cells ∧ 0 ≤ X.2.2.2.1.slots) (hR : RetZ X g layM A cX12_noQuestion 3 0 0 Z post) (x1 x2 : Int32) (M : Mem) (h : P_M_noQuestion post x1 x2 M) : AtX X g layM A 3 0 0 Z 0 [(0, .ref (ad g 0)), (1, .int x1), (2, .int x2)] [] M := by
  refine a_aload_n C (tk T_cX12_noQuestion 0 rfl) rfl ?_
  refine a_aload_n C (tk T_cX12_noQuestion 1 rfl) rfl ?_
  refine a_iload_n C (tk T_cX12_noQuestion 2 rfl) rfl ?_
  refine a_bipush C (8 : Int32) (tk T_cX12_noQuestion 3 rfl) kB_8 ?_
  refine a_callI C [.int x1, .int (8 : Int32)] me_yX12_none lk_RX12_121 (ct_M_none h) (by decide) lm0 rfl rfl rfl (Nat.le_of_ble_eq_true rfl) (tk T_cX12_noQuestion 4 rfl) hr (fun r1 M1 h => ?_)
  refine a_iconst C (1 : Int32) (tk T_cX12_noQuestion 5 rfl) kI_1 ?_
  refine a_callI C [.int r1, .int (1 : Int32)] me_yX12_throwsIf lk_RX12_72 (ct_M_throwsIf h) (by decide) lm0 rfl rfl rfl (Nat.le_of_ble_eq_true rfl) (tk T_cX12_noQuestion 6 rfl) hr (fun r2 M2 h => ?_)
  refine a_if_ne C 27 (tk T_cX12_noQuestion 7 rfl) rfl (fun c => ?_) (fun c => ?_)
  · have h := h.1 c
    exact a_to (k_M_noQuestion_27 C hr hR M2 h) rfl
  · have h := h.2 c
    refine a_aload_n C (tk T_cX12_noQuestion 8 rfl) rfl ?_
    refine a_iload_n C (tk T_cX12_noQuestion 9 rfl) rfl ?_
    refine a_statI C [.int x2] me_yX12_noSpeed lk_RX12_157 (ct_M_noSpeed h) (by decide) rfl rfl (Nat.le_of_ble_eq_true rfl) (tk T_cX12_noQuestion 10 rfl) hr (fun r3 M3 h => ?_)
    refine a_iconst C (2 : Int32) (tk T_cX12_noQuestion 11 rfl) kI_2 ?_
    refine a_callI C [.int r3, .int (2 : Int32)] me_yX12_throwsIf lk_RX12_72 (ct_M_throwsIf h) (by decide) lm0 rfl rfl rfl (Nat.le_of_ble_eq_true rfl) (tk T_cX12_noQuestion 12 rfl) hr (fun r4 M4 h => ?_)
    refine a_if_eq C 31 (tk T_cX12_noQuestion 13 rfl) rfl (fun c => ?_) (fun c => ?_)
    · have h := h.1 c
      refine a_iconst C (0 : Int32) (tk T_cX12_noQuestion 16 rfl) kI_0 ?_
      exact a_to (k_M_noQuestion_32 C hr hR (0 : Int32) M4 h) rfl
    · have h := h.2 c
      exact a_to (k_M_noQuestion_27 C hr hR M4 h) rfl
theorem ct_M_noQuestion {l : Launch} {g : GT} {post : Int32 → Mem → Prop} {x1 x2 : Int32} {M : Mem} (h : P_M_noQuestion post x1 x2 M) : CI l g layM yX12_noQuestion cX12_noQuestion 3 (some .boolean) 2 [.ref (ad g 0), .int x1, .int x2] M post :=
  cz_of (plainFor_of_name (by decide +kernel)) (Nat.le_of_ble_eq_true rfl) (fun X A Z hl C hr hR => by subst hl; exact k_M_noQuestion C hr hR x1 x2 M h)
def T_cX12_explainsL : List (Nat × Instr × Nat) := [(0, .aload_n 0, 1), (1, .iconst 0, 1), (2, .putfield 3, 3), (5, .aload_n 0, 1), (6, .iload_n 1, 1), (7, .iload_n 3, 1), (8, .invokevirtual 194, 3), (11, .ifCond .eq 5, 3), (14, .iconst 0, 1), (15, .ireturn, 1), (16, .aload_n 0, 1), (17, .invokevirtual 197, 3), (20, .aload_n 0, 1), (21, .iload_n 1, 1), (22, .iload_n 2, 1), (23, .iload_n 3, 1), (24, .invokevirtual 200, 3), (27, .ireturn, 1)]
theorem T_cX12_explains : tabOK cX12_explains T_cX12_explainsL = true := by decide +kernel
def P_M_explains (post : Int32 → Mem → Prop) (x1 x2 x3 : Int32) (M : Mem) : Prop :=
  ∀ M1, M1 = ms M 0 0 (0 : Int32) → P_M_noQuestion (fun r2 M2 =>
  (r2 = 0 → (P_M_spans (fun M3 =>
  P_M_explainsBy (fun r4 M4 =>
  (r4 = 0 ∨ r4 = 1) ∧ post r4 M4) x1 x2 x3 M3) M2)) ∧
  (¬ r2 = 0 → (post (0 : Int32) M2))) x1 x3 M1
theorem k_M_explains {X : FX} {g : GT} {A : Nat → Prop} {Z : State → Prop} {post : Int32 → Mem → Prop} (C : Cx X g layM A cX12_explains 4 RX12 6) (hr : 0 ≤ X.2.2.2.1.cells ∧ 0 ≤ X.2.2.2.1.slots) (hR : RetZ X g layM A cX12_explains 4 0 0 Z post) (x1 x2 x3 : Int32) (M : Mem) (h : P_M_explains post x1 x2 x3 M) : AtX X g layM A 4 0 0 Z 0 [(0, .ref (ad g 0)), (1, .int x1), (2, .int x2), (3, .int x3)] [] M := by
  refine a_aload_n C (tk T_cX12_explains 0 rfl) rfl ?_
  refine a_iconst C (0 : Int32) (tk T_cX12_explains 1 rfl) kI_0 ?_
  refine a_put C f_RX12_3 f_RX12_3p rfl rfl (tk T_cX12_explains 2 rfl) lm0 rfl ?_
  refine a_mem (fun M1 e_M1 => ?_)
  have h := h M1 e_M1
  refine a_aload_n C (tk T_cX12_explains 3 rfl) rfl ?_
  refine a_iload_n C (tk T_cX12_explains 4 rfl) rfl ?_
  refine a_iload_n C (tk T_cX12_explains 5 rfl) rfl ?_
  refine a_callI C [.int x1, .int x3] me_yX12_noQuestion lk_RX12_194 (ct_M_noQuestion h) (by decide) lm0 rfl rfl rfl (Nat.le_of_ble_eq_true rfl) (tk T_cX12_explains 6 rfl) hr (fun r2 M2 h => ?_)
  refine a_if_eq C 16 (tk T_cX12_explains 7 rfl) rfl (fun c => ?_) (fun c => ?_)
  · have h := h.1 c
    refine a_aload_n C (tk T_cX12_explains 10 rfl) rfl ?_
    refine a_callV C [] me_yX12_spans lk_RX12_197 (ct_M_spans h) (by decide) lm0 rfl rfl rfl (Nat.le_of_ble_eq_true rfl) (tk T_cX12_explains 11 rfl) hr (fun M3 h => ?_)
    refine a_aload_n C (tk T_cX12_explains 12 rfl) rfl ?_
    refine a_iload_n C (tk T_cX12_explains 13 rfl) rfl ?_
    refine a_iload_n C (tk T_cX12_explains 14 rfl) rfl ?_
    refine a_iload_n C (tk T_cX12_explains 15 rfl) rfl ?_
    refine a_callI C [.int x1, .int x2, .int x3] me_yX12_explainsBy lk_RX12_200 (ct_M_explainsBy h) (by decide) lm0 rfl rfl rfl (Nat.le_of_ble_eq_true rfl) (tk T_cX12_explains 16 rfl) hr (fun r4 M4 h => ?_)
    exact hR _ _ _ _ (tk T_cX12_explains 17 rfl) h
  · have h := h.2 c
    refine a_iconst C (0 : Int32) (tk T_cX12_explains 8 rfl) kI_0 ?_
    exact hR _ _ _ _ (tk T_cX12_explains 9 rfl) ⟨Or.inl rfl, h⟩
theorem ct_M_explains {l : Launch} {g : GT} {post : Int32 → Mem → Prop} {x1 x2 x3 : Int32} {M : Mem} (h : P_M_explains post x1 x2 x3 M) : CI l g layM yX12_explains cX12_explains 4 (some .boolean) 6 [.ref (ad g 0), .int x1, .int x2, .int x3] M post :=
  cz_of (plainFor_of_name (by decide +kernel)) (Nat.le_of_ble_eq_true rfl) (fun X A Z hl C hr hR => by subst hl; exact k_M_explains C hr hR x1 x2 x3 M h)
def T_cX12_leftL : List (Nat × Instr × Nat) := [(0, .aload_n 0, 1), (1, .iconst 0, 1), (2, .putfield 3, 3), (5, .aload_n 0, 1), (6, .iload_n 1, 1), (7, .iload_n 3, 1), (8, .invokevirtual 194, 3), (11, .ifCond .eq 5, 3), (14, .iconst 0, 1), (15, .ireturn, 1), (16, .aload_n 0, 1), (17, .invokevirtual 197, 3), (20, .aload_n 0, 1), (21, .iload_n 1, 1), (22, .iload_n 2, 1), (23, .iload_n 3, 1), (24, .invokevirtual 188, 3), (27, .ireturn, 1)]
theorem T_cX12_left : tabOK cX12_left T_cX12_leftL = true := by decide +kernel
def P_M_left (post : Int32 → Mem → Prop) (x1 x2 x3 : Int32) (M : Mem) : Prop :=
  ∀ M1, M1 = ms M 0 0 (0 : Int32) → P_M_noQuestion (fun r2 M2 =>
  (r2 = 0 → (P_M_spans (fun M3 =>
  P_M_leftOf (fun r4 M4 =>
  post r4 M4) x1 x2 x3 M3) M2)) ∧
  (¬ r2 = 0 → (post (0 : Int32) M2))) x1 x3 M1
theorem k_M_left {X : FX} {g : GT} {A : Nat → Prop} {Z : State → Prop} {post : Int32 → Mem → Prop} (C : Cx X g layM A cX12_left 4 RX12 5) (hr : 0 ≤ X.2.2.2.1.cells ∧ 0 ≤ X.2.2.2.1.slots) (hR : RetI X g layM A cX12_left 4 0 0 Z post) (x1 x2 x3 : Int32) (M : Mem) (h : P_M_left post x1 x2 x3 M) : AtX X g layM A 4 0 0 Z 0 [(0, .ref (ad g 0)), (1, .int x1), (2, .int x2), (3, .int x3)] [] M := by
  refine a_aload_n C (tk T_cX12_left 0 rfl) rfl ?_
  refine a_iconst C (0 : Int32) (tk T_cX12_left 1 rfl) kI_0 ?_
  refine a_put C f_RX12_3 f_RX12_3p rfl rfl (tk T_cX12_left 2 rfl) lm0 rfl ?_
  refine a_mem (fun M1 e_M1 => ?_)
  have h := h M1 e_M1
  refine a_aload_n C (tk T_cX12_left 3 rfl) rfl ?_
  refine a_iload_n C (tk T_cX12_left 4 rfl) rfl ?_
  refine a_iload_n C (tk T_cX12_left 5 rfl) rfl ?_
  refine a_callI C [.int x1, .int x3] me_yX12_noQuestion lk_RX12_194 (ct_M_noQuestion h) (by decide) lm0 rfl rfl rfl (Nat.le_of_ble_eq_true rfl) (tk T_cX12_left 6 rfl) hr (fun r2 M2 h => ?_)
  refine a_if_eq C 16 (tk T_cX12_left 7 rfl) rfl (fun c => ?_) (fun c => ?_)
  · have h := h.1 c
    refine a_aload_n C (tk T_cX12_left 10 rfl) rfl ?_
    refine a_callV C [] me_yX12_spans lk_RX12_197 (ct_M_spans h) (by decide) lm0 rfl rfl rfl (Nat.le_of_ble_eq_true rfl) (tk T_cX12_left 11 rfl) hr (fun M3 h => ?_)
    refine a_aload_n C (tk T_cX12_left 12 rfl) rfl ?_
    refine a_iload_n C (tk T_cX12_left 13 rfl) rfl ?_
    refine a_iload_n C (tk T_cX12_left 14 rfl) rfl ?_
    refine a_iload_n C (tk T_cX12_left 15 rfl) rfl ?_
    refine a_callI C [.int x1, .int x2, .int x3] me_yX12_leftOf lk_RX12_188 (ct_M_leftOf h) (by decide) lm0 rfl rfl rfl (Nat.le_of_ble_eq_true rfl) (tk T_cX12_left 16 rfl) hr (fun r4 M4 h => ?_)
    exact hR _ _ _ _ (tk T_cX12_left 17 rfl) h
  · have h := h.2 c
    refine a_iconst C (0 : Int32) (tk T_cX12_left 8 rfl) kI_0 ?_
    exact hR _ _ _ _ (tk T_cX12_left 9 rfl) h
theorem ct_M_left {l : Launch} {g : GT} {post : Int32 → Mem → Prop} {x1 x2 x3 : Int32} {M : Mem} (h : P_M_left post x1 x2 x3 M) : CI l g layM yX12_left cX12_left 4 (some .int) 5 [.ref (ad g 0), .int x1, .int x2, .int x3] M post :=
  ci_of (plainFor_of_name (by decide +kernel)) (Nat.le_of_ble_eq_true rfl) (fun X A Z hl C hr hR => by subst hl; exact k_M_left C hr hR x1 x2 x3 M h)
def T_cX12_missedL : List (Nat × Instr × Nat) := [(0, .aload_n 0, 1), (1, .iconst 0, 1), (2, .putfield 3, 3), (5, .aload_n 0, 1), (6, .iload_n 1, 1), (7, .iload_n 3, 1), (8, .invokevirtual 194, 3), (11, .ifCond .eq 5, 3), (14, .iconst 0, 1), (15, .ireturn, 1), (16, .aload_n 0, 1), (17, .invokevirtual 197, 3), (20, .aload_n 0, 1), (21, .iload_n 1, 1), (22, .iload_n 2, 1), (23, .iload_n 3, 1), (24, .invokevirtual 191, 3), (27, .ireturn, 1)]
theorem T_cX12_missed : tabOK cX12_missed T_cX12_missedL = true := by decide +kernel
def P_M_missed (post : Int32 → Mem → Prop) (x1 x2 x3 : Int32) (M : Mem) : Prop :=
  ∀ M1, M1 = ms M 0 0 (0 : Int32) → P_M_noQuestion (fun r2 M2 =>
  (r2 = 0 → (P_M_spans (fun M3 =>
  P_M_missedOf (fun r4 M4 =>
  post r4 M4) x1 x2 x3 M3) M2)) ∧
  (¬ r2 = 0 → (post (0 : Int32) M2))) x1 x3 M1
theorem k_M_missed {X : FX} {g : GT} {A : Nat → Prop} {Z : State → Prop} {post : Int32 → Mem → Prop} (C : Cx X g layM A cX12_missed 4 RX12 5) (hr : 0 ≤ X.2.2.2.1.cells ∧ 0 ≤ X.2.2.2.1.slots) (hR : RetI X g layM A cX12_missed 4 0 0 Z post) (x1 x2 x3 : Int32) (M : Mem) (h : P_M_missed post x1 x2 x3 M) : AtX X g layM A 4 0 0 Z 0 [(0, .ref (ad g 0)), (1, .int x1), (2, .int x2), (3, .int x3)] [] M := by
  refine a_aload_n C (tk T_cX12_missed 0 rfl) rfl ?_
  refine a_iconst C (0 : Int32) (tk T_cX12_missed 1 rfl) kI_0 ?_
  refine a_put C f_RX12_3 f_RX12_3p rfl rfl (tk T_cX12_missed 2 rfl) lm0 rfl ?_
  refine a_mem (fun M1 e_M1 => ?_)
  have h := h M1 e_M1
  refine a_aload_n C (tk T_cX12_missed 3 rfl) rfl ?_
  refine a_iload_n C (tk T_cX12_missed 4 rfl) rfl ?_
  refine a_iload_n C (tk T_cX12_missed 5 rfl) rfl ?_
  refine a_callI C [.int x1, .int x3] me_yX12_noQuestion lk_RX12_194 (ct_M_noQuestion h) (by decide) lm0 rfl rfl rfl (Nat.le_of_ble_eq_true rfl) (tk T_cX12_missed 6 rfl) hr (fun r2 M2 h => ?_)
  refine a_if_eq C 16 (tk T_cX12_missed 7 rfl) rfl (fun c => ?_) (fun c => ?_)
  · have h := h.1 c
    refine a_aload_n C (tk T_cX12_missed 10 rfl) rfl ?_
    refine a_callV C [] me_yX12_spans lk_RX12_197 (ct_M_spans h) (by decide) lm0 rfl rfl rfl (Nat.le_of_ble_eq_true rfl) (tk T_cX12_missed 11 rfl) hr (fun M3 h => ?_)
    refine a_aload_n C (tk T_cX12_missed 12 rfl) rfl ?_
    refine a_iload_n C (tk T_cX12_missed 13 rfl) rfl ?_
    refine a_iload_n C (tk T_cX12_missed 14 rfl) rfl ?_
    refine a_iload_n C (tk T_cX12_missed 15 rfl) rfl ?_
    refine a_callI C [.int x1, .int x2, .int x3] me_yX12_missedOf lk_RX12_191 (ct_M_missedOf h) (by decide) lm0 rfl rfl rfl (Nat.le_of_ble_eq_true rfl) (tk T_cX12_missed 16 rfl) hr (fun r4 M4 h => ?_)
    exact hR _ _ _ _ (tk T_cX12_missed 17 rfl) h
  · have h := h.2 c
    refine a_iconst C (0 : Int32) (tk T_cX12_missed 8 rfl) kI_0 ?_
    exact hR _ _ _ _ (tk T_cX12_missed 9 rfl) h
theorem ct_M_missed {l : Launch} {g : GT} {post : Int32 → Mem → Prop} {x1 x2 x3 : Int32} {M : Mem} (h : P_M_missed post x1 x2 x3 M) : CI l g layM yX12_missed cX12_missed 4 (some .int) 5 [.ref (ad g 0), .int x1, .int x2, .int x3] M post :=
  ci_of (plainFor_of_name (by decide +kernel)) (Nat.le_of_ble_eq_true rfl) (fun X A Z hl C hr hR => by subst hl; exact k_M_missed C hr hR x1 x2 x3 M h)
def T_cX12_findsSetsL : List (Nat × Instr × Nat) := [(0, .aload_n 0, 1), (1, .iconst 0, 1), (2, .putfield 203, 3), (5, .aload_n 0, 1), (6, .iconst (-1), 1), (7, .putfield 206, 3), (10, .aload_n 0, 1), (11, .iconst 0, 1), (12, .putfield 209, 3), (15, .aload_n 0, 1), (16, .iconst 0, 1), (17, .putfield 212, 3), (20, .iconst 1, 1), (21, .aload_n 0, 1), (22, .getfield 13, 3), (25, .bipush 7, 2), (27, .iaload, 1), (28, .ishl, 1), (29, .iconst 1, 1), (30, .isub, 1), (31, .istore_n 2, 1), (32, .iconst 0, 1), (33, .istore_n 3, 1), (34, .iload_n 3, 1), (35, .aload_n 0, 1), (36, .getfield 13, 3), (39, .bipush 7, 2), (41, .iaload, 1), (42, .if_icmp .ge 25, 3), (45, .aload_n 0, 1), (46, .iload_n 3, 1), (47, .invokevirtual 148, 3), (50, .ifCond .eq 11, 3), (53, .iload_n 2, 1), (54, .iconst 1, 1), (55, .iload_n 3, 1), (56, .ishl, 1), (57, .iconst (-1), 1), (58, .ixor, 1), (59, .iand, 1), (60, .istore_n 2, 1), (61, .iinc 3 1, 3), (64, .goto (-30), 3), (67, .iconst 0, 1), (68, .istore_n 3, 1), (69, .iload_n 3, 1), (70, .iload_n 2, 1), (71, .if_icmp .gt 97, 3), (74, .iload_n 3, 1), (75, .iload_n 2, 1), (76, .iconst (-1), 1), (77, .ixor, 1), (78, .iand, 1), (79, .ifCond .ne 83, 3), (82, .aload_n 0, 1), (83, .iload_n 1, 1), (84, .iload_n 3, 1), (85, .iconst 0, 1), (86, .invokevirtual 200, 3), (89, .ifCond .ne 6, 3), (92, .goto 70, 3), (95, .aload_n 0, 1), (96, .aload_n 0, 1), (97, .getfield 203, 3), (100, .ifCond .ne 7, 3), (103, .iload_n 3, 1), (104, .goto 9, 3), (107, .aload_n 0, 1), (108, .getfield 209, 3), (111, .iload_n 3, 1), (112, .iand, 1), (113, .putfield 209, 3), (116, .aload_n 0, 1), (117, .dup, 1), (118, .getfield 212, 3), (121, .iload_n 3, 1), (122, .ior, 1), (123, .putfield 212, 3), (126, .aload_n 0, 1), (127, .dup, 1), (128, .getfield 203, 3), (131, .iconst 1, 1), (132, .iadd, 1), (133, .putfield 203, 3), (136, .aload_n 0, 1), (137, .getfield 206, 3), (140, .ifCond .lt 17, 3), (143, .iload_n 3, 1), (144, .invokestatic 215, 3), (147, .aload_n 0, 1), (148, .getfield 206, 3), (151, .invokestatic 215, 3), (154, .if_icmp .ge 8, 3), (157, .aload_n 0, 1), (158, .iload_n 3, 1), (159, .putfield 206, 3), (162, .iinc 3 1, 3), (165, .goto (-96), 3), (168, .return_, 1)]
theorem T_cX12_findsSets : tabOK cX12_findsSets T_cX12_findsSetsL = true := by decide +kernel
def P_M_findsSets_162 (post : Mem → Prop) (R69 : Int32 → Int32 → Int32 → Mem → Prop) (x1 x2 x3 : Int32) (M : Mem) : Prop :=
  R69 x1 x2 (x3 + (1 : Int32)) M
theorem k_M_findsSets_162 {X : FX} {g : GT} {A : Nat → Prop} {Z : State → Prop} {post : Mem → Prop} {R69 : Int32 → Int32 → Int32 → Mem → Prop} (C : Cx X g layM A cX12_findsSets 4 RX12 6) (hr : 0 ≤ X.2.2.2.1.cells ∧ 0 ≤ X.2.2.2.1.slots) (hR : RetV X g layM A cX12_findsSets 4 0 0 Z post) (k69 : ∀ (y1 y2 y3 : Int32) (M : Mem), R69 y1 y2 y3 M → AtX X g layM A 4 0 0 Z 69 [(0, .ref (ad g 0)), (1, .int y1), (2, .int y2), (3, .int y3)] [] M) (x1 x2 x3 : Int32) (M : Mem) (h : P_M_findsSets_162 post R69 x1 x2 x3 M) : AtX X g layM A 4 0 0 Z 162 [(0, .ref (ad g 0)), (1, .int x1), (2, .int x2), (3, .int x3)] [] M := by
  refine a_iinc C (1 : Int32) (tk T_cX12_findsSets 96 rfl) rfl kI_1 (by decide) rfl ?_
  refine a_goto C 69 (tk T_cX12_findsSets 97 rfl) rfl ?_
  exact a_to (k69 x1 x2 (x3 + (1 : Int32)) M h) rfl
def P_M_findsSets_157 (post : Mem → Prop) (R69 : Int32 → Int32 → Int32 → Mem → Prop) (x1 x2 x3 : Int32) (M : Mem) : Prop :=
  ∀ M1, M1 = ms M 0 9 x3 → P_M_findsSets_162 post R69 x1 x2 x3 M1
theorem k_M_findsSets_157 {X : FX} {g : GT} {A : Nat → Prop} {Z : State → Prop} {post : Mem → Prop} {R69 : Int32 → Int32 → Int32 → Mem → Prop} (C : Cx X g layM A cX12_findsSets 4 RX12 6) (hr : 0 ≤ X.2.2.2.1.cells ∧ 0 ≤ X.2.2.2.1.slots) (hR : RetV X g layM A cX12_findsSets 4 0 0 Z post) (k69 : ∀ (y1 y2 y3 : Int32) (M : Mem), R69 y1 y2 y3 M → AtX X g layM A 4 0 0 Z 69 [(0, .ref (ad g 0)), (1, .int y1), (2, .int y2), (3, .int y3)] [] M) (x1 x2 x3 : Int32) (M : Mem) (h : P_M_findsSets_157 post R69 x1 x2 x3 M) : AtX X g layM A 4 0 0 Z 157 [(0, .ref (ad g 0)), (1, .int x1), (2, .int x2), (3, .int x3)] [] M := by
  refine a_aload_n C (tk T_cX12_findsSets 93 rfl) rfl ?_
  refine a_iload_n C (tk T_cX12_findsSets 94 rfl) rfl ?_
  refine a_put C f_RX12_206 f_RX12_206p rfl rfl (tk T_cX12_findsSets 95 rfl) lm0 rfl ?_
  refine a_mem (fun M1 e_M1 => ?_)
  have h := h M1 e_M1
  exact a_to (k_M_findsSets_162 C hr hR k69 x1 x2 x3 M1 h) rfl
def P_M_findsSets_113 (post : Mem → Prop) (R69 : Int32 → Int32 → Int32 → Mem → Prop) (x1 x2 x3 s1 : Int32) (M : Mem) : Prop :=
  ∀ M1, M1 = ms M 0 10 s1 → ∀ M2, M2 = ms M1 0 11 ((M1 0 11) ||| x3) → ∀ M3, M3 = ms M2 0 8 ((M2 0 8) + (1 : Int32)) → ((M3 0 9) < 0 → (P_M_findsSets_157 post R69 x1 x2 x3 M3)) ∧
  (¬ (M3 0 9) < 0 → (P_Integer_bitCount (fun r4 M4 =>
  P_Integer_bitCount (fun r5 M5 =>
  (r5 ≤ r4 → (P_M_findsSets_162 post R69 x1 x2 x3 M5)) ∧
  (¬ r5 ≤ r4 → (P_M_findsSets_157 post R69 x1 x2 x3 M5))) (M4 0 9) M4) x3 M3))
theorem k_M_findsSets_113 {X : FX} {g : GT} {A : Nat → Prop} {Z : State → Prop} {post : Mem → Prop} {R69 : Int32 → Int32 → Int32 → Mem → Prop} (C : Cx X g layM A cX12_findsSets 4 RX12 6) (hr : 0 ≤ X.2.2.2.1.cells ∧ 0 ≤ X.2.2.2.1.slots) (hR : RetV X g layM A cX12_findsSets 4 0 0 Z post) (k69 : ∀ (y1 y2 y3 : Int32) (M : Mem), R69 y1 y2 y3 M → AtX X g layM A 4 0 0 Z 69 [(0, .ref (ad g 0)), (1, .int y1), (2, .int y2), (3, .int y3)] [] M) (x1 x2 x3 s1 : Int32) (M : Mem) (h : P_M_findsSets_113 post R69 x1 x2 x3 s1 M) : AtX X g layM A 4 0 0 Z 113 [(0, .ref (ad g 0)), (1, .int x1), (2, .int x2), (3, .int x3)] [.int s1, .ref (ad g 0)] M := by
  refine a_put C f_RX12_209 f_RX12_209p rfl rfl (tk T_cX12_findsSets 71 rfl) lm0 rfl ?_
  refine a_mem (fun M1 e_M1 => ?_)
  have h := h M1 e_M1
  refine a_aload_n C (tk T_cX12_findsSets 72 rfl) rfl ?_
  refine a_dupr C (tk T_cX12_findsSets 73 rfl) ?_
  refine a_getI C f_RX12_212 (tk T_cX12_findsSets 74 rfl) lm0 rfl ?_
  refine a_iload_n C (tk T_cX12_findsSets 75 rfl) rfl ?_
  refine a_ior C (tk T_cX12_findsSets 76 rfl) ?_
  refine a_put C f_RX12_212 f_RX12_212p rfl rfl (tk T_cX12_findsSets 77 rfl) lm0 rfl ?_
  refine a_mem (fun M2 e_M2 => ?_)
  have h := h M2 e_M2
  refine a_aload_n C (tk T_cX12_findsSets 78 rfl) rfl ?_
  refine a_dupr C (tk T_cX12_findsSets 79 rfl) ?_
  refine a_getI C f_RX12_203 (tk T_cX12_findsSets 80 rfl) lm0 rfl ?_
  refine a_iconst C (1 : Int32) (tk T_cX12_findsSets 81 rfl) kI_1 ?_
  refine a_iadd C (tk T_cX12_findsSets 82 rfl) ?_
  refine a_put C f_RX12_203 f_RX12_203p rfl rfl (tk T_cX12_findsSets 83 rfl) lm0 rfl ?_
  refine a_mem (fun M3 e_M3 => ?_)
  have h := h M3 e_M3
  refine a_aload_n C (tk T_cX12_findsSets 84 rfl) rfl ?_
  refine a_getI C f_RX12_206 (tk T_cX12_findsSets 85 rfl) lm0 rfl ?_
  refine a_if_lt C 157 (tk T_cX12_findsSets 86 rfl) rfl (fun c => ?_) (fun c => ?_)
  · have h := h.1 c
    exact a_to (k_M_findsSets_157 C hr hR k69 x1 x2 x3 M3 h) rfl
  · have h := h.2 c
    refine a_iload_n C (tk T_cX12_findsSets 87 rfl) rfl ?_
    refine a_statI C [.int x3] me_yJ6_bitCount_0f7a4 lk_RX12_215 (ct_Integer_bitCount h) (by decide) rfl rfl (Nat.le_of_ble_eq_true rfl) (tk T_cX12_findsSets 88 rfl) hr (fun r4 M4 h => ?_)
    refine a_aload_n C (tk T_cX12_findsSets 89 rfl) rfl ?_
    refine a_getI C f_RX12_206 (tk T_cX12_findsSets 90 rfl) lm0 rfl ?_
    refine a_statI C [.int (M4 0 9)] me_yJ6_bitCount_0f7a4 lk_RX12_215 (ct_Integer_bitCount h) (by decide) rfl rfl (Nat.le_of_ble_eq_true rfl) (tk T_cX12_findsSets 91 rfl) hr (fun r5 M5 h => ?_)
    refine a_icmp_ge C 162 (tk T_cX12_findsSets 92 rfl) rfl (fun c => ?_) (fun c => ?_)
    · have h := h.1 c
      exact a_to (k_M_findsSets_162 C hr hR k69 x1 x2 x3 M5 h) rfl
    · have h := h.2 c
      exact a_to (k_M_findsSets_157 C hr hR k69 x1 x2 x3 M5 h) rfl
def P_M_findsSets_69 (post : Mem → Prop) : Nat → Int32 → Int32 → Int32 → Mem → Prop
  | 0, _, _, _, _ => False
  | n + 1, x1, x2, x3, M =>
    (x2 < x3 → (post M)) ∧
  (¬ x2 < x3 → ((¬ (x3 &&& (x2 ^^^ (-1 : Int32))) = 0 → (P_M_findsSets_162 post (P_M_findsSets_69 post n) x1 x2 x3 M)) ∧
  ((x3 &&& (x2 ^^^ (-1 : Int32))) = 0 → (P_M_explainsBy (fun r1 M1 =>
  (¬ r1 = 0 → ((¬ (M1 0 8) = 0 → (P_M_findsSets_113 post (P_M_findsSets_69 post n) x1 x2 x3 ((M1 0 10) &&& x3) M1)) ∧
  ((M1 0 8) = 0 → (P_M_findsSets_113 post (P_M_findsSets_69 post n) x1 x2 x3 x3 M1)))) ∧
  (r1 = 0 → (P_M_findsSets_162 post (P_M_findsSets_69 post n) x1 x2 x3 M1))) x1 x3 (0 : Int32) M))))
theorem k_M_findsSets_69 {X : FX} {g : GT} {A : Nat → Prop} {Z : State → Prop} {post : Mem → Prop} (C : Cx X g layM A cX12_findsSets 4 RX12 6) (hr : 0 ≤ X.2.2.2.1.cells ∧ 0 ≤ X.2.2.2.1.slots) (hR : RetV X g layM A cX12_findsSets 4 0 0 Z post) : ∀ (n : Nat) (x1 x2 x3 : Int32) (M : Mem), P_M_findsSets_69 post n x1 x2 x3 M → AtX X g layM A 4 0 0 Z 69 [(0, .ref (ad g 0)), (1, .int x1), (2, .int x2), (3, .int x3)] [] M := by
  intro n
  induction n with
  | zero =>
    intro x1 x2 x3 M h
    exact h.elim
  | succ n ih =>
    intro x1 x2 x3 M h
    refine a_iload_n C (tk T_cX12_findsSets 45 rfl) rfl ?_
    refine a_iload_n C (tk T_cX12_findsSets 46 rfl) rfl ?_
    refine a_icmp_gt C 168 (tk T_cX12_findsSets 47 rfl) rfl (fun c => ?_) (fun c => ?_)
    · have h := h.1 c
      exact hR _ _ _ (tk T_cX12_findsSets 98 rfl) h
    · have h := h.2 c
      refine a_iload_n C (tk T_cX12_findsSets 48 rfl) rfl ?_
      refine a_iload_n C (tk T_cX12_findsSets 49 rfl) rfl ?_
      refine a_iconst C (-1 : Int32) (tk T_cX12_findsSets 50 rfl) kI_m1 ?_
      refine a_ixor C (tk T_cX12_findsSets 51 rfl) ?_
      refine a_iand C (tk T_cX12_findsSets 52 rfl) ?_
      refine a_if_ne C 162 (tk T_cX12_findsSets 53 rfl) rfl (fun c => ?_) (fun c => ?_)
      · have h := h.1 c
        exact a_to (k_M_findsSets_162 C hr hR ih x1 x2 x3 M h) rfl
      · have h := h.2 c
        refine a_aload_n C (tk T_cX12_findsSets 54 rfl) rfl ?_
        refine a_iload_n C (tk T_cX12_findsSets 55 rfl) rfl ?_
        refine a_iload_n C (tk T_cX12_findsSets 56 rfl) rfl ?_
        refine a_iconst C (0 : Int32) (tk T_cX12_findsSets 57 rfl) kI_0 ?_
        refine a_callI C [.int x1, .int x3, .int (0 : Int32)] me_yX12_explainsBy lk_RX12_200 (ct_M_explainsBy h) (by decide) lm0 rfl rfl rfl (Nat.le_of_ble_eq_true rfl) (tk T_cX12_findsSets 58 rfl) hr (fun r1 M1 h => ?_)
        refine a_if_ne C 95 (tk T_cX12_findsSets 59 rfl) rfl (fun c => ?_) (fun c => ?_)
        · have h := h.1 c
          refine a_aload_n C (tk T_cX12_findsSets 61 rfl) rfl ?_
          refine a_aload_n C (tk T_cX12_findsSets 62 rfl) rfl ?_
          refine a_getI C f_RX12_203 (tk T_cX12_findsSets 63 rfl) lm0 rfl ?_
          refine a_if_ne C 107 (tk T_cX12_findsSets 64 rfl) rfl (fun c => ?_) (fun c => ?_)
          · have h := h.1 c
            refine a_aload_n C (tk T_cX12_findsSets 67 rfl) rfl ?_
            refine a_getI C f_RX12_209 (tk T_cX12_findsSets 68 rfl) lm0 rfl ?_
            refine a_iload_n C (tk T_cX12_findsSets 69 rfl) rfl ?_
            refine a_iand C (tk T_cX12_findsSets 70 rfl) ?_
            exact a_to (k_M_findsSets_113 C hr hR ih x1 x2 x3 ((M1 0 10) &&& x3) M1 h) rfl
          · have h := h.2 c
            refine a_iload_n C (tk T_cX12_findsSets 65 rfl) rfl ?_
            refine a_goto C 113 (tk T_cX12_findsSets 66 rfl) rfl ?_
            exact a_to (k_M_findsSets_113 C hr hR ih x1 x2 x3 x3 M1 h) rfl
        · have h := h.2 c
          refine a_goto C 162 (tk T_cX12_findsSets 60 rfl) rfl ?_
          exact a_to (k_M_findsSets_162 C hr hR ih x1 x2 x3 M1 h) rfl
def P_M_findsSets_61 (post : Mem → Prop) (R34 : Int32 → Int32 → Int32 → Mem → Prop) (x1 x2 x3 : Int32) (M : Mem) : Prop :=
  R34 x1 x2 (x3 + (1 : Int32)) M
theorem k_M_findsSets_61 {X : FX} {g : GT} {A : Nat → Prop} {Z : State → Prop} {post : Mem → Prop} {R34 : Int32 → Int32 → Int32 → Mem → Prop} (C : Cx X g layM A cX12_findsSets 4 RX12 6) (hr : 0 ≤ X.2.2.2.1.cells ∧ 0 ≤ X.2.2.2.1.slots) (hR : RetV X g layM A cX12_findsSets 4 0 0 Z post) (k34 : ∀ (y1 y2 y3 : Int32) (M : Mem), R34 y1 y2 y3 M → AtX X g layM A 4 0 0 Z 34 [(0, .ref (ad g 0)), (1, .int y1), (2, .int y2), (3, .int y3)] [] M) (x1 x2 x3 : Int32) (M : Mem) (h : P_M_findsSets_61 post R34 x1 x2 x3 M) : AtX X g layM A 4 0 0 Z 61 [(0, .ref (ad g 0)), (1, .int x1), (2, .int x2), (3, .int x3)] [] M := by
  refine a_iinc C (1 : Int32) (tk T_cX12_findsSets 41 rfl) rfl kI_1 (by decide) rfl ?_
  refine a_goto C 34 (tk T_cX12_findsSets 42 rfl) rfl ?_
  exact a_to (k34 x1 x2 (x3 + (1 : Int32)) M h) rfl
def P_M_findsSets_34 (post : Mem → Prop) : Nat → Int32 → Int32 → Int32 → Mem → Prop
  | 0, _, _, _, _ => False
  | n + 1, x1, x2, x3, M =>
    vp_in (7 : Int32) 5966 ∧ ((M 1 (7 : Int32).toNatClampNeg) ≤ x3 → (∃ j69, P_M_findsSets_69 post j69 x1 x2 (0 : Int32) M)) ∧
  (¬ (M 1 (7 : Int32).toNatClampNeg) ≤ x3 → (P_M_isAir (fun r1 M1 =>
  (r1 = 0 → (P_M_findsSets_61 post (P_M_findsSets_34 post n) x1 x2 x3 M1)) ∧
  (¬ r1 = 0 → (∀ x2_2, x2_2 = (x2 &&& (((1 : Int32) <<< (x3 &&& 31)) ^^^ (-1 : Int32))) → P_M_findsSets_61 post (P_M_findsSets_34 post n) x1 x2_2 x3 M1))) x3 M))
theorem k_M_findsSets_34 {X : FX} {g : GT} {A : Nat → Prop} {Z : State → Prop} {post : Mem → Prop} (C : Cx X g layM A cX12_findsSets 4 RX12 6) (hr : 0 ≤ X.2.2.2.1.cells ∧ 0 ≤ X.2.2.2.1.slots) (hR : RetV X g layM A cX12_findsSets 4 0 0 Z post) : ∀ (n : Nat) (x1 x2 x3 : Int32) (M : Mem), P_M_findsSets_34 post n x1 x2 x3 M → AtX X g layM A 4 0 0 Z 34 [(0, .ref (ad g 0)), (1, .int x1), (2, .int x2), (3, .int x3)] [] M := by
  intro n
  induction n with
  | zero =>
    intro x1 x2 x3 M h
    exact h.elim
  | succ n ih =>
    intro x1 x2 x3 M h
    refine a_iload_n C (tk T_cX12_findsSets 23 rfl) rfl ?_
    refine a_aload_n C (tk T_cX12_findsSets 24 rfl) rfl ?_
    refine a_getR C f_RX12_13 (tk T_cX12_findsSets 25 rfl) lm0 rfl ?_
    refine a_bipush C (7 : Int32) (tk T_cX12_findsSets 26 rfl) kB_7 ?_
    obtain ⟨hb, h⟩ := h
    refine a_iald C (tk T_cX12_findsSets 27 rfl) lm1 hb ?_
    refine a_icmp_ge C 67 (tk T_cX12_findsSets 28 rfl) rfl (fun c => ?_) (fun c => ?_)
    · have h := h.1 c
      refine a_iconst C (0 : Int32) (tk T_cX12_findsSets 43 rfl) kI_0 ?_
      refine a_istore_n C (tk T_cX12_findsSets 44 rfl) (by decide) rfl ?_
      obtain ⟨n1, h⟩ := h
      exact a_to (k_M_findsSets_69 C hr hR n1 x1 x2 (0 : Int32) M h) rfl
    · have h := h.2 c
      refine a_aload_n C (tk T_cX12_findsSets 29 rfl) rfl ?_
      refine a_iload_n C (tk T_cX12_findsSets 30 rfl) rfl ?_
      refine a_callI C [.int x3] me_yX12_isAir lk_RX12_148 (ct_M_isAir h) (by decide) lm0 rfl rfl rfl (Nat.le_of_ble_eq_true rfl) (tk T_cX12_findsSets 31 rfl) hr (fun r1 M1 h => ?_)
      refine a_if_eq C 61 (tk T_cX12_findsSets 32 rfl) rfl (fun c => ?_) (fun c => ?_)
      · have h := h.1 c
        exact a_to (k_M_findsSets_61 C hr hR ih x1 x2 x3 M1 h) rfl
      · have h := h.2 c
        refine a_iload_n C (tk T_cX12_findsSets 33 rfl) rfl ?_
        refine a_iconst C (1 : Int32) (tk T_cX12_findsSets 34 rfl) kI_1 ?_
        refine a_iload_n C (tk T_cX12_findsSets 35 rfl) rfl ?_
        refine a_ishl C (tk T_cX12_findsSets 36 rfl) ?_
        refine a_iconst C (-1 : Int32) (tk T_cX12_findsSets 37 rfl) kI_m1 ?_
        refine a_ixor C (tk T_cX12_findsSets 38 rfl) ?_
        refine a_iand C (tk T_cX12_findsSets 39 rfl) ?_
        refine a_top (fun x2_2 e_x2_2 => ?_)
        have h := h x2_2 e_x2_2
        refine a_istore_n C (tk T_cX12_findsSets 40 rfl) (by decide) rfl ?_
        exact a_to (k_M_findsSets_61 C hr hR ih x1 x2_2 x3 M1 h) rfl
def P_M_findsSets (post : Mem → Prop) (x1 : Int32) (M : Mem) : Prop :=
  ∀ M1, M1 = ms M 0 8 (0 : Int32) → ∀ M2, M2 = ms M1 0 9 (-1 : Int32) → ∀ M3, M3 = ms M2 0 10 (0 : Int32) → ∀ M4, M4 = ms M3 0 11 (0 : Int32) → vp_in (7 : Int32) 5966 ∧ ∀ v5, v5 = (((1 : Int32) <<< ((M4 1 (7 : Int32).toNatClampNeg) &&& 31)) - (1 : Int32)) → ∃ j34, P_M_findsSets_34 post j34 x1 v5 (0 : Int32) M4
theorem k_M_findsSets {X : FX} {g : GT} {A : Nat → Prop} {Z : State → Prop} {post : Mem → Prop} (C : Cx X g layM A cX12_findsSets 4 RX12 6) (hr : 0 ≤ X.2.2.2.1.cells ∧ 0 ≤ X.2.2.2.1.slots) (hR : RetV X g layM A cX12_findsSets 4 0 0 Z post) (x1 : Int32) (M : Mem) (h : P_M_findsSets post x1 M) : AtX X g layM A 4 0 0 Z 0 [(0, .ref (ad g 0)), (1, .int x1)] [] M := by
  refine a_aload_n C (tk T_cX12_findsSets 0 rfl) rfl ?_
  refine a_iconst C (0 : Int32) (tk T_cX12_findsSets 1 rfl) kI_0 ?_
  refine a_put C f_RX12_203 f_RX12_203p rfl rfl (tk T_cX12_findsSets 2 rfl) lm0 rfl ?_
  refine a_mem (fun M1 e_M1 => ?_)
  have h := h M1 e_M1
  refine a_aload_n C (tk T_cX12_findsSets 3 rfl) rfl ?_
  refine a_iconst C (-1 : Int32) (tk T_cX12_findsSets 4 rfl) kI_m1 ?_
  refine a_put C f_RX12_206 f_RX12_206p rfl rfl (tk T_cX12_findsSets 5 rfl) lm0 rfl ?_
  refine a_mem (fun M2 e_M2 => ?_)
  have h := h M2 e_M2
  refine a_aload_n C (tk T_cX12_findsSets 6 rfl) rfl ?_
  refine a_iconst C (0 : Int32) (tk T_cX12_findsSets 7 rfl) kI_0 ?_
  refine a_put C f_RX12_209 f_RX12_209p rfl rfl (tk T_cX12_findsSets 8 rfl) lm0 rfl ?_
  refine a_mem (fun M3 e_M3 => ?_)
  have h := h M3 e_M3
  refine a_aload_n C (tk T_cX12_findsSets 9 rfl) rfl ?_
  refine a_iconst C (0 : Int32) (tk T_cX12_findsSets 10 rfl) kI_0 ?_
  refine a_put C f_RX12_212 f_RX12_212p rfl rfl (tk T_cX12_findsSets 11 rfl) lm0 rfl ?_
  refine a_mem (fun M4 e_M4 => ?_)
  have h := h M4 e_M4
  refine a_iconst C (1 : Int32) (tk T_cX12_findsSets 12 rfl) kI_1 ?_
  refine a_aload_n C (tk T_cX12_findsSets 13 rfl) rfl ?_
  refine a_getR C f_RX12_13 (tk T_cX12_findsSets 14 rfl) lm0 rfl ?_
  refine a_bipush C (7 : Int32) (tk T_cX12_findsSets 15 rfl) kB_7 ?_
  obtain ⟨hb, h⟩ := h
  refine a_iald C (tk T_cX12_findsSets 16 rfl) lm1 hb ?_
  refine a_ishl C (tk T_cX12_findsSets 17 rfl) ?_
  refine a_iconst C (1 : Int32) (tk T_cX12_findsSets 18 rfl) kI_1 ?_
  refine a_isub C (tk T_cX12_findsSets 19 rfl) ?_
  refine a_top (fun v5 e_v5 => ?_)
  have h := h v5 e_v5
  refine a_istore_n C (tk T_cX12_findsSets 20 rfl) (by decide) rfl ?_
  refine a_iconst C (0 : Int32) (tk T_cX12_findsSets 21 rfl) kI_0 ?_
  refine a_istore_n C (tk T_cX12_findsSets 22 rfl) (by decide) rfl ?_
  obtain ⟨n1, h⟩ := h
  exact a_to (k_M_findsSets_34 C hr hR n1 x1 v5 (0 : Int32) M4 h) rfl
theorem ct_M_findsSets {l : Launch} {g : GT} {post : Mem → Prop} {x1 : Int32} {M : Mem} (h : P_M_findsSets post x1 M) : CV l g layM yX12_findsSets cX12_findsSets 4 none 6 [.ref (ad g 0), .int x1] M post :=
  cv_of (plainFor_of_name (by decide +kernel)) (Nat.le_of_ble_eq_true rfl) (fun X A Z hl C hr hR => by subst hl; exact k_M_findsSets C hr hR x1 M h)
def T_cX12_setsL : List (Nat × Instr × Nat) := [(0, .aload_n 0, 1), (1, .iconst 0, 1), (2, .putfield 3, 3), (5, .aload_n 0, 1), (6, .aload_n 0, 1), (7, .iload_n 1, 1), (8, .bipush 8, 2), (10, .invokevirtual 121, 3), (13, .iconst 1, 1), (14, .invokevirtual 72, 3), (17, .ifCond .ne 25, 3), (20, .aload_n 0, 1), (21, .iload_n 2, 1), (22, .iconst 0, 1), (23, .iconst 3, 1), (24, .invokestatic 58, 3), (27, .ifCond .ne 7, 3), (30, .iconst 1, 1), (31, .goto 4, 3), (34, .iconst 0, 1), (35, .iconst 2, 1), (36, .invokevirtual 72, 3), (39, .ifCond .eq 5, 3), (42, .iconst 0, 1), (43, .ireturn, 1), (44, .aload_n 0, 1), (45, .invokevirtual 197, 3), (48, .aload_n 0, 1), (49, .iload_n 1, 1), (50, .invokevirtual 220, 3), (53, .iload_n 2, 1), (54, .ifCond .ne 10, 3), (57, .aload_n 0, 1), (58, .getfield 203, 3), (61, .goto 31, 3), (64, .iload_n 2, 1), (65, .iconst 1, 1), (66, .if_icmp .ne 10, 3), (69, .aload_n 0, 1), (70, .getfield 206, 3), (73, .goto 19, 3), (76, .iload_n 2, 1), (77, .iconst 2, 1), (78, .if_icmp .ne 10, 3), (81, .aload_n 0, 1), (82, .getfield 209, 3), (85, .goto 7, 3), (88, .aload_n 0, 1), (89, .getfield 212, 3), (92, .ireturn, 1)]
theorem T_cX12_sets : tabOK cX12_sets T_cX12_setsL = true := by decide +kernel
def P_M_sets_92 (post : Int32 → Mem → Prop) (s0 : Int32) (M : Mem) : Prop :=
  post s0 M
theorem k_M_sets_92 {X : FX} {g : GT} {A : Nat → Prop} {Z : State → Prop} {post : Int32 → Mem → Prop} (C : Cx X g layM A cX12_sets 3 RX12 7) (hr : 0 ≤ X.2.2.2.1.cells ∧ 0 ≤ X.2.2.2.1.slots) (hR : RetI X g layM A cX12_sets 3 0 0 Z post) (s0 : Int32) (M : Mem) (h : P_M_sets_92 post s0 M) : AtX X g layM A 3 0 0 Z 92 [] [.int s0] M := by
  exact hR _ _ _ _ (tk T_cX12_sets 49 rfl) h
def P_M_sets_42 (post : Int32 → Mem → Prop) (M : Mem) : Prop :=
  post (0 : Int32) M
theorem k_M_sets_42 {X : FX} {g : GT} {A : Nat → Prop} {Z : State → Prop} {post : Int32 → Mem → Prop} (C : Cx X g layM A cX12_sets 3 RX12 7) (hr : 0 ≤ X.2.2.2.1.cells ∧ 0 ≤ X.2.2.2.1.slots) (hR : RetI X g layM A cX12_sets 3 0 0 Z post)  (M : Mem) (h : P_M_sets_42 post M) : AtX X g layM A 3 0 0 Z 42 [] [] M := by
  refine a_iconst C (0 : Int32) (tk T_cX12_sets 23 rfl) kI_0 ?_
  exact hR _ _ _ _ (tk T_cX12_sets 24 rfl) h
def P_M_sets_35 (post : Int32 → Mem → Prop) (x1 x2 s1 : Int32) (M : Mem) : Prop :=
  P_M_throwsIf (fun r1 M1 =>
  (r1 = 0 → (P_M_spans (fun M2 =>
  P_M_findsSets (fun M3 =>
  (¬ x2 = 0 → ((¬ x2 = (1 : Int32) → ((¬ x2 = (2 : Int32) → (P_M_sets_92 post (M3 0 11) M3)) ∧
  (x2 = (2 : Int32) → (P_M_sets_92 post (M3 0 10) M3)))) ∧
  (x2 = (1 : Int32) → (P_M_sets_92 post (M3 0 9) M3)))) ∧
  (x2 = 0 → (P_M_sets_92 post (M3 0 8) M3))) x1 M2) M1)) ∧
  (¬ r1 = 0 → (P_M_sets_42 post M1))) s1 (2 : Int32) M
theorem k_M_sets_35 {X : FX} {g : GT} {A : Nat → Prop} {Z : State → Prop} {post : Int32 → Mem → Prop} (C : Cx X g layM A cX12_sets 3 RX12 7) (hr : 0 ≤ X.2.2.2.1.cells ∧ 0 ≤ X.2.2.2.1.slots) (hR : RetI X g layM A cX12_sets 3 0 0 Z post) (x1 x2 s1 : Int32) (M : Mem) (h : P_M_sets_35 post x1 x2 s1 M) : AtX X g layM A 3 0 0 Z 35 [(0, .ref (ad g 0)), (1, .int x1), (2, .int x2)] [.int s1, .ref (ad g 0)] M := by
  refine a_iconst C (2 : Int32) (tk T_cX12_sets 20 rfl) kI_2 ?_
  refine a_callI C [.int s1, .int (2 : Int32)] me_yX12_throwsIf lk_RX12_72 (ct_M_throwsIf h) (by decide) lm0 rfl rfl rfl (Nat.le_of_ble_eq_true rfl) (tk T_cX12_sets 21 rfl) hr (fun r1 M1 h => ?_)
  refine a_if_eq C 44 (tk T_cX12_sets 22 rfl) rfl (fun c => ?_) (fun c => ?_)
  · have h := h.1 c
    refine a_aload_n C (tk T_cX12_sets 25 rfl) rfl ?_
    refine a_callV C [] me_yX12_spans lk_RX12_197 (ct_M_spans h) (by decide) lm0 rfl rfl rfl (Nat.le_of_ble_eq_true rfl) (tk T_cX12_sets 26 rfl) hr (fun M2 h => ?_)
    refine a_aload_n C (tk T_cX12_sets 27 rfl) rfl ?_
    refine a_iload_n C (tk T_cX12_sets 28 rfl) rfl ?_
    refine a_callV C [.int x1] me_yX12_findsSets lk_RX12_220 (ct_M_findsSets h) (by decide) lm0 rfl rfl rfl (Nat.le_of_ble_eq_true rfl) (tk T_cX12_sets 29 rfl) hr (fun M3 h => ?_)
    refine a_iload_n C (tk T_cX12_sets 30 rfl) rfl ?_
    refine a_if_ne C 64 (tk T_cX12_sets 31 rfl) rfl (fun c => ?_) (fun c => ?_)
    · have h := h.1 c
      refine a_iload_n C (tk T_cX12_sets 35 rfl) rfl ?_
      refine a_iconst C (1 : Int32) (tk T_cX12_sets 36 rfl) kI_1 ?_
      refine a_icmp_ne C 76 (tk T_cX12_sets 37 rfl) rfl (fun c => ?_) (fun c => ?_)
      · have h := h.1 c
        refine a_iload_n C (tk T_cX12_sets 41 rfl) rfl ?_
        refine a_iconst C (2 : Int32) (tk T_cX12_sets 42 rfl) kI_2 ?_
        refine a_icmp_ne C 88 (tk T_cX12_sets 43 rfl) rfl (fun c => ?_) (fun c => ?_)
        · have h := h.1 c
          refine a_aload_n C (tk T_cX12_sets 47 rfl) rfl ?_
          refine a_getI C f_RX12_212 (tk T_cX12_sets 48 rfl) lm0 rfl ?_
          exact a_to (k_M_sets_92 C hr hR (M3 0 11) M3 h) rfl
        · have h := h.2 c
          refine a_aload_n C (tk T_cX12_sets 44 rfl) rfl ?_
          refine a_getI C f_RX12_209 (tk T_cX12_sets 45 rfl) lm0 rfl ?_
          refine a_goto C 92 (tk T_cX12_sets 46 rfl) rfl ?_
          exact a_to (k_M_sets_92 C hr hR (M3 0 10) M3 h) rfl
      · have h := h.2 c
        refine a_aload_n C (tk T_cX12_sets 38 rfl) rfl ?_
        refine a_getI C f_RX12_206 (tk T_cX12_sets 39 rfl) lm0 rfl ?_
        refine a_goto C 92 (tk T_cX12_sets 40 rfl) rfl ?_
        exact a_to (k_M_sets_92 C hr hR (M3 0 9) M3 h) rfl
    · have h := h.2 c
      refine a_aload_n C (tk T_cX12_sets 32 rfl) rfl ?_
      refine a_getI C f_RX12_203 (tk T_cX12_sets 33 rfl) lm0 rfl ?_
      refine a_goto C 92 (tk T_cX12_sets 34 rfl) rfl ?_
      exact a_to (k_M_sets_92 C hr hR (M3 0 8) M3 h) rfl
  · have h := h.2 c
    exact a_to (k_M_sets_42 C hr hR M1 h) rfl
def P_M_sets (post : Int32 → Mem → Prop) (x1 x2 : Int32) (M : Mem) : Prop :=
  ∀ M1, M1 = ms M 0 0 (0 : Int32) → P_M_none (fun r2 M2 =>
  P_M_throwsIf (fun r3 M3 =>
  (¬ r3 = 0 → (P_M_sets_42 post M3)) ∧
  (r3 = 0 → (P_M_in (fun r4 M4 =>
  (¬ r4 = 0 → (P_M_sets_35 post x1 x2 (0 : Int32) M4)) ∧
  (r4 = 0 → (P_M_sets_35 post x1 x2 (1 : Int32) M4))) x2 (0 : Int32) (3 : Int32) M3))) r2 (1 : Int32) M2) x1 (8 : Int32) M1
theorem k_M_sets {X : FX} {g : GT} {A : Nat → Prop} {Z : State → Prop} {post : Int32 → Mem → Prop} (C : Cx X g layM A cX12_sets 3 RX12 7) (hr : 0 ≤ X.2.2.2.1.cells ∧ 0 ≤ X.2.2.2.1.slots) (hR : RetI X g layM A cX12_sets 3 0 0 Z post) (x1 x2 : Int32) (M : Mem) (h : P_M_sets post x1 x2 M) : AtX X g layM A 3 0 0 Z 0 [(0, .ref (ad g 0)), (1, .int x1), (2, .int x2)] [] M := by
  refine a_aload_n C (tk T_cX12_sets 0 rfl) rfl ?_
  refine a_iconst C (0 : Int32) (tk T_cX12_sets 1 rfl) kI_0 ?_
  refine a_put C f_RX12_3 f_RX12_3p rfl rfl (tk T_cX12_sets 2 rfl) lm0 rfl ?_
  refine a_mem (fun M1 e_M1 => ?_)
  have h := h M1 e_M1
  refine a_aload_n C (tk T_cX12_sets 3 rfl) rfl ?_
  refine a_aload_n C (tk T_cX12_sets 4 rfl) rfl ?_
  refine a_iload_n C (tk T_cX12_sets 5 rfl) rfl ?_
  refine a_bipush C (8 : Int32) (tk T_cX12_sets 6 rfl) kB_8 ?_
  refine a_callI C [.int x1, .int (8 : Int32)] me_yX12_none lk_RX12_121 (ct_M_none h) (by decide) lm0 rfl rfl rfl (Nat.le_of_ble_eq_true rfl) (tk T_cX12_sets 7 rfl) hr (fun r2 M2 h => ?_)
  refine a_iconst C (1 : Int32) (tk T_cX12_sets 8 rfl) kI_1 ?_
  refine a_callI C [.int r2, .int (1 : Int32)] me_yX12_throwsIf lk_RX12_72 (ct_M_throwsIf h) (by decide) lm0 rfl rfl rfl (Nat.le_of_ble_eq_true rfl) (tk T_cX12_sets 9 rfl) hr (fun r3 M3 h => ?_)
  refine a_if_ne C 42 (tk T_cX12_sets 10 rfl) rfl (fun c => ?_) (fun c => ?_)
  · have h := h.1 c
    exact a_to (k_M_sets_42 C hr hR M3 h) rfl
  · have h := h.2 c
    refine a_aload_n C (tk T_cX12_sets 11 rfl) rfl ?_
    refine a_iload_n C (tk T_cX12_sets 12 rfl) rfl ?_
    refine a_iconst C (0 : Int32) (tk T_cX12_sets 13 rfl) kI_0 ?_
    refine a_iconst C (3 : Int32) (tk T_cX12_sets 14 rfl) kI_3 ?_
    refine a_statI C [.int x2, .int (0 : Int32), .int (3 : Int32)] me_yX12_in lk_RX12_58 (ct_M_in h) (by decide) rfl rfl (Nat.le_of_ble_eq_true rfl) (tk T_cX12_sets 15 rfl) hr (fun r4 M4 h => ?_)
    refine a_if_ne C 34 (tk T_cX12_sets 16 rfl) rfl (fun c => ?_) (fun c => ?_)
    · have h := h.1 c
      refine a_iconst C (0 : Int32) (tk T_cX12_sets 19 rfl) kI_0 ?_
      exact a_to (k_M_sets_35 C hr hR x1 x2 (0 : Int32) M4 h) rfl
    · have h := h.2 c
      refine a_iconst C (1 : Int32) (tk T_cX12_sets 17 rfl) kI_1 ?_
      refine a_goto C 35 (tk T_cX12_sets 18 rfl) rfl ?_
      exact a_to (k_M_sets_35 C hr hR x1 x2 (1 : Int32) M4 h) rfl
theorem ct_M_sets {l : Launch} {g : GT} {post : Int32 → Mem → Prop} {x1 x2 : Int32} {M : Mem} (h : P_M_sets post x1 x2 M) : CI l g layM yX12_sets cX12_sets 3 (some .int) 7 [.ref (ad g 0), .int x1, .int x2] M post :=
  ci_of (plainFor_of_name (by decide +kernel)) (Nat.le_of_ble_eq_true rfl) (fun X A Z hl C hr hR => by subst hl; exact k_M_sets C hr hR x1 x2 M h)
def T_cX12_speedsL : List (Nat × Instr × Nat) := [(0, .aload_n 0, 1), (1, .iconst 0, 1), (2, .putfield 3, 3), (5, .aload_n 0, 1), (6, .aload_n 0, 1), (7, .iload_n 1, 1), (8, .bipush 8, 2), (10, .invokevirtual 121, 3), (13, .iconst 1, 1), (14, .invokevirtual 72, 3), (17, .ifCond .ne 25, 3), (20, .aload_n 0, 1), (21, .iload_n 3, 1), (22, .iconst 0, 1), (23, .iconst 2, 1), (24, .invokestatic 58, 3), (27, .ifCond .ne 7, 3), (30, .iconst 1, 1), (31, .goto 4, 3), (34, .iconst 0, 1), (35, .iconst 2, 1), (36, .invokevirtual 72, 3), (39, .ifCond .eq 5, 3), (42, .iconst 0, 1), (43, .ireturn, 1), (44, .aload_n 0, 1), (45, .invokevirtual 197, 3), (48, .iconst 0, 1), (49, .istore 4, 2), (51, .bipush 99, 2), (53, .istore 5, 2), (55, .bipush 99, 2), (57, .istore 6, 2), (59, .bipush (-50), 2), (61, .istore 7, 2), (63, .iload 7, 2), (65, .bipush 50, 2), (67, .if_icmp .gt 44, 3), (70, .aload_n 0, 1), (71, .iload_n 1, 1), (72, .iload_n 2, 1), (73, .iload 7, 2), (75, .invokevirtual 200, 3), (78, .ifCond .ne 6, 3), (81, .goto 24, 3), (84, .iload 4, 2), (86, .ifCond .ne 8, 3), (89, .iload 7, 2), (91, .goto 5, 3), (94, .iload 5, 2), (96, .istore 5, 2), (98, .iload 7, 2), (100, .istore 6, 2), (102, .iinc 4 1, 3), (105, .iinc 7 1, 3), (108, .goto (-45), 3), (111, .iload_n 3, 1), (112, .ifCond .ne 8, 3), (115, .iload 4, 2), (117, .goto 15, 3), (120, .iload_n 3, 1), (121, .iconst 1, 1), (122, .if_icmp .ne 8, 3), (125, .iload 5, 2), (127, .goto 5, 3), (130, .iload 6, 2), (132, .ireturn, 1)]
theorem T_cX12_speeds : tabOK cX12_speeds T_cX12_speedsL = true := by decide +kernel
def P_M_speeds_132 (post : Int32 → Mem → Prop) (s0 : Int32) (M : Mem) : Prop :=
  post s0 M
theorem k_M_speeds_132 {X : FX} {g : GT} {A : Nat → Prop} {Z : State → Prop} {post : Int32 → Mem → Prop} (C : Cx X g layM A cX12_speeds 8 RX12 6) (hr : 0 ≤ X.2.2.2.1.cells ∧ 0 ≤ X.2.2.2.1.slots) (hR : RetI X g layM A cX12_speeds 8 0 0 Z post) (s0 : Int32) (M : Mem) (h : P_M_speeds_132 post s0 M) : AtX X g layM A 8 0 0 Z 132 [] [.int s0] M := by
  exact hR _ _ _ _ (tk T_cX12_speeds 66 rfl) h
def P_M_speeds_105 (post : Int32 → Mem → Prop) (R63 : Int32 → Int32 → Int32 → Int32 → Int32 → Int32 → Int32 → Mem → Prop) (x1 x2 x3 x4 x5 x6 x7 : Int32) (M : Mem) : Prop :=
  R63 x1 x2 x3 x4 x5 x6 (x7 + (1 : Int32)) M
theorem k_M_speeds_105 {X : FX} {g : GT} {A : Nat → Prop} {Z : State → Prop} {post : Int32 → Mem → Prop} {R63 : Int32 → Int32 → Int32 → Int32 → Int32 → Int32 → Int32 → Mem → Prop} (C : Cx X g layM A cX12_speeds 8 RX12 6) (hr : 0 ≤ X.2.2.2.1.cells ∧ 0 ≤ X.2.2.2.1.slots) (hR : RetI X g layM A cX12_speeds 8 0 0 Z post) (k63 : ∀ (y1 y2 y3 y4 y5 y6 y7 : Int32) (M : Mem), R63 y1 y2 y3 y4 y5 y6 y7 M → AtX X g layM A 8 0 0 Z 63 [(0, .ref (ad g 0)), (1, .int y1), (2, .int y2), (3, .int y3), (4, .int y4), (5, .int y5), (6, .int y6), (7, .int y7)] [] M) (x1 x2 x3 x4 x5 x6 x7 : Int32) (M : Mem) (h : P_M_speeds_105 post R63 x1 x2 x3 x4 x5 x6 x7 M) : AtX X g layM A 8 0 0 Z 105 [(0, .ref (ad g 0)), (1, .int x1), (2, .int x2), (3, .int x3), (4, .int x4), (5, .int x5), (6, .int x6), (7, .int x7)] [] M := by
  refine a_iinc C (1 : Int32) (tk T_cX12_speeds 54 rfl) rfl kI_1 (by decide) rfl ?_
  refine a_goto C 63 (tk T_cX12_speeds 55 rfl) rfl ?_
  exact a_to (k63 x1 x2 x3 x4 x5 x6 (x7 + (1 : Int32)) M h) rfl
def P_M_speeds_96 (post : Int32 → Mem → Prop) (R63 : Int32 → Int32 → Int32 → Int32 → Int32 → Int32 → Int32 → Mem → Prop) (x1 x2 x3 x4 x7 s0 : Int32) (M : Mem) : Prop :=
  P_M_speeds_105 post R63 x1 x2 x3 (x4 + (1 : Int32)) s0 x7 x7 M
theorem k_M_speeds_96 {X : FX} {g : GT} {A : Nat → Prop} {Z : State → Prop} {post : Int32 → Mem → Prop} {R63 : Int32 → Int32 → Int32 → Int32 → Int32 → Int32 → Int32 → Mem → Prop} (C : Cx X g layM A cX12_speeds 8 RX12 6) (hr : 0 ≤ X.2.2.2.1.cells ∧ 0 ≤ X.2.2.2.1.slots) (hR : RetI X g layM A cX12_speeds 8 0 0 Z post) (k63 : ∀ (y1 y2 y3 y4 y5 y6 y7 : Int32) (M : Mem), R63 y1 y2 y3 y4 y5 y6 y7 M → AtX X g layM A 8 0 0 Z 63 [(0, .ref (ad g 0)), (1, .int y1), (2, .int y2), (3, .int y3), (4, .int y4), (5, .int y5), (6, .int y6), (7, .int y7)] [] M) (x1 x2 x3 x4 x7 s0 : Int32) (M : Mem) (h : P_M_speeds_96 post R63 x1 x2 x3 x4 x7 s0 M) : AtX X g layM A 8 0 0 Z 96 [(0, .ref (ad g 0)), (1, .int x1), (2, .int x2), (3, .int x3), (4, .int x4), (7, .int x7)] [.int s0] M := by
  refine a_istore C (tk T_cX12_speeds 50 rfl) (by decide) rfl ?_
  refine a_iload C (tk T_cX12_speeds 51 rfl) rfl ?_
  refine a_istore C (tk T_cX12_speeds 52 rfl) (by decide) rfl ?_
  refine a_iinc C (1 : Int32) (tk T_cX12_speeds 53 rfl) rfl kI_1 (by decide) rfl ?_
  exact a_to (k_M_speeds_105 C hr hR k63 x1 x2 x3 (x4 + (1 : Int32)) s0 x7 x7 M h) rfl
def P_M_speeds_63 (post : Int32 → Mem → Prop) : Nat → Int32 → Int32 → Int32 → Int32 → Int32 → Int32 → Int32 → Mem → Prop
  | 0, _, _, _, _, _, _, _, _ => False
  | n + 1, x1, x2, x3, x4, x5, x6, x7, M =>
    ((50 : Int32) < x7 → ((¬ x3 = 0 → ((¬ x3 = (1 : Int32) → (P_M_speeds_132 post x6 M)) ∧
  (x3 = (1 : Int32) → (P_M_speeds_132 post x5 M)))) ∧
  (x3 = 0 → (P_M_speeds_132 post x4 M)))) ∧
  (¬ (50 : Int32) < x7 → (P_M_explainsBy (fun r1 M1 =>
  (¬ r1 = 0 → ((¬ x4 = 0 → (P_M_speeds_96 post (P_M_speeds_63 post n) x1 x2 x3 x4 x7 x5 M1)) ∧
  (x4 = 0 → (P_M_speeds_96 post (P_M_speeds_63 post n) x1 x2 x3 x4 x7 x7 M1)))) ∧
  (r1 = 0 → (P_M_speeds_105 post (P_M_speeds_63 post n) x1 x2 x3 x4 x5 x6 x7 M1))) x1 x2 x7 M))
theorem k_M_speeds_63 {X : FX} {g : GT} {A : Nat → Prop} {Z : State → Prop} {post : Int32 → Mem → Prop} (C : Cx X g layM A cX12_speeds 8 RX12 6) (hr : 0 ≤ X.2.2.2.1.cells ∧ 0 ≤ X.2.2.2.1.slots) (hR : RetI X g layM A cX12_speeds 8 0 0 Z post) : ∀ (n : Nat) (x1 x2 x3 x4 x5 x6 x7 : Int32) (M : Mem), P_M_speeds_63 post n x1 x2 x3 x4 x5 x6 x7 M → AtX X g layM A 8 0 0 Z 63 [(0, .ref (ad g 0)), (1, .int x1), (2, .int x2), (3, .int x3), (4, .int x4), (5, .int x5), (6, .int x6), (7, .int x7)] [] M := by
  intro n
  induction n with
  | zero =>
    intro x1 x2 x3 x4 x5 x6 x7 M h
    exact h.elim
  | succ n ih =>
    intro x1 x2 x3 x4 x5 x6 x7 M h
    refine a_iload C (tk T_cX12_speeds 35 rfl) rfl ?_
    refine a_bipush C (50 : Int32) (tk T_cX12_speeds 36 rfl) kB_50 ?_
    refine a_icmp_gt C 111 (tk T_cX12_speeds 37 rfl) rfl (fun c => ?_) (fun c => ?_)
    · have h := h.1 c
      refine a_iload_n C (tk T_cX12_speeds 56 rfl) rfl ?_
      refine a_if_ne C 120 (tk T_cX12_speeds 57 rfl) rfl (fun c => ?_) (fun c => ?_)
      · have h := h.1 c
        refine a_iload_n C (tk T_cX12_speeds 60 rfl) rfl ?_
        refine a_iconst C (1 : Int32) (tk T_cX12_speeds 61 rfl) kI_1 ?_
        refine a_icmp_ne C 130 (tk T_cX12_speeds 62 rfl) rfl (fun c => ?_) (fun c => ?_)
        · have h := h.1 c
          refine a_iload C (tk T_cX12_speeds 65 rfl) rfl ?_
          exact a_to (k_M_speeds_132 C hr hR x6 M h) rfl
        · have h := h.2 c
          refine a_iload C (tk T_cX12_speeds 63 rfl) rfl ?_
          refine a_goto C 132 (tk T_cX12_speeds 64 rfl) rfl ?_
          exact a_to (k_M_speeds_132 C hr hR x5 M h) rfl
      · have h := h.2 c
        refine a_iload C (tk T_cX12_speeds 58 rfl) rfl ?_
        refine a_goto C 132 (tk T_cX12_speeds 59 rfl) rfl ?_
        exact a_to (k_M_speeds_132 C hr hR x4 M h) rfl
    · have h := h.2 c
      refine a_aload_n C (tk T_cX12_speeds 38 rfl) rfl ?_
      refine a_iload_n C (tk T_cX12_speeds 39 rfl) rfl ?_
      refine a_iload_n C (tk T_cX12_speeds 40 rfl) rfl ?_
      refine a_iload C (tk T_cX12_speeds 41 rfl) rfl ?_
      refine a_callI C [.int x1, .int x2, .int x7] me_yX12_explainsBy lk_RX12_200 (ct_M_explainsBy h) (by decide) lm0 rfl rfl rfl (Nat.le_of_ble_eq_true rfl) (tk T_cX12_speeds 42 rfl) hr (fun r1 M1 h => ?_)
      refine a_if_ne C 84 (tk T_cX12_speeds 43 rfl) rfl (fun c => ?_) (fun c => ?_)
      · have h := h.1 c
        refine a_iload C (tk T_cX12_speeds 45 rfl) rfl ?_
        refine a_if_ne C 94 (tk T_cX12_speeds 46 rfl) rfl (fun c => ?_) (fun c => ?_)
        · have h := h.1 c
          refine a_iload C (tk T_cX12_speeds 49 rfl) rfl ?_
          exact a_to (k_M_speeds_96 C hr hR ih x1 x2 x3 x4 x7 x5 M1 h) rfl
        · have h := h.2 c
          refine a_iload C (tk T_cX12_speeds 47 rfl) rfl ?_
          refine a_goto C 96 (tk T_cX12_speeds 48 rfl) rfl ?_
          exact a_to (k_M_speeds_96 C hr hR ih x1 x2 x3 x4 x7 x7 M1 h) rfl
      · have h := h.2 c
        refine a_goto C 105 (tk T_cX12_speeds 44 rfl) rfl ?_
        exact a_to (k_M_speeds_105 C hr hR ih x1 x2 x3 x4 x5 x6 x7 M1 h) rfl
def P_M_speeds_42 (post : Int32 → Mem → Prop) (M : Mem) : Prop :=
  post (0 : Int32) M
theorem k_M_speeds_42 {X : FX} {g : GT} {A : Nat → Prop} {Z : State → Prop} {post : Int32 → Mem → Prop} (C : Cx X g layM A cX12_speeds 8 RX12 6) (hr : 0 ≤ X.2.2.2.1.cells ∧ 0 ≤ X.2.2.2.1.slots) (hR : RetI X g layM A cX12_speeds 8 0 0 Z post)  (M : Mem) (h : P_M_speeds_42 post M) : AtX X g layM A 8 0 0 Z 42 [] [] M := by
  refine a_iconst C (0 : Int32) (tk T_cX12_speeds 23 rfl) kI_0 ?_
  exact hR _ _ _ _ (tk T_cX12_speeds 24 rfl) h
def P_M_speeds_35 (post : Int32 → Mem → Prop) (x1 x2 x3 s1 : Int32) (M : Mem) : Prop :=
  P_M_throwsIf (fun r1 M1 =>
  (r1 = 0 → (P_M_spans (fun M2 =>
  ∃ j63, P_M_speeds_63 post j63 x1 x2 x3 (0 : Int32) (99 : Int32) (99 : Int32) (-50 : Int32) M2) M1)) ∧
  (¬ r1 = 0 → (P_M_speeds_42 post M1))) s1 (2 : Int32) M
theorem k_M_speeds_35 {X : FX} {g : GT} {A : Nat → Prop} {Z : State → Prop} {post : Int32 → Mem → Prop} (C : Cx X g layM A cX12_speeds 8 RX12 6) (hr : 0 ≤ X.2.2.2.1.cells ∧ 0 ≤ X.2.2.2.1.slots) (hR : RetI X g layM A cX12_speeds 8 0 0 Z post) (x1 x2 x3 s1 : Int32) (M : Mem) (h : P_M_speeds_35 post x1 x2 x3 s1 M) : AtX X g layM A 8 0 0 Z 35 [(0, .ref (ad g 0)), (1, .int x1), (2, .int x2), (3, .int x3)] [.int s1, .ref (ad g 0)] M := by
  refine a_iconst C (2 : Int32) (tk T_cX12_speeds 20 rfl) kI_2 ?_
  refine a_callI C [.int s1, .int (2 : Int32)] me_yX12_throwsIf lk_RX12_72 (ct_M_throwsIf h) (by decide) lm0 rfl rfl rfl (Nat.le_of_ble_eq_true rfl) (tk T_cX12_speeds 21 rfl) hr (fun r1 M1 h => ?_)
  refine a_if_eq C 44 (tk T_cX12_speeds 22 rfl) rfl (fun c => ?_) (fun c => ?_)
  · have h := h.1 c
    refine a_aload_n C (tk T_cX12_speeds 25 rfl) rfl ?_
    refine a_callV C [] me_yX12_spans lk_RX12_197 (ct_M_spans h) (by decide) lm0 rfl rfl rfl (Nat.le_of_ble_eq_true rfl) (tk T_cX12_speeds 26 rfl) hr (fun M2 h => ?_)
    refine a_iconst C (0 : Int32) (tk T_cX12_speeds 27 rfl) kI_0 ?_
    refine a_istore C (tk T_cX12_speeds 28 rfl) (by decide) rfl ?_
    refine a_bipush C (99 : Int32) (tk T_cX12_speeds 29 rfl) kB_99 ?_
    refine a_istore C (tk T_cX12_speeds 30 rfl) (by decide) rfl ?_
    refine a_bipush C (99 : Int32) (tk T_cX12_speeds 31 rfl) kB_99 ?_
    refine a_istore C (tk T_cX12_speeds 32 rfl) (by decide) rfl ?_
    refine a_bipush C (-50 : Int32) (tk T_cX12_speeds 33 rfl) kB_m50 ?_
    refine a_istore C (tk T_cX12_speeds 34 rfl) (by decide) rfl ?_
    obtain ⟨n1, h⟩ := h
    exact a_to (k_M_speeds_63 C hr hR n1 x1 x2 x3 (0 : Int32) (99 : Int32) (99 : Int32) (-50 : Int32) M2 h) rfl
  · have h := h.2 c
    exact a_to (k_M_speeds_42 C hr hR M1 h) rfl
def P_M_speeds (post : Int32 → Mem → Prop) (x1 x2 x3 : Int32) (M : Mem) : Prop :=
  ∀ M1, M1 = ms M 0 0 (0 : Int32) → P_M_none (fun r2 M2 =>
  P_M_throwsIf (fun r3 M3 =>
  (¬ r3 = 0 → (P_M_speeds_42 post M3)) ∧
  (r3 = 0 → (P_M_in (fun r4 M4 =>
  (¬ r4 = 0 → (P_M_speeds_35 post x1 x2 x3 (0 : Int32) M4)) ∧
  (r4 = 0 → (P_M_speeds_35 post x1 x2 x3 (1 : Int32) M4))) x3 (0 : Int32) (2 : Int32) M3))) r2 (1 : Int32) M2) x1 (8 : Int32) M1
theorem k_M_speeds {X : FX} {g : GT} {A : Nat → Prop} {Z : State → Prop} {post : Int32 → Mem → Prop} (C : Cx X g layM A cX12_speeds 8 RX12 6) (hr : 0 ≤ X.2.2.2.1.cells ∧ 0 ≤ X.2.2.2.1.slots) (hR : RetI X g layM A cX12_speeds 8 0 0 Z post) (x1 x2 x3 : Int32) (M : Mem) (h : P_M_speeds post x1 x2 x3 M) : AtX X g layM A 8 0 0 Z 0 [(0, .ref (ad g 0)), (1, .int x1), (2, .int x2), (3, .int x3)] [] M := by
  refine a_aload_n C (tk T_cX12_speeds 0 rfl) rfl ?_
  refine a_iconst C (0 : Int32) (tk T_cX12_speeds 1 rfl) kI_0 ?_
  refine a_put C f_RX12_3 f_RX12_3p rfl rfl (tk T_cX12_speeds 2 rfl) lm0 rfl ?_
  refine a_mem (fun M1 e_M1 => ?_)
  have h := h M1 e_M1
  refine a_aload_n C (tk T_cX12_speeds 3 rfl) rfl ?_
  refine a_aload_n C (tk T_cX12_speeds 4 rfl) rfl ?_
  refine a_iload_n C (tk T_cX12_speeds 5 rfl) rfl ?_
  refine a_bipush C (8 : Int32) (tk T_cX12_speeds 6 rfl) kB_8 ?_
  refine a_callI C [.int x1, .int (8 : Int32)] me_yX12_none lk_RX12_121 (ct_M_none h) (by decide) lm0 rfl rfl rfl (Nat.le_of_ble_eq_true rfl) (tk T_cX12_speeds 7 rfl) hr (fun r2 M2 h => ?_)
  refine a_iconst C (1 : Int32) (tk T_cX12_speeds 8 rfl) kI_1 ?_
  refine a_callI C [.int r2, .int (1 : Int32)] me_yX12_throwsIf lk_RX12_72 (ct_M_throwsIf h) (by decide) lm0 rfl rfl rfl (Nat.le_of_ble_eq_true rfl) (tk T_cX12_speeds 9 rfl) hr (fun r3 M3 h => ?_)
  refine a_if_ne C 42 (tk T_cX12_speeds 10 rfl) rfl (fun c => ?_) (fun c => ?_)
  · have h := h.1 c
    exact a_to (k_M_speeds_42 C hr hR M3 h) rfl
  · have h := h.2 c
    refine a_aload_n C (tk T_cX12_speeds 11 rfl) rfl ?_
    refine a_iload_n C (tk T_cX12_speeds 12 rfl) rfl ?_
    refine a_iconst C (0 : Int32) (tk T_cX12_speeds 13 rfl) kI_0 ?_
    refine a_iconst C (2 : Int32) (tk T_cX12_speeds 14 rfl) kI_2 ?_
    refine a_statI C [.int x3, .int (0 : Int32), .int (2 : Int32)] me_yX12_in lk_RX12_58 (ct_M_in h) (by decide) rfl rfl (Nat.le_of_ble_eq_true rfl) (tk T_cX12_speeds 15 rfl) hr (fun r4 M4 h => ?_)
    refine a_if_ne C 34 (tk T_cX12_speeds 16 rfl) rfl (fun c => ?_) (fun c => ?_)
    · have h := h.1 c
      refine a_iconst C (0 : Int32) (tk T_cX12_speeds 19 rfl) kI_0 ?_
      exact a_to (k_M_speeds_35 C hr hR x1 x2 x3 (0 : Int32) M4 h) rfl
    · have h := h.2 c
      refine a_iconst C (1 : Int32) (tk T_cX12_speeds 17 rfl) kI_1 ?_
      refine a_goto C 35 (tk T_cX12_speeds 18 rfl) rfl ?_
      exact a_to (k_M_speeds_35 C hr hR x1 x2 x3 (1 : Int32) M4 h) rfl
theorem ct_M_speeds {l : Launch} {g : GT} {post : Int32 → Mem → Prop} {x1 x2 x3 : Int32} {M : Mem} (h : P_M_speeds post x1 x2 x3 M) : CI l g layM yX12_speeds cX12_speeds 8 (some .int) 6 [.ref (ad g 0), .int x1, .int x2, .int x3] M post :=
  ci_of (plainFor_of_name (by decide +kernel)) (Nat.le_of_ble_eq_true rfl) (fun X A Z hl C hr hR => by subst hl; exact k_M_speeds C hr hR x1 x2 x3 M h)
def T_cX12_showsL : List (Nat × Instr × Nat) := [(0, .bipush 9, 2), (2, .iload_n 0, 1), (3, .iload_n 1, 1), (4, .imul, 1), (5, .iconst 5, 1), (6, .idiv, 1), (7, .invokestatic 109, 3), (10, .istore_n 2, 1), (11, .iload_n 0, 1), (12, .bipush 7, 2), (14, .if_icmp .lt 24, 3), (17, .iload_n 1, 1), (18, .bipush 6, 2), (20, .if_icmp .le 18, 3), (23, .iconst 0, 1), (24, .iload_n 2, 1), (25, .iconst 2, 1), (26, .iload_n 1, 1), (27, .bipush 6, 2), (29, .isub, 1), (30, .imul, 1), (31, .isub, 1), (32, .invokestatic 106, 3), (35, .goto 4, 3), (38, .iload_n 2, 1), (39, .ireturn, 1)]
theorem T_cX12_shows : tabOK cX12_shows T_cX12_showsL = true := by decide +kernel
def P_M_shows_39 (post : Int32 → Mem → Prop) (s0 : Int32) (M : Mem) : Prop :=
  post s0 M
theorem k_M_shows_39 {X : FX} {g : GT} {A : Nat → Prop} {Z : State → Prop} {post : Int32 → Mem → Prop} (C : Cx X g layM A cX12_shows 3 RX12 1) (hr : 0 ≤ X.2.2.2.1.cells ∧ 0 ≤ X.2.2.2.1.slots) (hR : RetI X g layM A cX12_shows 3 0 0 Z post) (s0 : Int32) (M : Mem) (h : P_M_shows_39 post s0 M) : AtX X g layM A 3 0 0 Z 39 [] [.int s0] M := by
  exact hR _ _ _ _ (tk T_cX12_shows 25 rfl) h
def P_M_shows_38 (post : Int32 → Mem → Prop) (x2 : Int32) (M : Mem) : Prop :=
  P_M_shows_39 post x2 M
theorem k_M_shows_38 {X : FX} {g : GT} {A : Nat → Prop} {Z : State → Prop} {post : Int32 → Mem → Prop} (C : Cx X g layM A cX12_shows 3 RX12 1) (hr : 0 ≤ X.2.2.2.1.cells ∧ 0 ≤ X.2.2.2.1.slots) (hR : RetI X g layM A cX12_shows 3 0 0 Z post) (x2 : Int32) (M : Mem) (h : P_M_shows_38 post x2 M) : AtX X g layM A 3 0 0 Z 38 [(2, .int x2)] [] M := by
  refine a_iload_n C (tk T_cX12_shows 24 rfl) rfl ?_
  exact a_to (k_M_shows_39 C hr hR x2 M h) rfl
def P_M_shows (post : Int32 → Mem → Prop) (x0 x1 : Int32) (M : Mem) : Prop :=
  P_Math_min (fun r1 M1 =>
  (x0 < (7 : Int32) → (P_M_shows_38 post r1 M1)) ∧
  (¬ x0 < (7 : Int32) → ((x1 ≤ (6 : Int32) → (P_M_shows_38 post r1 M1)) ∧
  (¬ x1 ≤ (6 : Int32) → (P_Math_max (fun r2 M2 =>
  P_M_shows_39 post r2 M2) (0 : Int32) (r1 - ((2 : Int32) * (x1 - (6 : Int32)))) M1))))) (9 : Int32) ((x0 * x1) / (5 : Int32)) M
theorem k_M_shows {X : FX} {g : GT} {A : Nat → Prop} {Z : State → Prop} {post : Int32 → Mem → Prop} (C : Cx X g layM A cX12_shows 3 RX12 1) (hr : 0 ≤ X.2.2.2.1.cells ∧ 0 ≤ X.2.2.2.1.slots) (hR : RetI X g layM A cX12_shows 3 0 0 Z post) (x0 x1 : Int32) (M : Mem) (h : P_M_shows post x0 x1 M) : AtX X g layM A 3 0 0 Z 0 [(0, .int x0), (1, .int x1)] [] M := by
  refine a_bipush C (9 : Int32) (tk T_cX12_shows 0 rfl) kB_9 ?_
  refine a_iload_n C (tk T_cX12_shows 1 rfl) rfl ?_
  refine a_iload_n C (tk T_cX12_shows 2 rfl) rfl ?_
  refine a_imul C (tk T_cX12_shows 3 rfl) ?_
  refine a_iconst C (5 : Int32) (tk T_cX12_shows 4 rfl) kI_5 ?_
  refine a_idiv C (tk T_cX12_shows 5 rfl) (by decide) ?_
  refine a_statI C [.int (9 : Int32), .int ((x0 * x1) / (5 : Int32))] me_yJ9_min_7cf53 lk_RX12_109 (ct_Math_min h) (by decide) rfl rfl (Nat.le_of_ble_eq_true rfl) (tk T_cX12_shows 6 rfl) hr (fun r1 M1 h => ?_)
  refine a_istore_n C (tk T_cX12_shows 7 rfl) (by decide) rfl ?_
  refine a_iload_n C (tk T_cX12_shows 8 rfl) rfl ?_
  refine a_bipush C (7 : Int32) (tk T_cX12_shows 9 rfl) kB_7 ?_
  refine a_icmp_lt C 38 (tk T_cX12_shows 10 rfl) rfl (fun c => ?_) (fun c => ?_)
  · have h := h.1 c
    exact a_to (k_M_shows_38 C hr hR r1 M1 h) rfl
  · have h := h.2 c
    refine a_iload_n C (tk T_cX12_shows 11 rfl) rfl ?_
    refine a_bipush C (6 : Int32) (tk T_cX12_shows 12 rfl) kB_6 ?_
    refine a_icmp_le C 38 (tk T_cX12_shows 13 rfl) rfl (fun c => ?_) (fun c => ?_)
    · have h := h.1 c
      exact a_to (k_M_shows_38 C hr hR r1 M1 h) rfl
    · have h := h.2 c
      refine a_iconst C (0 : Int32) (tk T_cX12_shows 14 rfl) kI_0 ?_
      refine a_iload_n C (tk T_cX12_shows 15 rfl) rfl ?_
      refine a_iconst C (2 : Int32) (tk T_cX12_shows 16 rfl) kI_2 ?_
      refine a_iload_n C (tk T_cX12_shows 17 rfl) rfl ?_
      refine a_bipush C (6 : Int32) (tk T_cX12_shows 18 rfl) kB_6 ?_
      refine a_isub C (tk T_cX12_shows 19 rfl) ?_
      refine a_imul C (tk T_cX12_shows 20 rfl) ?_
      refine a_isub C (tk T_cX12_shows 21 rfl) ?_
      refine a_statI C [.int (0 : Int32), .int (r1 - ((2 : Int32) * (x1 - (6 : Int32))))] me_yJ9_max_7cf53 lk_RX12_106 (ct_Math_max h) (by decide) rfl rfl (Nat.le_of_ble_eq_true rfl) (tk T_cX12_shows 22 rfl) hr (fun r2 M2 h => ?_)
      refine a_goto C 39 (tk T_cX12_shows 23 rfl) rfl ?_
      exact a_to (k_M_shows_39 C hr hR r2 M2 h) rfl
theorem ct_M_shows {l : Launch} {g : GT} {post : Int32 → Mem → Prop} {x0 x1 : Int32} {M : Mem} (h : P_M_shows post x0 x1 M) : CI l g layM yX12_shows cX12_shows 3 (some .int) 1 [.int x0, .int x1] M post :=
  ci_of (plainFor_of_name (by decide +kernel)) (Nat.le_of_ble_eq_true rfl) (fun X A Z hl C hr hR => by subst hl; exact k_M_shows C hr hR x0 x1 M h)
def T_cX12_isAmountL : List (Nat × Instr × Nat) := [(0, .iconst 0, 1), (1, .istore 5, 2), (3, .iload 5, 2), (5, .aload_n 0, 1), (6, .iload_n 3, 1), (7, .invokevirtual 125, 3), (10, .if_icmp .ge 114, 3), (13, .aload_n 0, 1), (14, .iload_n 1, 1), (15, .iload_n 3, 1), (16, .iload 5, 2), (18, .iconst 0, 1), (19, .invokevirtual 171, 3), (22, .ifCond .ne 6, 3), (25, .goto 93, 3), (28, .iconst 0, 1), (29, .istore 6, 2), (31, .iload 6, 2), (33, .aload_n 0, 1), (34, .invokevirtual 128, 3), (37, .if_icmp .ge 81, 3), (40, .aload_n 0, 1), (41, .iload 6, 2), (43, .iconst 0, 1), (44, .invokevirtual 132, 3), (47, .iload_n 1, 1), (48, .if_icmp .ne 64, 3), (51, .aload_n 0, 1), (52, .iload 6, 2), (54, .aload_n 0, 1), (55, .iload_n 3, 1), (56, .iload 5, 2), (58, .invokevirtual 151, 3), (61, .invokevirtual 178, 3), (64, .ifCond .eq 48, 3), (67, .aload_n 0, 1), (68, .iload 6, 2), (70, .iload_n 2, 1), (71, .iconst 0, 1), (72, .iconst 0, 1), (73, .invokevirtual 181, 3), (76, .iconst 1, 1), (77, .if_icmp .eq 6, 3), (80, .goto 32, 3), (83, .aload_n 0, 1), (84, .iload 6, 2), (86, .iconst 3, 1), (87, .invokevirtual 132, 3), (90, .aload_n 0, 1), (91, .iload_n 3, 1), (92, .iload 5, 2), (94, .invokevirtual 164, 3), (97, .iload 4, 2), (99, .invokestatic 224, 3), (102, .isub, 1), (103, .invokestatic 87, 3), (106, .iconst 1, 1), (107, .if_icmp .le 5, 3), (110, .iconst 0, 1), (111, .ireturn, 1), (112, .iinc 6 1, 3), (115, .goto (-84), 3), (118, .iinc 5 1, 3), (121, .goto (-118), 3), (124, .iconst 1, 1), (125, .ireturn, 1)]
theorem T_cX12_isAmount : tabOK cX12_isAmount T_cX12_isAmountL = true := by decide +kernel
def P_M_isAmount_118 (post : Int32 → Mem → Prop) (R3 : Int32 → Int32 → Int32 → Int32 → Int32 → Mem → Prop) (x1 x2 x3 x4 x5 : Int32) (M : Mem) : Prop :=
  R3 x1 x2 x3 x4 (x5 + (1 : Int32)) M
theorem k_M_isAmount_118 {X : FX} {g : GT} {A : Nat → Prop} {Z : State → Prop} {post : Int32 → Mem → Prop} {R3 : Int32 → Int32 → Int32 → Int32 → Int32 → Mem → Prop} (C : Cx X g layM A cX12_isAmount 7 RX12 4) (hr : 0 ≤ X.2.2.2.1.cells ∧ 0 ≤ X.2.2.2.1.slots) (hR : RetZ X g layM A cX12_isAmount 7 0 0 Z post) (k3 : ∀ (y1 y2 y3 y4 y5 : Int32) (M : Mem), R3 y1 y2 y3 y4 y5 M → AtX X g layM A 7 0 0 Z 3 [(0, .ref (ad g 0)), (1, .int y1), (2, .int y2), (3, .int y3), (4, .int y4), (5, .int y5)] [] M) (x1 x2 x3 x4 x5 : Int32) (M : Mem) (h : P_M_isAmount_118 post R3 x1 x2 x3 x4 x5 M) : AtX X g layM A 7 0 0 Z 118 [(0, .ref (ad g 0)), (1, .int x1), (2, .int x2), (3, .int x3), (4, .int x4), (5, .int x5)] [] M := by
  refine a_iinc C (1 : Int32) (tk T_cX12_isAmount 62 rfl) rfl kI_1 (by decide) rfl ?_
  refine a_goto C 3 (tk T_cX12_isAmount 63 rfl) rfl ?_
  exact a_to (k3 x1 x2 x3 x4 (x5 + (1 : Int32)) M h) rfl
def P_M_isAmount_112 (post : Int32 → Mem → Prop) (R3 : Int32 → Int32 → Int32 → Int32 → Int32 → Mem → Prop) (R31 : Int32 → Int32 → Int32 → Int32 → Int32 → Int32 → Mem → Prop) (x1 x2 x3 x4 x5 x6 : Int32) (M : Mem) : Prop :=
  R31 x1 x2 x3 x4 x5 (x6 + (1 : Int32)) M
theorem k_M_isAmount_112 {X : FX} {g : GT} {A : Nat → Prop} {Z : State → Prop} {post : Int32 → Mem → Prop} {R3 : Int32 → Int32 → Int32 → Int32 → Int32 → Mem → Prop} {R31 : Int32 → Int32 → Int32 → Int32 → Int32 → Int32 → Mem → Prop} (C : Cx X g layM A cX12_isAmount 7 RX12 4) (hr : 0 ≤ X.2.2.2.1.cells ∧ 0 ≤ X.2.2.2.1.slots) (hR : RetZ X g layM A cX12_isAmount 7 0 0 Z post) (k3 : ∀ (y1 y2 y3 y4 y5 : Int32) (M : Mem), R3 y1 y2 y3 y4 y5 M → AtX X g layM A 7 0 0 Z 3 [(0, .ref (ad g 0)), (1, .int y1), (2, .int y2), (3, .int y3), (4, .int y4), (5, .int y5)] [] M) (k31 : ∀ (y1 y2 y3 y4 y5 y6 : Int32) (M : Mem), R31 y1 y2 y3 y4 y5 y6 M → AtX X g layM A 7 0 0 Z 31 [(0, .ref (ad g 0)), (1, .int y1), (2, .int y2), (3, .int y3), (4, .int y4), (5, .int y5), (6, .int y6)] [] M) (x1 x2 x3 x4 x5 x6 : Int32) (M : Mem) (h : P_M_isAmount_112 post R3 R31 x1 x2 x3 x4 x5 x6 M) : AtX X g layM A 7 0 0 Z 112 [(0, .ref (ad g 0)), (1, .int x1), (2, .int x2), (3, .int x3), (4, .int x4), (5, .int x5), (6, .int x6)] [] M := by
  refine a_iinc C (1 : Int32) (tk T_cX12_isAmount 60 rfl) rfl kI_1 (by decide) rfl ?_
  refine a_goto C 31 (tk T_cX12_isAmount 61 rfl) rfl ?_
  exact a_to (k31 x1 x2 x3 x4 x5 (x6 + (1 : Int32)) M h) rfl
def P_M_isAmount_31 (post : Int32 → Mem → Prop) (R3 : Int32 → Int32 → Int32 → Int32 → Int32 → Mem → Prop) : Nat → Int32 → Int32 → Int32 → Int32 → Int32 → Int32 → Mem → Prop
  | 0, _, _, _, _, _, _, _ => False
  | n + 1, x1, x2, x3, x4, x5, x6, M =>
    P_M_readings (fun r1 M1 =>
  (r1 ≤ x6 → (P_M_isAmount_118 post R3 x1 x2 x3 x4 x5 M1)) ∧
  (¬ r1 ≤ x6 → (P_M_of (fun r2 M2 =>
  (¬ r2 = x1 → (P_M_isAmount_112 post R3 (P_M_isAmount_31 post R3 n) x1 x2 x3 x4 x5 x6 M2)) ∧
  (r2 = x1 → (P_M_waveOf (fun r3 M3 =>
  P_M_isIn (fun r4 M4 =>
  (r4 = 0 → (P_M_isAmount_112 post R3 (P_M_isAmount_31 post R3 n) x1 x2 x3 x4 x5 x6 M4)) ∧
  (¬ r4 = 0 → (P_M_linesIn (fun r5 M5 =>
  (r5 = (1 : Int32) → (P_M_of (fun r6 M6 =>
  P_M_strengthOf (fun r7 M7 =>
  P_M_shows (fun r8 M8 =>
  P_Math_abs (fun r9 M9 =>
  (r9 ≤ (1 : Int32) → (P_M_isAmount_112 post R3 (P_M_isAmount_31 post R3 n) x1 x2 x3 x4 x5 x6 M9)) ∧
  (¬ r9 ≤ (1 : Int32) → (post (0 : Int32) M9))) (r6 - r8) M8) r7 x4 M7) x3 x5 M6) x6 (3 : Int32) M5)) ∧
  (¬ r5 = (1 : Int32) → (P_M_isAmount_112 post R3 (P_M_isAmount_31 post R3 n) x1 x2 x3 x4 x5 x6 M5))) x6 x2 (0 : Int32) (0 : Int32) M4))) x6 r3 M3) x3 x5 M2))) x6 (0 : Int32) M1))) M
theorem k_M_isAmount_31 {X : FX} {g : GT} {A : Nat → Prop} {Z : State → Prop} {post : Int32 → Mem → Prop} {R3 : Int32 → Int32 → Int32 → Int32 → Int32 → Mem → Prop} (C : Cx X g layM A cX12_isAmount 7 RX12 4) (hr : 0 ≤ X.2.2.2.1.cells ∧ 0 ≤ X.2.2.2.1.slots) (hR : RetZ X g layM A cX12_isAmount 7 0 0 Z post) (k3 : ∀ (y1 y2 y3 y4 y5 : Int32) (M : Mem), R3 y1 y2 y3 y4 y5 M → AtX X g layM A 7 0 0 Z 3 [(0, .ref (ad g 0)), (1, .int y1), (2, .int y2), (3, .int y3), (4, .int y4), (5, .int y5)] [] M) : ∀ (n : Nat) (x1 x2 x3 x4 x5 x6 : Int32) (M : Mem), P_M_isAmount_31 post R3 n x1 x2 x3 x4 x5 x6 M → AtX X g layM A 7 0 0 Z 31 [(0, .ref (ad g 0)), (1, .int x1), (2, .int x2), (3, .int x3), (4, .int x4), (5, .int x5), (6, .int x6)] [] M := by
  intro n
  induction n with
  | zero =>
    intro x1 x2 x3 x4 x5 x6 M h
    exact h.elim
  | succ n ih =>
    intro x1 x2 x3 x4 x5 x6 M h
    refine a_iload C (tk T_cX12_isAmount 17 rfl) rfl ?_
    refine a_aload_n C (tk T_cX12_isAmount 18 rfl) rfl ?_
    refine a_callI C [] me_yX12_readings lk_RX12_128 (ct_M_readings h) (by decide) lm0 rfl rfl rfl (Nat.le_of_ble_eq_true rfl) (tk T_cX12_isAmount 19 rfl) hr (fun r1 M1 h => ?_)
    refine a_icmp_ge C 118 (tk T_cX12_isAmount 20 rfl) rfl (fun c => ?_) (fun c => ?_)
    · have h := h.1 c
      exact a_to (k_M_isAmount_118 C hr hR k3 x1 x2 x3 x4 x5 M1 h) rfl
    · have h := h.2 c
      refine a_aload_n C (tk T_cX12_isAmount 21 rfl) rfl ?_
      refine a_iload C (tk T_cX12_isAmount 22 rfl) rfl ?_
      refine a_iconst C (0 : Int32) (tk T_cX12_isAmount 23 rfl) kI_0 ?_
      refine a_callI C [.int x6, .int (0 : Int32)] me_yX12_of lk_RX12_132 (ct_M_of h) (by decide) lm0 rfl rfl rfl (Nat.le_of_ble_eq_true rfl) (tk T_cX12_isAmount 24 rfl) hr (fun r2 M2 h => ?_)
      refine a_iload_n C (tk T_cX12_isAmount 25 rfl) rfl ?_
      refine a_icmp_ne C 112 (tk T_cX12_isAmount 26 rfl) rfl (fun c => ?_) (fun c => ?_)
      · have h := h.1 c
        exact a_to (k_M_isAmount_112 C hr hR k3 ih x1 x2 x3 x4 x5 x6 M2 h) rfl
      · have h := h.2 c
        refine a_aload_n C (tk T_cX12_isAmount 27 rfl) rfl ?_
        refine a_iload C (tk T_cX12_isAmount 28 rfl) rfl ?_
        refine a_aload_n C (tk T_cX12_isAmount 29 rfl) rfl ?_
        refine a_iload_n C (tk T_cX12_isAmount 30 rfl) rfl ?_
        refine a_iload C (tk T_cX12_isAmount 31 rfl) rfl ?_
        refine a_callI C [.int x3, .int x5] me_yX12_waveOf lk_RX12_151 (ct_M_waveOf h) (by decide) lm0 rfl rfl rfl (Nat.le_of_ble_eq_true rfl) (tk T_cX12_isAmount 32 rfl) hr (fun r3 M3 h => ?_)
        refine a_callI C [.int x6, .int r3] me_yX12_isIn lk_RX12_178 (ct_M_isIn h) (by decide) lm0 rfl rfl rfl (Nat.le_of_ble_eq_true rfl) (tk T_cX12_isAmount 33 rfl) hr (fun r4 M4 h => ?_)
        refine a_if_eq C 112 (tk T_cX12_isAmount 34 rfl) rfl (fun c => ?_) (fun c => ?_)
        · have h := h.1 c
          exact a_to (k_M_isAmount_112 C hr hR k3 ih x1 x2 x3 x4 x5 x6 M4 h) rfl
        · have h := h.2 c
          refine a_aload_n C (tk T_cX12_isAmount 35 rfl) rfl ?_
          refine a_iload C (tk T_cX12_isAmount 36 rfl) rfl ?_
          refine a_iload_n C (tk T_cX12_isAmount 37 rfl) rfl ?_
          refine a_iconst C (0 : Int32) (tk T_cX12_isAmount 38 rfl) kI_0 ?_
          refine a_iconst C (0 : Int32) (tk T_cX12_isAmount 39 rfl) kI_0 ?_
          refine a_callI C [.int x6, .int x2, .int (0 : Int32), .int (0 : Int32)] me_yX12_linesIn lk_RX12_181 (ct_M_linesIn h) (by decide) lm0 rfl rfl rfl (Nat.le_of_ble_eq_true rfl) (tk T_cX12_isAmount 40 rfl) hr (fun r5 M5 h => ?_)
          refine a_iconst C (1 : Int32) (tk T_cX12_isAmount 41 rfl) kI_1 ?_
          refine a_icmp_eq C 83 (tk T_cX12_isAmount 42 rfl) rfl (fun c => ?_) (fun c => ?_)
          · have h := h.1 c
            refine a_aload_n C (tk T_cX12_isAmount 44 rfl) rfl ?_
            refine a_iload C (tk T_cX12_isAmount 45 rfl) rfl ?_
            refine a_iconst C (3 : Int32) (tk T_cX12_isAmount 46 rfl) kI_3 ?_
            refine a_callI C [.int x6, .int (3 : Int32)] me_yX12_of lk_RX12_132 (ct_M_of h) (by decide) lm0 rfl rfl rfl (Nat.le_of_ble_eq_true rfl) (tk T_cX12_isAmount 47 rfl) hr (fun r6 M6 h => ?_)
            refine a_aload_n C (tk T_cX12_isAmount 48 rfl) rfl ?_
            refine a_iload_n C (tk T_cX12_isAmount 49 rfl) rfl ?_
            refine a_iload C (tk T_cX12_isAmount 50 rfl) rfl ?_
            refine a_callI C [.int x3, .int x5] me_yX12_strengthOf lk_RX12_164 (ct_M_strengthOf h) (by decide) lm0 rfl rfl rfl (Nat.le_of_ble_eq_true rfl) (tk T_cX12_isAmount 51 rfl) hr (fun r7 M7 h => ?_)
            refine a_iload C (tk T_cX12_isAmount 52 rfl) rfl ?_
            refine a_statI C [.int r7, .int x4] me_yX12_shows lk_RX12_224 (ct_M_shows h) (by decide) rfl rfl (Nat.le_of_ble_eq_true rfl) (tk T_cX12_isAmount 53 rfl) hr (fun r8 M8 h => ?_)
            refine a_isub C (tk T_cX12_isAmount 54 rfl) ?_
            refine a_statI C [.int (r6 - r8)] me_yJ9_abs_0f7a4 lk_RX12_87 (ct_Math_abs h) (by decide) rfl rfl (Nat.le_of_ble_eq_true rfl) (tk T_cX12_isAmount 55 rfl) hr (fun r9 M9 h => ?_)
            refine a_iconst C (1 : Int32) (tk T_cX12_isAmount 56 rfl) kI_1 ?_
            refine a_icmp_le C 112 (tk T_cX12_isAmount 57 rfl) rfl (fun c => ?_) (fun c => ?_)
            · have h := h.1 c
              exact a_to (k_M_isAmount_112 C hr hR k3 ih x1 x2 x3 x4 x5 x6 M9 h) rfl
            · have h := h.2 c
              refine a_iconst C (0 : Int32) (tk T_cX12_isAmount 58 rfl) kI_0 ?_
              exact hR _ _ _ _ (tk T_cX12_isAmount 59 rfl) ⟨Or.inl rfl, h⟩
          · have h := h.2 c
            refine a_goto C 112 (tk T_cX12_isAmount 43 rfl) rfl ?_
            exact a_to (k_M_isAmount_112 C hr hR k3 ih x1 x2 x3 x4 x5 x6 M5 h) rfl
def P_M_isAmount_3 (post : Int32 → Mem → Prop) : Nat → Int32 → Int32 → Int32 → Int32 → Int32 → Mem → Prop
  | 0, _, _, _, _, _, _ => False
  | n + 1, x1, x2, x3, x4, x5, M =>
    P_M_lines (fun r1 M1 =>
  (r1 ≤ x5 → (post (1 : Int32) M1)) ∧
  (¬ r1 ≤ x5 → (P_M_mustOn (fun r2 M2 =>
  (¬ r2 = 0 → (∃ j31, P_M_isAmount_31 post (P_M_isAmount_3 post n) j31 x1 x2 x3 x4 x5 (0 : Int32) M2)) ∧
  (r2 = 0 → (P_M_isAmount_118 post (P_M_isAmount_3 post n) x1 x2 x3 x4 x5 M2))) x1 x3 x5 (0 : Int32) M1))) x3 M
theorem k_M_isAmount_3 {X : FX} {g : GT} {A : Nat → Prop} {Z : State → Prop} {post : Int32 → Mem → Prop} (C : Cx X g layM A cX12_isAmount 7 RX12 4) (hr : 0 ≤ X.2.2.2.1.cells ∧ 0 ≤ X.2.2.2.1.slots) (hR : RetZ X g layM A cX12_isAmount 7 0 0 Z post) : ∀ (n : Nat) (x1 x2 x3 x4 x5 : Int32) (M : Mem), P_M_isAmount_3 post n x1 x2 x3 x4 x5 M → AtX X g layM A 7 0 0 Z 3 [(0, .ref (ad g 0)), (1, .int x1), (2, .int x2), (3, .int x3), (4, .int x4), (5, .int x5)] [] M := by
  intro n
  induction n with
  | zero =>
    intro x1 x2 x3 x4 x5 M h
    exact h.elim
  | succ n ih =>
    intro x1 x2 x3 x4 x5 M h
    refine a_iload C (tk T_cX12_isAmount 2 rfl) rfl ?_
    refine a_aload_n C (tk T_cX12_isAmount 3 rfl) rfl ?_
    refine a_iload_n C (tk T_cX12_isAmount 4 rfl) rfl ?_
    refine a_callI C [.int x3] me_yX12_lines lk_RX12_125 (ct_M_lines h) (by decide) lm0 rfl rfl rfl (Nat.le_of_ble_eq_true rfl) (tk T_cX12_isAmount 5 rfl) hr (fun r1 M1 h => ?_)
    refine a_icmp_ge C 124 (tk T_cX12_isAmount 6 rfl) rfl (fun c => ?_) (fun c => ?_)
    · have h := h.1 c
      refine a_iconst C (1 : Int32) (tk T_cX12_isAmount 64 rfl) kI_1 ?_
      exact hR _ _ _ _ (tk T_cX12_isAmount 65 rfl) ⟨Or.inr rfl, h⟩
    · have h := h.2 c
      refine a_aload_n C (tk T_cX12_isAmount 7 rfl) rfl ?_
      refine a_iload_n C (tk T_cX12_isAmount 8 rfl) rfl ?_
      refine a_iload_n C (tk T_cX12_isAmount 9 rfl) rfl ?_
      refine a_iload C (tk T_cX12_isAmount 10 rfl) rfl ?_
      refine a_iconst C (0 : Int32) (tk T_cX12_isAmount 11 rfl) kI_0 ?_
      refine a_callI C [.int x1, .int x3, .int x5, .int (0 : Int32)] me_yX12_mustOn lk_RX12_171 (ct_M_mustOn h) (by decide) lm0 rfl rfl rfl (Nat.le_of_ble_eq_true rfl) (tk T_cX12_isAmount 12 rfl) hr (fun r2 M2 h => ?_)
      refine a_if_ne C 28 (tk T_cX12_isAmount 13 rfl) rfl (fun c => ?_) (fun c => ?_)
      · have h := h.1 c
        refine a_iconst C (0 : Int32) (tk T_cX12_isAmount 15 rfl) kI_0 ?_
        refine a_istore C (tk T_cX12_isAmount 16 rfl) (by decide) rfl ?_
        obtain ⟨n1, h⟩ := h
        exact a_to (k_M_isAmount_31 C hr hR ih n1 x1 x2 x3 x4 x5 (0 : Int32) M2 h) rfl
      · have h := h.2 c
        refine a_goto C 118 (tk T_cX12_isAmount 14 rfl) rfl ?_
        exact a_to (k_M_isAmount_118 C hr hR ih x1 x2 x3 x4 x5 M2 h) rfl
def P_M_isAmount (post : Int32 → Mem → Prop) (x1 x2 x3 x4 : Int32) (M : Mem) : Prop :=
  ∃ j3, P_M_isAmount_3 post j3 x1 x2 x3 x4 (0 : Int32) M
theorem k_M_isAmount {X : FX} {g : GT} {A : Nat → Prop} {Z : State → Prop} {post : Int32 → Mem → Prop} (C : Cx X g layM A cX12_isAmount 7 RX12 4) (hr : 0 ≤ X.2.2.2.1.cells ∧ 0 ≤ X.2.2.2.1.slots) (hR : RetZ X g layM A cX12_isAmount 7 0 0 Z post) (x1 x2 x3 x4 : Int32) (M : Mem) (h : P_M_isAmount post x1 x2 x3 x4 M) : AtX X g layM A 7 0 0 Z 0 [(0, .ref (ad g 0)), (1, .int x1), (2, .int x2), (3, .int x3), (4, .int x4)] [] M := by
  refine a_iconst C (0 : Int32) (tk T_cX12_isAmount 0 rfl) kI_0 ?_
  refine a_istore C (tk T_cX12_isAmount 1 rfl) (by decide) rfl ?_
  obtain ⟨n1, h⟩ := h
  exact a_to (k_M_isAmount_3 C hr hR n1 x1 x2 x3 x4 (0 : Int32) M h) rfl
theorem ct_M_isAmount {l : Launch} {g : GT} {post : Int32 → Mem → Prop} {x1 x2 x3 x4 : Int32} {M : Mem} (h : P_M_isAmount post x1 x2 x3 x4 M) : CI l g layM yX12_isAmount cX12_isAmount 7 (some .boolean) 4 [.ref (ad g 0), .int x1, .int x2, .int x3, .int x4] M post :=
  cz_of (plainFor_of_name (by decide +kernel)) (Nat.le_of_ble_eq_true rfl) (fun X A Z hl C hr hR => by subst hl; exact k_M_isAmount C hr hR x1 x2 x3 x4 M h)
def T_cX12_amountL : List (Nat × Instr × Nat) := [(0, .aload_n 0, 1), (1, .iconst 0, 1), (2, .putfield 3, 3), (5, .aload_n 0, 1), (6, .aload_n 0, 1), (7, .iload_n 1, 1), (8, .bipush 8, 2), (10, .invokevirtual 121, 3), (13, .ifCond .ne 13, 3), (16, .aload_n 0, 1), (17, .iload_n 3, 1), (18, .bipush 7, 2), (20, .invokevirtual 121, 3), (23, .ifCond .eq 7, 3), (26, .iconst 1, 1), (27, .goto 4, 3), (30, .iconst 0, 1), (31, .iconst 1, 1), (32, .invokevirtual 72, 3), (35, .ifCond .eq 5, 3), (38, .iconst 0, 1), (39, .ireturn, 1), (40, .aload_n 0, 1), (41, .invokevirtual 197, 3), (44, .iconst (-1), 1), (45, .istore 5, 2), (47, .iconst 1, 1), (48, .istore 6, 2), (50, .iload 6, 2), (52, .bipush 10, 2), (54, .if_icmp .ge 39, 3), (57, .aload_n 0, 1), (58, .iload_n 1, 1), (59, .iload_n 2, 1), (60, .iconst 1, 1), (61, .iload_n 3, 1), (62, .ishl, 1), (63, .ior, 1), (64, .iload_n 3, 1), (65, .iload 6, 2), (67, .invokevirtual 227, 3), (70, .ifCond .eq 17, 3), (73, .iload 4, 2), (75, .ifCond .ne 8, 3), (78, .iload 5, 2), (80, .ifCond .ge 7, 3), (83, .iload 6, 2), (85, .istore 5, 2), (87, .iinc 6 1, 3), (90, .goto (-40), 3), (93, .iload 5, 2), (95, .ireturn, 1)]
theorem T_cX12_amount : tabOK cX12_amount T_cX12_amountL = true := by decide +kernel
def P_M_amount_87 (post : Int32 → Mem → Prop) (R50 : Int32 → Int32 → Int32 → Int32 → Int32 → Int32 → Mem → Prop) (x1 x2 x3 x4 x5 x6 : Int32) (M : Mem) : Prop :=
  R50 x1 x2 x3 x4 x5 (x6 + (1 : Int32)) M
theorem k_M_amount_87 {X : FX} {g : GT} {A : Nat → Prop} {Z : State → Prop} {post : Int32 → Mem → Prop} {R50 : Int32 → Int32 → Int32 → Int32 → Int32 → Int32 → Mem → Prop} (C : Cx X g layM A cX12_amount 7 RX12 5) (hr : 0 ≤ X.2.2.2.1.cells ∧ 0 ≤ X.2.2.2.1.slots) (hR : RetI X g layM A cX12_amount 7 0 0 Z post) (k50 : ∀ (y1 y2 y3 y4 y5 y6 : Int32) (M : Mem), R50 y1 y2 y3 y4 y5 y6 M → AtX X g layM A 7 0 0 Z 50 [(0, .ref (ad g 0)), (1, .int y1), (2, .int y2), (3, .int y3), (4, .int y4), (5, .int y5), (6, .int y6)] [] M) (x1 x2 x3 x4 x5 x6 : Int32) (M : Mem) (h : P_M_amount_87 post R50 x1 x2 x3 x4 x5 x6 M) : AtX X g layM A 7 0 0 Z 87 [(0, .ref (ad g 0)), (1, .int x1), (2, .int x2), (3, .int x3), (4, .int x4), (5, .int x5), (6, .int x6)] [] M := by
  refine a_iinc C (1 : Int32) (tk T_cX12_amount 48 rfl) rfl kI_1 (by decide) rfl ?_
  refine a_goto C 50 (tk T_cX12_amount 49 rfl) rfl ?_
  exact a_to (k50 x1 x2 x3 x4 x5 (x6 + (1 : Int32)) M h) rfl
def P_M_amount_83 (post : Int32 → Mem → Prop) (R50 : Int32 → Int32 → Int32 → Int32 → Int32 → Int32 → Mem → Prop) (x1 x2 x3 x4 x6 : Int32) (M : Mem) : Prop :=
  P_M_amount_87 post R50 x1 x2 x3 x4 x6 x6 M
theorem k_M_amount_83 {X : FX} {g : GT} {A : Nat → Prop} {Z : State → Prop} {post : Int32 → Mem → Prop} {R50 : Int32 → Int32 → Int32 → Int32 → Int32 → Int32 → Mem → Prop} (C : Cx X g layM A cX12_amount 7 RX12 5) (hr : 0 ≤ X.2.2.2.1.cells ∧ 0 ≤ X.2.2.2.1.slots) (hR : RetI X g layM A cX12_amount 7 0 0 Z post) (k50 : ∀ (y1 y2 y3 y4 y5 y6 : Int32) (M : Mem), R50 y1 y2 y3 y4 y5 y6 M → AtX X g layM A 7 0 0 Z 50 [(0, .ref (ad g 0)), (1, .int y1), (2, .int y2), (3, .int y3), (4, .int y4), (5, .int y5), (6, .int y6)] [] M) (x1 x2 x3 x4 x6 : Int32) (M : Mem) (h : P_M_amount_83 post R50 x1 x2 x3 x4 x6 M) : AtX X g layM A 7 0 0 Z 83 [(0, .ref (ad g 0)), (1, .int x1), (2, .int x2), (3, .int x3), (4, .int x4), (6, .int x6)] [] M := by
  refine a_iload C (tk T_cX12_amount 46 rfl) rfl ?_
  refine a_istore C (tk T_cX12_amount 47 rfl) (by decide) rfl ?_
  exact a_to (k_M_amount_87 C hr hR k50 x1 x2 x3 x4 x6 x6 M h) rfl
def P_M_amount_50 (post : Int32 → Mem → Prop) : Nat → Int32 → Int32 → Int32 → Int32 → Int32 → Int32 → Mem → Prop
  | 0, _, _, _, _, _, _, _ => False
  | n + 1, x1, x2, x3, x4, x5, x6, M =>
    ((10 : Int32) ≤ x6 → (post x5 M)) ∧
  (¬ (10 : Int32) ≤ x6 → (P_M_isAmount (fun r1 M1 =>
  (r1 = 0 → (P_M_amount_87 post (P_M_amount_50 post n) x1 x2 x3 x4 x5 x6 M1)) ∧
  (¬ r1 = 0 → ((¬ x4 = 0 → (P_M_amount_83 post (P_M_amount_50 post n) x1 x2 x3 x4 x6 M1)) ∧
  (x4 = 0 → ((0 ≤ x5 → (P_M_amount_87 post (P_M_amount_50 post n) x1 x2 x3 x4 x5 x6 M1)) ∧
  (¬ 0 ≤ x5 → (P_M_amount_83 post (P_M_amount_50 post n) x1 x2 x3 x4 x6 M1))))))) x1 (x2 ||| ((1 : Int32) <<< (x3 &&& 31))) x3 x6 M))
theorem k_M_amount_50 {X : FX} {g : GT} {A : Nat → Prop} {Z : State → Prop} {post : Int32 → Mem → Prop} (C : Cx X g layM A cX12_amount 7 RX12 5) (hr : 0 ≤ X.2.2.2.1.cells ∧ 0 ≤ X.2.2.2.1.slots) (hR : RetI X g layM A cX12_amount 7 0 0 Z post) : ∀ (n : Nat) (x1 x2 x3 x4 x5 x6 : Int32) (M : Mem), P_M_amount_50 post n x1 x2 x3 x4 x5 x6 M → AtX X g layM A 7 0 0 Z 50 [(0, .ref (ad g 0)), (1, .int x1), (2, .int x2), (3, .int x3), (4, .int x4), (5, .int x5), (6, .int x6)] [] M := by
  intro n
  induction n with
  | zero =>
    intro x1 x2 x3 x4 x5 x6 M h
    exact h.elim
  | succ n ih =>
    intro x1 x2 x3 x4 x5 x6 M h
    refine a_iload C (tk T_cX12_amount 28 rfl) rfl ?_
    refine a_bipush C (10 : Int32) (tk T_cX12_amount 29 rfl) kB_10 ?_
    refine a_icmp_ge C 93 (tk T_cX12_amount 30 rfl) rfl (fun c => ?_) (fun c => ?_)
    · have h := h.1 c
      refine a_iload C (tk T_cX12_amount 50 rfl) rfl ?_
      exact hR _ _ _ _ (tk T_cX12_amount 51 rfl) h
    · have h := h.2 c
      refine a_aload_n C (tk T_cX12_amount 31 rfl) rfl ?_
      refine a_iload_n C (tk T_cX12_amount 32 rfl) rfl ?_
      refine a_iload_n C (tk T_cX12_amount 33 rfl) rfl ?_
      refine a_iconst C (1 : Int32) (tk T_cX12_amount 34 rfl) kI_1 ?_
      refine a_iload_n C (tk T_cX12_amount 35 rfl) rfl ?_
      refine a_ishl C (tk T_cX12_amount 36 rfl) ?_
      refine a_ior C (tk T_cX12_amount 37 rfl) ?_
      refine a_iload_n C (tk T_cX12_amount 38 rfl) rfl ?_
      refine a_iload C (tk T_cX12_amount 39 rfl) rfl ?_
      refine a_callI C [.int x1, .int (x2 ||| ((1 : Int32) <<< (x3 &&& 31))), .int x3, .int x6] me_yX12_isAmount lk_RX12_227 (ct_M_isAmount h) (by decide) lm0 rfl rfl rfl (Nat.le_of_ble_eq_true rfl) (tk T_cX12_amount 40 rfl) hr (fun r1 M1 h => ?_)
      refine a_if_eq C 87 (tk T_cX12_amount 41 rfl) rfl (fun c => ?_) (fun c => ?_)
      · have h := h.1 c
        exact a_to (k_M_amount_87 C hr hR ih x1 x2 x3 x4 x5 x6 M1 h) rfl
      · have h := h.2 c
        refine a_iload C (tk T_cX12_amount 42 rfl) rfl ?_
        refine a_if_ne C 83 (tk T_cX12_amount 43 rfl) rfl (fun c => ?_) (fun c => ?_)
        · have h := h.1 c
          exact a_to (k_M_amount_83 C hr hR ih x1 x2 x3 x4 x6 M1 h) rfl
        · have h := h.2 c
          refine a_iload C (tk T_cX12_amount 44 rfl) rfl ?_
          refine a_if_ge C 87 (tk T_cX12_amount 45 rfl) rfl (fun c => ?_) (fun c => ?_)
          · have h := h.1 c
            exact a_to (k_M_amount_87 C hr hR ih x1 x2 x3 x4 x5 x6 M1 h) rfl
          · have h := h.2 c
            exact a_to (k_M_amount_83 C hr hR ih x1 x2 x3 x4 x6 M1 h) rfl
def P_M_amount_31 (post : Int32 → Mem → Prop) (x1 x2 x3 x4 s1 : Int32) (M : Mem) : Prop :=
  P_M_throwsIf (fun r1 M1 =>
  (r1 = 0 → (P_M_spans (fun M2 =>
  ∃ j50, P_M_amount_50 post j50 x1 x2 x3 x4 (-1 : Int32) (1 : Int32) M2) M1)) ∧
  (¬ r1 = 0 → (post (0 : Int32) M1))) s1 (1 : Int32) M
theorem k_M_amount_31 {X : FX} {g : GT} {A : Nat → Prop} {Z : State → Prop} {post : Int32 → Mem → Prop} (C : Cx X g layM A cX12_amount 7 RX12 5) (hr : 0 ≤ X.2.2.2.1.cells ∧ 0 ≤ X.2.2.2.1.slots) (hR : RetI X g layM A cX12_amount 7 0 0 Z post) (x1 x2 x3 x4 s1 : Int32) (M : Mem) (h : P_M_amount_31 post x1 x2 x3 x4 s1 M) : AtX X g layM A 7 0 0 Z 31 [(0, .ref (ad g 0)), (1, .int x1), (2, .int x2), (3, .int x3), (4, .int x4)] [.int s1, .ref (ad g 0)] M := by
  refine a_iconst C (1 : Int32) (tk T_cX12_amount 17 rfl) kI_1 ?_
  refine a_callI C [.int s1, .int (1 : Int32)] me_yX12_throwsIf lk_RX12_72 (ct_M_throwsIf h) (by decide) lm0 rfl rfl rfl (Nat.le_of_ble_eq_true rfl) (tk T_cX12_amount 18 rfl) hr (fun r1 M1 h => ?_)
  refine a_if_eq C 40 (tk T_cX12_amount 19 rfl) rfl (fun c => ?_) (fun c => ?_)
  · have h := h.1 c
    refine a_aload_n C (tk T_cX12_amount 22 rfl) rfl ?_
    refine a_callV C [] me_yX12_spans lk_RX12_197 (ct_M_spans h) (by decide) lm0 rfl rfl rfl (Nat.le_of_ble_eq_true rfl) (tk T_cX12_amount 23 rfl) hr (fun M2 h => ?_)
    refine a_iconst C (-1 : Int32) (tk T_cX12_amount 24 rfl) kI_m1 ?_
    refine a_istore C (tk T_cX12_amount 25 rfl) (by decide) rfl ?_
    refine a_iconst C (1 : Int32) (tk T_cX12_amount 26 rfl) kI_1 ?_
    refine a_istore C (tk T_cX12_amount 27 rfl) (by decide) rfl ?_
    obtain ⟨n1, h⟩ := h
    exact a_to (k_M_amount_50 C hr hR n1 x1 x2 x3 x4 (-1 : Int32) (1 : Int32) M2 h) rfl
  · have h := h.2 c
    refine a_iconst C (0 : Int32) (tk T_cX12_amount 20 rfl) kI_0 ?_
    exact hR _ _ _ _ (tk T_cX12_amount 21 rfl) h
def P_M_amount_26 (post : Int32 → Mem → Prop) (x1 x2 x3 x4 : Int32) (M : Mem) : Prop :=
  P_M_amount_31 post x1 x2 x3 x4 (1 : Int32) M
theorem k_M_amount_26 {X : FX} {g : GT} {A : Nat → Prop} {Z : State → Prop} {post : Int32 → Mem → Prop} (C : Cx X g layM A cX12_amount 7 RX12 5) (hr : 0 ≤ X.2.2.2.1.cells ∧ 0 ≤ X.2.2.2.1.slots) (hR : RetI X g layM A cX12_amount 7 0 0 Z post) (x1 x2 x3 x4 : Int32) (M : Mem) (h : P_M_amount_26 post x1 x2 x3 x4 M) : AtX X g layM A 7 0 0 Z 26 [(0, .ref (ad g 0)), (1, .int x1), (2, .int x2), (3, .int x3), (4, .int x4)] [.ref (ad g 0)] M := by
  refine a_iconst C (1 : Int32) (tk T_cX12_amount 14 rfl) kI_1 ?_
  refine a_goto C 31 (tk T_cX12_amount 15 rfl) rfl ?_
  exact a_to (k_M_amount_31 C hr hR x1 x2 x3 x4 (1 : Int32) M h) rfl
def P_M_amount (post : Int32 → Mem → Prop) (x1 x2 x3 x4 : Int32) (M : Mem) : Prop :=
  ∀ M1, M1 = ms M 0 0 (0 : Int32) → P_M_none (fun r2 M2 =>
  (¬ r2 = 0 → (P_M_amount_26 post x1 x2 x3 x4 M2)) ∧
  (r2 = 0 → (P_M_none (fun r3 M3 =>
  (r3 = 0 → (P_M_amount_31 post x1 x2 x3 x4 (0 : Int32) M3)) ∧
  (¬ r3 = 0 → (P_M_amount_26 post x1 x2 x3 x4 M3))) x3 (7 : Int32) M2))) x1 (8 : Int32) M1
theorem k_M_amount {X : FX} {g : GT} {A : Nat → Prop} {Z : State → Prop} {post : Int32 → Mem → Prop} (C : Cx X g layM A cX12_amount 7 RX12 5) (hr : 0 ≤ X.2.2.2.1.cells ∧ 0 ≤ X.2.2.2.1.slots) (hR : RetI X g layM A cX12_amount 7 0 0 Z post) (x1 x2 x3 x4 : Int32) (M : Mem) (h : P_M_amount post x1 x2 x3 x4 M) : AtX X g layM A 7 0 0 Z 0 [(0, .ref (ad g 0)), (1, .int x1), (2, .int x2), (3, .int x3), (4, .int x4)] [] M := by
  refine a_aload_n C (tk T_cX12_amount 0 rfl) rfl ?_
  refine a_iconst C (0 : Int32) (tk T_cX12_amount 1 rfl) kI_0 ?_
  refine a_put C f_RX12_3 f_RX12_3p rfl rfl (tk T_cX12_amount 2 rfl) lm0 rfl ?_
  refine a_mem (fun M1 e_M1 => ?_)
  have h := h M1 e_M1
  refine a_aload_n C (tk T_cX12_amount 3 rfl) rfl ?_
  refine a_aload_n C (tk T_cX12_amount 4 rfl) rfl ?_
  refine a_iload_n C (tk T_cX12_amount 5 rfl) rfl ?_
  refine a_bipush C (8 : Int32) (tk T_cX12_amount 6 rfl) kB_8 ?_
  refine a_callI C [.int x1, .int (8 : Int32)] me_yX12_none lk_RX12_121 (ct_M_none h) (by decide) lm0 rfl rfl rfl (Nat.le_of_ble_eq_true rfl) (tk T_cX12_amount 7 rfl) hr (fun r2 M2 h => ?_)
  refine a_if_ne C 26 (tk T_cX12_amount 8 rfl) rfl (fun c => ?_) (fun c => ?_)
  · have h := h.1 c
    exact a_to (k_M_amount_26 C hr hR x1 x2 x3 x4 M2 h) rfl
  · have h := h.2 c
    refine a_aload_n C (tk T_cX12_amount 9 rfl) rfl ?_
    refine a_iload_n C (tk T_cX12_amount 10 rfl) rfl ?_
    refine a_bipush C (7 : Int32) (tk T_cX12_amount 11 rfl) kB_7 ?_
    refine a_callI C [.int x3, .int (7 : Int32)] me_yX12_none lk_RX12_121 (ct_M_none h) (by decide) lm0 rfl rfl rfl (Nat.le_of_ble_eq_true rfl) (tk T_cX12_amount 12 rfl) hr (fun r3 M3 h => ?_)
    refine a_if_eq C 30 (tk T_cX12_amount 13 rfl) rfl (fun c => ?_) (fun c => ?_)
    · have h := h.1 c
      refine a_iconst C (0 : Int32) (tk T_cX12_amount 16 rfl) kI_0 ?_
      exact a_to (k_M_amount_31 C hr hR x1 x2 x3 x4 (0 : Int32) M3 h) rfl
    · have h := h.2 c
      exact a_to (k_M_amount_26 C hr hR x1 x2 x3 x4 M3 h) rfl
theorem ct_M_amount {l : Launch} {g : GT} {post : Int32 → Mem → Prop} {x1 x2 x3 x4 : Int32} {M : Mem} (h : P_M_amount post x1 x2 x3 x4 M) : CI l g layM yX12_amount cX12_amount 7 (some .int) 5 [.ref (ad g 0), .int x1, .int x2, .int x3, .int x4] M post :=
  ci_of (plainFor_of_name (by decide +kernel)) (Nat.le_of_ble_eq_true rfl) (fun X A Z hl C hr hR => by subst hl; exact k_M_amount C hr hR x1 x2 x3 x4 M h)
def T_cX12_wideL : List (Nat × Instr × Nat) := [(0, .aload_n 0, 1), (1, .iconst 0, 1), (2, .putfield 3, 3), (5, .aload_n 0, 1), (6, .aload_n 0, 1), (7, .iload_n 1, 1), (8, .bipush 8, 2), (10, .invokevirtual 121, 3), (13, .iconst 1, 1), (14, .invokevirtual 72, 3), (17, .ifCond .eq 5, 3), (20, .iconst 0, 1), (21, .ireturn, 1), (22, .aload_n 0, 1), (23, .invokevirtual 197, 3), (26, .iconst 0, 1), (27, .istore 4, 2), (29, .iconst 0, 1), (30, .istore 5, 2), (32, .iload 5, 2), (34, .aload_n 0, 1), (35, .invokevirtual 128, 3), (38, .if_icmp .ge 102, 3), (41, .aload_n 0, 1), (42, .iload 5, 2), (44, .iconst 0, 1), (45, .invokevirtual 132, 3), (48, .iload_n 1, 1), (49, .if_icmp .eq 6, 3), (52, .goto 82, 3), (55, .iload_n 3, 1), (56, .ifCond .eq 24, 3), (59, .aload_n 0, 1), (60, .iload 5, 2), (62, .iload_n 2, 1), (63, .iconst 0, 1), (64, .iconst 1, 1), (65, .invokevirtual 181, 3), (68, .iconst 1, 1), (69, .if_icmp .le 7, 3), (72, .iconst 1, 1), (73, .goto 41, 3), (76, .iconst 0, 1), (77, .goto 37, 3), (80, .aload_n 0, 1), (81, .iload 5, 2), (83, .iconst 4, 1), (84, .invokevirtual 132, 3), (87, .aload_n 0, 1), (88, .iload_n 1, 1), (89, .iconst 1, 1), (90, .invokevirtual 135, 3), (93, .if_icmp .le 20, 3), (96, .aload_n 0, 1), (97, .iload 5, 2), (99, .iload_n 2, 1), (100, .iconst 0, 1), (101, .iconst 0, 1), (102, .invokevirtual 181, 3), (105, .iconst 2, 1), (106, .if_icmp .ge 7, 3), (109, .iconst 1, 1), (110, .goto 4, 3), (113, .iconst 0, 1), (114, .istore 6, 2), (116, .iload 4, 2), (118, .iload 6, 2), (120, .ifCond .eq 10, 3), (123, .iconst 1, 1), (124, .iload 5, 2), (126, .ishl, 1), (127, .goto 4, 3), (130, .iconst 0, 1), (131, .ior, 1), (132, .istore 4, 2), (134, .iinc 5 1, 3), (137, .goto (-105), 3), (140, .iload 4, 2), (142, .ireturn, 1)]
theorem T_cX12_wide : tabOK cX12_wide T_cX12_wideL = true := by decide +kernel
def P_M_wide_134 (post : Int32 → Mem → Prop) (R32 : Int32 → Int32 → Int32 → Int32 → Int32 → Mem → Prop) (x1 x2 x3 x4 x5 : Int32) (M : Mem) : Prop :=
  R32 x1 x2 x3 x4 (x5 + (1 : Int32)) M
theorem k_M_wide_134 {X : FX} {g : GT} {A : Nat → Prop} {Z : State → Prop} {post : Int32 → Mem → Prop} {R32 : Int32 → Int32 → Int32 → Int32 → Int32 → Mem → Prop} (C : Cx X g layM A cX12_wide 7 RX12 5) (hr : 0 ≤ X.2.2.2.1.cells ∧ 0 ≤ X.2.2.2.1.slots) (hR : RetI X g layM A cX12_wide 7 0 0 Z post) (k32 : ∀ (y1 y2 y3 y4 y5 : Int32) (M : Mem), R32 y1 y2 y3 y4 y5 M → AtX X g layM A 7 0 0 Z 32 [(0, .ref (ad g 0)), (1, .int y1), (2, .int y2), (3, .int y3), (4, .int y4), (5, .int y5)] [] M) (x1 x2 x3 x4 x5 : Int32) (M : Mem) (h : P_M_wide_134 post R32 x1 x2 x3 x4 x5 M) : AtX X g layM A 7 0 0 Z 134 [(0, .ref (ad g 0)), (1, .int x1), (2, .int x2), (3, .int x3), (4, .int x4), (5, .int x5)] [] M := by
  refine a_iinc C (1 : Int32) (tk T_cX12_wide 75 rfl) rfl kI_1 (by decide) rfl ?_
  refine a_goto C 32 (tk T_cX12_wide 76 rfl) rfl ?_
  exact a_to (k32 x1 x2 x3 x4 (x5 + (1 : Int32)) M h) rfl
def P_M_wide_131 (post : Int32 → Mem → Prop) (R32 : Int32 → Int32 → Int32 → Int32 → Int32 → Mem → Prop) (x1 x2 x3 x5 s0 s1 : Int32) (M : Mem) : Prop :=
  ∀ x4_1, x4_1 = (s0 ||| s1) → P_M_wide_134 post R32 x1 x2 x3 x4_1 x5 M
theorem k_M_wide_131 {X : FX} {g : GT} {A : Nat → Prop} {Z : State → Prop} {post : Int32 → Mem → Prop} {R32 : Int32 → Int32 → Int32 → Int32 → Int32 → Mem → Prop} (C : Cx X g layM A cX12_wide 7 RX12 5) (hr : 0 ≤ X.2.2.2.1.cells ∧ 0 ≤ X.2.2.2.1.slots) (hR : RetI X g layM A cX12_wide 7 0 0 Z post) (k32 : ∀ (y1 y2 y3 y4 y5 : Int32) (M : Mem), R32 y1 y2 y3 y4 y5 M → AtX X g layM A 7 0 0 Z 32 [(0, .ref (ad g 0)), (1, .int y1), (2, .int y2), (3, .int y3), (4, .int y4), (5, .int y5)] [] M) (x1 x2 x3 x5 s0 s1 : Int32) (M : Mem) (h : P_M_wide_131 post R32 x1 x2 x3 x5 s0 s1 M) : AtX X g layM A 7 0 0 Z 131 [(0, .ref (ad g 0)), (1, .int x1), (2, .int x2), (3, .int x3), (5, .int x5)] [.int s1, .int s0] M := by
  refine a_ior C (tk T_cX12_wide 73 rfl) ?_
  refine a_top (fun x4_1 e_x4_1 => ?_)
  have h := h x4_1 e_x4_1
  refine a_istore C (tk T_cX12_wide 74 rfl) (by decide) rfl ?_
  exact a_to (k_M_wide_134 C hr hR k32 x1 x2 x3 x4_1 x5 M h) rfl
def P_M_wide_114 (post : Int32 → Mem → Prop) (R32 : Int32 → Int32 → Int32 → Int32 → Int32 → Mem → Prop) (x1 x2 x3 x4 x5 s0 : Int32) (M : Mem) : Prop :=
  (s0 = 0 → (P_M_wide_131 post R32 x1 x2 x3 x5 x4 (0 : Int32) M)) ∧
  (¬ s0 = 0 → (P_M_wide_131 post R32 x1 x2 x3 x5 x4 ((1 : Int32) <<< (x5 &&& 31)) M))
theorem k_M_wide_114 {X : FX} {g : GT} {A : Nat → Prop} {Z : State → Prop} {post : Int32 → Mem → Prop} {R32 : Int32 → Int32 → Int32 → Int32 → Int32 → Mem → Prop} (C : Cx X g layM A cX12_wide 7 RX12 5) (hr : 0 ≤ X.2.2.2.1.cells ∧ 0 ≤ X.2.2.2.1.slots) (hR : RetI X g layM A cX12_wide 7 0 0 Z post) (k32 : ∀ (y1 y2 y3 y4 y5 : Int32) (M : Mem), R32 y1 y2 y3 y4 y5 M → AtX X g layM A 7 0 0 Z 32 [(0, .ref (ad g 0)), (1, .int y1), (2, .int y2), (3, .int y3), (4, .int y4), (5, .int y5)] [] M) (x1 x2 x3 x4 x5 s0 : Int32) (M : Mem) (h : P_M_wide_114 post R32 x1 x2 x3 x4 x5 s0 M) : AtX X g layM A 7 0 0 Z 114 [(0, .ref (ad g 0)), (1, .int x1), (2, .int x2), (3, .int x3), (4, .int x4), (5, .int x5)] [.int s0] M := by
  refine a_istore C (tk T_cX12_wide 64 rfl) (by decide) rfl ?_
  refine a_iload C (tk T_cX12_wide 65 rfl) rfl ?_
  refine a_iload C (tk T_cX12_wide 66 rfl) rfl ?_
  refine a_if_eq C 130 (tk T_cX12_wide 67 rfl) rfl (fun c => ?_) (fun c => ?_)
  · have h := h.1 c
    refine a_iconst C (0 : Int32) (tk T_cX12_wide 72 rfl) kI_0 ?_
    exact a_to (k_M_wide_131 C hr hR k32 x1 x2 x3 x5 x4 (0 : Int32) M h) rfl
  · have h := h.2 c
    refine a_iconst C (1 : Int32) (tk T_cX12_wide 68 rfl) kI_1 ?_
    refine a_iload C (tk T_cX12_wide 69 rfl) rfl ?_
    refine a_ishl C (tk T_cX12_wide 70 rfl) ?_
    refine a_goto C 131 (tk T_cX12_wide 71 rfl) rfl ?_
    exact a_to (k_M_wide_131 C hr hR k32 x1 x2 x3 x5 x4 ((1 : Int32) <<< (x5 &&& 31)) M h) rfl
def P_M_wide_113 (post : Int32 → Mem → Prop) (R32 : Int32 → Int32 → Int32 → Int32 → Int32 → Mem → Prop) (x1 x2 x3 x4 x5 : Int32) (M : Mem) : Prop :=
  P_M_wide_114 post R32 x1 x2 x3 x4 x5 (0 : Int32) M
theorem k_M_wide_113 {X : FX} {g : GT} {A : Nat → Prop} {Z : State → Prop} {post : Int32 → Mem → Prop} {R32 : Int32 → Int32 → Int32 → Int32 → Int32 → Mem → Prop} (C : Cx X g layM A cX12_wide 7 RX12 5) (hr : 0 ≤ X.2.2.2.1.cells ∧ 0 ≤ X.2.2.2.1.slots) (hR : RetI X g layM A cX12_wide 7 0 0 Z post) (k32 : ∀ (y1 y2 y3 y4 y5 : Int32) (M : Mem), R32 y1 y2 y3 y4 y5 M → AtX X g layM A 7 0 0 Z 32 [(0, .ref (ad g 0)), (1, .int y1), (2, .int y2), (3, .int y3), (4, .int y4), (5, .int y5)] [] M) (x1 x2 x3 x4 x5 : Int32) (M : Mem) (h : P_M_wide_113 post R32 x1 x2 x3 x4 x5 M) : AtX X g layM A 7 0 0 Z 113 [(0, .ref (ad g 0)), (1, .int x1), (2, .int x2), (3, .int x3), (4, .int x4), (5, .int x5)] [] M := by
  refine a_iconst C (0 : Int32) (tk T_cX12_wide 63 rfl) kI_0 ?_
  exact a_to (k_M_wide_114 C hr hR k32 x1 x2 x3 x4 x5 (0 : Int32) M h) rfl
def P_M_wide_32 (post : Int32 → Mem → Prop) : Nat → Int32 → Int32 → Int32 → Int32 → Int32 → Mem → Prop
  | 0, _, _, _, _, _, _ => False
  | n + 1, x1, x2, x3, x4, x5, M =>
    P_M_readings (fun r1 M1 =>
  (r1 ≤ x5 → (post x4 M1)) ∧
  (¬ r1 ≤ x5 → (P_M_of (fun r2 M2 =>
  (r2 = x1 → ((x3 = 0 → (P_M_of (fun r3 M3 =>
  P_M_ofPlate (fun r4 M4 =>
  (r3 ≤ r4 → (P_M_wide_113 post (P_M_wide_32 post n) x1 x2 x3 x4 x5 M4)) ∧
  (¬ r3 ≤ r4 → (P_M_linesIn (fun r5 M5 =>
  ((2 : Int32) ≤ r5 → (P_M_wide_113 post (P_M_wide_32 post n) x1 x2 x3 x4 x5 M5)) ∧
  (¬ (2 : Int32) ≤ r5 → (P_M_wide_114 post (P_M_wide_32 post n) x1 x2 x3 x4 x5 (1 : Int32) M5))) x5 x2 (0 : Int32) (0 : Int32) M4))) x1 (1 : Int32) M3) x5 (4 : Int32) M2)) ∧
  (¬ x3 = 0 → (P_M_linesIn (fun r6 M6 =>
  (r6 ≤ (1 : Int32) → (P_M_wide_114 post (P_M_wide_32 post n) x1 x2 x3 x4 x5 (0 : Int32) M6)) ∧
  (¬ r6 ≤ (1 : Int32) → (P_M_wide_114 post (P_M_wide_32 post n) x1 x2 x3 x4 x5 (1 : Int32) M6))) x5 x2 (0 : Int32) (1 : Int32) M2)))) ∧
  (¬ r2 = x1 → (P_M_wide_134 post (P_M_wide_32 post n) x1 x2 x3 x4 x5 M2))) x5 (0 : Int32) M1))) M
theorem k_M_wide_32 {X : FX} {g : GT} {A : Nat → Prop} {Z : State → Prop} {post : Int32 → Mem → Prop} (C : Cx X g layM A cX12_wide 7 RX12 5) (hr : 0 ≤ X.2.2.2.1.cells ∧ 0 ≤ X.2.2.2.1.slots) (hR : RetI X g layM A cX12_wide 7 0 0 Z post) : ∀ (n : Nat) (x1 x2 x3 x4 x5 : Int32) (M : Mem), P_M_wide_32 post n x1 x2 x3 x4 x5 M → AtX X g layM A 7 0 0 Z 32 [(0, .ref (ad g 0)), (1, .int x1), (2, .int x2), (3, .int x3), (4, .int x4), (5, .int x5)] [] M := by
  intro n
  induction n with
  | zero =>
    intro x1 x2 x3 x4 x5 M h
    exact h.elim
  | succ n ih =>
    intro x1 x2 x3 x4 x5 M h
    refine a_iload C (tk T_cX12_wide 19 rfl) rfl ?_
    refine a_aload_n C (tk T_cX12_wide 20 rfl) rfl ?_
    refine a_callI C [] me_yX12_readings lk_RX12_128 (ct_M_readings h) (by decide) lm0 rfl rfl rfl (Nat.le_of_ble_eq_true rfl) (tk T_cX12_wide 21 rfl) hr (fun r1 M1 h => ?_)
    refine a_icmp_ge C 140 (tk T_cX12_wide 22 rfl) rfl (fun c => ?_) (fun c => ?_)
    · have h := h.1 c
      refine a_iload C (tk T_cX12_wide 77 rfl) rfl ?_
      exact hR _ _ _ _ (tk T_cX12_wide 78 rfl) h
    · have h := h.2 c
      refine a_aload_n C (tk T_cX12_wide 23 rfl) rfl ?_
      refine a_iload C (tk T_cX12_wide 24 rfl) rfl ?_
      refine a_iconst C (0 : Int32) (tk T_cX12_wide 25 rfl) kI_0 ?_
      refine a_callI C [.int x5, .int (0 : Int32)] me_yX12_of lk_RX12_132 (ct_M_of h) (by decide) lm0 rfl rfl rfl (Nat.le_of_ble_eq_true rfl) (tk T_cX12_wide 26 rfl) hr (fun r2 M2 h => ?_)
      refine a_iload_n C (tk T_cX12_wide 27 rfl) rfl ?_
      refine a_icmp_eq C 55 (tk T_cX12_wide 28 rfl) rfl (fun c => ?_) (fun c => ?_)
      · have h := h.1 c
        refine a_iload_n C (tk T_cX12_wide 30 rfl) rfl ?_
        refine a_if_eq C 80 (tk T_cX12_wide 31 rfl) rfl (fun c => ?_) (fun c => ?_)
        · have h := h.1 c
          refine a_aload_n C (tk T_cX12_wide 44 rfl) rfl ?_
          refine a_iload C (tk T_cX12_wide 45 rfl) rfl ?_
          refine a_iconst C (4 : Int32) (tk T_cX12_wide 46 rfl) kI_4 ?_
          refine a_callI C [.int x5, .int (4 : Int32)] me_yX12_of lk_RX12_132 (ct_M_of h) (by decide) lm0 rfl rfl rfl (Nat.le_of_ble_eq_true rfl) (tk T_cX12_wide 47 rfl) hr (fun r3 M3 h => ?_)
          refine a_aload_n C (tk T_cX12_wide 48 rfl) rfl ?_
          refine a_iload_n C (tk T_cX12_wide 49 rfl) rfl ?_
          refine a_iconst C (1 : Int32) (tk T_cX12_wide 50 rfl) kI_1 ?_
          refine a_callI C [.int x1, .int (1 : Int32)] me_yX12_ofPlate lk_RX12_135 (ct_M_ofPlate h) (by decide) lm0 rfl rfl rfl (Nat.le_of_ble_eq_true rfl) (tk T_cX12_wide 51 rfl) hr (fun r4 M4 h => ?_)
          refine a_icmp_le C 113 (tk T_cX12_wide 52 rfl) rfl (fun c => ?_) (fun c => ?_)
          · have h := h.1 c
            exact a_to (k_M_wide_113 C hr hR ih x1 x2 x3 x4 x5 M4 h) rfl
          · have h := h.2 c
            refine a_aload_n C (tk T_cX12_wide 53 rfl) rfl ?_
            refine a_iload C (tk T_cX12_wide 54 rfl) rfl ?_
            refine a_iload_n C (tk T_cX12_wide 55 rfl) rfl ?_
            refine a_iconst C (0 : Int32) (tk T_cX12_wide 56 rfl) kI_0 ?_
            refine a_iconst C (0 : Int32) (tk T_cX12_wide 57 rfl) kI_0 ?_
            refine a_callI C [.int x5, .int x2, .int (0 : Int32), .int (0 : Int32)] me_yX12_linesIn lk_RX12_181 (ct_M_linesIn h) (by decide) lm0 rfl rfl rfl (Nat.le_of_ble_eq_true rfl) (tk T_cX12_wide 58 rfl) hr (fun r5 M5 h => ?_)
            refine a_iconst C (2 : Int32) (tk T_cX12_wide 59 rfl) kI_2 ?_
            refine a_icmp_ge C 113 (tk T_cX12_wide 60 rfl) rfl (fun c => ?_) (fun c => ?_)
            · have h := h.1 c
              exact a_to (k_M_wide_113 C hr hR ih x1 x2 x3 x4 x5 M5 h) rfl
            · have h := h.2 c
              refine a_iconst C (1 : Int32) (tk T_cX12_wide 61 rfl) kI_1 ?_
              refine a_goto C 114 (tk T_cX12_wide 62 rfl) rfl ?_
              exact a_to (k_M_wide_114 C hr hR ih x1 x2 x3 x4 x5 (1 : Int32) M5 h) rfl
        · have h := h.2 c
          refine a_aload_n C (tk T_cX12_wide 32 rfl) rfl ?_
          refine a_iload C (tk T_cX12_wide 33 rfl) rfl ?_
          refine a_iload_n C (tk T_cX12_wide 34 rfl) rfl ?_
          refine a_iconst C (0 : Int32) (tk T_cX12_wide 35 rfl) kI_0 ?_
          refine a_iconst C (1 : Int32) (tk T_cX12_wide 36 rfl) kI_1 ?_
          refine a_callI C [.int x5, .int x2, .int (0 : Int32), .int (1 : Int32)] me_yX12_linesIn lk_RX12_181 (ct_M_linesIn h) (by decide) lm0 rfl rfl rfl (Nat.le_of_ble_eq_true rfl) (tk T_cX12_wide 37 rfl) hr (fun r6 M6 h => ?_)
          refine a_iconst C (1 : Int32) (tk T_cX12_wide 38 rfl) kI_1 ?_
          refine a_icmp_le C 76 (tk T_cX12_wide 39 rfl) rfl (fun c => ?_) (fun c => ?_)
          · have h := h.1 c
            refine a_iconst C (0 : Int32) (tk T_cX12_wide 42 rfl) kI_0 ?_
            refine a_goto C 114 (tk T_cX12_wide 43 rfl) rfl ?_
            exact a_to (k_M_wide_114 C hr hR ih x1 x2 x3 x4 x5 (0 : Int32) M6 h) rfl
          · have h := h.2 c
            refine a_iconst C (1 : Int32) (tk T_cX12_wide 40 rfl) kI_1 ?_
            refine a_goto C 114 (tk T_cX12_wide 41 rfl) rfl ?_
            exact a_to (k_M_wide_114 C hr hR ih x1 x2 x3 x4 x5 (1 : Int32) M6 h) rfl
      · have h := h.2 c
        refine a_goto C 134 (tk T_cX12_wide 29 rfl) rfl ?_
        exact a_to (k_M_wide_134 C hr hR ih x1 x2 x3 x4 x5 M2 h) rfl
def P_M_wide (post : Int32 → Mem → Prop) (x1 x2 x3 : Int32) (M : Mem) : Prop :=
  ∀ M1, M1 = ms M 0 0 (0 : Int32) → P_M_none (fun r2 M2 =>
  P_M_throwsIf (fun r3 M3 =>
  (r3 = 0 → (P_M_spans (fun M4 =>
  ∃ j32, P_M_wide_32 post j32 x1 x2 x3 (0 : Int32) (0 : Int32) M4) M3)) ∧
  (¬ r3 = 0 → (post (0 : Int32) M3))) r2 (1 : Int32) M2) x1 (8 : Int32) M1
theorem k_M_wide {X : FX} {g : GT} {A : Nat → Prop} {Z : State → Prop} {post : Int32 → Mem → Prop} (C : Cx X g layM A cX12_wide 7 RX12 5) (hr : 0 ≤ X.2.2.2.1.cells ∧ 0 ≤ X.2.2.2.1.slots) (hR : RetI X g layM A cX12_wide 7 0 0 Z post) (x1 x2 x3 : Int32) (M : Mem) (h : P_M_wide post x1 x2 x3 M) : AtX X g layM A 7 0 0 Z 0 [(0, .ref (ad g 0)), (1, .int x1), (2, .int x2), (3, .int x3)] [] M := by
  refine a_aload_n C (tk T_cX12_wide 0 rfl) rfl ?_
  refine a_iconst C (0 : Int32) (tk T_cX12_wide 1 rfl) kI_0 ?_
  refine a_put C f_RX12_3 f_RX12_3p rfl rfl (tk T_cX12_wide 2 rfl) lm0 rfl ?_
  refine a_mem (fun M1 e_M1 => ?_)
  have h := h M1 e_M1
  refine a_aload_n C (tk T_cX12_wide 3 rfl) rfl ?_
  refine a_aload_n C (tk T_cX12_wide 4 rfl) rfl ?_
  refine a_iload_n C (tk T_cX12_wide 5 rfl) rfl ?_
  refine a_bipush C (8 : Int32) (tk T_cX12_wide 6 rfl) kB_8 ?_
  refine a_callI C [.int x1, .int (8 : Int32)] me_yX12_none lk_RX12_121 (ct_M_none h) (by decide) lm0 rfl rfl rfl (Nat.le_of_ble_eq_true rfl) (tk T_cX12_wide 7 rfl) hr (fun r2 M2 h => ?_)
  refine a_iconst C (1 : Int32) (tk T_cX12_wide 8 rfl) kI_1 ?_
  refine a_callI C [.int r2, .int (1 : Int32)] me_yX12_throwsIf lk_RX12_72 (ct_M_throwsIf h) (by decide) lm0 rfl rfl rfl (Nat.le_of_ble_eq_true rfl) (tk T_cX12_wide 9 rfl) hr (fun r3 M3 h => ?_)
  refine a_if_eq C 22 (tk T_cX12_wide 10 rfl) rfl (fun c => ?_) (fun c => ?_)
  · have h := h.1 c
    refine a_aload_n C (tk T_cX12_wide 13 rfl) rfl ?_
    refine a_callV C [] me_yX12_spans lk_RX12_197 (ct_M_spans h) (by decide) lm0 rfl rfl rfl (Nat.le_of_ble_eq_true rfl) (tk T_cX12_wide 14 rfl) hr (fun M4 h => ?_)
    refine a_iconst C (0 : Int32) (tk T_cX12_wide 15 rfl) kI_0 ?_
    refine a_istore C (tk T_cX12_wide 16 rfl) (by decide) rfl ?_
    refine a_iconst C (0 : Int32) (tk T_cX12_wide 17 rfl) kI_0 ?_
    refine a_istore C (tk T_cX12_wide 18 rfl) (by decide) rfl ?_
    obtain ⟨n1, h⟩ := h
    exact a_to (k_M_wide_32 C hr hR n1 x1 x2 x3 (0 : Int32) (0 : Int32) M4 h) rfl
  · have h := h.2 c
    refine a_iconst C (0 : Int32) (tk T_cX12_wide 11 rfl) kI_0 ?_
    exact hR _ _ _ _ (tk T_cX12_wide 12 rfl) h
theorem ct_M_wide {l : Launch} {g : GT} {post : Int32 → Mem → Prop} {x1 x2 x3 : Int32} {M : Mem} (h : P_M_wide post x1 x2 x3 M) : CI l g layM yX12_wide cX12_wide 7 (some .int) 5 [.ref (ad g 0), .int x1, .int x2, .int x3] M post :=
  ci_of (plainFor_of_name (by decide +kernel)) (Nat.le_of_ble_eq_true rfl) (fun X A Z hl C hr hR => by subst hl; exact k_M_wide C hr hR x1 x2 x3 M h)
