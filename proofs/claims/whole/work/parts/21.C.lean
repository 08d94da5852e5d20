def T_cX7_arrangeL : List (Nat × Instr × Nat) := [(0, .aload_n 0, 1), (1, .iconst 0, 1), (2, .putfield 71, 3), (5, .aload_n 0, 1), (6, .iconst (-1), 1), (7, .putfield 74, 3), (10, .aload_n 0, 1), (11, .iconst 0, 1), (12, .invokevirtual 77, 3), (15, .istore_n 2, 1), (16, .iconst 0, 1), (17, .istore_n 3, 1), (18, .iload_n 3, 1), (19, .bipush 45, 2), (21, .if_icmp .ge 82, 3), (24, .iload_n 2, 1), (25, .iconst (-1), 1), (26, .if_icmp .eq 77, 3), (29, .aload_n 0, 1), (30, .getfield 71, 3), (33, .aload_n 0, 1), (34, .getfield 36, 3), (37, .iconst 2, 1), (38, .idiv, 1), (39, .if_icmp .ge 64, 3), (42, .aload_n 0, 1), (43, .iload_n 2, 1), (44, .iload_n 2, 1), (45, .iload_n 1, 1), (46, .iadd, 1), (47, .invokevirtual 81, 3), (50, .istore 4, 2), (52, .iload 4, 2), (54, .aload_n 0, 1), (55, .getfield 71, 3), (58, .if_icmp .le 10, 3), (61, .aload_n 0, 1), (62, .invokevirtual 84, 3), (65, .goto 4, 3), (68, .iconst 0, 1), (69, .istore 5, 2), (71, .iload 5, 2), (73, .aload_n 0, 1), (74, .getfield 71, 3), (77, .if_icmp .le 14, 3), (80, .aload_n 0, 1), (81, .iload 5, 2), (83, .putfield 71, 3), (86, .aload_n 0, 1), (87, .iload_n 2, 1), (88, .putfield 74, 3), (91, .aload_n 0, 1), (92, .iload_n 2, 1), (93, .invokevirtual 77, 3), (96, .istore_n 2, 1), (97, .iinc 3 1, 3), (100, .goto (-82), 3), (103, .return_, 1)]
theorem T_cX7_arrange : tabOK cX7_arrange T_cX7_arrangeL = true := by decide +kernel
def P_Rows_arrange_103 (post : Mem → Prop) (M : Mem) : Prop :=
  post M
theorem k_Rows_arrange_103 {X : FX} {g : GT} {ext : List CD} {A : Nat → Prop} {Z : State → Prop} {post : Mem → Prop} (C : Cx X g (layC ++ ext) A cX7_arrange 6 RX7 2) (hr : 0 ≤ X.2.2.2.1.cells ∧ 0 ≤ X.2.2.2.1.slots) (hR : RetV X g (layC ++ ext) A cX7_arrange 6 0 0 Z post)  (M : Mem) (h : P_Rows_arrange_103 post M) : At X g (layC ++ ext) A 6 0 0 Z 103 [] [] M := by
  exact hR _ _ _ (tk T_cX7_arrange 57 rfl) h
def P_Rows_arrange_91 (post : Mem → Prop) (R18 : Int32 → Int32 → Int32 → Mem → Prop) (x1 x2 x3 : Int32) (M : Mem) : Prop :=
  P_Rows_leastStepAbove (fun r1 M1 =>
  R18 x1 r1 (x3 + (1 : Int32)) M1) x2 M
theorem k_Rows_arrange_91 {X : FX} {g : GT} {ext : List CD} {A : Nat → Prop} {Z : State → Prop} {post : Mem → Prop} {R18 : Int32 → Int32 → Int32 → Mem → Prop} (C : Cx X g (layC ++ ext) A cX7_arrange 6 RX7 2) (hr : 0 ≤ X.2.2.2.1.cells ∧ 0 ≤ X.2.2.2.1.slots) (hR : RetV X g (layC ++ ext) A cX7_arrange 6 0 0 Z post) (k18 : ∀ (y1 y2 y3 : Int32) (M : Mem), R18 y1 y2 y3 M → At X g (layC ++ ext) A 6 0 0 Z 18 [(0, .ref (ad g 80)), (1, .int y1), (2, .int y2), (3, .int y3)] [] M) (x1 x2 x3 : Int32) (M : Mem) (h : P_Rows_arrange_91 post R18 x1 x2 x3 M) : At X g (layC ++ ext) A 6 0 0 Z 91 [(0, .ref (ad g 80)), (1, .int x1), (2, .int x2), (3, .int x3)] [] M := by
  refine a_aload_n C (tk T_cX7_arrange 51 rfl) rfl ?_
  refine a_iload_n C (tk T_cX7_arrange 52 rfl) rfl ?_
  refine a_callI C [.int x2] me_yX7_leastStepAbove lk_RX7_77 (ct_Rows_leastStepAbove h) (by decide) lc80 rfl rfl rfl (Nat.le_of_ble_eq_true rfl) (tk T_cX7_arrange 53 rfl) hr (fun r1 M1 h => ?_)
  refine a_istore_n C (tk T_cX7_arrange 54 rfl) (by decide) rfl ?_
  refine a_iinc C (1 : Int32) (tk T_cX7_arrange 55 rfl) rfl kI_1 (by decide) rfl ?_
  refine a_goto C 18 (tk T_cX7_arrange 56 rfl) rfl ?_
  exact a_to (k18 x1 r1 (x3 + (1 : Int32)) M1 h) rfl
def P_Rows_arrange_69 (post : Mem → Prop) (R18 : Int32 → Int32 → Int32 → Mem → Prop) (x1 x2 x3 s0 : Int32) (M : Mem) : Prop :=
  (s0 ≤ (M 80 6) → (P_Rows_arrange_91 post R18 x1 x2 x3 M)) ∧
  (¬ s0 ≤ (M 80 6) → (∀ M1, M1 = ms M 80 6 s0 → ∀ M2, M2 = ms M1 80 7 x2 → P_Rows_arrange_91 post R18 x1 x2 x3 M2))
theorem k_Rows_arrange_69 {X : FX} {g : GT} {ext : List CD} {A : Nat → Prop} {Z : State → Prop} {post : Mem → Prop} {R18 : Int32 → Int32 → Int32 → Mem → Prop} (C : Cx X g (layC ++ ext) A cX7_arrange 6 RX7 2) (hr : 0 ≤ X.2.2.2.1.cells ∧ 0 ≤ X.2.2.2.1.slots) (hR : RetV X g (layC ++ ext) A cX7_arrange 6 0 0 Z post) (k18 : ∀ (y1 y2 y3 : Int32) (M : Mem), R18 y1 y2 y3 M → At X g (layC ++ ext) A 6 0 0 Z 18 [(0, .ref (ad g 80)), (1, .int y1), (2, .int y2), (3, .int y3)] [] M) (x1 x2 x3 s0 : Int32) (M : Mem) (h : P_Rows_arrange_69 post R18 x1 x2 x3 s0 M) : At X g (layC ++ ext) A 6 0 0 Z 69 [(0, .ref (ad g 80)), (1, .int x1), (2, .int x2), (3, .int x3)] [.int s0] M := by
  refine a_istore C (tk T_cX7_arrange 40 rfl) (by decide) rfl ?_
  refine a_iload C (tk T_cX7_arrange 41 rfl) rfl ?_
  refine a_aload_n C (tk T_cX7_arrange 42 rfl) rfl ?_
  refine a_getI C f_RX7_71 (tk T_cX7_arrange 43 rfl) lc80 rfl ?_
  refine a_icmp_le C 91 (tk T_cX7_arrange 44 rfl) rfl (fun c => ?_) (fun c => ?_)
  · have h := h.1 c
    exact a_to (k_Rows_arrange_91 C hr hR k18 x1 x2 x3 M h) rfl
  · have h := h.2 c
    refine a_aload_n C (tk T_cX7_arrange 45 rfl) rfl ?_
    refine a_iload C (tk T_cX7_arrange 46 rfl) rfl ?_
    refine a_put C f_RX7_71 f_RX7_71p rfl rfl (tk T_cX7_arrange 47 rfl) lc80 rfl ?_
    refine a_mem (fun M1 e_M1 => ?_)
    have h := h M1 e_M1
    refine a_aload_n C (tk T_cX7_arrange 48 rfl) rfl ?_
    refine a_iload_n C (tk T_cX7_arrange 49 rfl) rfl ?_
    refine a_put C f_RX7_74 f_RX7_74p rfl rfl (tk T_cX7_arrange 50 rfl) lc80 rfl ?_
    refine a_mem (fun M2 e_M2 => ?_)
    have h := h M2 e_M2
    exact a_to (k_Rows_arrange_91 C hr hR k18 x1 x2 x3 M2 h) rfl
def P_Rows_arrange_18 (post : Mem → Prop) : Nat → Int32 → Int32 → Int32 → Mem → Prop
  | 0, _, _, _, _ => False
  | n + 1, x1, x2, x3, M =>
    ((45 : Int32) ≤ x3 → (P_Rows_arrange_103 post M)) ∧
  (¬ (45 : Int32) ≤ x3 → ((x2 = (-1 : Int32) → (P_Rows_arrange_103 post M)) ∧
  (¬ x2 = (-1 : Int32) → ((((M 80 5) / (2 : Int32)) ≤ (M 80 6) → (P_Rows_arrange_103 post M)) ∧
  (¬ ((M 80 5) / (2 : Int32)) ≤ (M 80 6) → (P_Rows_putPartners (fun r1 M1 =>
  (r1 ≤ (M1 80 6) → (P_Rows_arrange_69 post (P_Rows_arrange_18 post n) x1 x2 x3 (0 : Int32) M1)) ∧
  (¬ r1 ≤ (M1 80 6) → (P_Rows_mostPairs (fun r2 M2 =>
  P_Rows_arrange_69 post (P_Rows_arrange_18 post n) x1 x2 x3 r2 M2) M1))) x2 (x2 + x1) M))))))
theorem k_Rows_arrange_18 {X : FX} {g : GT} {ext : List CD} {A : Nat → Prop} {Z : State → Prop} {post : Mem → Prop} (C : Cx X g (layC ++ ext) A cX7_arrange 6 RX7 2) (hr : 0 ≤ X.2.2.2.1.cells ∧ 0 ≤ X.2.2.2.1.slots) (hR : RetV X g (layC ++ ext) A cX7_arrange 6 0 0 Z post) : ∀ (n : Nat) (x1 x2 x3 : Int32) (M : Mem), P_Rows_arrange_18 post n x1 x2 x3 M → At X g (layC ++ ext) A 6 0 0 Z 18 [(0, .ref (ad g 80)), (1, .int x1), (2, .int x2), (3, .int x3)] [] M := by
  intro n
  induction n with
  | zero =>
    intro x1 x2 x3 M h
    exact h.elim
  | succ n ih =>
    intro x1 x2 x3 M h
    refine a_iload_n C (tk T_cX7_arrange 12 rfl) rfl ?_
    refine a_bipush C (45 : Int32) (tk T_cX7_arrange 13 rfl) kB_45 ?_
    refine a_icmp_ge C 103 (tk T_cX7_arrange 14 rfl) rfl (fun c => ?_) (fun c => ?_)
    · have h := h.1 c
      exact a_to (k_Rows_arrange_103 C hr hR M h) rfl
    · have h := h.2 c
      refine a_iload_n C (tk T_cX7_arrange 15 rfl) rfl ?_
      refine a_iconst C (-1 : Int32) (tk T_cX7_arrange 16 rfl) kI_m1 ?_
      refine a_icmp_eq C 103 (tk T_cX7_arrange 17 rfl) rfl (fun c => ?_) (fun c => ?_)
      · have h := h.1 c
        exact a_to (k_Rows_arrange_103 C hr hR M h) rfl
      · have h := h.2 c
        refine a_aload_n C (tk T_cX7_arrange 18 rfl) rfl ?_
        refine a_getI C f_RX7_71 (tk T_cX7_arrange 19 rfl) lc80 rfl ?_
        refine a_aload_n C (tk T_cX7_arrange 20 rfl) rfl ?_
        refine a_getI C f_RX7_36 (tk T_cX7_arrange 21 rfl) lc80 rfl ?_
        refine a_iconst C (2 : Int32) (tk T_cX7_arrange 22 rfl) kI_2 ?_
        refine a_idiv C (tk T_cX7_arrange 23 rfl) (by decide) ?_
        refine a_icmp_ge C 103 (tk T_cX7_arrange 24 rfl) rfl (fun c => ?_) (fun c => ?_)
        · have h := h.1 c
          exact a_to (k_Rows_arrange_103 C hr hR M h) rfl
        · have h := h.2 c
          refine a_aload_n C (tk T_cX7_arrange 25 rfl) rfl ?_
          refine a_iload_n C (tk T_cX7_arrange 26 rfl) rfl ?_
          refine a_iload_n C (tk T_cX7_arrange 27 rfl) rfl ?_
          refine a_iload_n C (tk T_cX7_arrange 28 rfl) rfl ?_
          refine a_iadd C (tk T_cX7_arrange 29 rfl) ?_
          refine a_callI C [.int x2, .int (x2 + x1)] me_yX7_putPartners lk_RX7_81 (ct_Rows_putPartners h) (by decide) lc80 rfl rfl rfl (Nat.le_of_ble_eq_true rfl) (tk T_cX7_arrange 30 rfl) hr (fun r1 M1 h => ?_)
          refine a_istore C (tk T_cX7_arrange 31 rfl) (by decide) rfl ?_
          refine a_iload C (tk T_cX7_arrange 32 rfl) rfl ?_
          refine a_aload_n C (tk T_cX7_arrange 33 rfl) rfl ?_
          refine a_getI C f_RX7_71 (tk T_cX7_arrange 34 rfl) lc80 rfl ?_
          refine a_icmp_le C 68 (tk T_cX7_arrange 35 rfl) rfl (fun c => ?_) (fun c => ?_)
          · have h := h.1 c
            refine a_iconst C (0 : Int32) (tk T_cX7_arrange 39 rfl) kI_0 ?_
            exact a_to (k_Rows_arrange_69 C hr hR ih x1 x2 x3 (0 : Int32) M1 h) rfl
          · have h := h.2 c
            refine a_aload_n C (tk T_cX7_arrange 36 rfl) rfl ?_
            refine a_callI C [] me_yX7_mostPairs lk_RX7_84 (ct_Rows_mostPairs h) (by decide) lc80 rfl rfl rfl (Nat.le_of_ble_eq_true rfl) (tk T_cX7_arrange 37 rfl) hr (fun r2 M2 h => ?_)
            refine a_goto C 69 (tk T_cX7_arrange 38 rfl) rfl ?_
            exact a_to (k_Rows_arrange_69 C hr hR ih x1 x2 x3 r2 M2 h) rfl
def P_Rows_arrange (post : Mem → Prop) (x1 : Int32) (M : Mem) : Prop :=
  ∀ M1, M1 = ms M 80 6 (0 : Int32) → ∀ M2, M2 = ms M1 80 7 (-1 : Int32) → P_Rows_leastStepAbove (fun r3 M3 =>
  ∃ j18, P_Rows_arrange_18 post j18 x1 r3 (0 : Int32) M3) (0 : Int32) M2
theorem k_Rows_arrange {X : FX} {g : GT} {ext : List CD} {A : Nat → Prop} {Z : State → Prop} {post : Mem → Prop} (C : Cx X g (layC ++ ext) A cX7_arrange 6 RX7 2) (hr : 0 ≤ X.2.2.2.1.cells ∧ 0 ≤ X.2.2.2.1.slots) (hR : RetV X g (layC ++ ext) A cX7_arrange 6 0 0 Z post) (x1 : Int32) (M : Mem) (h : P_Rows_arrange post x1 M) : At X g (layC ++ ext) A 6 0 0 Z 0 [(0, .ref (ad g 80)), (1, .int x1)] [] M := by
  refine a_aload_n C (tk T_cX7_arrange 0 rfl) rfl ?_
  refine a_iconst C (0 : Int32) (tk T_cX7_arrange 1 rfl) kI_0 ?_
  refine a_put C f_RX7_71 f_RX7_71p rfl rfl (tk T_cX7_arrange 2 rfl) lc80 rfl ?_
  refine a_mem (fun M1 e_M1 => ?_)
  have h := h M1 e_M1
  refine a_aload_n C (tk T_cX7_arrange 3 rfl) rfl ?_
  refine a_iconst C (-1 : Int32) (tk T_cX7_arrange 4 rfl) kI_m1 ?_
  refine a_put C f_RX7_74 f_RX7_74p rfl rfl (tk T_cX7_arrange 5 rfl) lc80 rfl ?_
  refine a_mem (fun M2 e_M2 => ?_)
  have h := h M2 e_M2
  refine a_aload_n C (tk T_cX7_arrange 6 rfl) rfl ?_
  refine a_iconst C (0 : Int32) (tk T_cX7_arrange 7 rfl) kI_0 ?_
  refine a_callI C [.int (0 : Int32)] me_yX7_leastStepAbove lk_RX7_77 (ct_Rows_leastStepAbove h) (by decide) lc80 rfl rfl rfl (Nat.le_of_ble_eq_true rfl) (tk T_cX7_arrange 8 rfl) hr (fun r3 M3 h => ?_)
  refine a_istore_n C (tk T_cX7_arrange 9 rfl) (by decide) rfl ?_
  refine a_iconst C (0 : Int32) (tk T_cX7_arrange 10 rfl) kI_0 ?_
  refine a_istore_n C (tk T_cX7_arrange 11 rfl) (by decide) rfl ?_
  obtain ⟨n1, h⟩ := h
  exact a_to (k_Rows_arrange_18 C hr hR n1 x1 r3 (0 : Int32) M3 h) rfl
theorem ct_Rows_arrange {l : Launch} {g : GT} {ext : List CD} {post : Mem → Prop} {x1 : Int32} {M : Mem} (h : P_Rows_arrange post x1 M) : CV l g (layC ++ ext) yX7_arrange cX7_arrange 6 none 2 [.ref (ad g 80), .int x1] M post :=
  cv_of (plainFor_of_name (by decide +kernel)) (Nat.le_of_ble_eq_true rfl) (fun X A Z hl C hr hR => by subst hl; exact k_Rows_arrange C hr hR x1 M h)
def T_cX7_isSumL : List (Nat × Instr × Nat) := [(0, .iload_n 0, 1), (1, .iload_n 1, 1), (2, .isub, 1), (3, .iload_n 2, 1), (4, .isub, 1), (5, .invokestatic 88, 3), (8, .iload_n 3, 1), (9, .if_icmp .gt 7, 3), (12, .iconst 1, 1), (13, .goto 4, 3), (16, .iconst 0, 1), (17, .ireturn, 1)]
theorem T_cX7_isSum : tabOK cX7_isSum T_cX7_isSumL = true := by decide +kernel
def P_Rows_isSum_17 (post : Int32 → Mem → Prop) (s0 : Int32) (M : Mem) : Prop :=
  (s0 = 0 ∨ s0 = 1) ∧ post s0 M
theorem k_Rows_isSum_17 {X : FX} {g : GT} {ext : List CD} {A : Nat → Prop} {Z : State → Prop} {post : Int32 → Mem → Prop} (C : Cx X g (layC ++ ext) A cX7_isSum 4 RX7 1) (hr : 0 ≤ X.2.2.2.1.cells ∧ 0 ≤ X.2.2.2.1.slots) (hR : RetZ X g (layC ++ ext) A cX7_isSum 4 0 0 Z post) (s0 : Int32) (M : Mem) (h : P_Rows_isSum_17 post s0 M) : At X g (layC ++ ext) A 4 0 0 Z 17 [] [.int s0] M := by
  exact hR _ _ _ _ (tk T_cX7_isSum 11 rfl) h
def P_Rows_isSum (post : Int32 → Mem → Prop) (x0 x1 x2 x3 : Int32) (M : Mem) : Prop :=
  P_Math_abs (fun r1 M1 =>
  (x3 < r1 → (P_Rows_isSum_17 post (0 : Int32) M1)) ∧
  (¬ x3 < r1 → (P_Rows_isSum_17 post (1 : Int32) M1))) ((x0 - x1) - x2) M
theorem k_Rows_isSum {X : FX} {g : GT} {ext : List CD} {A : Nat → Prop} {Z : State → Prop} {post : Int32 → Mem → Prop} (C : Cx X g (layC ++ ext) A cX7_isSum 4 RX7 1) (hr : 0 ≤ X.2.2.2.1.cells ∧ 0 ≤ X.2.2.2.1.slots) (hR : RetZ X g (layC ++ ext) A cX7_isSum 4 0 0 Z post) (x0 x1 x2 x3 : Int32) (M : Mem) (h : P_Rows_isSum post x0 x1 x2 x3 M) : At X g (layC ++ ext) A 4 0 0 Z 0 [(0, .int x0), (1, .int x1), (2, .int x2), (3, .int x3)] [] M := by
  refine a_iload_n C (tk T_cX7_isSum 0 rfl) rfl ?_
  refine a_iload_n C (tk T_cX7_isSum 1 rfl) rfl ?_
  refine a_isub C (tk T_cX7_isSum 2 rfl) ?_
  refine a_iload_n C (tk T_cX7_isSum 3 rfl) rfl ?_
  refine a_isub C (tk T_cX7_isSum 4 rfl) ?_
  refine a_statI C [.int ((x0 - x1) - x2)] me_yJ9_abs_0f7a4 lk_RX7_88 (ct_Math_abs h) (by decide) rfl rfl (Nat.le_of_ble_eq_true rfl) (tk T_cX7_isSum 5 rfl) hr (fun r1 M1 h => ?_)
  refine a_iload_n C (tk T_cX7_isSum 6 rfl) rfl ?_
  refine a_icmp_gt C 16 (tk T_cX7_isSum 7 rfl) rfl (fun c => ?_) (fun c => ?_)
  · have h := h.1 c
    refine a_iconst C (0 : Int32) (tk T_cX7_isSum 10 rfl) kI_0 ?_
    exact a_to (k_Rows_isSum_17 C hr hR (0 : Int32) M1 h) rfl
  · have h := h.2 c
    refine a_iconst C (1 : Int32) (tk T_cX7_isSum 8 rfl) kI_1 ?_
    refine a_goto C 17 (tk T_cX7_isSum 9 rfl) rfl ?_
    exact a_to (k_Rows_isSum_17 C hr hR (1 : Int32) M1 h) rfl
theorem ct_Rows_isSum {l : Launch} {g : GT} {ext : List CD} {post : Int32 → Mem → Prop} {x0 x1 x2 x3 : Int32} {M : Mem} (h : P_Rows_isSum post x0 x1 x2 x3 M) : CI l g (layC ++ ext) yX7_isSum cX7_isSum 4 (some .boolean) 1 [.int x0, .int x1, .int x2, .int x3] M post :=
  cz_of (plainFor_of_name (by decide +kernel)) (Nat.le_of_ble_eq_true rfl) (fun X A Z hl C hr hR => by subst hl; exact k_Rows_isSum C hr hR x0 x1 x2 x3 M h)
def T_cX7_countSumsL : List (Nat × Instr × Nat) := [(0, .iconst 0, 1), (1, .istore_n 2, 1), (2, .iconst 0, 1), (3, .istore_n 3, 1), (4, .iload_n 3, 1), (5, .aload_n 0, 1), (6, .getfield 36, 3), (9, .if_icmp .ge 124, 3), (12, .iconst 0, 1), (13, .istore 4, 2), (15, .iload 4, 2), (17, .iload_n 3, 1), (18, .if_icmp .ge 109, 3), (21, .iconst 0, 1), (22, .istore 5, 2), (24, .iload 5, 2), (26, .iload 4, 2), (28, .if_icmp .ge 93, 3), (31, .aload_n 0, 1), (32, .getfield 11, 3), (35, .iload_n 3, 1), (36, .iaload, 1), (37, .aload_n 0, 1), (38, .getfield 11, 3), (41, .iload 4, 2), (43, .iaload, 1), (44, .aload_n 0, 1), (45, .getfield 11, 3), (48, .iload 5, 2), (50, .iaload, 1), (51, .iload_n 1, 1), (52, .invokestatic 95, 3), (55, .ifCond .ne 57, 3), (58, .aload_n 0, 1), (59, .getfield 11, 3), (62, .iload 4, 2), (64, .iaload, 1), (65, .aload_n 0, 1), (66, .getfield 11, 3), (69, .iload_n 3, 1), (70, .iaload, 1), (71, .aload_n 0, 1), (72, .getfield 11, 3), (75, .iload 5, 2), (77, .iaload, 1), (78, .iload_n 1, 1), (79, .invokestatic 95, 3), (82, .ifCond .ne 30, 3), (85, .aload_n 0, 1), (86, .getfield 11, 3), (89, .iload 5, 2), (91, .iaload, 1), (92, .aload_n 0, 1), (93, .getfield 11, 3), (96, .iload_n 3, 1), (97, .iaload, 1), (98, .aload_n 0, 1), (99, .getfield 11, 3), (102, .iload 4, 2), (104, .iaload, 1), (105, .iload_n 1, 1), (106, .invokestatic 95, 3), (109, .ifCond .eq 6, 3), (112, .iinc 2 1, 3), (115, .iinc 5 1, 3), (118, .goto (-94), 3), (121, .iinc 4 1, 3), (124, .goto (-109), 3), (127, .iinc 3 1, 3), (130, .goto (-126), 3), (133, .iload_n 2, 1), (134, .ireturn, 1)]
theorem T_cX7_countSums : tabOK cX7_countSums T_cX7_countSumsL = true := by decide +kernel
def P_Rows_countSums_115 (post : Int32 → Mem → Prop) (R4 : Int32 → Int32 → Int32 → Mem → Prop) (R15 : Int32 → Int32 → Int32 → Int32 → Mem → Prop) (R24 : Int32 → Int32 → Int32 → Int32 → Int32 → Mem → Prop) (x1 x2 x3 x4 x5 : Int32) (M : Mem) : Prop :=
  R24 x1 x2 x3 x4 (x5 + (1 : Int32)) M
theorem k_Rows_countSums_115 {X : FX} {g : GT} {ext : List CD} {A : Nat → Prop} {Z : State → Prop} {post : Int32 → Mem → Prop} {R4 : Int32 → Int32 → Int32 → Mem → Prop} {R15 : Int32 → Int32 → Int32 → Int32 → Mem → Prop} {R24 : Int32 → Int32 → Int32 → Int32 → Int32 → Mem → Prop} (C : Cx X g (layC ++ ext) A cX7_countSums 6 RX7 2) (hr : 0 ≤ X.2.2.2.1.cells ∧ 0 ≤ X.2.2.2.1.slots) (hR : RetI X g (layC ++ ext) A cX7_countSums 6 0 0 Z post) (k4 : ∀ (y1 y2 y3 : Int32) (M : Mem), R4 y1 y2 y3 M → At X g (layC ++ ext) A 6 0 0 Z 4 [(0, .ref (ad g 80)), (1, .int y1), (2, .int y2), (3, .int y3)] [] M) (k15 : ∀ (y1 y2 y3 y4 : Int32) (M : Mem), R15 y1 y2 y3 y4 M → At X g (layC ++ ext) A 6 0 0 Z 15 [(0, .ref (ad g 80)), (1, .int y1), (2, .int y2), (3, .int y3), (4, .int y4)] [] M) (k24 : ∀ (y1 y2 y3 y4 y5 : Int32) (M : Mem), R24 y1 y2 y3 y4 y5 M → At X g (layC ++ ext) A 6 0 0 Z 24 [(0, .ref (ad g 80)), (1, .int y1), (2, .int y2), (3, .int y3), (4, .int y4), (5, .int y5)] [] M) (x1 x2 x3 x4 x5 : Int32) (M : Mem) (h : P_Rows_countSums_115 post R4 R15 R24 x1 x2 x3 x4 x5 M) : At X g (layC ++ ext) A 6 0 0 Z 115 [(0, .ref (ad g 80)), (1, .int x1), (2, .int x2), (3, .int x3), (4, .int x4), (5, .int x5)] [] M := by
  refine a_iinc C (1 : Int32) (tk T_cX7_countSums 64 rfl) rfl kI_1 (by decide) rfl ?_
  refine a_goto C 24 (tk T_cX7_countSums 65 rfl) rfl ?_
  exact a_to (k24 x1 x2 x3 x4 (x5 + (1 : Int32)) M h) rfl
def P_Rows_countSums_112 (post : Int32 → Mem → Prop) (R4 : Int32 → Int32 → Int32 → Mem → Prop) (R15 : Int32 → Int32 → Int32 → Int32 → Mem → Prop) (R24 : Int32 → Int32 → Int32 → Int32 → Int32 → Mem → Prop) (x1 x2 x3 x4 x5 : Int32) (M : Mem) : Prop :=
  P_Rows_countSums_115 post R4 R15 R24 x1 (x2 + (1 : Int32)) x3 x4 x5 M
theorem k_Rows_countSums_112 {X : FX} {g : GT} {ext : List CD} {A : Nat → Prop} {Z : State → Prop} {post : Int32 → Mem → Prop} {R4 : Int32 → Int32 → Int32 → Mem → Prop} {R15 : Int32 → Int32 → Int32 → Int32 → Mem → Prop} {R24 : Int32 → Int32 → Int32 → Int32 → Int32 → Mem → Prop} (C : Cx X g (layC ++ ext) A cX7_countSums 6 RX7 2) (hr : 0 ≤ X.2.2.2.1.cells ∧ 0 ≤ X.2.2.2.1.slots) (hR : RetI X g (layC ++ ext) A cX7_countSums 6 0 0 Z post) (k4 : ∀ (y1 y2 y3 : Int32) (M : Mem), R4 y1 y2 y3 M → At X g (layC ++ ext) A 6 0 0 Z 4 [(0, .ref (ad g 80)), (1, .int y1), (2, .int y2), (3, .int y3)] [] M) (k15 : ∀ (y1 y2 y3 y4 : Int32) (M : Mem), R15 y1 y2 y3 y4 M → At X g (layC ++ ext) A 6 0 0 Z 15 [(0, .ref (ad g 80)), (1, .int y1), (2, .int y2), (3, .int y3), (4, .int y4)] [] M) (k24 : ∀ (y1 y2 y3 y4 y5 : Int32) (M : Mem), R24 y1 y2 y3 y4 y5 M → At X g (layC ++ ext) A 6 0 0 Z 24 [(0, .ref (ad g 80)), (1, .int y1), (2, .int y2), (3, .int y3), (4, .int y4), (5, .int y5)] [] M) (x1 x2 x3 x4 x5 : Int32) (M : Mem) (h : P_Rows_countSums_112 post R4 R15 R24 x1 x2 x3 x4 x5 M) : At X g (layC ++ ext) A 6 0 0 Z 112 [(0, .ref (ad g 80)), (1, .int x1), (2, .int x2), (3, .int x3), (4, .int x4), (5, .int x5)] [] M := by
  refine a_iinc C (1 : Int32) (tk T_cX7_countSums 63 rfl) rfl kI_1 (by decide) rfl ?_
  exact a_to (k_Rows_countSums_115 C hr hR k4 k15 k24 x1 (x2 + (1 : Int32)) x3 x4 x5 M h) rfl
def P_Rows_countSums_24 (post : Int32 → Mem → Prop) (R4 : Int32 → Int32 → Int32 → Mem → Prop) (R15 : Int32 → Int32 → Int32 → Int32 → Mem → Prop) : Nat → Int32 → Int32 → Int32 → Int32 → Int32 → Mem → Prop
  | 0, _, _, _, _, _, _ => False
  | n + 1, x1, x2, x3, x4, x5, M =>
    (x4 ≤ x5 → (R15 x1 x2 x3 (x4 + (1 : Int32)) M)) ∧
  (¬ x4 ≤ x5 → (vp_in x3 10 ∧ vp_in x4 10 ∧ vp_in x5 10 ∧ P_Rows_isSum (fun r1 M1 =>
  (¬ r1 = 0 → (P_Rows_countSums_112 post R4 R15 (P_Rows_countSums_24 post R4 R15 n) x1 x2 x3 x4 x5 M1)) ∧
  (r1 = 0 → (vp_in x4 10 ∧ vp_in x3 10 ∧ vp_in x5 10 ∧ P_Rows_isSum (fun r2 M2 =>
  (¬ r2 = 0 → (P_Rows_countSums_112 post R4 R15 (P_Rows_countSums_24 post R4 R15 n) x1 x2 x3 x4 x5 M2)) ∧
  (r2 = 0 → (vp_in x5 10 ∧ vp_in x3 10 ∧ vp_in x4 10 ∧ P_Rows_isSum (fun r3 M3 =>
  (r3 = 0 → (P_Rows_countSums_115 post R4 R15 (P_Rows_countSums_24 post R4 R15 n) x1 x2 x3 x4 x5 M3)) ∧
  (¬ r3 = 0 → (P_Rows_countSums_112 post R4 R15 (P_Rows_countSums_24 post R4 R15 n) x1 x2 x3 x4 x5 M3))) (M2 81 x5.toNatClampNeg) (M2 81 x3.toNatClampNeg) (M2 81 x4.toNatClampNeg) x1 M2))) (M1 81 x4.toNatClampNeg) (M1 81 x3.toNatClampNeg) (M1 81 x5.toNatClampNeg) x1 M1))) (M 81 x3.toNatClampNeg) (M 81 x4.toNatClampNeg) (M 81 x5.toNatClampNeg) x1 M))
theorem k_Rows_countSums_24 {X : FX} {g : GT} {ext : List CD} {A : Nat → Prop} {Z : State → Prop} {post : Int32 → Mem → Prop} {R4 : Int32 → Int32 → Int32 → Mem → Prop} {R15 : Int32 → Int32 → Int32 → Int32 → Mem → Prop} (C : Cx X g (layC ++ ext) A cX7_countSums 6 RX7 2) (hr : 0 ≤ X.2.2.2.1.cells ∧ 0 ≤ X.2.2.2.1.slots) (hR : RetI X g (layC ++ ext) A cX7_countSums 6 0 0 Z post) (k4 : ∀ (y1 y2 y3 : Int32) (M : Mem), R4 y1 y2 y3 M → At X g (layC ++ ext) A 6 0 0 Z 4 [(0, .ref (ad g 80)), (1, .int y1), (2, .int y2), (3, .int y3)] [] M) (k15 : ∀ (y1 y2 y3 y4 : Int32) (M : Mem), R15 y1 y2 y3 y4 M → At X g (layC ++ ext) A 6 0 0 Z 15 [(0, .ref (ad g 80)), (1, .int y1), (2, .int y2), (3, .int y3), (4, .int y4)] [] M) : ∀ (n : Nat) (x1 x2 x3 x4 x5 : Int32) (M : Mem), P_Rows_countSums_24 post R4 R15 n x1 x2 x3 x4 x5 M → At X g (layC ++ ext) A 6 0 0 Z 24 [(0, .ref (ad g 80)), (1, .int x1), (2, .int x2), (3, .int x3), (4, .int x4), (5, .int x5)] [] M := by
  intro n
  induction n with
  | zero =>
    intro x1 x2 x3 x4 x5 M h
    exact h.elim
  | succ n ih =>
    intro x1 x2 x3 x4 x5 M h
    refine a_iload C (tk T_cX7_countSums 15 rfl) rfl ?_
    refine a_iload C (tk T_cX7_countSums 16 rfl) rfl ?_
    refine a_icmp_ge C 121 (tk T_cX7_countSums 17 rfl) rfl (fun c => ?_) (fun c => ?_)
    · have h := h.1 c
      refine a_iinc C (1 : Int32) (tk T_cX7_countSums 66 rfl) rfl kI_1 (by decide) rfl ?_
      refine a_goto C 15 (tk T_cX7_countSums 67 rfl) rfl ?_
      exact a_to (k15 x1 x2 x3 (x4 + (1 : Int32)) M h) rfl
    · have h := h.2 c
      refine a_aload_n C (tk T_cX7_countSums 18 rfl) rfl ?_
      refine a_getR C f_RX7_11 (tk T_cX7_countSums 19 rfl) lc80 rfl ?_
      refine a_iload_n C (tk T_cX7_countSums 20 rfl) rfl ?_
      obtain ⟨hb, h⟩ := h
      refine a_iald C (tk T_cX7_countSums 21 rfl) lc81 hb ?_
      refine a_aload_n C (tk T_cX7_countSums 22 rfl) rfl ?_
      refine a_getR C f_RX7_11 (tk T_cX7_countSums 23 rfl) lc80 rfl ?_
      refine a_iload C (tk T_cX7_countSums 24 rfl) rfl ?_
      obtain ⟨hb, h⟩ := h
      refine a_iald C (tk T_cX7_countSums 25 rfl) lc81 hb ?_
      refine a_aload_n C (tk T_cX7_countSums 26 rfl) rfl ?_
      refine a_getR C f_RX7_11 (tk T_cX7_countSums 27 rfl) lc80 rfl ?_
      refine a_iload C (tk T_cX7_countSums 28 rfl) rfl ?_
      obtain ⟨hb, h⟩ := h
      refine a_iald C (tk T_cX7_countSums 29 rfl) lc81 hb ?_
      refine a_iload_n C (tk T_cX7_countSums 30 rfl) rfl ?_
      refine a_statI C [.int (M 81 x3.toNatClampNeg), .int (M 81 x4.toNatClampNeg), .int (M 81 x5.toNatClampNeg), .int x1] me_yX7_isSum lk_RX7_95 (ct_Rows_isSum h) (by decide) rfl rfl (Nat.le_of_ble_eq_true rfl) (tk T_cX7_countSums 31 rfl) hr (fun r1 M1 h => ?_)
      refine a_if_ne C 112 (tk T_cX7_countSums 32 rfl) rfl (fun c => ?_) (fun c => ?_)
      · have h := h.1 c
        exact a_to (k_Rows_countSums_112 C hr hR k4 k15 ih x1 x2 x3 x4 x5 M1 h) rfl
      · have h := h.2 c
        refine a_aload_n C (tk T_cX7_countSums 33 rfl) rfl ?_
        refine a_getR C f_RX7_11 (tk T_cX7_countSums 34 rfl) lc80 rfl ?_
        refine a_iload C (tk T_cX7_countSums 35 rfl) rfl ?_
        obtain ⟨hb, h⟩ := h
        refine a_iald C (tk T_cX7_countSums 36 rfl) lc81 hb ?_
        refine a_aload_n C (tk T_cX7_countSums 37 rfl) rfl ?_
        refine a_getR C f_RX7_11 (tk T_cX7_countSums 38 rfl) lc80 rfl ?_
        refine a_iload_n C (tk T_cX7_countSums 39 rfl) rfl ?_
        obtain ⟨hb, h⟩ := h
        refine a_iald C (tk T_cX7_countSums 40 rfl) lc81 hb ?_
        refine a_aload_n C (tk T_cX7_countSums 41 rfl) rfl ?_
        refine a_getR C f_RX7_11 (tk T_cX7_countSums 42 rfl) lc80 rfl ?_
        refine a_iload C (tk T_cX7_countSums 43 rfl) rfl ?_
        obtain ⟨hb, h⟩ := h
        refine a_iald C (tk T_cX7_countSums 44 rfl) lc81 hb ?_
        refine a_iload_n C (tk T_cX7_countSums 45 rfl) rfl ?_
        refine a_statI C [.int (M1 81 x4.toNatClampNeg), .int (M1 81 x3.toNatClampNeg), .int (M1 81 x5.toNatClampNeg), .int x1] me_yX7_isSum lk_RX7_95 (ct_Rows_isSum h) (by decide) rfl rfl (Nat.le_of_ble_eq_true rfl) (tk T_cX7_countSums 46 rfl) hr (fun r2 M2 h => ?_)
        refine a_if_ne C 112 (tk T_cX7_countSums 47 rfl) rfl (fun c => ?_) (fun c => ?_)
        · have h := h.1 c
          exact a_to (k_Rows_countSums_112 C hr hR k4 k15 ih x1 x2 x3 x4 x5 M2 h) rfl
        · have h := h.2 c
          refine a_aload_n C (tk T_cX7_countSums 48 rfl) rfl ?_
          refine a_getR C f_RX7_11 (tk T_cX7_countSums 49 rfl) lc80 rfl ?_
          refine a_iload C (tk T_cX7_countSums 50 rfl) rfl ?_
          obtain ⟨hb, h⟩ := h
          refine a_iald C (tk T_cX7_countSums 51 rfl) lc81 hb ?_
          refine a_aload_n C (tk T_cX7_countSums 52 rfl) rfl ?_
          refine a_getR C f_RX7_11 (tk T_cX7_countSums 53 rfl) lc80 rfl ?_
          refine a_iload_n C (tk T_cX7_countSums 54 rfl) rfl ?_
          obtain ⟨hb, h⟩ := h
          refine a_iald C (tk T_cX7_countSums 55 rfl) lc81 hb ?_
          refine a_aload_n C (tk T_cX7_countSums 56 rfl) rfl ?_
          refine a_getR C f_RX7_11 (tk T_cX7_countSums 57 rfl) lc80 rfl ?_
          refine a_iload C (tk T_cX7_countSums 58 rfl) rfl ?_
          obtain ⟨hb, h⟩ := h
          refine a_iald C (tk T_cX7_countSums 59 rfl) lc81 hb ?_
          refine a_iload_n C (tk T_cX7_countSums 60 rfl) rfl ?_
          refine a_statI C [.int (M2 81 x5.toNatClampNeg), .int (M2 81 x3.toNatClampNeg), .int (M2 81 x4.toNatClampNeg), .int x1] me_yX7_isSum lk_RX7_95 (ct_Rows_isSum h) (by decide) rfl rfl (Nat.le_of_ble_eq_true rfl) (tk T_cX7_countSums 61 rfl) hr (fun r3 M3 h => ?_)
          refine a_if_eq C 115 (tk T_cX7_countSums 62 rfl) rfl (fun c => ?_) (fun c => ?_)
          · have h := h.1 c
            exact a_to (k_Rows_countSums_115 C hr hR k4 k15 ih x1 x2 x3 x4 x5 M3 h) rfl
          · have h := h.2 c
            exact a_to (k_Rows_countSums_112 C hr hR k4 k15 ih x1 x2 x3 x4 x5 M3 h) rfl
def P_Rows_countSums_15 (post : Int32 → Mem → Prop) (R4 : Int32 → Int32 → Int32 → Mem → Prop) : Nat → Int32 → Int32 → Int32 → Int32 → Mem → Prop
  | 0, _, _, _, _, _ => False
  | n + 1, x1, x2, x3, x4, M =>
    (x3 ≤ x4 → (R4 x1 x2 (x3 + (1 : Int32)) M)) ∧
  (¬ x3 ≤ x4 → (∃ j24, P_Rows_countSums_24 post R4 (P_Rows_countSums_15 post R4 n) j24 x1 x2 x3 x4 (0 : Int32) M))
theorem k_Rows_countSums_15 {X : FX} {g : GT} {ext : List CD} {A : Nat → Prop} {Z : State → Prop} {post : Int32 → Mem → Prop} {R4 : Int32 → Int32 → Int32 → Mem → Prop} (C : Cx X g (layC ++ ext) A cX7_countSums 6 RX7 2) (hr : 0 ≤ X.2.2.2.1.cells ∧ 0 ≤ X.2.2.2.1.slots) (hR : RetI X g (layC ++ ext) A cX7_countSums 6 0 0 Z post) (k4 : ∀ (y1 y2 y3 : Int32) (M : Mem), R4 y1 y2 y3 M → At X g (layC ++ ext) A 6 0 0 Z 4 [(0, .ref (ad g 80)), (1, .int y1), (2, .int y2), (3, .int y3)] [] M) : ∀ (n : Nat) (x1 x2 x3 x4 : Int32) (M : Mem), P_Rows_countSums_15 post R4 n x1 x2 x3 x4 M → At X g (layC ++ ext) A 6 0 0 Z 15 [(0, .ref (ad g 80)), (1, .int x1), (2, .int x2), (3, .int x3), (4, .int x4)] [] M := by
  intro n
  induction n with
  | zero =>
    intro x1 x2 x3 x4 M h
    exact h.elim
  | succ n ih =>
    intro x1 x2 x3 x4 M h
    refine a_iload C (tk T_cX7_countSums 10 rfl) rfl ?_
    refine a_iload_n C (tk T_cX7_countSums 11 rfl) rfl ?_
    refine a_icmp_ge C 127 (tk T_cX7_countSums 12 rfl) rfl (fun c => ?_) (fun c => ?_)
    · have h := h.1 c
      refine a_iinc C (1 : Int32) (tk T_cX7_countSums 68 rfl) rfl kI_1 (by decide) rfl ?_
      refine a_goto C 4 (tk T_cX7_countSums 69 rfl) rfl ?_
      exact a_to (k4 x1 x2 (x3 + (1 : Int32)) M h) rfl
    · have h := h.2 c
      refine a_iconst C (0 : Int32) (tk T_cX7_countSums 13 rfl) kI_0 ?_
      refine a_istore C (tk T_cX7_countSums 14 rfl) (by decide) rfl ?_
      obtain ⟨n1, h⟩ := h
      exact a_to (k_Rows_countSums_24 C hr hR k4 ih n1 x1 x2 x3 x4 (0 : Int32) M h) rfl
def P_Rows_countSums_4 (post : Int32 → Mem → Prop) : Nat → Int32 → Int32 → Int32 → Mem → Prop
  | 0, _, _, _, _ => False
  | n + 1, x1, x2, x3, M =>
    ((M 80 5) ≤ x3 → (post x2 M)) ∧
  (¬ (M 80 5) ≤ x3 → (∃ j15, P_Rows_countSums_15 post (P_Rows_countSums_4 post n) j15 x1 x2 x3 (0 : Int32) M))
theorem k_Rows_countSums_4 {X : FX} {g : GT} {ext : List CD} {A : Nat → Prop} {Z : State → Prop} {post : Int32 → Mem → Prop} (C : Cx X g (layC ++ ext) A cX7_countSums 6 RX7 2) (hr : 0 ≤ X.2.2.2.1.cells ∧ 0 ≤ X.2.2.2.1.slots) (hR : RetI X g (layC ++ ext) A cX7_countSums 6 0 0 Z post) : ∀ (n : Nat) (x1 x2 x3 : Int32) (M : Mem), P_Rows_countSums_4 post n x1 x2 x3 M → At X g (layC ++ ext) A 6 0 0 Z 4 [(0, .ref (ad g 80)), (1, .int x1), (2, .int x2), (3, .int x3)] [] M := by
  intro n
  induction n with
  | zero =>
    intro x1 x2 x3 M h
    exact h.elim
  | succ n ih =>
    intro x1 x2 x3 M h
    refine a_iload_n C (tk T_cX7_countSums 4 rfl) rfl ?_
    refine a_aload_n C (tk T_cX7_countSums 5 rfl) rfl ?_
    refine a_getI C f_RX7_36 (tk T_cX7_countSums 6 rfl) lc80 rfl ?_
    refine a_icmp_ge C 133 (tk T_cX7_countSums 7 rfl) rfl (fun c => ?_) (fun c => ?_)
    · have h := h.1 c
      refine a_iload_n C (tk T_cX7_countSums 70 rfl) rfl ?_
      exact hR _ _ _ _ (tk T_cX7_countSums 71 rfl) h
    · have h := h.2 c
      refine a_iconst C (0 : Int32) (tk T_cX7_countSums 8 rfl) kI_0 ?_
      refine a_istore C (tk T_cX7_countSums 9 rfl) (by decide) rfl ?_
      obtain ⟨n1, h⟩ := h
      exact a_to (k_Rows_countSums_15 C hr hR ih n1 x1 x2 x3 (0 : Int32) M h) rfl
def P_Rows_countSums (post : Int32 → Mem → Prop) (x1 : Int32) (M : Mem) : Prop :=
  ∃ j4, P_Rows_countSums_4 post j4 x1 (0 : Int32) (0 : Int32) M
theorem k_Rows_countSums {X : FX} {g : GT} {ext : List CD} {A : Nat → Prop} {Z : State → Prop} {post : Int32 → Mem → Prop} (C : Cx X g (layC ++ ext) A cX7_countSums 6 RX7 2) (hr : 0 ≤ X.2.2.2.1.cells ∧ 0 ≤ X.2.2.2.1.slots) (hR : RetI X g (layC ++ ext) A cX7_countSums 6 0 0 Z post) (x1 : Int32) (M : Mem) (h : P_Rows_countSums post x1 M) : At X g (layC ++ ext) A 6 0 0 Z 0 [(0, .ref (ad g 80)), (1, .int x1)] [] M := by
  refine a_iconst C (0 : Int32) (tk T_cX7_countSums 0 rfl) kI_0 ?_
  refine a_istore_n C (tk T_cX7_countSums 1 rfl) (by decide) rfl ?_
  refine a_iconst C (0 : Int32) (tk T_cX7_countSums 2 rfl) kI_0 ?_
  refine a_istore_n C (tk T_cX7_countSums 3 rfl) (by decide) rfl ?_
  obtain ⟨n1, h⟩ := h
  exact a_to (k_Rows_countSums_4 C hr hR n1 x1 (0 : Int32) (0 : Int32) M h) rfl
theorem ct_Rows_countSums {l : Launch} {g : GT} {ext : List CD} {post : Int32 → Mem → Prop} {x1 : Int32} {M : Mem} (h : P_Rows_countSums post x1 M) : CI l g (layC ++ ext) yX7_countSums cX7_countSums 6 (some .int) 2 [.ref (ad g 80), .int x1] M post :=
  ci_of (plainFor_of_name (by decide +kernel)) (Nat.le_of_ble_eq_true rfl) (fun X A Z hl C hr hR => by subst hl; exact k_Rows_countSums C hr hR x1 M h)
