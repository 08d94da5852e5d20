def T_cX12_awayL : List (Nat × Instr × Nat) := [(0, .aload_n 0, 1), (1, .iconst 0, 1), (2, .putfield 3, 3), (5, .aload_n 0, 1), (6, .invokevirtual 128, 3), (9, .ifCond .ne 5, 3), (12, .iconst (-1), 1), (13, .ireturn, 1), (14, .aload_n 0, 1), (15, .getfield 13, 3), (18, .bipush 9, 2), (20, .dup2, 1), (21, .iaload, 1), (22, .iconst 1, 1), (23, .isub, 1), (24, .iastore, 1), (25, .aload_n 0, 1), (26, .invokevirtual 128, 3), (29, .ireturn, 1)]
theorem T_cX12_away : tabOK cX12_away T_cX12_awayL = true := by decide +kernel
def P_M_away (post : Int32 → Mem → Prop) (M : Mem) : Prop :=
  ∀ M1, M1 = ms M 0 0 (0 : Int32) → P_M_readings (fun r2 M2 =>
  (¬ r2 = 0 → (vp_in (9 : Int32) 5966 ∧ vp_in (9 : Int32) 5966 ∧ ∀ M3, M3 = ms M2 1 (9 : Int32).toNatClampNeg ((M2 1 (9 : Int32).toNatClampNeg) - (1 : Int32)) → P_M_readings (fun r4 M4 =>
  post r4 M4) M3)) ∧
  (r2 = 0 → (post (-1 : Int32) M2))) M1
theorem k_M_away {X : FX} {g : GT} {A : Nat → Prop} {Z : State → Prop} {post : Int32 → Mem → Prop} (C : Cx X g layM A cX12_away 1 RX12 1) (hr : 0 ≤ X.2.2.2.1.cells ∧ 0 ≤ X.2.2.2.1.slots) (hR : RetI X g layM A cX12_away 1 0 0 Z post) (M : Mem) (h : P_M_away post M) : At X g layM A 1 0 0 Z 0 [(0, .ref (ad g 0))] [] M := by
  refine a_aload_n C (tk T_cX12_away 0 rfl) rfl ?_
  refine a_iconst C (0 : Int32) (tk T_cX12_away 1 rfl) kI_0 ?_
  refine a_put C f_RX12_3 f_RX12_3p rfl rfl (tk T_cX12_away 2 rfl) lm0 rfl ?_
  refine a_mem (fun M1 e_M1 => ?_)
  have h := h M1 e_M1
  refine a_aload_n C (tk T_cX12_away 3 rfl) rfl ?_
  refine a_callI C [] me_yX12_readings lk_RX12_128 (ct_M_readings h) (by decide) lm0 rfl rfl rfl (Nat.le_of_ble_eq_true rfl) (tk T_cX12_away 4 rfl) hr (fun r2 M2 h => ?_)
  refine a_if_ne C 14 (tk T_cX12_away 5 rfl) rfl (fun c => ?_) (fun c => ?_)
  · have h := h.1 c
    refine a_aload_n C (tk T_cX12_away 8 rfl) rfl ?_
    refine a_getR C f_RX12_13 (tk T_cX12_away 9 rfl) lm0 rfl ?_
    refine a_bipush C (9 : Int32) (tk T_cX12_away 10 rfl) kB_9 ?_
    refine a_dup2ir C (tk T_cX12_away 11 rfl) ?_
    obtain ⟨hb, h⟩ := h
    refine a_iald C (tk T_cX12_away 12 rfl) lm1 hb ?_
    refine a_iconst C (1 : Int32) (tk T_cX12_away 13 rfl) kI_1 ?_
    refine a_isub C (tk T_cX12_away 14 rfl) ?_
    obtain ⟨hb, h⟩ := h
    refine a_iast C (tk T_cX12_away 15 rfl) lm1 hb ?_
    refine a_mem (fun M3 e_M3 => ?_)
    have h := h M3 e_M3
    refine a_aload_n C (tk T_cX12_away 16 rfl) rfl ?_
    refine a_callI C [] me_yX12_readings lk_RX12_128 (ct_M_readings h) (by decide) lm0 rfl rfl rfl (Nat.le_of_ble_eq_true rfl) (tk T_cX12_away 17 rfl) hr (fun r4 M4 h => ?_)
    exact hR _ _ _ _ (tk T_cX12_away 18 rfl) h
  · have h := h.2 c
    refine a_iconst C (-1 : Int32) (tk T_cX12_away 6 rfl) kI_m1 ?_
    exact hR _ _ _ _ (tk T_cX12_away 7 rfl) h
theorem ct_M_away {l : Launch} {g : GT} {post : Int32 → Mem → Prop} {M : Mem} (h : P_M_away post M) : CI l g layM yX12_away cX12_away 1 (some .int) 1 [.ref (ad g 0)] M post :=
  ci_of (plainFor_of_name (by decide +kernel)) (Nat.le_of_ble_eq_true rfl) rfl (fun X A Z hl C hr hR => by subst hl; exact k_M_away C hr hR  M h)
def T_cX12_isGhostL : List (Nat × Instr × Nat) := [(0, .aload_n 0, 1), (1, .aload_n 0, 1), (2, .iload_n 1, 1), (3, .iconst 0, 1), (4, .invokevirtual 132, 3), (7, .iconst 4, 1), (8, .invokevirtual 135, 3), (11, .istore_n 2, 1), (12, .iconst 0, 1), (13, .istore_n 3, 1), (14, .iconst 0, 1), (15, .istore 4, 2), (17, .iload 4, 2), (19, .aload_n 0, 1), (20, .invokevirtual 128, 3), (23, .if_icmp .ge 83, 3), (26, .iload_n 2, 1), (27, .ifCond .le 79, 3), (30, .iload_n 3, 1), (31, .ifCond .ne 63, 3), (34, .iload 4, 2), (36, .iload_n 1, 1), (37, .if_icmp .eq 61, 3), (40, .aload_n 0, 1), (41, .iload 4, 2), (43, .iconst 0, 1), (44, .invokevirtual 132, 3), (47, .aload_n 0, 1), (48, .iload_n 1, 1), (49, .iconst 0, 1), (50, .invokevirtual 132, 3), (53, .if_icmp .ne 45, 3), (56, .aload_n 0, 1), (57, .iload 4, 2), (59, .iconst 3, 1), (60, .invokevirtual 132, 3), (63, .bipush 7, 2), (65, .if_icmp .lt 33, 3), (68, .aload_n 0, 1), (69, .iload 4, 2), (71, .iconst 1, 1), (72, .invokevirtual 132, 3), (75, .aload_n 0, 1), (76, .iload_n 1, 1), (77, .iconst 1, 1), (78, .invokevirtual 132, 3), (81, .isub, 1), (82, .invokestatic 87, 3), (85, .iload_n 2, 1), (86, .isub, 1), (87, .invokestatic 87, 3), (90, .iconst 1, 1), (91, .if_icmp .gt 7, 3), (94, .iconst 1, 1), (95, .goto 4, 3), (98, .iconst 0, 1), (99, .istore_n 3, 1), (100, .iinc 4 1, 3), (103, .goto (-86), 3), (106, .iload_n 3, 1), (107, .ireturn, 1)]
theorem T_cX12_isGhost : tabOK cX12_isGhost T_cX12_isGhostL = true := by decide +kernel
def P_M_isGhost_106 (post : Int32 → Mem → Prop) (x3 : Int32) (M : Mem) : Prop :=
  (x3 = 0 ∨ x3 = 1) ∧ post x3 M
theorem k_M_isGhost_106 {X : FX} {g : GT} {A : Nat → Prop} {Z : State → Prop} {post : Int32 → Mem → Prop} (C : Cx X g layM A cX12_isGhost 5 RX12 1) (hr : 0 ≤ X.2.2.2.1.cells ∧ 0 ≤ X.2.2.2.1.slots) (hR : RetZ X g layM A cX12_isGhost 5 0 0 Z post) (x3 : Int32) (M : Mem) (h : P_M_isGhost_106 post x3 M) : At X g layM A 5 0 0 Z 106 [(3, .int x3)] [] M := by
  refine a_iload_n C (tk T_cX12_isGhost 59 rfl) rfl ?_
  exact hR _ _ _ _ (tk T_cX12_isGhost 60 rfl) h
def P_M_isGhost_99 (post : Int32 → Mem → Prop) (R17 : Int32 → Int32 → Int32 → Int32 → Mem → Prop) (x1 x2 x4 s0 : Int32) (M : Mem) : Prop :=
  R17 x1 x2 s0 (x4 + (1 : Int32)) M
theorem k_M_isGhost_99 {X : FX} {g : GT} {A : Nat → Prop} {Z : State → Prop} {post : Int32 → Mem → Prop} {R17 : Int32 → Int32 → Int32 → Int32 → Mem → Prop} (C : Cx X g layM A cX12_isGhost 5 RX12 1) (hr : 0 ≤ X.2.2.2.1.cells ∧ 0 ≤ X.2.2.2.1.slots) (hR : RetZ X g layM A cX12_isGhost 5 0 0 Z post) (k17 : ∀ (y1 y2 y3 y4 : Int32) (M : Mem), R17 y1 y2 y3 y4 M → At X g layM A 5 0 0 Z 17 [(0, .ref (ad g 0)), (1, .int y1), (2, .int y2), (3, .int y3), (4, .int y4)] [] M) (x1 x2 x4 s0 : Int32) (M : Mem) (h : P_M_isGhost_99 post R17 x1 x2 x4 s0 M) : At X g layM A 5 0 0 Z 99 [(0, .ref (ad g 0)), (1, .int x1), (2, .int x2), (4, .int x4)] [.int s0] M := by
  refine a_istore_n C (tk T_cX12_isGhost 56 rfl) (by decide) ?_
  refine a_iinc C (1 : Int32) (tk T_cX12_isGhost 57 rfl) rfl kI_1 (by decide) ?_
  refine a_goto C 17 (tk T_cX12_isGhost 58 rfl) rfl ?_
  exact a_to (k17 x1 x2 s0 (x4 + (1 : Int32)) M h) rfl
def P_M_isGhost_98 (post : Int32 → Mem → Prop) (R17 : Int32 → Int32 → Int32 → Int32 → Mem → Prop) (x1 x2 x4 : Int32) (M : Mem) : Prop :=
  P_M_isGhost_99 post R17 x1 x2 x4 (0 : Int32) M
theorem k_M_isGhost_98 {X : FX} {g : GT} {A : Nat → Prop} {Z : State → Prop} {post : Int32 → Mem → Prop} {R17 : Int32 → Int32 → Int32 → Int32 → Mem → Prop} (C : Cx X g layM A cX12_isGhost 5 RX12 1) (hr : 0 ≤ X.2.2.2.1.cells ∧ 0 ≤ X.2.2.2.1.slots) (hR : RetZ X g layM A cX12_isGhost 5 0 0 Z post) (k17 : ∀ (y1 y2 y3 y4 : Int32) (M : Mem), R17 y1 y2 y3 y4 M → At X g layM A 5 0 0 Z 17 [(0, .ref (ad g 0)), (1, .int y1), (2, .int y2), (3, .int y3), (4, .int y4)] [] M) (x1 x2 x4 : Int32) (M : Mem) (h : P_M_isGhost_98 post R17 x1 x2 x4 M) : At X g layM A 5 0 0 Z 98 [(0, .ref (ad g 0)), (1, .int x1), (2, .int x2), (4, .int x4)] [] M := by
  refine a_iconst C (0 : Int32) (tk T_cX12_isGhost 55 rfl) kI_0 ?_
  exact a_to (k_M_isGhost_99 C hr hR k17 x1 x2 x4 (0 : Int32) M h) rfl
def P_M_isGhost_94 (post : Int32 → Mem → Prop) (R17 : Int32 → Int32 → Int32 → Int32 → Mem → Prop) (x1 x2 x4 : Int32) (M : Mem) : Prop :=
  P_M_isGhost_99 post R17 x1 x2 x4 (1 : Int32) M
theorem k_M_isGhost_94 {X : FX} {g : GT} {A : Nat → Prop} {Z : State → Prop} {post : Int32 → Mem → Prop} {R17 : Int32 → Int32 → Int32 → Int32 → Mem → Prop} (C : Cx X g layM A cX12_isGhost 5 RX12 1) (hr : 0 ≤ X.2.2.2.1.cells ∧ 0 ≤ X.2.2.2.1.slots) (hR : RetZ X g layM A cX12_isGhost 5 0 0 Z post) (k17 : ∀ (y1 y2 y3 y4 : Int32) (M : Mem), R17 y1 y2 y3 y4 M → At X g layM A 5 0 0 Z 17 [(0, .ref (ad g 0)), (1, .int y1), (2, .int y2), (3, .int y3), (4, .int y4)] [] M) (x1 x2 x4 : Int32) (M : Mem) (h : P_M_isGhost_94 post R17 x1 x2 x4 M) : At X g layM A 5 0 0 Z 94 [(0, .ref (ad g 0)), (1, .int x1), (2, .int x2), (4, .int x4)] [] M := by
  refine a_iconst C (1 : Int32) (tk T_cX12_isGhost 53 rfl) kI_1 ?_
  refine a_goto C 99 (tk T_cX12_isGhost 54 rfl) rfl ?_
  exact a_to (k_M_isGhost_99 C hr hR k17 x1 x2 x4 (1 : Int32) M h) rfl
def P_M_isGhost_17 (post : Int32 → Mem → Prop) : Nat → Int32 → Int32 → Int32 → Int32 → Mem → Prop
  | 0, _, _, _, _, _ => False
  | n + 1, x1, x2, x3, x4, M =>
    P_M_readings (fun r1 M1 =>
  (r1 ≤ x4 → (P_M_isGhost_106 post x3 M1)) ∧
  (¬ r1 ≤ x4 → ((x2 ≤ 0 → (P_M_isGhost_106 post x3 M1)) ∧
  (¬ x2 ≤ 0 → ((¬ x3 = 0 → (P_M_isGhost_94 post (P_M_isGhost_17 post n) x1 x2 x4 M1)) ∧
  (x3 = 0 → ((x4 = x1 → (P_M_isGhost_98 post (P_M_isGhost_17 post n) x1 x2 x4 M1)) ∧
  (¬ x4 = x1 → (P_M_of (fun r2 M2 =>
  P_M_of (fun r3 M3 =>
  (¬ r2 = r3 → (P_M_isGhost_98 post (P_M_isGhost_17 post n) x1 x2 x4 M3)) ∧
  (r2 = r3 → (P_M_of (fun r4 M4 =>
  (r4 < (7 : Int32) → (P_M_isGhost_98 post (P_M_isGhost_17 post n) x1 x2 x4 M4)) ∧
  (¬ r4 < (7 : Int32) → (P_M_of (fun r5 M5 =>
  P_M_of (fun r6 M6 =>
  P_Math_abs (fun r7 M7 =>
  P_Math_abs (fun r8 M8 =>
  ((1 : Int32) < r8 → (P_M_isGhost_98 post (P_M_isGhost_17 post n) x1 x2 x4 M8)) ∧
  (¬ (1 : Int32) < r8 → (P_M_isGhost_94 post (P_M_isGhost_17 post n) x1 x2 x4 M8))) (r7 - x2) M7) (r5 - r6) M6) x1 (1 : Int32) M5) x4 (1 : Int32) M4))) x4 (3 : Int32) M3))) x1 (0 : Int32) M2) x4 (0 : Int32) M1))))))))) M
theorem k_M_isGhost_17 {X : FX} {g : GT} {A : Nat → Prop} {Z : State → Prop} {post : Int32 → Mem → Prop} (C : Cx X g layM A cX12_isGhost 5 RX12 1) (hr : 0 ≤ X.2.2.2.1.cells ∧ 0 ≤ X.2.2.2.1.slots) (hR : RetZ X g layM A cX12_isGhost 5 0 0 Z post) : ∀ (n : Nat) (x1 x2 x3 x4 : Int32) (M : Mem), P_M_isGhost_17 post n x1 x2 x3 x4 M → At X g layM A 5 0 0 Z 17 [(0, .ref (ad g 0)), (1, .int x1), (2, .int x2), (3, .int x3), (4, .int x4)] [] M := by
  intro n
  induction n with
  | zero =>
    intro x1 x2 x3 x4 M h
    exact h.elim
  | succ n ih =>
    intro x1 x2 x3 x4 M h
    refine a_iload C (tk T_cX12_isGhost 12 rfl) rfl ?_
    refine a_aload_n C (tk T_cX12_isGhost 13 rfl) rfl ?_
    refine a_callI C [] me_yX12_readings lk_RX12_128 (ct_M_readings h) (by decide) lm0 rfl rfl rfl (Nat.le_of_ble_eq_true rfl) (tk T_cX12_isGhost 14 rfl) hr (fun r1 M1 h => ?_)
    refine a_icmp_ge C 106 (tk T_cX12_isGhost 15 rfl) rfl (fun c => ?_) (fun c => ?_)
    · have h := h.1 c
      exact a_to (k_M_isGhost_106 C hr hR x3 M1 h) rfl
    · have h := h.2 c
      refine a_iload_n C (tk T_cX12_isGhost 16 rfl) rfl ?_
      refine a_if_le C 106 (tk T_cX12_isGhost 17 rfl) rfl (fun c => ?_) (fun c => ?_)
      · have h := h.1 c
        exact a_to (k_M_isGhost_106 C hr hR x3 M1 h) rfl
      · have h := h.2 c
        refine a_iload_n C (tk T_cX12_isGhost 18 rfl) rfl ?_
        refine a_if_ne C 94 (tk T_cX12_isGhost 19 rfl) rfl (fun c => ?_) (fun c => ?_)
        · have h := h.1 c
          exact a_to (k_M_isGhost_94 C hr hR ih x1 x2 x4 M1 h) rfl
        · have h := h.2 c
          refine a_iload C (tk T_cX12_isGhost 20 rfl) rfl ?_
          refine a_iload_n C (tk T_cX12_isGhost 21 rfl) rfl ?_
          refine a_icmp_eq C 98 (tk T_cX12_isGhost 22 rfl) rfl (fun c => ?_) (fun c => ?_)
          · have h := h.1 c
            exact a_to (k_M_isGhost_98 C hr hR ih x1 x2 x4 M1 h) rfl
          · have h := h.2 c
            refine a_aload_n C (tk T_cX12_isGhost 23 rfl) rfl ?_
            refine a_iload C (tk T_cX12_isGhost 24 rfl) rfl ?_
            refine a_iconst C (0 : Int32) (tk T_cX12_isGhost 25 rfl) kI_0 ?_
            refine a_callI C [.int x4, .int (0 : Int32)] me_yX12_of lk_RX12_132 (ct_M_of h) (by decide) lm0 rfl rfl rfl (Nat.le_of_ble_eq_true rfl) (tk T_cX12_isGhost 26 rfl) hr (fun r2 M2 h => ?_)
            refine a_aload_n C (tk T_cX12_isGhost 27 rfl) rfl ?_
            refine a_iload_n C (tk T_cX12_isGhost 28 rfl) rfl ?_
            refine a_iconst C (0 : Int32) (tk T_cX12_isGhost 29 rfl) kI_0 ?_
            refine a_callI C [.int x1, .int (0 : Int32)] me_yX12_of lk_RX12_132 (ct_M_of h) (by decide) lm0 rfl rfl rfl (Nat.le_of_ble_eq_true rfl) (tk T_cX12_isGhost 30 rfl) hr (fun r3 M3 h => ?_)
            refine a_icmp_ne C 98 (tk T_cX12_isGhost 31 rfl) rfl (fun c => ?_) (fun c => ?_)
            · have h := h.1 c
              exact a_to (k_M_isGhost_98 C hr hR ih x1 x2 x4 M3 h) rfl
            · have h := h.2 c
              refine a_aload_n C (tk T_cX12_isGhost 32 rfl) rfl ?_
              refine a_iload C (tk T_cX12_isGhost 33 rfl) rfl ?_
              refine a_iconst C (3 : Int32) (tk T_cX12_isGhost 34 rfl) kI_3 ?_
              refine a_callI C [.int x4, .int (3 : Int32)] me_yX12_of lk_RX12_132 (ct_M_of h) (by decide) lm0 rfl rfl rfl (Nat.le_of_ble_eq_true rfl) (tk T_cX12_isGhost 35 rfl) hr (fun r4 M4 h => ?_)
              refine a_bipush C (7 : Int32) (tk T_cX12_isGhost 36 rfl) kB_7 ?_
              refine a_icmp_lt C 98 (tk T_cX12_isGhost 37 rfl) rfl (fun c => ?_) (fun c => ?_)
              · have h := h.1 c
                exact a_to (k_M_isGhost_98 C hr hR ih x1 x2 x4 M4 h) rfl
              · have h := h.2 c
                refine a_aload_n C (tk T_cX12_isGhost 38 rfl) rfl ?_
                refine a_iload C (tk T_cX12_isGhost 39 rfl) rfl ?_
                refine a_iconst C (1 : Int32) (tk T_cX12_isGhost 40 rfl) kI_1 ?_
                refine a_callI C [.int x4, .int (1 : Int32)] me_yX12_of lk_RX12_132 (ct_M_of h) (by decide) lm0 rfl rfl rfl (Nat.le_of_ble_eq_true rfl) (tk T_cX12_isGhost 41 rfl) hr (fun r5 M5 h => ?_)
                refine a_aload_n C (tk T_cX12_isGhost 42 rfl) rfl ?_
                refine a_iload_n C (tk T_cX12_isGhost 43 rfl) rfl ?_
                refine a_iconst C (1 : Int32) (tk T_cX12_isGhost 44 rfl) kI_1 ?_
                refine a_callI C [.int x1, .int (1 : Int32)] me_yX12_of lk_RX12_132 (ct_M_of h) (by decide) lm0 rfl rfl rfl (Nat.le_of_ble_eq_true rfl) (tk T_cX12_isGhost 45 rfl) hr (fun r6 M6 h => ?_)
                refine a_isub C (tk T_cX12_isGhost 46 rfl) ?_
                refine a_statI C [.int (r5 - r6)] me_yJ9_abs_0f7a4 lk_RX12_87 (ct_Math_abs h) (by decide) rfl rfl (Nat.le_of_ble_eq_true rfl) (tk T_cX12_isGhost 47 rfl) hr (fun r7 M7 h => ?_)
                refine a_iload_n C (tk T_cX12_isGhost 48 rfl) rfl ?_
                refine a_isub C (tk T_cX12_isGhost 49 rfl) ?_
                refine a_statI C [.int (r7 - x2)] me_yJ9_abs_0f7a4 lk_RX12_87 (ct_Math_abs h) (by decide) rfl rfl (Nat.le_of_ble_eq_true rfl) (tk T_cX12_isGhost 50 rfl) hr (fun r8 M8 h => ?_)
                refine a_iconst C (1 : Int32) (tk T_cX12_isGhost 51 rfl) kI_1 ?_
                refine a_icmp_gt C 98 (tk T_cX12_isGhost 52 rfl) rfl (fun c => ?_) (fun c => ?_)
                · have h := h.1 c
                  exact a_to (k_M_isGhost_98 C hr hR ih x1 x2 x4 M8 h) rfl
                · have h := h.2 c
                  exact a_to (k_M_isGhost_94 C hr hR ih x1 x2 x4 M8 h) rfl
def P_M_isGhost (post : Int32 → Mem → Prop) (x1 : Int32) (M : Mem) : Prop :=
  P_M_of (fun r1 M1 =>
  P_M_ofPlate (fun r2 M2 =>
  ∃ j17, P_M_isGhost_17 post j17 x1 r2 (0 : Int32) (0 : Int32) M2) r1 (4 : Int32) M1) x1 (0 : Int32) M
theorem k_M_isGhost {X : FX} {g : GT} {A : Nat → Prop} {Z : State → Prop} {post : Int32 → Mem → Prop} (C : Cx X g layM A cX12_isGhost 5 RX12 1) (hr : 0 ≤ X.2.2.2.1.cells ∧ 0 ≤ X.2.2.2.1.slots) (hR : RetZ X g layM A cX12_isGhost 5 0 0 Z post) (x1 : Int32) (M : Mem) (h : P_M_isGhost post x1 M) : At X g layM A 5 0 0 Z 0 [(0, .ref (ad g 0)), (1, .int x1)] [] M := by
  refine a_aload_n C (tk T_cX12_isGhost 0 rfl) rfl ?_
  refine a_aload_n C (tk T_cX12_isGhost 1 rfl) rfl ?_
  refine a_iload_n C (tk T_cX12_isGhost 2 rfl) rfl ?_
  refine a_iconst C (0 : Int32) (tk T_cX12_isGhost 3 rfl) kI_0 ?_
  refine a_callI C [.int x1, .int (0 : Int32)] me_yX12_of lk_RX12_132 (ct_M_of h) (by decide) lm0 rfl rfl rfl (Nat.le_of_ble_eq_true rfl) (tk T_cX12_isGhost 4 rfl) hr (fun r1 M1 h => ?_)
  refine a_iconst C (4 : Int32) (tk T_cX12_isGhost 5 rfl) kI_4 ?_
  refine a_callI C [.int r1, .int (4 : Int32)] me_yX12_ofPlate lk_RX12_135 (ct_M_ofPlate h) (by decide) lm0 rfl rfl rfl (Nat.le_of_ble_eq_true rfl) (tk T_cX12_isGhost 6 rfl) hr (fun r2 M2 h => ?_)
  refine a_istore_n C (tk T_cX12_isGhost 7 rfl) (by decide) ?_
  refine a_iconst C (0 : Int32) (tk T_cX12_isGhost 8 rfl) kI_0 ?_
  refine a_istore_n C (tk T_cX12_isGhost 9 rfl) (by decide) ?_
  refine a_iconst C (0 : Int32) (tk T_cX12_isGhost 10 rfl) kI_0 ?_
  refine a_istore C (tk T_cX12_isGhost 11 rfl) (by decide) ?_
  obtain ⟨n1, h⟩ := h
  exact a_to (k_M_isGhost_17 C hr hR n1 x1 r2 (0 : Int32) (0 : Int32) M2 h) rfl
theorem ct_M_isGhost {l : Launch} {g : GT} {post : Int32 → Mem → Prop} {x1 : Int32} {M : Mem} (h : P_M_isGhost post x1 M) : CI l g layM yX12_isGhost cX12_isGhost 5 (some .boolean) 1 [.ref (ad g 0), .int x1] M post :=
  cz_of (plainFor_of_name (by decide +kernel)) (Nat.le_of_ble_eq_true rfl) rfl (fun X A Z hl C hr hR => by subst hl; exact k_M_isGhost C hr hR x1 M h)
def T_cX12_driftsL : List (Nat × Instr × Nat) := [(0, .iconst 0, 1), (1, .istore_n 3, 1), (2, .iload_n 3, 1), (3, .aload_n 0, 1), (4, .invokevirtual 128, 3), (7, .if_icmp .ge 69, 3), (10, .aload_n 0, 1), (11, .aload_n 0, 1), (12, .iload_n 3, 1), (13, .iconst 1, 1), (14, .invokevirtual 132, 3), (17, .aload_n 0, 1), (18, .iload_n 3, 1), (19, .iconst 2, 1), (20, .invokevirtual 132, 3), (23, .invokevirtual 80, 3), (26, .aload_n 0, 1), (27, .iload_n 3, 1), (28, .iconst 0, 1), (29, .invokevirtual 132, 3), (32, .iload_n 1, 1), (33, .if_icmp .ne 7, 3), (36, .iload_n 2, 1), (37, .goto 4, 3), (40, .iconst 0, 1), (41, .iadd, 1), (42, .istore 4, 2), (44, .aload_n 0, 1), (45, .getfield 26, 3), (48, .iload_n 3, 1), (49, .aload_n 0, 1), (50, .iload 4, 2), (52, .iconst 0, 1), (53, .invokevirtual 117, 3), (56, .iastore, 1), (57, .aload_n 0, 1), (58, .getfield 29, 3), (61, .iload_n 3, 1), (62, .aload_n 0, 1), (63, .iload 4, 2), (65, .iconst 1, 1), (66, .invokevirtual 117, 3), (69, .iastore, 1), (70, .iinc 3 1, 3), (73, .goto (-71), 3), (76, .return_, 1)]
theorem T_cX12_drifts : tabOK cX12_drifts T_cX12_driftsL = true := by decide +kernel
def P_M_drifts_41 (post : Mem → Prop) (R2 : Int32 → Int32 → Int32 → Mem → Prop) (x1 x2 x3 s0 s1 : Int32) (M : Mem) : Prop :=
  ∀ x4_1, x4_1 = (s0 + s1) → P_M_endOf (fun r2 M2 =>
  vp_in x3 24 ∧ ∀ M3, M3 = ms M2 5 x3.toNatClampNeg r2 → P_M_endOf (fun r4 M4 =>
  vp_in x3 24 ∧ ∀ M5, M5 = ms M4 6 x3.toNatClampNeg r4 → R2 x1 x2 (x3 + (1 : Int32)) M5) x4_1 (1 : Int32) M3) x4_1 (0 : Int32) M
theorem k_M_drifts_41 {X : FX} {g : GT} {A : Nat → Prop} {Z : State → Prop} {post : Mem → Prop} {R2 : Int32 → Int32 → Int32 → Mem → Prop} (C : Cx X g layM A cX12_drifts 5 RX12 3) (hr : 0 ≤ X.2.2.2.1.cells ∧ 0 ≤ X.2.2.2.1.slots) (hR : RetV X g layM A cX12_drifts 5 0 0 Z post) (k2 : ∀ (y1 y2 y3 : Int32) (M : Mem), R2 y1 y2 y3 M → At X g layM A 5 0 0 Z 2 [(0, .ref (ad g 0)), (1, .int y1), (2, .int y2), (3, .int y3)] [] M) (x1 x2 x3 s0 s1 : Int32) (M : Mem) (h : P_M_drifts_41 post R2 x1 x2 x3 s0 s1 M) : At X g layM A 5 0 0 Z 41 [(0, .ref (ad g 0)), (1, .int x1), (2, .int x2), (3, .int x3)] [.int s1, .int s0] M := by
  refine a_iadd C (tk T_cX12_drifts 25 rfl) ?_
  refine a_top (fun x4_1 e_x4_1 => ?_)
  have h := h x4_1 e_x4_1
  refine a_istore C (tk T_cX12_drifts 26 rfl) (by decide) ?_
  refine a_aload_n C (tk T_cX12_drifts 27 rfl) rfl ?_
  refine a_getR C f_RX12_26 (tk T_cX12_drifts 28 rfl) lm0 rfl ?_
  refine a_iload_n C (tk T_cX12_drifts 29 rfl) rfl ?_
  refine a_aload_n C (tk T_cX12_drifts 30 rfl) rfl ?_
  refine a_iload C (tk T_cX12_drifts 31 rfl) rfl ?_
  refine a_iconst C (0 : Int32) (tk T_cX12_drifts 32 rfl) kI_0 ?_
  refine a_callI C [.int x4_1, .int (0 : Int32)] me_yX12_endOf lk_RX12_117 (ct_M_endOf h) (by decide) lm0 rfl rfl rfl (Nat.le_of_ble_eq_true rfl) (tk T_cX12_drifts 33 rfl) hr (fun r2 M2 h => ?_)
  obtain ⟨hb, h⟩ := h
  refine a_iast C (tk T_cX12_drifts 34 rfl) lm5 hb ?_
  refine a_mem (fun M3 e_M3 => ?_)
  have h := h M3 e_M3
  refine a_aload_n C (tk T_cX12_drifts 35 rfl) rfl ?_
  refine a_getR C f_RX12_29 (tk T_cX12_drifts 36 rfl) lm0 rfl ?_
  refine a_iload_n C (tk T_cX12_drifts 37 rfl) rfl ?_
  refine a_aload_n C (tk T_cX12_drifts 38 rfl) rfl ?_
  refine a_iload C (tk T_cX12_drifts 39 rfl) rfl ?_
  refine a_iconst C (1 : Int32) (tk T_cX12_drifts 40 rfl) kI_1 ?_
  refine a_callI C [.int x4_1, .int (1 : Int32)] me_yX12_endOf lk_RX12_117 (ct_M_endOf h) (by decide) lm0 rfl rfl rfl (Nat.le_of_ble_eq_true rfl) (tk T_cX12_drifts 41 rfl) hr (fun r4 M4 h => ?_)
  obtain ⟨hb, h⟩ := h
  refine a_iast C (tk T_cX12_drifts 42 rfl) lm6 hb ?_
  refine a_mem (fun M5 e_M5 => ?_)
  have h := h M5 e_M5
  refine a_iinc C (1 : Int32) (tk T_cX12_drifts 43 rfl) rfl kI_1 (by decide) ?_
  refine a_goto C 2 (tk T_cX12_drifts 44 rfl) rfl ?_
  exact a_to (k2 x1 x2 (x3 + (1 : Int32)) M5 h) rfl
def P_M_drifts_2 (post : Mem → Prop) : Nat → Int32 → Int32 → Int32 → Mem → Prop
  | 0, _, _, _, _ => False
  | n + 1, x1, x2, x3, M =>
    P_M_readings (fun r1 M1 =>
  (r1 ≤ x3 → (post M1)) ∧
  (¬ r1 ≤ x3 → (P_M_of (fun r2 M2 =>
  P_M_of (fun r3 M3 =>
  P_M_truePlace (fun r4 M4 =>
  P_M_of (fun r5 M5 =>
  (¬ r5 = x1 → (P_M_drifts_41 post (P_M_drifts_2 post n) x1 x2 x3 r4 (0 : Int32) M5)) ∧
  (r5 = x1 → (P_M_drifts_41 post (P_M_drifts_2 post n) x1 x2 x3 r4 x2 M5))) x3 (0 : Int32) M4) r2 r3 M3) x3 (2 : Int32) M2) x3 (1 : Int32) M1))) M
theorem k_M_drifts_2 {X : FX} {g : GT} {A : Nat → Prop} {Z : State → Prop} {post : Mem → Prop} (C : Cx X g layM A cX12_drifts 5 RX12 3) (hr : 0 ≤ X.2.2.2.1.cells ∧ 0 ≤ X.2.2.2.1.slots) (hR : RetV X g layM A cX12_drifts 5 0 0 Z post) : ∀ (n : Nat) (x1 x2 x3 : Int32) (M : Mem), P_M_drifts_2 post n x1 x2 x3 M → At X g layM A 5 0 0 Z 2 [(0, .ref (ad g 0)), (1, .int x1), (2, .int x2), (3, .int x3)] [] M := by
  intro n
  induction n with
  | zero =>
    intro x1 x2 x3 M h
    exact h.elim
  | succ n ih =>
    intro x1 x2 x3 M h
    refine a_iload_n C (tk T_cX12_drifts 2 rfl) rfl ?_
    refine a_aload_n C (tk T_cX12_drifts 3 rfl) rfl ?_
    refine a_callI C [] me_yX12_readings lk_RX12_128 (ct_M_readings h) (by decide) lm0 rfl rfl rfl (Nat.le_of_ble_eq_true rfl) (tk T_cX12_drifts 4 rfl) hr (fun r1 M1 h => ?_)
    refine a_icmp_ge C 76 (tk T_cX12_drifts 5 rfl) rfl (fun c => ?_) (fun c => ?_)
    · have h := h.1 c
      exact hR _ _ _ (tk T_cX12_drifts 45 rfl) h
    · have h := h.2 c
      refine a_aload_n C (tk T_cX12_drifts 6 rfl) rfl ?_
      refine a_aload_n C (tk T_cX12_drifts 7 rfl) rfl ?_
      refine a_iload_n C (tk T_cX12_drifts 8 rfl) rfl ?_
      refine a_iconst C (1 : Int32) (tk T_cX12_drifts 9 rfl) kI_1 ?_
      refine a_callI C [.int x3, .int (1 : Int32)] me_yX12_of lk_RX12_132 (ct_M_of h) (by decide) lm0 rfl rfl rfl (Nat.le_of_ble_eq_true rfl) (tk T_cX12_drifts 10 rfl) hr (fun r2 M2 h => ?_)
      refine a_aload_n C (tk T_cX12_drifts 11 rfl) rfl ?_
      refine a_iload_n C (tk T_cX12_drifts 12 rfl) rfl ?_
      refine a_iconst C (2 : Int32) (tk T_cX12_drifts 13 rfl) kI_2 ?_
      refine a_callI C [.int x3, .int (2 : Int32)] me_yX12_of lk_RX12_132 (ct_M_of h) (by decide) lm0 rfl rfl rfl (Nat.le_of_ble_eq_true rfl) (tk T_cX12_drifts 14 rfl) hr (fun r3 M3 h => ?_)
      refine a_callI C [.int r2, .int r3] me_yX12_truePlace lk_RX12_80 (ct_M_truePlace h) (by decide) lm0 rfl rfl rfl (Nat.le_of_ble_eq_true rfl) (tk T_cX12_drifts 15 rfl) hr (fun r4 M4 h => ?_)
      refine a_aload_n C (tk T_cX12_drifts 16 rfl) rfl ?_
      refine a_iload_n C (tk T_cX12_drifts 17 rfl) rfl ?_
      refine a_iconst C (0 : Int32) (tk T_cX12_drifts 18 rfl) kI_0 ?_
      refine a_callI C [.int x3, .int (0 : Int32)] me_yX12_of lk_RX12_132 (ct_M_of h) (by decide) lm0 rfl rfl rfl (Nat.le_of_ble_eq_true rfl) (tk T_cX12_drifts 19 rfl) hr (fun r5 M5 h => ?_)
      refine a_iload_n C (tk T_cX12_drifts 20 rfl) rfl ?_
      refine a_icmp_ne C 40 (tk T_cX12_drifts 21 rfl) rfl (fun c => ?_) (fun c => ?_)
      · have h := h.1 c
        refine a_iconst C (0 : Int32) (tk T_cX12_drifts 24 rfl) kI_0 ?_
        exact a_to (k_M_drifts_41 C hr hR ih x1 x2 x3 r4 (0 : Int32) M5 h) rfl
      · have h := h.2 c
        refine a_iload_n C (tk T_cX12_drifts 22 rfl) rfl ?_
        refine a_goto C 41 (tk T_cX12_drifts 23 rfl) rfl ?_
        exact a_to (k_M_drifts_41 C hr hR ih x1 x2 x3 r4 x2 M5 h) rfl
def P_M_drifts (post : Mem → Prop) (x1 x2 : Int32) (M : Mem) : Prop :=
  ∃ j2, P_M_drifts_2 post j2 x1 x2 (0 : Int32) M
theorem k_M_drifts {X : FX} {g : GT} {A : Nat → Prop} {Z : State → Prop} {post : Mem → Prop} (C : Cx X g layM A cX12_drifts 5 RX12 3) (hr : 0 ≤ X.2.2.2.1.cells ∧ 0 ≤ X.2.2.2.1.slots) (hR : RetV X g layM A cX12_drifts 5 0 0 Z post) (x1 x2 : Int32) (M : Mem) (h : P_M_drifts post x1 x2 M) : At X g layM A 5 0 0 Z 0 [(0, .ref (ad g 0)), (1, .int x1), (2, .int x2)] [] M := by
  refine a_iconst C (0 : Int32) (tk T_cX12_drifts 0 rfl) kI_0 ?_
  refine a_istore_n C (tk T_cX12_drifts 1 rfl) (by decide) ?_
  obtain ⟨n1, h⟩ := h
  exact a_to (k_M_drifts_2 C hr hR n1 x1 x2 (0 : Int32) M h) rfl
theorem ct_M_drifts {l : Launch} {g : GT} {post : Mem → Prop} {x1 x2 : Int32} {M : Mem} (h : P_M_drifts post x1 x2 M) : CV l g layM yX12_drifts cX12_drifts 5 none 3 [.ref (ad g 0), .int x1, .int x2] M post :=
  cv_of (plainFor_of_name (by decide +kernel)) (Nat.le_of_ble_eq_true rfl) rfl (fun X A Z hl C hr hR => by subst hl; exact k_M_drifts C hr hR x1 x2 M h)
def T_cX12_spansL : List (Nat × Instr × Nat) := [(0, .aload_n 0, 1), (1, .iconst 0, 1), (2, .invokevirtual 112, 3), (5, .pop, 1), (6, .aload_n 0, 1), (7, .iconst (-1), 1), (8, .iconst 0, 1), (9, .invokevirtual 138, 3), (12, .return_, 1)]
theorem T_cX12_spans : tabOK cX12_spans T_cX12_spansL = true := by decide +kernel
def P_M_spans (post : Mem → Prop) (M : Mem) : Prop :=
  P_M_lays (fun r1 M1 =>
  P_M_drifts (fun M2 =>
  post M2) (-1 : Int32) (0 : Int32) M1) (0 : Int32) M
theorem k_M_spans {X : FX} {g : GT} {A : Nat → Prop} {Z : State → Prop} {post : Mem → Prop} (C : Cx X g layM A cX12_spans 1 RX12 4) (hr : 0 ≤ X.2.2.2.1.cells ∧ 0 ≤ X.2.2.2.1.slots) (hR : RetV X g layM A cX12_spans 1 0 0 Z post) (M : Mem) (h : P_M_spans post M) : At X g layM A 1 0 0 Z 0 [(0, .ref (ad g 0))] [] M := by
  refine a_aload_n C (tk T_cX12_spans 0 rfl) rfl ?_
  refine a_iconst C (0 : Int32) (tk T_cX12_spans 1 rfl) kI_0 ?_
  refine a_callI C [.int (0 : Int32)] me_yX12_lays lk_RX12_112 (ct_M_lays h) (by decide) lm0 rfl rfl rfl (Nat.le_of_ble_eq_true rfl) (tk T_cX12_spans 2 rfl) hr (fun r1 M1 h => ?_)
  refine a_popi C (tk T_cX12_spans 3 rfl) ?_
  refine a_aload_n C (tk T_cX12_spans 4 rfl) rfl ?_
  refine a_iconst C (-1 : Int32) (tk T_cX12_spans 5 rfl) kI_m1 ?_
  refine a_iconst C (0 : Int32) (tk T_cX12_spans 6 rfl) kI_0 ?_
  refine a_callV C [.int (-1 : Int32), .int (0 : Int32)] me_yX12_drifts lk_RX12_138 (ct_M_drifts h) (by decide) lm0 rfl rfl rfl (Nat.le_of_ble_eq_true rfl) (tk T_cX12_spans 7 rfl) hr (fun M2 h => ?_)
  exact hR _ _ _ (tk T_cX12_spans 8 rfl) h
theorem ct_M_spans {l : Launch} {g : GT} {post : Mem → Prop} {M : Mem} (h : P_M_spans post M) : CV l g layM yX12_spans cX12_spans 1 none 4 [.ref (ad g 0)] M post :=
  cv_of (plainFor_of_name (by decide +kernel)) (Nat.le_of_ble_eq_true rfl) rfl (fun X A Z hl C hr hR => by subst hl; exact k_M_spans C hr hR  M h)
def T_cX12_hasSpanL : List (Nat × Instr × Nat) := [(0, .aload_n 0, 1), (1, .getfield 26, 3), (4, .iload_n 1, 1), (5, .iaload, 1), (6, .ldc 116, 2), (8, .if_icmp .ne 14, 3), (11, .aload_n 0, 1), (12, .getfield 29, 3), (15, .iload_n 1, 1), (16, .iaload, 1), (17, .ldc 116, 2), (19, .if_icmp .eq 7, 3), (22, .iconst 1, 1), (23, .goto 4, 3), (26, .iconst 0, 1), (27, .ireturn, 1)]
theorem T_cX12_hasSpan : tabOK cX12_hasSpan T_cX12_hasSpanL = true := by decide +kernel
def P_M_hasSpan_27 (post : Int32 → Mem → Prop) (s0 : Int32) (M : Mem) : Prop :=
  (s0 = 0 ∨ s0 = 1) ∧ post s0 M
theorem k_M_hasSpan_27 {X : FX} {g : GT} {A : Nat → Prop} {Z : State → Prop} {post : Int32 → Mem → Prop} (C : Cx X g layM A cX12_hasSpan 2 RX12 0) (hr : 0 ≤ X.2.2.2.1.cells ∧ 0 ≤ X.2.2.2.1.slots) (hR : RetZ X g layM A cX12_hasSpan 2 0 0 Z post) (s0 : Int32) (M : Mem) (h : P_M_hasSpan_27 post s0 M) : At X g layM A 2 0 0 Z 27 [] [.int s0] M := by
  exact hR _ _ _ _ (tk T_cX12_hasSpan 15 rfl) h
def P_M_hasSpan_22 (post : Int32 → Mem → Prop) (M : Mem) : Prop :=
  P_M_hasSpan_27 post (1 : Int32) M
theorem k_M_hasSpan_22 {X : FX} {g : GT} {A : Nat → Prop} {Z : State → Prop} {post : Int32 → Mem → Prop} (C : Cx X g layM A cX12_hasSpan 2 RX12 0) (hr : 0 ≤ X.2.2.2.1.cells ∧ 0 ≤ X.2.2.2.1.slots) (hR : RetZ X g layM A cX12_hasSpan 2 0 0 Z post)  (M : Mem) (h : P_M_hasSpan_22 post M) : At X g layM A 2 0 0 Z 22 [] [] M := by
  refine a_iconst C (1 : Int32) (tk T_cX12_hasSpan 12 rfl) kI_1 ?_
  refine a_goto C 27 (tk T_cX12_hasSpan 13 rfl) rfl ?_
  exact a_to (k_M_hasSpan_27 C hr hR (1 : Int32) M h) rfl
def P_M_hasSpan (post : Int32 → Mem → Prop) (x1 : Int32) (M : Mem) : Prop :=
  vp_in x1 24 ∧ (¬ (M 5 x1.toNatClampNeg) = (-99999 : Int32) → (P_M_hasSpan_22 post M)) ∧
  ((M 5 x1.toNatClampNeg) = (-99999 : Int32) → (vp_in x1 24 ∧ ((M 6 x1.toNatClampNeg) = (-99999 : Int32) → (P_M_hasSpan_27 post (0 : Int32) M)) ∧
  (¬ (M 6 x1.toNatClampNeg) = (-99999 : Int32) → (P_M_hasSpan_22 post M))))
theorem k_M_hasSpan {X : FX} {g : GT} {A : Nat → Prop} {Z : State → Prop} {post : Int32 → Mem → Prop} (C : Cx X g layM A cX12_hasSpan 2 RX12 0) (hr : 0 ≤ X.2.2.2.1.cells ∧ 0 ≤ X.2.2.2.1.slots) (hR : RetZ X g layM A cX12_hasSpan 2 0 0 Z post) (x1 : Int32) (M : Mem) (h : P_M_hasSpan post x1 M) : At X g layM A 2 0 0 Z 0 [(0, .ref (ad g 0)), (1, .int x1)] [] M := by
  refine a_aload_n C (tk T_cX12_hasSpan 0 rfl) rfl ?_
  refine a_getR C f_RX12_26 (tk T_cX12_hasSpan 1 rfl) lm0 rfl ?_
  refine a_iload_n C (tk T_cX12_hasSpan 2 rfl) rfl ?_
  obtain ⟨hb, h⟩ := h
  refine a_iald C (tk T_cX12_hasSpan 3 rfl) lm5 hb ?_
  refine a_ldc C c_RX12_116 (tk T_cX12_hasSpan 4 rfl) ?_
  refine a_icmp_ne C 22 (tk T_cX12_hasSpan 5 rfl) rfl (fun c => ?_) (fun c => ?_)
  · have h := h.1 c
    exact a_to (k_M_hasSpan_22 C hr hR M h) rfl
  · have h := h.2 c
    refine a_aload_n C (tk T_cX12_hasSpan 6 rfl) rfl ?_
    refine a_getR C f_RX12_29 (tk T_cX12_hasSpan 7 rfl) lm0 rfl ?_
    refine a_iload_n C (tk T_cX12_hasSpan 8 rfl) rfl ?_
    obtain ⟨hb, h⟩ := h
    refine a_iald C (tk T_cX12_hasSpan 9 rfl) lm6 hb ?_
    refine a_ldc C c_RX12_116 (tk T_cX12_hasSpan 10 rfl) ?_
    refine a_icmp_eq C 26 (tk T_cX12_hasSpan 11 rfl) rfl (fun c => ?_) (fun c => ?_)
    · have h := h.1 c
      refine a_iconst C (0 : Int32) (tk T_cX12_hasSpan 14 rfl) kI_0 ?_
      exact a_to (k_M_hasSpan_27 C hr hR (0 : Int32) M h) rfl
    · have h := h.2 c
      exact a_to (k_M_hasSpan_22 C hr hR M h) rfl
theorem ct_M_hasSpan {l : Launch} {g : GT} {post : Int32 → Mem → Prop} {x1 : Int32} {M : Mem} (h : P_M_hasSpan post x1 M) : CI l g layM yX12_hasSpan cX12_hasSpan 2 (some .boolean) 0 [.ref (ad g 0), .int x1] M post :=
  cz_of (plainFor_of_name (by decide +kernel)) (Nat.le_of_ble_eq_true rfl) rfl (fun X A Z hl C hr hR => by subst hl; exact k_M_hasSpan C hr hR x1 M h)
def T_cX12_isInL : List (Nat × Instr × Nat) := [(0, .aload_n 0, 1), (1, .iload_n 1, 1), (2, .invokevirtual 142, 3), (5, .ifCond .eq 26, 3), (8, .iload_n 2, 1), (9, .aload_n 0, 1), (10, .getfield 26, 3), (13, .iload_n 1, 1), (14, .iaload, 1), (15, .aload_n 0, 1), (16, .getfield 29, 3), (19, .iload_n 1, 1), (20, .iaload, 1), (21, .invokestatic 58, 3), (24, .ifCond .eq 7, 3), (27, .iconst 1, 1), (28, .goto 4, 3), (31, .iconst 0, 1), (32, .ireturn, 1)]
theorem T_cX12_isIn : tabOK cX12_isIn T_cX12_isInL = true := by decide +kernel
def P_M_isIn_32 (post : Int32 → Mem → Prop) (s0 : Int32) (M : Mem) : Prop :=
  (s0 = 0 ∨ s0 = 1) ∧ post s0 M
theorem k_M_isIn_32 {X : FX} {g : GT} {A : Nat → Prop} {Z : State → Prop} {post : Int32 → Mem → Prop} (C : Cx X g layM A cX12_isIn 3 RX12 1) (hr : 0 ≤ X.2.2.2.1.cells ∧ 0 ≤ X.2.2.2.1.slots) (hR : RetZ X g layM A cX12_isIn 3 0 0 Z post) (s0 : Int32) (M : Mem) (h : P_M_isIn_32 post s0 M) : At X g layM A 3 0 0 Z 32 [] [.int s0] M := by
  exact hR _ _ _ _ (tk T_cX12_isIn 18 rfl) h
def P_M_isIn_31 (post : Int32 → Mem → Prop) (M : Mem) : Prop :=
  P_M_isIn_32 post (0 : Int32) M
theorem k_M_isIn_31 {X : FX} {g : GT} {A : Nat → Prop} {Z : State → Prop} {post : Int32 → Mem → Prop} (C : Cx X g layM A cX12_isIn 3 RX12 1) (hr : 0 ≤ X.2.2.2.1.cells ∧ 0 ≤ X.2.2.2.1.slots) (hR : RetZ X g layM A cX12_isIn 3 0 0 Z post)  (M : Mem) (h : P_M_isIn_31 post M) : At X g layM A 3 0 0 Z 31 [] [] M := by
  refine a_iconst C (0 : Int32) (tk T_cX12_isIn 17 rfl) kI_0 ?_
  exact a_to (k_M_isIn_32 C hr hR (0 : Int32) M h) rfl
def P_M_isIn (post : Int32 → Mem → Prop) (x1 x2 : Int32) (M : Mem) : Prop :=
  P_M_hasSpan (fun r1 M1 =>
  (r1 = 0 → (P_M_isIn_31 post M1)) ∧
  (¬ r1 = 0 → (vp_in x1 24 ∧ vp_in x1 24 ∧ P_M_in (fun r2 M2 =>
  (r2 = 0 → (P_M_isIn_31 post M2)) ∧
  (¬ r2 = 0 → (P_M_isIn_32 post (1 : Int32) M2))) x2 (M1 5 x1.toNatClampNeg) (M1 6 x1.toNatClampNeg) M1))) x1 M
theorem k_M_isIn {X : FX} {g : GT} {A : Nat → Prop} {Z : State → Prop} {post : Int32 → Mem → Prop} (C : Cx X g layM A cX12_isIn 3 RX12 1) (hr : 0 ≤ X.2.2.2.1.cells ∧ 0 ≤ X.2.2.2.1.slots) (hR : RetZ X g layM A cX12_isIn 3 0 0 Z post) (x1 x2 : Int32) (M : Mem) (h : P_M_isIn post x1 x2 M) : At X g layM A 3 0 0 Z 0 [(0, .ref (ad g 0)), (1, .int x1), (2, .int x2)] [] M := by
  refine a_aload_n C (tk T_cX12_isIn 0 rfl) rfl ?_
  refine a_iload_n C (tk T_cX12_isIn 1 rfl) rfl ?_
  refine a_callI C [.int x1] me_yX12_hasSpan lk_RX12_142 (ct_M_hasSpan h) (by decide) lm0 rfl rfl rfl (Nat.le_of_ble_eq_true rfl) (tk T_cX12_isIn 2 rfl) hr (fun r1 M1 h => ?_)
  refine a_if_eq C 31 (tk T_cX12_isIn 3 rfl) rfl (fun c => ?_) (fun c => ?_)
  · have h := h.1 c
    exact a_to (k_M_isIn_31 C hr hR M1 h) rfl
  · have h := h.2 c
    refine a_iload_n C (tk T_cX12_isIn 4 rfl) rfl ?_
    refine a_aload_n C (tk T_cX12_isIn 5 rfl) rfl ?_
    refine a_getR C f_RX12_26 (tk T_cX12_isIn 6 rfl) lm0 rfl ?_
    refine a_iload_n C (tk T_cX12_isIn 7 rfl) rfl ?_
    obtain ⟨hb, h⟩ := h
    refine a_iald C (tk T_cX12_isIn 8 rfl) lm5 hb ?_
    refine a_aload_n C (tk T_cX12_isIn 9 rfl) rfl ?_
    refine a_getR C f_RX12_29 (tk T_cX12_isIn 10 rfl) lm0 rfl ?_
    refine a_iload_n C (tk T_cX12_isIn 11 rfl) rfl ?_
    obtain ⟨hb, h⟩ := h
    refine a_iald C (tk T_cX12_isIn 12 rfl) lm6 hb ?_
    refine a_statI C [.int x2, .int (M1 5 x1.toNatClampNeg), .int (M1 6 x1.toNatClampNeg)] me_yX12_in lk_RX12_58 (ct_M_in h) (by decide) rfl rfl (Nat.le_of_ble_eq_true rfl) (tk T_cX12_isIn 13 rfl) hr (fun r2 M2 h => ?_)
    refine a_if_eq C 31 (tk T_cX12_isIn 14 rfl) rfl (fun c => ?_) (fun c => ?_)
    · have h := h.1 c
      exact a_to (k_M_isIn_31 C hr hR M2 h) rfl
    · have h := h.2 c
      refine a_iconst C (1 : Int32) (tk T_cX12_isIn 15 rfl) kI_1 ?_
      refine a_goto C 32 (tk T_cX12_isIn 16 rfl) rfl ?_
      exact a_to (k_M_isIn_32 C hr hR (1 : Int32) M2 h) rfl
theorem ct_M_isIn {l : Launch} {g : GT} {post : Int32 → Mem → Prop} {x1 x2 : Int32} {M : Mem} (h : P_M_isIn post x1 x2 M) : CI l g layM yX12_isIn cX12_isIn 3 (some .boolean) 1 [.ref (ad g 0), .int x1, .int x2] M post :=
  cz_of (plainFor_of_name (by decide +kernel)) (Nat.le_of_ble_eq_true rfl) rfl (fun X A Z hl C hr hR => by subst hl; exact k_M_isIn C hr hR x1 x2 M h)
def T_cX12_lookL : List (Nat × Instr × Nat) := [(0, .aload_n 0, 1), (1, .iconst 0, 1), (2, .putfield 3, 3), (5, .aload_n 0, 1), (6, .aload_n 0, 1), (7, .iload_n 1, 1), (8, .bipush 9, 2), (10, .invokevirtual 121, 3), (13, .iconst 1, 1), (14, .invokevirtual 72, 3), (17, .ifCond .ne 26, 3), (20, .aload_n 0, 1), (21, .iload_n 2, 1), (22, .iconst 0, 1), (23, .bipush 8, 2), (25, .invokestatic 58, 3), (28, .ifCond .ne 7, 3), (31, .iconst 1, 1), (32, .goto 4, 3), (35, .iconst 0, 1), (36, .iconst 2, 1), (37, .invokevirtual 72, 3), (40, .ifCond .eq 5, 3), (43, .iconst 0, 1), (44, .ireturn, 1), (45, .iload_n 2, 1), (46, .iconst 5, 1), (47, .if_icmp .ge 10, 3), (50, .aload_n 0, 1), (51, .iload_n 1, 1), (52, .iload_n 2, 1), (53, .invokevirtual 132, 3), (56, .ireturn, 1), (57, .iload_n 2, 1), (58, .bipush 8, 2), (60, .if_icmp .ne 17, 3), (63, .aload_n 0, 1), (64, .iload_n 1, 1), (65, .invokevirtual 145, 3), (68, .ifCond .eq 7, 3), (71, .iconst 1, 1), (72, .goto 4, 3), (75, .iconst 0, 1), (76, .ireturn, 1), (77, .aload_n 0, 1), (78, .aload_n 0, 1), (79, .iload_n 1, 1), (80, .iconst 1, 1), (81, .invokevirtual 132, 3), (84, .aload_n 0, 1), (85, .iload_n 1, 1), (86, .iconst 2, 1), (87, .invokevirtual 132, 3), (90, .invokevirtual 80, 3), (93, .istore_n 3, 1), (94, .iload_n 2, 1), (95, .iconst 5, 1), (96, .if_icmp .ne 5, 3), (99, .iload_n 3, 1), (100, .ireturn, 1), (101, .aload_n 0, 1), (102, .iconst 0, 1), (103, .invokevirtual 112, 3), (106, .pop, 1), (107, .aload_n 0, 1), (108, .iload_n 3, 1), (109, .iload_n 2, 1), (110, .bipush 7, 2), (112, .if_icmp .ne 7, 3), (115, .iconst 1, 1), (116, .goto 4, 3), (119, .iconst 0, 1), (120, .invokevirtual 117, 3), (123, .ireturn, 1)]
theorem T_cX12_look : tabOK cX12_look T_cX12_lookL = true := by decide +kernel
def P_M_look_120 (post : Int32 → Mem → Prop) (s1 s2 : Int32) (M : Mem) : Prop :=
  P_M_endOf (fun r1 M1 =>
  post r1 M1) s1 s2 M
theorem k_M_look_120 {X : FX} {g : GT} {A : Nat → Prop} {Z : State → Prop} {post : Int32 → Mem → Prop} (C : Cx X g layM A cX12_look 4 RX12 4) (hr : 0 ≤ X.2.2.2.1.cells ∧ 0 ≤ X.2.2.2.1.slots) (hR : RetI X g layM A cX12_look 4 0 0 Z post) (s1 s2 : Int32) (M : Mem) (h : P_M_look_120 post s1 s2 M) : At X g layM A 4 0 0 Z 120 [] [.int s2, .int s1, .ref (ad g 0)] M := by
  refine a_callI C [.int s1, .int s2] me_yX12_endOf lk_RX12_117 (ct_M_endOf h) (by decide) lm0 rfl rfl rfl (Nat.le_of_ble_eq_true rfl) (tk T_cX12_look 72 rfl) hr (fun r1 M1 h => ?_)
  exact hR _ _ _ _ (tk T_cX12_look 73 rfl) h
def P_M_look_76 (post : Int32 → Mem → Prop) (s0 : Int32) (M : Mem) : Prop :=
  post s0 M
theorem k_M_look_76 {X : FX} {g : GT} {A : Nat → Prop} {Z : State → Prop} {post : Int32 → Mem → Prop} (C : Cx X g layM A cX12_look 4 RX12 4) (hr : 0 ≤ X.2.2.2.1.cells ∧ 0 ≤ X.2.2.2.1.slots) (hR : RetI X g layM A cX12_look 4 0 0 Z post) (s0 : Int32) (M : Mem) (h : P_M_look_76 post s0 M) : At X g layM A 4 0 0 Z 76 [] [.int s0] M := by
  exact hR _ _ _ _ (tk T_cX12_look 43 rfl) h
def P_M_look_43 (post : Int32 → Mem → Prop) (M : Mem) : Prop :=
  post (0 : Int32) M
theorem k_M_look_43 {X : FX} {g : GT} {A : Nat → Prop} {Z : State → Prop} {post : Int32 → Mem → Prop} (C : Cx X g layM A cX12_look 4 RX12 4) (hr : 0 ≤ X.2.2.2.1.cells ∧ 0 ≤ X.2.2.2.1.slots) (hR : RetI X g layM A cX12_look 4 0 0 Z post)  (M : Mem) (h : P_M_look_43 post M) : At X g layM A 4 0 0 Z 43 [] [] M := by
  refine a_iconst C (0 : Int32) (tk T_cX12_look 23 rfl) kI_0 ?_
  exact hR _ _ _ _ (tk T_cX12_look 24 rfl) h
def P_M_look_36 (post : Int32 → Mem → Prop) (x1 x2 s1 : Int32) (M : Mem) : Prop :=
  P_M_throwsIf (fun r1 M1 =>
  (r1 = 0 → (((5 : Int32) ≤ x2 → ((¬ x2 = (8 : Int32) → (P_M_of (fun r2 M2 =>
  P_M_of (fun r3 M3 =>
  P_M_truePlace (fun r4 M4 =>
  (¬ x2 = (5 : Int32) → (P_M_lays (fun r5 M5 =>
  (¬ x2 = (7 : Int32) → (P_M_look_120 post r4 (0 : Int32) M5)) ∧
  (x2 = (7 : Int32) → (P_M_look_120 post r4 (1 : Int32) M5))) (0 : Int32) M4)) ∧
  (x2 = (5 : Int32) → (post r4 M4))) r2 r3 M3) x1 (2 : Int32) M2) x1 (1 : Int32) M1)) ∧
  (x2 = (8 : Int32) → (P_M_isGhost (fun r6 M6 =>
  (r6 = 0 → (P_M_look_76 post (0 : Int32) M6)) ∧
  (¬ r6 = 0 → (P_M_look_76 post (1 : Int32) M6))) x1 M1)))) ∧
  (¬ (5 : Int32) ≤ x2 → (P_M_of (fun r7 M7 =>
  post r7 M7) x1 x2 M1)))) ∧
  (¬ r1 = 0 → (P_M_look_43 post M1))) s1 (2 : Int32) M
theorem k_M_look_36 {X : FX} {g : GT} {A : Nat → Prop} {Z : State → Prop} {post : Int32 → Mem → Prop} (C : Cx X g layM A cX12_look 4 RX12 4) (hr : 0 ≤ X.2.2.2.1.cells ∧ 0 ≤ X.2.2.2.1.slots) (hR : RetI X g layM A cX12_look 4 0 0 Z post) (x1 x2 s1 : Int32) (M : Mem) (h : P_M_look_36 post x1 x2 s1 M) : At X g layM A 4 0 0 Z 36 [(0, .ref (ad g 0)), (1, .int x1), (2, .int x2)] [.int s1, .ref (ad g 0)] M := by
  refine a_iconst C (2 : Int32) (tk T_cX12_look 20 rfl) kI_2 ?_
  refine a_callI C [.int s1, .int (2 : Int32)] me_yX12_throwsIf lk_RX12_72 (ct_M_throwsIf h) (by decide) lm0 rfl rfl rfl (Nat.le_of_ble_eq_true rfl) (tk T_cX12_look 21 rfl) hr (fun r1 M1 h => ?_)
  refine a_if_eq C 45 (tk T_cX12_look 22 rfl) rfl (fun c => ?_) (fun c => ?_)
  · have h := h.1 c
    refine a_iload_n C (tk T_cX12_look 25 rfl) rfl ?_
    refine a_iconst C (5 : Int32) (tk T_cX12_look 26 rfl) kI_5 ?_
    refine a_icmp_ge C 57 (tk T_cX12_look 27 rfl) rfl (fun c => ?_) (fun c => ?_)
    · have h := h.1 c
      refine a_iload_n C (tk T_cX12_look 33 rfl) rfl ?_
      refine a_bipush C (8 : Int32) (tk T_cX12_look 34 rfl) kB_8 ?_
      refine a_icmp_ne C 77 (tk T_cX12_look 35 rfl) rfl (fun c => ?_) (fun c => ?_)
      · have h := h.1 c
        refine a_aload_n C (tk T_cX12_look 44 rfl) rfl ?_
        refine a_aload_n C (tk T_cX12_look 45 rfl) rfl ?_
        refine a_iload_n C (tk T_cX12_look 46 rfl) rfl ?_
        refine a_iconst C (1 : Int32) (tk T_cX12_look 47 rfl) kI_1 ?_
        refine a_callI C [.int x1, .int (1 : Int32)] me_yX12_of lk_RX12_132 (ct_M_of h) (by decide) lm0 rfl rfl rfl (Nat.le_of_ble_eq_true rfl) (tk T_cX12_look 48 rfl) hr (fun r2 M2 h => ?_)
        refine a_aload_n C (tk T_cX12_look 49 rfl) rfl ?_
        refine a_iload_n C (tk T_cX12_look 50 rfl) rfl ?_
        refine a_iconst C (2 : Int32) (tk T_cX12_look 51 rfl) kI_2 ?_
        refine a_callI C [.int x1, .int (2 : Int32)] me_yX12_of lk_RX12_132 (ct_M_of h) (by decide) lm0 rfl rfl rfl (Nat.le_of_ble_eq_true rfl) (tk T_cX12_look 52 rfl) hr (fun r3 M3 h => ?_)
        refine a_callI C [.int r2, .int r3] me_yX12_truePlace lk_RX12_80 (ct_M_truePlace h) (by decide) lm0 rfl rfl rfl (Nat.le_of_ble_eq_true rfl) (tk T_cX12_look 53 rfl) hr (fun r4 M4 h => ?_)
        refine a_istore_n C (tk T_cX12_look 54 rfl) (by decide) ?_
        refine a_iload_n C (tk T_cX12_look 55 rfl) rfl ?_
        refine a_iconst C (5 : Int32) (tk T_cX12_look 56 rfl) kI_5 ?_
        refine a_icmp_ne C 101 (tk T_cX12_look 57 rfl) rfl (fun c => ?_) (fun c => ?_)
        · have h := h.1 c
          refine a_aload_n C (tk T_cX12_look 60 rfl) rfl ?_
          refine a_iconst C (0 : Int32) (tk T_cX12_look 61 rfl) kI_0 ?_
          refine a_callI C [.int (0 : Int32)] me_yX12_lays lk_RX12_112 (ct_M_lays h) (by decide) lm0 rfl rfl rfl (Nat.le_of_ble_eq_true rfl) (tk T_cX12_look 62 rfl) hr (fun r5 M5 h => ?_)
          refine a_popi C (tk T_cX12_look 63 rfl) ?_
          refine a_aload_n C (tk T_cX12_look 64 rfl) rfl ?_
          refine a_iload_n C (tk T_cX12_look 65 rfl) rfl ?_
          refine a_iload_n C (tk T_cX12_look 66 rfl) rfl ?_
          refine a_bipush C (7 : Int32) (tk T_cX12_look 67 rfl) kB_7 ?_
          refine a_icmp_ne C 119 (tk T_cX12_look 68 rfl) rfl (fun c => ?_) (fun c => ?_)
          · have h := h.1 c
            refine a_iconst C (0 : Int32) (tk T_cX12_look 71 rfl) kI_0 ?_
            exact a_to (k_M_look_120 C hr hR r4 (0 : Int32) M5 h) rfl
          · have h := h.2 c
            refine a_iconst C (1 : Int32) (tk T_cX12_look 69 rfl) kI_1 ?_
            refine a_goto C 120 (tk T_cX12_look 70 rfl) rfl ?_
            exact a_to (k_M_look_120 C hr hR r4 (1 : Int32) M5 h) rfl
        · have h := h.2 c
          refine a_iload_n C (tk T_cX12_look 58 rfl) rfl ?_
          exact hR _ _ _ _ (tk T_cX12_look 59 rfl) h
      · have h := h.2 c
        refine a_aload_n C (tk T_cX12_look 36 rfl) rfl ?_
        refine a_iload_n C (tk T_cX12_look 37 rfl) rfl ?_
        refine a_callI C [.int x1] me_yX12_isGhost lk_RX12_145 (ct_M_isGhost h) (by decide) lm0 rfl rfl rfl (Nat.le_of_ble_eq_true rfl) (tk T_cX12_look 38 rfl) hr (fun r6 M6 h => ?_)
        refine a_if_eq C 75 (tk T_cX12_look 39 rfl) rfl (fun c => ?_) (fun c => ?_)
        · have h := h.1 c
          refine a_iconst C (0 : Int32) (tk T_cX12_look 42 rfl) kI_0 ?_
          exact a_to (k_M_look_76 C hr hR (0 : Int32) M6 h) rfl
        · have h := h.2 c
          refine a_iconst C (1 : Int32) (tk T_cX12_look 40 rfl) kI_1 ?_
          refine a_goto C 76 (tk T_cX12_look 41 rfl) rfl ?_
          exact a_to (k_M_look_76 C hr hR (1 : Int32) M6 h) rfl
    · have h := h.2 c
      refine a_aload_n C (tk T_cX12_look 28 rfl) rfl ?_
      refine a_iload_n C (tk T_cX12_look 29 rfl) rfl ?_
      refine a_iload_n C (tk T_cX12_look 30 rfl) rfl ?_
      refine a_callI C [.int x1, .int x2] me_yX12_of lk_RX12_132 (ct_M_of h) (by decide) lm0 rfl rfl rfl (Nat.le_of_ble_eq_true rfl) (tk T_cX12_look 31 rfl) hr (fun r7 M7 h => ?_)
      exact hR _ _ _ _ (tk T_cX12_look 32 rfl) h
  · have h := h.2 c
    exact a_to (k_M_look_43 C hr hR M1 h) rfl
def P_M_look (post : Int32 → Mem → Prop) (x1 x2 : Int32) (M : Mem) : Prop :=
  ∀ M1, M1 = ms M 0 0 (0 : Int32) → P_M_none (fun r2 M2 =>
  P_M_throwsIf (fun r3 M3 =>
  (¬ r3 = 0 → (P_M_look_43 post M3)) ∧
  (r3 = 0 → (P_M_in (fun r4 M4 =>
  (¬ r4 = 0 → (P_M_look_36 post x1 x2 (0 : Int32) M4)) ∧
  (r4 = 0 → (P_M_look_36 post x1 x2 (1 : Int32) M4))) x2 (0 : Int32) (8 : Int32) M3))) r2 (1 : Int32) M2) x1 (9 : Int32) M1
theorem k_M_look {X : FX} {g : GT} {A : Nat → Prop} {Z : State → Prop} {post : Int32 → Mem → Prop} (C : Cx X g layM A cX12_look 4 RX12 4) (hr : 0 ≤ X.2.2.2.1.cells ∧ 0 ≤ X.2.2.2.1.slots) (hR : RetI X g layM A cX12_look 4 0 0 Z post) (x1 x2 : Int32) (M : Mem) (h : P_M_look post x1 x2 M) : At X g layM A 4 0 0 Z 0 [(0, .ref (ad g 0)), (1, .int x1), (2, .int x2)] [] M := by
  refine a_aload_n C (tk T_cX12_look 0 rfl) rfl ?_
  refine a_iconst C (0 : Int32) (tk T_cX12_look 1 rfl) kI_0 ?_
  refine a_put C f_RX12_3 f_RX12_3p rfl rfl (tk T_cX12_look 2 rfl) lm0 rfl ?_
  refine a_mem (fun M1 e_M1 => ?_)
  have h := h M1 e_M1
  refine a_aload_n C (tk T_cX12_look 3 rfl) rfl ?_
  refine a_aload_n C (tk T_cX12_look 4 rfl) rfl ?_
  refine a_iload_n C (tk T_cX12_look 5 rfl) rfl ?_
  refine a_bipush C (9 : Int32) (tk T_cX12_look 6 rfl) kB_9 ?_
  refine a_callI C [.int x1, .int (9 : Int32)] me_yX12_none lk_RX12_121 (ct_M_none h) (by decide) lm0 rfl rfl rfl (Nat.le_of_ble_eq_true rfl) (tk T_cX12_look 7 rfl) hr (fun r2 M2 h => ?_)
  refine a_iconst C (1 : Int32) (tk T_cX12_look 8 rfl) kI_1 ?_
  refine a_callI C [.int r2, .int (1 : Int32)] me_yX12_throwsIf lk_RX12_72 (ct_M_throwsIf h) (by decide) lm0 rfl rfl rfl (Nat.le_of_ble_eq_true rfl) (tk T_cX12_look 9 rfl) hr (fun r3 M3 h => ?_)
  refine a_if_ne C 43 (tk T_cX12_look 10 rfl) rfl (fun c => ?_) (fun c => ?_)
  · have h := h.1 c
    exact a_to (k_M_look_43 C hr hR M3 h) rfl
  · have h := h.2 c
    refine a_aload_n C (tk T_cX12_look 11 rfl) rfl ?_
    refine a_iload_n C (tk T_cX12_look 12 rfl) rfl ?_
    refine a_iconst C (0 : Int32) (tk T_cX12_look 13 rfl) kI_0 ?_
    refine a_bipush C (8 : Int32) (tk T_cX12_look 14 rfl) kB_8 ?_
    refine a_statI C [.int x2, .int (0 : Int32), .int (8 : Int32)] me_yX12_in lk_RX12_58 (ct_M_in h) (by decide) rfl rfl (Nat.le_of_ble_eq_true rfl) (tk T_cX12_look 15 rfl) hr (fun r4 M4 h => ?_)
    refine a_if_ne C 35 (tk T_cX12_look 16 rfl) rfl (fun c => ?_) (fun c => ?_)
    · have h := h.1 c
      refine a_iconst C (0 : Int32) (tk T_cX12_look 19 rfl) kI_0 ?_
      exact a_to (k_M_look_36 C hr hR x1 x2 (0 : Int32) M4 h) rfl
    · have h := h.2 c
      refine a_iconst C (1 : Int32) (tk T_cX12_look 17 rfl) kI_1 ?_
      refine a_goto C 36 (tk T_cX12_look 18 rfl) rfl ?_
      exact a_to (k_M_look_36 C hr hR x1 x2 (1 : Int32) M4 h) rfl
theorem ct_M_look {l : Launch} {g : GT} {post : Int32 → Mem → Prop} {x1 x2 : Int32} {M : Mem} (h : P_M_look post x1 x2 M) : CI l g layM yX12_look cX12_look 4 (some .int) 4 [.ref (ad g 0), .int x1, .int x2] M post :=
  ci_of (plainFor_of_name (by decide +kernel)) (Nat.le_of_ble_eq_true rfl) rfl (fun X A Z hl C hr hR => by subst hl; exact k_M_look C hr hR x1 x2 M h)
def T_cX12_noSpeedL : List (Nat × Instr × Nat) := [(0, .iload_n 0, 1), (1, .bipush (-50), 2), (3, .bipush 50, 2), (5, .invokestatic 58, 3), (8, .ifCond .ne 7, 3), (11, .iconst 1, 1), (12, .goto 4, 3), (15, .iconst 0, 1), (16, .ireturn, 1)]
theorem T_cX12_noSpeed : tabOK cX12_noSpeed T_cX12_noSpeedL = true := by decide +kernel
def P_M_noSpeed_16 (post : Int32 → Mem → Prop) (s0 : Int32) (M : Mem) : Prop :=
  (s0 = 0 ∨ s0 = 1) ∧ post s0 M
theorem k_M_noSpeed_16 {X : FX} {g : GT} {A : Nat → Prop} {Z : State → Prop} {post : Int32 → Mem → Prop} (C : Cx X g layM A cX12_noSpeed 1 RX12 1) (hr : 0 ≤ X.2.2.2.1.cells ∧ 0 ≤ X.2.2.2.1.slots) (hR : RetZ X g layM A cX12_noSpeed 1 0 0 Z post) (s0 : Int32) (M : Mem) (h : P_M_noSpeed_16 post s0 M) : At X g layM A 1 0 0 Z 16 [] [.int s0] M := by
  exact hR _ _ _ _ (tk T_cX12_noSpeed 8 rfl) h
def P_M_noSpeed (post : Int32 → Mem → Prop) (x0 : Int32) (M : Mem) : Prop :=
  P_M_in (fun r1 M1 =>
  (¬ r1 = 0 → (P_M_noSpeed_16 post (0 : Int32) M1)) ∧
  (r1 = 0 → (P_M_noSpeed_16 post (1 : Int32) M1))) x0 (-50 : Int32) (50 : Int32) M
theorem k_M_noSpeed {X : FX} {g : GT} {A : Nat → Prop} {Z : State → Prop} {post : Int32 → Mem → Prop} (C : Cx X g layM A cX12_noSpeed 1 RX12 1) (hr : 0 ≤ X.2.2.2.1.cells ∧ 0 ≤ X.2.2.2.1.slots) (hR : RetZ X g layM A cX12_noSpeed 1 0 0 Z post) (x0 : Int32) (M : Mem) (h : P_M_noSpeed post x0 M) : At X g layM A 1 0 0 Z 0 [(0, .int x0)] [] M := by
  refine a_iload_n C (tk T_cX12_noSpeed 0 rfl) rfl ?_
  refine a_bipush C (-50 : Int32) (tk T_cX12_noSpeed 1 rfl) kB_m50 ?_
  refine a_bipush C (50 : Int32) (tk T_cX12_noSpeed 2 rfl) kB_50 ?_
  refine a_statI C [.int x0, .int (-50 : Int32), .int (50 : Int32)] me_yX12_in lk_RX12_58 (ct_M_in h) (by decide) rfl rfl (Nat.le_of_ble_eq_true rfl) (tk T_cX12_noSpeed 3 rfl) hr (fun r1 M1 h => ?_)
  refine a_if_ne C 15 (tk T_cX12_noSpeed 4 rfl) rfl (fun c => ?_) (fun c => ?_)
  · have h := h.1 c
    refine a_iconst C (0 : Int32) (tk T_cX12_noSpeed 7 rfl) kI_0 ?_
    exact a_to (k_M_noSpeed_16 C hr hR (0 : Int32) M1 h) rfl
  · have h := h.2 c
    refine a_iconst C (1 : Int32) (tk T_cX12_noSpeed 5 rfl) kI_1 ?_
    refine a_goto C 16 (tk T_cX12_noSpeed 6 rfl) rfl ?_
    exact a_to (k_M_noSpeed_16 C hr hR (1 : Int32) M1 h) rfl
theorem ct_M_noSpeed {l : Launch} {g : GT} {post : Int32 → Mem → Prop} {x0 : Int32} {M : Mem} (h : P_M_noSpeed post x0 M) : CI l g layM yX12_noSpeed cX12_noSpeed 1 (some .boolean) 1 [.int x0] M post :=
  cz_of (plainFor_of_name (by decide +kernel)) (Nat.le_of_ble_eq_true rfl) rfl (fun X A Z hl C hr hR => by subst hl; exact k_M_noSpeed C hr hR x0 M h)
def T_cX12_shiftedL : List (Nat × Instr × Nat) := [(0, .aload_n 0, 1), (1, .iload_n 1, 1), (2, .invokevirtual 148, 3), (5, .ifCond .eq 12, 3), (8, .aload_n 0, 1), (9, .iload_n 1, 1), (10, .iload_n 2, 1), (11, .invokevirtual 151, 3), (14, .goto 19, 3), (17, .aload_n 0, 1), (18, .iload_n 1, 1), (19, .iload_n 2, 1), (20, .invokevirtual 151, 3), (23, .sipush 1000, 3), (26, .iload_n 3, 1), (27, .iadd, 1), (28, .imul, 1), (29, .sipush 1000, 3), (32, .idiv, 1), (33, .ireturn, 1)]
theorem T_cX12_shifted : tabOK cX12_shifted T_cX12_shiftedL = true := by decide +kernel
def P_M_shifted_33 (post : Int32 → Mem → Prop) (s0 : Int32) (M : Mem) : Prop :=
  post s0 M
theorem k_M_shifted_33 {X : FX} {g : GT} {A : Nat → Prop} {Z : State → Prop} {post : Int32 → Mem → Prop} (C : Cx X g layM A cX12_shifted 4 RX12 1) (hr : 0 ≤ X.2.2.2.1.cells ∧ 0 ≤ X.2.2.2.1.slots) (hR : RetI X g layM A cX12_shifted 4 0 0 Z post) (s0 : Int32) (M : Mem) (h : P_M_shifted_33 post s0 M) : At X g layM A 4 0 0 Z 33 [] [.int s0] M := by
  exact hR _ _ _ _ (tk T_cX12_shifted 19 rfl) h
def P_M_shifted (post : Int32 → Mem → Prop) (x1 x2 x3 : Int32) (M : Mem) : Prop :=
  P_M_isAir (fun r1 M1 =>
  (r1 = 0 → (P_M_waveOf (fun r2 M2 =>
  P_M_shifted_33 post ((r2 * ((1000 : Int32) + x3)) / (1000 : Int32)) M2) x1 x2 M1)) ∧
  (¬ r1 = 0 → (P_M_waveOf (fun r3 M3 =>
  P_M_shifted_33 post r3 M3) x1 x2 M1))) x1 M
theorem k_M_shifted {X : FX} {g : GT} {A : Nat → Prop} {Z : State → Prop} {post : Int32 → Mem → Prop} (C : Cx X g layM A cX12_shifted 4 RX12 1) (hr : 0 ≤ X.2.2.2.1.cells ∧ 0 ≤ X.2.2.2.1.slots) (hR : RetI X g layM A cX12_shifted 4 0 0 Z post) (x1 x2 x3 : Int32) (M : Mem) (h : P_M_shifted post x1 x2 x3 M) : At X g layM A 4 0 0 Z 0 [(0, .ref (ad g 0)), (1, .int x1), (2, .int x2), (3, .int x3)] [] M := by
  refine a_aload_n C (tk T_cX12_shifted 0 rfl) rfl ?_
  refine a_iload_n C (tk T_cX12_shifted 1 rfl) rfl ?_
  refine a_callI C [.int x1] me_yX12_isAir lk_RX12_148 (ct_M_isAir h) (by decide) lm0 rfl rfl rfl (Nat.le_of_ble_eq_true rfl) (tk T_cX12_shifted 2 rfl) hr (fun r1 M1 h => ?_)
  refine a_if_eq C 17 (tk T_cX12_shifted 3 rfl) rfl (fun c => ?_) (fun c => ?_)
  · have h := h.1 c
    refine a_aload_n C (tk T_cX12_shifted 9 rfl) rfl ?_
    refine a_iload_n C (tk T_cX12_shifted 10 rfl) rfl ?_
    refine a_iload_n C (tk T_cX12_shifted 11 rfl) rfl ?_
    refine a_callI C [.int x1, .int x2] me_yX12_waveOf lk_RX12_151 (ct_M_waveOf h) (by decide) lm0 rfl rfl rfl (Nat.le_of_ble_eq_true rfl) (tk T_cX12_shifted 12 rfl) hr (fun r2 M2 h => ?_)
    refine a_sipush C (1000 : Int32) (tk T_cX12_shifted 13 rfl) kS_1000 ?_
    refine a_iload_n C (tk T_cX12_shifted 14 rfl) rfl ?_
    refine a_iadd C (tk T_cX12_shifted 15 rfl) ?_
    refine a_imul C (tk T_cX12_shifted 16 rfl) ?_
    refine a_sipush C (1000 : Int32) (tk T_cX12_shifted 17 rfl) kS_1000 ?_
    refine a_idiv C (tk T_cX12_shifted 18 rfl) (by decide) ?_
    exact a_to (k_M_shifted_33 C hr hR ((r2 * ((1000 : Int32) + x3)) / (1000 : Int32)) M2 h) rfl
  · have h := h.2 c
    refine a_aload_n C (tk T_cX12_shifted 4 rfl) rfl ?_
    refine a_iload_n C (tk T_cX12_shifted 5 rfl) rfl ?_
    refine a_iload_n C (tk T_cX12_shifted 6 rfl) rfl ?_
    refine a_callI C [.int x1, .int x2] me_yX12_waveOf lk_RX12_151 (ct_M_waveOf h) (by decide) lm0 rfl rfl rfl (Nat.le_of_ble_eq_true rfl) (tk T_cX12_shifted 7 rfl) hr (fun r3 M3 h => ?_)
    refine a_goto C 33 (tk T_cX12_shifted 8 rfl) rfl ?_
    exact a_to (k_M_shifted_33 C hr hR r3 M3 h) rfl
theorem ct_M_shifted {l : Launch} {g : GT} {post : Int32 → Mem → Prop} {x1 x2 x3 : Int32} {M : Mem} (h : P_M_shifted post x1 x2 x3 M) : CI l g layM yX12_shifted cX12_shifted 4 (some .int) 1 [.ref (ad g 0), .int x1, .int x2, .int x3] M post :=
  ci_of (plainFor_of_name (by decide +kernel)) (Nat.le_of_ble_eq_true rfl) rfl (fun X A Z hl C hr hR => by subst hl; exact k_M_shifted C hr hR x1 x2 x3 M h)
def T_cX12_noLineL : List (Nat × Instr × Nat) := [(0, .aload_n 0, 1), (1, .iload_n 1, 1), (2, .bipush 7, 2), (4, .invokevirtual 121, 3), (7, .ifCond .ne 18, 3), (10, .iload_n 2, 1), (11, .iconst 0, 1), (12, .aload_n 0, 1), (13, .iload_n 1, 1), (14, .invokevirtual 125, 3), (17, .iconst 1, 1), (18, .isub, 1), (19, .invokestatic 58, 3), (22, .ifCond .ne 7, 3), (25, .iconst 1, 1), (26, .goto 4, 3), (29, .iconst 0, 1), (30, .ireturn, 1)]
theorem T_cX12_noLine : tabOK cX12_noLine T_cX12_noLineL = true := by decide +kernel
def P_M_noLine_30 (post : Int32 → Mem → Prop) (s0 : Int32) (M : Mem) : Prop :=
  (s0 = 0 ∨ s0 = 1) ∧ post s0 M
theorem k_M_noLine_30 {X : FX} {g : GT} {A : Nat → Prop} {Z : State → Prop} {post : Int32 → Mem → Prop} (C : Cx X g layM A cX12_noLine 3 RX12 2) (hr : 0 ≤ X.2.2.2.1.cells ∧ 0 ≤ X.2.2.2.1.slots) (hR : RetZ X g layM A cX12_noLine 3 0 0 Z post) (s0 : Int32) (M : Mem) (h : P_M_noLine_30 post s0 M) : At X g layM A 3 0 0 Z 30 [] [.int s0] M := by
  exact hR _ _ _ _ (tk T_cX12_noLine 17 rfl) h
def P_M_noLine_25 (post : Int32 → Mem → Prop) (M : Mem) : Prop :=
  P_M_noLine_30 post (1 : Int32) M
theorem k_M_noLine_25 {X : FX} {g : GT} {A : Nat → Prop} {Z : State → Prop} {post : Int32 → Mem → Prop} (C : Cx X g layM A cX12_noLine 3 RX12 2) (hr : 0 ≤ X.2.2.2.1.cells ∧ 0 ≤ X.2.2.2.1.slots) (hR : RetZ X g layM A cX12_noLine 3 0 0 Z post)  (M : Mem) (h : P_M_noLine_25 post M) : At X g layM A 3 0 0 Z 25 [] [] M := by
  refine a_iconst C (1 : Int32) (tk T_cX12_noLine 14 rfl) kI_1 ?_
  refine a_goto C 30 (tk T_cX12_noLine 15 rfl) rfl ?_
  exact a_to (k_M_noLine_30 C hr hR (1 : Int32) M h) rfl
def P_M_noLine (post : Int32 → Mem → Prop) (x1 x2 : Int32) (M : Mem) : Prop :=
  P_M_none (fun r1 M1 =>
  (¬ r1 = 0 → (P_M_noLine_25 post M1)) ∧
  (r1 = 0 → (P_M_lines (fun r2 M2 =>
  P_M_in (fun r3 M3 =>
  (¬ r3 = 0 → (P_M_noLine_30 post (0 : Int32) M3)) ∧
  (r3 = 0 → (P_M_noLine_25 post M3))) x2 (0 : Int32) (r2 - (1 : Int32)) M2) x1 M1))) x1 (7 : Int32) M
theorem k_M_noLine {X : FX} {g : GT} {A : Nat → Prop} {Z : State → Prop} {post : Int32 → Mem → Prop} (C : Cx X g layM A cX12_noLine 3 RX12 2) (hr : 0 ≤ X.2.2.2.1.cells ∧ 0 ≤ X.2.2.2.1.slots) (hR : RetZ X g layM A cX12_noLine 3 0 0 Z post) (x1 x2 : Int32) (M : Mem) (h : P_M_noLine post x1 x2 M) : At X g layM A 3 0 0 Z 0 [(0, .ref (ad g 0)), (1, .int x1), (2, .int x2)] [] M := by
  refine a_aload_n C (tk T_cX12_noLine 0 rfl) rfl ?_
  refine a_iload_n C (tk T_cX12_noLine 1 rfl) rfl ?_
  refine a_bipush C (7 : Int32) (tk T_cX12_noLine 2 rfl) kB_7 ?_
  refine a_callI C [.int x1, .int (7 : Int32)] me_yX12_none lk_RX12_121 (ct_M_none h) (by decide) lm0 rfl rfl rfl (Nat.le_of_ble_eq_true rfl) (tk T_cX12_noLine 3 rfl) hr (fun r1 M1 h => ?_)
  refine a_if_ne C 25 (tk T_cX12_noLine 4 rfl) rfl (fun c => ?_) (fun c => ?_)
  · have h := h.1 c
    exact a_to (k_M_noLine_25 C hr hR M1 h) rfl
  · have h := h.2 c
    refine a_iload_n C (tk T_cX12_noLine 5 rfl) rfl ?_
    refine a_iconst C (0 : Int32) (tk T_cX12_noLine 6 rfl) kI_0 ?_
    refine a_aload_n C (tk T_cX12_noLine 7 rfl) rfl ?_
    refine a_iload_n C (tk T_cX12_noLine 8 rfl) rfl ?_
    refine a_callI C [.int x1] me_yX12_lines lk_RX12_125 (ct_M_lines h) (by decide) lm0 rfl rfl rfl (Nat.le_of_ble_eq_true rfl) (tk T_cX12_noLine 9 rfl) hr (fun r2 M2 h => ?_)
    refine a_iconst C (1 : Int32) (tk T_cX12_noLine 10 rfl) kI_1 ?_
    refine a_isub C (tk T_cX12_noLine 11 rfl) ?_
    refine a_statI C [.int x2, .int (0 : Int32), .int (r2 - (1 : Int32))] me_yX12_in lk_RX12_58 (ct_M_in h) (by decide) rfl rfl (Nat.le_of_ble_eq_true rfl) (tk T_cX12_noLine 12 rfl) hr (fun r3 M3 h => ?_)
    refine a_if_ne C 29 (tk T_cX12_noLine 13 rfl) rfl (fun c => ?_) (fun c => ?_)
    · have h := h.1 c
      refine a_iconst C (0 : Int32) (tk T_cX12_noLine 16 rfl) kI_0 ?_
      exact a_to (k_M_noLine_30 C hr hR (0 : Int32) M3 h) rfl
    · have h := h.2 c
      exact a_to (k_M_noLine_25 C hr hR M3 h) rfl
theorem ct_M_noLine {l : Launch} {g : GT} {post : Int32 → Mem → Prop} {x1 x2 : Int32} {M : Mem} (h : P_M_noLine post x1 x2 M) : CI l g layM yX12_noLine cX12_noLine 3 (some .boolean) 2 [.ref (ad g 0), .int x1, .int x2] M post :=
  cz_of (plainFor_of_name (by decide +kernel)) (Nat.le_of_ble_eq_true rfl) rfl (fun X A Z hl C hr hR => by subst hl; exact k_M_noLine C hr hR x1 x2 M h)
def T_cX12_liesL : List (Nat × Instr × Nat) := [(0, .aload_n 0, 1), (1, .iconst 0, 1), (2, .putfield 3, 3), (5, .aload_n 0, 1), (6, .aload_n 0, 1), (7, .iload_n 1, 1), (8, .iload_n 2, 1), (9, .invokevirtual 154, 3), (12, .iconst 1, 1), (13, .invokevirtual 72, 3), (16, .ifCond .ne 15, 3), (19, .aload_n 0, 1), (20, .iload_n 3, 1), (21, .invokestatic 157, 3), (24, .iconst 2, 1), (25, .invokevirtual 72, 3), (28, .ifCond .eq 7, 3), (31, .iconst 0, 1), (32, .goto 10, 3), (35, .aload_n 0, 1), (36, .iload_n 1, 1), (37, .iload_n 2, 1), (38, .iload_n 3, 1), (39, .invokevirtual 160, 3), (42, .ireturn, 1)]
theorem T_cX12_lies : tabOK cX12_lies T_cX12_liesL = true := by decide +kernel
def P_M_lies_42 (post : Int32 → Mem → Prop) (s0 : Int32) (M : Mem) : Prop :=
  post s0 M
theorem k_M_lies_42 {X : FX} {g : GT} {A : Nat → Prop} {Z : State → Prop} {post : Int32 → Mem → Prop} (C : Cx X g layM A cX12_lies 4 RX12 3) (hr : 0 ≤ X.2.2.2.1.cells ∧ 0 ≤ X.2.2.2.1.slots) (hR : RetI X g layM A cX12_lies 4 0 0 Z post) (s0 : Int32) (M : Mem) (h : P_M_lies_42 post s0 M) : At X g layM A 4 0 0 Z 42 [] [.int s0] M := by
  exact hR _ _ _ _ (tk T_cX12_lies 24 rfl) h
def P_M_lies_31 (post : Int32 → Mem → Prop) (M : Mem) : Prop :=
  P_M_lies_42 post (0 : Int32) M
theorem k_M_lies_31 {X : FX} {g : GT} {A : Nat → Prop} {Z : State → Prop} {post : Int32 → Mem → Prop} (C : Cx X g layM A cX12_lies 4 RX12 3) (hr : 0 ≤ X.2.2.2.1.cells ∧ 0 ≤ X.2.2.2.1.slots) (hR : RetI X g layM A cX12_lies 4 0 0 Z post)  (M : Mem) (h : P_M_lies_31 post M) : At X g layM A 4 0 0 Z 31 [] [] M := by
  refine a_iconst C (0 : Int32) (tk T_cX12_lies 17 rfl) kI_0 ?_
  refine a_goto C 42 (tk T_cX12_lies 18 rfl) rfl ?_
  exact a_to (k_M_lies_42 C hr hR (0 : Int32) M h) rfl
def P_M_lies (post : Int32 → Mem → Prop) (x1 x2 x3 : Int32) (M : Mem) : Prop :=
  ∀ M1, M1 = ms M 0 0 (0 : Int32) → P_M_noLine (fun r2 M2 =>
  P_M_throwsIf (fun r3 M3 =>
  (¬ r3 = 0 → (P_M_lies_31 post M3)) ∧
  (r3 = 0 → (P_M_noSpeed (fun r4 M4 =>
  P_M_throwsIf (fun r5 M5 =>
  (r5 = 0 → (P_M_shifted (fun r6 M6 =>
  P_M_lies_42 post r6 M6) x1 x2 x3 M5)) ∧
  (¬ r5 = 0 → (P_M_lies_31 post M5))) r4 (2 : Int32) M4) x3 M3))) r2 (1 : Int32) M2) x1 x2 M1
theorem k_M_lies {X : FX} {g : GT} {A : Nat → Prop} {Z : State → Prop} {post : Int32 → Mem → Prop} (C : Cx X g layM A cX12_lies 4 RX12 3) (hr : 0 ≤ X.2.2.2.1.cells ∧ 0 ≤ X.2.2.2.1.slots) (hR : RetI X g layM A cX12_lies 4 0 0 Z post) (x1 x2 x3 : Int32) (M : Mem) (h : P_M_lies post x1 x2 x3 M) : At X g layM A 4 0 0 Z 0 [(0, .ref (ad g 0)), (1, .int x1), (2, .int x2), (3, .int x3)] [] M := by
  refine a_aload_n C (tk T_cX12_lies 0 rfl) rfl ?_
  refine a_iconst C (0 : Int32) (tk T_cX12_lies 1 rfl) kI_0 ?_
  refine a_put C f_RX12_3 f_RX12_3p rfl rfl (tk T_cX12_lies 2 rfl) lm0 rfl ?_
  refine a_mem (fun M1 e_M1 => ?_)
  have h := h M1 e_M1
  refine a_aload_n C (tk T_cX12_lies 3 rfl) rfl ?_
  refine a_aload_n C (tk T_cX12_lies 4 rfl) rfl ?_
  refine a_iload_n C (tk T_cX12_lies 5 rfl) rfl ?_
  refine a_iload_n C (tk T_cX12_lies 6 rfl) rfl ?_
  refine a_callI C [.int x1, .int x2] me_yX12_noLine lk_RX12_154 (ct_M_noLine h) (by decide) lm0 rfl rfl rfl (Nat.le_of_ble_eq_true rfl) (tk T_cX12_lies 7 rfl) hr (fun r2 M2 h => ?_)
  refine a_iconst C (1 : Int32) (tk T_cX12_lies 8 rfl) kI_1 ?_
  refine a_callI C [.int r2, .int (1 : Int32)] me_yX12_throwsIf lk_RX12_72 (ct_M_throwsIf h) (by decide) lm0 rfl rfl rfl (Nat.le_of_ble_eq_true rfl) (tk T_cX12_lies 9 rfl) hr (fun r3 M3 h => ?_)
  refine a_if_ne C 31 (tk T_cX12_lies 10 rfl) rfl (fun c => ?_) (fun c => ?_)
  · have h := h.1 c
    exact a_to (k_M_lies_31 C hr hR M3 h) rfl
  · have h := h.2 c
    refine a_aload_n C (tk T_cX12_lies 11 rfl) rfl ?_
    refine a_iload_n C (tk T_cX12_lies 12 rfl) rfl ?_
    refine a_statI C [.int x3] me_yX12_noSpeed lk_RX12_157 (ct_M_noSpeed h) (by decide) rfl rfl (Nat.le_of_ble_eq_true rfl) (tk T_cX12_lies 13 rfl) hr (fun r4 M4 h => ?_)
    refine a_iconst C (2 : Int32) (tk T_cX12_lies 14 rfl) kI_2 ?_
    refine a_callI C [.int r4, .int (2 : Int32)] me_yX12_throwsIf lk_RX12_72 (ct_M_throwsIf h) (by decide) lm0 rfl rfl rfl (Nat.le_of_ble_eq_true rfl) (tk T_cX12_lies 15 rfl) hr (fun r5 M5 h => ?_)
    refine a_if_eq C 35 (tk T_cX12_lies 16 rfl) rfl (fun c => ?_) (fun c => ?_)
    · have h := h.1 c
      refine a_aload_n C (tk T_cX12_lies 19 rfl) rfl ?_
      refine a_iload_n C (tk T_cX12_lies 20 rfl) rfl ?_
      refine a_iload_n C (tk T_cX12_lies 21 rfl) rfl ?_
      refine a_iload_n C (tk T_cX12_lies 22 rfl) rfl ?_
      refine a_callI C [.int x1, .int x2, .int x3] me_yX12_shifted lk_RX12_160 (ct_M_shifted h) (by decide) lm0 rfl rfl rfl (Nat.le_of_ble_eq_true rfl) (tk T_cX12_lies 23 rfl) hr (fun r6 M6 h => ?_)
      exact a_to (k_M_lies_42 C hr hR r6 M6 h) rfl
    · have h := h.2 c
      exact a_to (k_M_lies_31 C hr hR M5 h) rfl
theorem ct_M_lies {l : Launch} {g : GT} {post : Int32 → Mem → Prop} {x1 x2 x3 : Int32} {M : Mem} (h : P_M_lies post x1 x2 x3 M) : CI l g layM yX12_lies cX12_lies 4 (some .int) 3 [.ref (ad g 0), .int x1, .int x2, .int x3] M post :=
  ci_of (plainFor_of_name (by decide +kernel)) (Nat.le_of_ble_eq_true rfl) rfl (fun X A Z hl C hr hR => by subst hl; exact k_M_lies C hr hR x1 x2 x3 M h)
def T_cX12_mustBeL : List (Nat × Instr × Nat) := [(0, .aload_n 0, 1), (1, .iload_n 1, 1), (2, .iload_n 2, 1), (3, .iload_n 3, 1), (4, .invokevirtual 160, 3), (7, .iload 6, 2), (9, .iload 7, 2), (11, .invokestatic 58, 3), (14, .ifCond .eq 24, 3), (17, .aload_n 0, 1), (18, .iload_n 1, 1), (19, .iload_n 2, 1), (20, .invokevirtual 164, 3), (23, .iload 4, 2), (25, .imul, 1), (26, .iload 5, 2), (28, .imul, 1), (29, .bipush 30, 2), (31, .if_icmp .lt 7, 3), (34, .iconst 1, 1), (35, .goto 4, 3), (38, .iconst 0, 1), (39, .ireturn, 1)]
theorem T_cX12_mustBe : tabOK cX12_mustBe T_cX12_mustBeL = true := by decide +kernel
def P_M_mustBe_39 (post : Int32 → Mem → Prop) (s0 : Int32) (M : Mem) : Prop :=
  (s0 = 0 ∨ s0 = 1) ∧ post s0 M
theorem k_M_mustBe_39 {X : FX} {g : GT} {A : Nat → Prop} {Z : State → Prop} {post : Int32 → Mem → Prop} (C : Cx X g layM A cX12_mustBe 8 RX12 2) (hr : 0 ≤ X.2.2.2.1.cells ∧ 0 ≤ X.2.2.2.1.slots) (hR : RetZ X g layM A cX12_mustBe 8 0 0 Z post) (s0 : Int32) (M : Mem) (h : P_M_mustBe_39 post s0 M) : At X g layM A 8 0 0 Z 39 [] [.int s0] M := by
  exact hR _ _ _ _ (tk T_cX12_mustBe 22 rfl) h
def P_M_mustBe_38 (post : Int32 → Mem → Prop) (M : Mem) : Prop :=
  P_M_mustBe_39 post (0 : Int32) M
theorem k_M_mustBe_38 {X : FX} {g : GT} {A : Nat → Prop} {Z : State → Prop} {post : Int32 → Mem → Prop} (C : Cx X g layM A cX12_mustBe 8 RX12 2) (hr : 0 ≤ X.2.2.2.1.cells ∧ 0 ≤ X.2.2.2.1.slots) (hR : RetZ X g layM A cX12_mustBe 8 0 0 Z post)  (M : Mem) (h : P_M_mustBe_38 post M) : At X g layM A 8 0 0 Z 38 [] [] M := by
  refine a_iconst C (0 : Int32) (tk T_cX12_mustBe 21 rfl) kI_0 ?_
  exact a_to (k_M_mustBe_39 C hr hR (0 : Int32) M h) rfl
def P_M_mustBe (post : Int32 → Mem → Prop) (x1 x2 x3 x4 x5 x6 x7 : Int32) (M : Mem) : Prop :=
  P_M_shifted (fun r1 M1 =>
  P_M_in (fun r2 M2 =>
  (r2 = 0 → (P_M_mustBe_38 post M2)) ∧
  (¬ r2 = 0 → (P_M_strengthOf (fun r3 M3 =>
  (((r3 * x4) * x5) < (30 : Int32) → (P_M_mustBe_38 post M3)) ∧
  (¬ ((r3 * x4) * x5) < (30 : Int32) → (P_M_mustBe_39 post (1 : Int32) M3))) x1 x2 M2))) r1 x6 x7 M1) x1 x2 x3 M
theorem k_M_mustBe {X : FX} {g : GT} {A : Nat → Prop} {Z : State → Prop} {post : Int32 → Mem → Prop} (C : Cx X g layM A cX12_mustBe 8 RX12 2) (hr : 0 ≤ X.2.2.2.1.cells ∧ 0 ≤ X.2.2.2.1.slots) (hR : RetZ X g layM A cX12_mustBe 8 0 0 Z post) (x1 x2 x3 x4 x5 x6 x7 : Int32) (M : Mem) (h : P_M_mustBe post x1 x2 x3 x4 x5 x6 x7 M) : At X g layM A 8 0 0 Z 0 [(0, .ref (ad g 0)), (1, .int x1), (2, .int x2), (3, .int x3), (4, .int x4), (5, .int x5), (6, .int x6), (7, .int x7)] [] M := by
  refine a_aload_n C (tk T_cX12_mustBe 0 rfl) rfl ?_
  refine a_iload_n C (tk T_cX12_mustBe 1 rfl) rfl ?_
  refine a_iload_n C (tk T_cX12_mustBe 2 rfl) rfl ?_
  refine a_iload_n C (tk T_cX12_mustBe 3 rfl) rfl ?_
  refine a_callI C [.int x1, .int x2, .int x3] me_yX12_shifted lk_RX12_160 (ct_M_shifted h) (by decide) lm0 rfl rfl rfl (Nat.le_of_ble_eq_true rfl) (tk T_cX12_mustBe 4 rfl) hr (fun r1 M1 h => ?_)
  refine a_iload C (tk T_cX12_mustBe 5 rfl) rfl ?_
  refine a_iload C (tk T_cX12_mustBe 6 rfl) rfl ?_
  refine a_statI C [.int r1, .int x6, .int x7] me_yX12_in lk_RX12_58 (ct_M_in h) (by decide) rfl rfl (Nat.le_of_ble_eq_true rfl) (tk T_cX12_mustBe 7 rfl) hr (fun r2 M2 h => ?_)
  refine a_if_eq C 38 (tk T_cX12_mustBe 8 rfl) rfl (fun c => ?_) (fun c => ?_)
  · have h := h.1 c
    exact a_to (k_M_mustBe_38 C hr hR M2 h) rfl
  · have h := h.2 c
    refine a_aload_n C (tk T_cX12_mustBe 9 rfl) rfl ?_
    refine a_iload_n C (tk T_cX12_mustBe 10 rfl) rfl ?_
    refine a_iload_n C (tk T_cX12_mustBe 11 rfl) rfl ?_
    refine a_callI C [.int x1, .int x2] me_yX12_strengthOf lk_RX12_164 (ct_M_strengthOf h) (by decide) lm0 rfl rfl rfl (Nat.le_of_ble_eq_true rfl) (tk T_cX12_mustBe 12 rfl) hr (fun r3 M3 h => ?_)
    refine a_iload C (tk T_cX12_mustBe 13 rfl) rfl ?_
    refine a_imul C (tk T_cX12_mustBe 14 rfl) ?_
    refine a_iload C (tk T_cX12_mustBe 15 rfl) rfl ?_
    refine a_imul C (tk T_cX12_mustBe 16 rfl) ?_
    refine a_bipush C (30 : Int32) (tk T_cX12_mustBe 17 rfl) kB_30 ?_
    refine a_icmp_lt C 38 (tk T_cX12_mustBe 18 rfl) rfl (fun c => ?_) (fun c => ?_)
    · have h := h.1 c
      exact a_to (k_M_mustBe_38 C hr hR M3 h) rfl
    · have h := h.2 c
      refine a_iconst C (1 : Int32) (tk T_cX12_mustBe 19 rfl) kI_1 ?_
      refine a_goto C 39 (tk T_cX12_mustBe 20 rfl) rfl ?_
      exact a_to (k_M_mustBe_39 C hr hR (1 : Int32) M3 h) rfl
theorem ct_M_mustBe {l : Launch} {g : GT} {post : Int32 → Mem → Prop} {x1 x2 x3 x4 x5 x6 x7 : Int32} {M : Mem} (h : P_M_mustBe post x1 x2 x3 x4 x5 x6 x7 M) : CI l g layM yX12_mustBe cX12_mustBe 8 (some .boolean) 2 [.ref (ad g 0), .int x1, .int x2, .int x3, .int x4, .int x5, .int x6, .int x7] M post :=
  cz_of (plainFor_of_name (by decide +kernel)) (Nat.le_of_ble_eq_true rfl) rfl (fun X A Z hl C hr hR => by subst hl; exact k_M_mustBe C hr hR x1 x2 x3 x4 x5 x6 x7 M h)
def T_cX12_mustOnL : List (Nat × Instr × Nat) := [(0, .aload_n 0, 1), (1, .iload_n 2, 1), (2, .iload_n 3, 1), (3, .iload 4, 2), (5, .aload_n 0, 1), (6, .iload_n 1, 1), (7, .iconst 0, 1), (8, .invokevirtual 135, 3), (11, .aload_n 0, 1), (12, .iload_n 1, 1), (13, .iconst 1, 1), (14, .invokevirtual 135, 3), (17, .aload_n 0, 1), (18, .iload_n 1, 1), (19, .iconst 2, 1), (20, .invokevirtual 135, 3), (23, .aload_n 0, 1), (24, .iload_n 1, 1), (25, .iconst 3, 1), (26, .invokevirtual 135, 3), (29, .invokevirtual 167, 3), (32, .ireturn, 1)]
theorem T_cX12_mustOn : tabOK cX12_mustOn T_cX12_mustOnL = true := by decide +kernel
def P_M_mustOn (post : Int32 → Mem → Prop) (x1 x2 x3 x4 : Int32) (M : Mem) : Prop :=
  P_M_ofPlate (fun r1 M1 =>
  P_M_ofPlate (fun r2 M2 =>
  P_M_ofPlate (fun r3 M3 =>
  P_M_ofPlate (fun r4 M4 =>
  P_M_mustBe (fun r5 M5 =>
  (r5 = 0 ∨ r5 = 1) ∧ post r5 M5) x2 x3 x4 r1 r2 r3 r4 M4) x1 (3 : Int32) M3) x1 (2 : Int32) M2) x1 (1 : Int32) M1) x1 (0 : Int32) M
theorem k_M_mustOn {X : FX} {g : GT} {A : Nat → Prop} {Z : State → Prop} {post : Int32 → Mem → Prop} (C : Cx X g layM A cX12_mustOn 5 RX12 3) (hr : 0 ≤ X.2.2.2.1.cells ∧ 0 ≤ X.2.2.2.1.slots) (hR : RetZ X g layM A cX12_mustOn 5 0 0 Z post) (x1 x2 x3 x4 : Int32) (M : Mem) (h : P_M_mustOn post x1 x2 x3 x4 M) : At X g layM A 5 0 0 Z 0 [(0, .ref (ad g 0)), (1, .int x1), (2, .int x2), (3, .int x3), (4, .int x4)] [] M := by
  refine a_aload_n C (tk T_cX12_mustOn 0 rfl) rfl ?_
  refine a_iload_n C (tk T_cX12_mustOn 1 rfl) rfl ?_
  refine a_iload_n C (tk T_cX12_mustOn 2 rfl) rfl ?_
  refine a_iload C (tk T_cX12_mustOn 3 rfl) rfl ?_
  refine a_aload_n C (tk T_cX12_mustOn 4 rfl) rfl ?_
  refine a_iload_n C (tk T_cX12_mustOn 5 rfl) rfl ?_
  refine a_iconst C (0 : Int32) (tk T_cX12_mustOn 6 rfl) kI_0 ?_
  refine a_callI C [.int x1, .int (0 : Int32)] me_yX12_ofPlate lk_RX12_135 (ct_M_ofPlate h) (by decide) lm0 rfl rfl rfl (Nat.le_of_ble_eq_true rfl) (tk T_cX12_mustOn 7 rfl) hr (fun r1 M1 h => ?_)
  refine a_aload_n C (tk T_cX12_mustOn 8 rfl) rfl ?_
  refine a_iload_n C (tk T_cX12_mustOn 9 rfl) rfl ?_
  refine a_iconst C (1 : Int32) (tk T_cX12_mustOn 10 rfl) kI_1 ?_
  refine a_callI C [.int x1, .int (1 : Int32)] me_yX12_ofPlate lk_RX12_135 (ct_M_ofPlate h) (by decide) lm0 rfl rfl rfl (Nat.le_of_ble_eq_true rfl) (tk T_cX12_mustOn 11 rfl) hr (fun r2 M2 h => ?_)
  refine a_aload_n C (tk T_cX12_mustOn 12 rfl) rfl ?_
  refine a_iload_n C (tk T_cX12_mustOn 13 rfl) rfl ?_
  refine a_iconst C (2 : Int32) (tk T_cX12_mustOn 14 rfl) kI_2 ?_
  refine a_callI C [.int x1, .int (2 : Int32)] me_yX12_ofPlate lk_RX12_135 (ct_M_ofPlate h) (by decide) lm0 rfl rfl rfl (Nat.le_of_ble_eq_true rfl) (tk T_cX12_mustOn 15 rfl) hr (fun r3 M3 h => ?_)
  refine a_aload_n C (tk T_cX12_mustOn 16 rfl) rfl ?_
  refine a_iload_n C (tk T_cX12_mustOn 17 rfl) rfl ?_
  refine a_iconst C (3 : Int32) (tk T_cX12_mustOn 18 rfl) kI_3 ?_
  refine a_callI C [.int x1, .int (3 : Int32)] me_yX12_ofPlate lk_RX12_135 (ct_M_ofPlate h) (by decide) lm0 rfl rfl rfl (Nat.le_of_ble_eq_true rfl) (tk T_cX12_mustOn 19 rfl) hr (fun r4 M4 h => ?_)
  refine a_callI C [.int x2, .int x3, .int x4, .int r1, .int r2, .int r3, .int r4] me_yX12_mustBe lk_RX12_167 (ct_M_mustBe h) (by decide) lm0 rfl rfl rfl (Nat.le_of_ble_eq_true rfl) (tk T_cX12_mustOn 20 rfl) hr (fun r5 M5 h => ?_)
  exact hR _ _ _ _ (tk T_cX12_mustOn 21 rfl) h
theorem ct_M_mustOn {l : Launch} {g : GT} {post : Int32 → Mem → Prop} {x1 x2 x3 x4 : Int32} {M : Mem} (h : P_M_mustOn post x1 x2 x3 x4 M) : CI l g layM yX12_mustOn cX12_mustOn 5 (some .boolean) 3 [.ref (ad g 0), .int x1, .int x2, .int x3, .int x4] M post :=
  cz_of (plainFor_of_name (by decide +kernel)) (Nat.le_of_ble_eq_true rfl) rfl (fun X A Z hl C hr hR => by subst hl; exact k_M_mustOn C hr hR x1 x2 x3 x4 M h)
def T_cX12_mustL : List (Nat × Instr × Nat) := [(0, .aload_n 0, 1), (1, .iconst 0, 1), (2, .putfield 3, 3), (5, .aload_n 0, 1), (6, .aload_n 0, 1), (7, .iload_n 1, 1), (8, .bipush 8, 2), (10, .invokevirtual 121, 3), (13, .ifCond .ne 12, 3), (16, .aload_n 0, 1), (17, .iload_n 2, 1), (18, .iload_n 3, 1), (19, .invokevirtual 154, 3), (22, .ifCond .eq 7, 3), (25, .iconst 1, 1), (26, .goto 4, 3), (29, .iconst 0, 1), (30, .iconst 1, 1), (31, .invokevirtual 72, 3), (34, .ifCond .ne 18, 3), (37, .aload_n 0, 1), (38, .iload_n 1, 1), (39, .iload_n 2, 1), (40, .iload_n 3, 1), (41, .iconst 0, 1), (42, .invokevirtual 171, 3), (45, .ifCond .eq 7, 3), (48, .iconst 1, 1), (49, .goto 4, 3), (52, .iconst 0, 1), (53, .ireturn, 1)]
theorem T_cX12_must : tabOK cX12_must T_cX12_mustL = true := by decide +kernel
def P_M_must_53 (post : Int32 → Mem → Prop) (s0 : Int32) (M : Mem) : Prop :=
  (s0 = 0 ∨ s0 = 1) ∧ post s0 M
theorem k_M_must_53 {X : FX} {g : GT} {A : Nat → Prop} {Z : State → Prop} {post : Int32 → Mem → Prop} (C : Cx X g layM A cX12_must 4 RX12 4) (hr : 0 ≤ X.2.2.2.1.cells ∧ 0 ≤ X.2.2.2.1.slots) (hR : RetZ X g layM A cX12_must 4 0 0 Z post) (s0 : Int32) (M : Mem) (h : P_M_must_53 post s0 M) : At X g layM A 4 0 0 Z 53 [] [.int s0] M := by
  exact hR _ _ _ _ (tk T_cX12_must 30 rfl) h
def P_M_must_52 (post : Int32 → Mem → Prop) (M : Mem) : Prop :=
  P_M_must_53 post (0 : Int32) M
theorem k_M_must_52 {X : FX} {g : GT} {A : Nat → Prop} {Z : State → Prop} {post : Int32 → Mem → Prop} (C : Cx X g layM A cX12_must 4 RX12 4) (hr : 0 ≤ X.2.2.2.1.cells ∧ 0 ≤ X.2.2.2.1.slots) (hR : RetZ X g layM A cX12_must 4 0 0 Z post)  (M : Mem) (h : P_M_must_52 post M) : At X g layM A 4 0 0 Z 52 [] [] M := by
  refine a_iconst C (0 : Int32) (tk T_cX12_must 29 rfl) kI_0 ?_
  exact a_to (k_M_must_53 C hr hR (0 : Int32) M h) rfl
def P_M_must_30 (post : Int32 → Mem → Prop) (x1 x2 x3 s1 : Int32) (M : Mem) : Prop :=
  P_M_throwsIf (fun r1 M1 =>
  (¬ r1 = 0 → (P_M_must_52 post M1)) ∧
  (r1 = 0 → (P_M_mustOn (fun r2 M2 =>
  (r2 = 0 → (P_M_must_52 post M2)) ∧
  (¬ r2 = 0 → (P_M_must_53 post (1 : Int32) M2))) x1 x2 x3 (0 : Int32) M1))) s1 (1 : Int32) M
theorem k_M_must_30 {X : FX} {g : GT} {A : Nat → Prop} {Z : State → Prop} {post : Int32 → Mem → Prop} (C : Cx X g layM A cX12_must 4 RX12 4) (hr : 0 ≤ X.2.2.2.1.cells ∧ 0 ≤ X.2.2.2.1.slots) (hR : RetZ X g layM A cX12_must 4 0 0 Z post) (x1 x2 x3 s1 : Int32) (M : Mem) (h : P_M_must_30 post x1 x2 x3 s1 M) : At X g layM A 4 0 0 Z 30 [(0, .ref (ad g 0)), (1, .int x1), (2, .int x2), (3, .int x3)] [.int s1, .ref (ad g 0)] M := by
  refine a_iconst C (1 : Int32) (tk T_cX12_must 17 rfl) kI_1 ?_
  refine a_callI C [.int s1, .int (1 : Int32)] me_yX12_throwsIf lk_RX12_72 (ct_M_throwsIf h) (by decide) lm0 rfl rfl rfl (Nat.le_of_ble_eq_true rfl) (tk T_cX12_must 18 rfl) hr (fun r1 M1 h => ?_)
  refine a_if_ne C 52 (tk T_cX12_must 19 rfl) rfl (fun c => ?_) (fun c => ?_)
  · have h := h.1 c
    exact a_to (k_M_must_52 C hr hR M1 h) rfl
  · have h := h.2 c
    refine a_aload_n C (tk T_cX12_must 20 rfl) rfl ?_
    refine a_iload_n C (tk T_cX12_must 21 rfl) rfl ?_
    refine a_iload_n C (tk T_cX12_must 22 rfl) rfl ?_
    refine a_iload_n C (tk T_cX12_must 23 rfl) rfl ?_
    refine a_iconst C (0 : Int32) (tk T_cX12_must 24 rfl) kI_0 ?_
    refine a_callI C [.int x1, .int x2, .int x3, .int (0 : Int32)] me_yX12_mustOn lk_RX12_171 (ct_M_mustOn h) (by decide) lm0 rfl rfl rfl (Nat.le_of_ble_eq_true rfl) (tk T_cX12_must 25 rfl) hr (fun r2 M2 h => ?_)
    refine a_if_eq C 52 (tk T_cX12_must 26 rfl) rfl (fun c => ?_) (fun c => ?_)
    · have h := h.1 c
      exact a_to (k_M_must_52 C hr hR M2 h) rfl
    · have h := h.2 c
      refine a_iconst C (1 : Int32) (tk T_cX12_must 27 rfl) kI_1 ?_
      refine a_goto C 53 (tk T_cX12_must 28 rfl) rfl ?_
      exact a_to (k_M_must_53 C hr hR (1 : Int32) M2 h) rfl
def P_M_must_25 (post : Int32 → Mem → Prop) (x1 x2 x3 : Int32) (M : Mem) : Prop :=
  P_M_must_30 post x1 x2 x3 (1 : Int32) M
theorem k_M_must_25 {X : FX} {g : GT} {A : Nat → Prop} {Z : State → Prop} {post : Int32 → Mem → Prop} (C : Cx X g layM A cX12_must 4 RX12 4) (hr : 0 ≤ X.2.2.2.1.cells ∧ 0 ≤ X.2.2.2.1.slots) (hR : RetZ X g layM A cX12_must 4 0 0 Z post) (x1 x2 x3 : Int32) (M : Mem) (h : P_M_must_25 post x1 x2 x3 M) : At X g layM A 4 0 0 Z 25 [(0, .ref (ad g 0)), (1, .int x1), (2, .int x2), (3, .int x3)] [.ref (ad g 0)] M := by
  refine a_iconst C (1 : Int32) (tk T_cX12_must 14 rfl) kI_1 ?_
  refine a_goto C 30 (tk T_cX12_must 15 rfl) rfl ?_
  exact a_to (k_M_must_30 C hr hR x1 x2 x3 (1 : Int32) M h) rfl
def P_M_must (post : Int32 → Mem → Prop) (x1 x2 x3 : Int32) (M : Mem) : Prop :=
  ∀ M1, M1 = ms M 0 0 (0 : Int32) → P_M_none (fun r2 M2 =>
  (¬ r2 = 0 → (P_M_must_25 post x1 x2 x3 M2)) ∧
  (r2 = 0 → (P_M_noLine (fun r3 M3 =>
  (r3 = 0 → (P_M_must_30 post x1 x2 x3 (0 : Int32) M3)) ∧
  (¬ r3 = 0 → (P_M_must_25 post x1 x2 x3 M3))) x2 x3 M2))) x1 (8 : Int32) M1
theorem k_M_must {X : FX} {g : GT} {A : Nat → Prop} {Z : State → Prop} {post : Int32 → Mem → Prop} (C : Cx X g layM A cX12_must 4 RX12 4) (hr : 0 ≤ X.2.2.2.1.cells ∧ 0 ≤ X.2.2.2.1.slots) (hR : RetZ X g layM A cX12_must 4 0 0 Z post) (x1 x2 x3 : Int32) (M : Mem) (h : P_M_must post x1 x2 x3 M) : At X g layM A 4 0 0 Z 0 [(0, .ref (ad g 0)), (1, .int x1), (2, .int x2), (3, .int x3)] [] M := by
  refine a_aload_n C (tk T_cX12_must 0 rfl) rfl ?_
  refine a_iconst C (0 : Int32) (tk T_cX12_must 1 rfl) kI_0 ?_
  refine a_put C f_RX12_3 f_RX12_3p rfl rfl (tk T_cX12_must 2 rfl) lm0 rfl ?_
  refine a_mem (fun M1 e_M1 => ?_)
  have h := h M1 e_M1
  refine a_aload_n C (tk T_cX12_must 3 rfl) rfl ?_
  refine a_aload_n C (tk T_cX12_must 4 rfl) rfl ?_
  refine a_iload_n C (tk T_cX12_must 5 rfl) rfl ?_
  refine a_bipush C (8 : Int32) (tk T_cX12_must 6 rfl) kB_8 ?_
  refine a_callI C [.int x1, .int (8 : Int32)] me_yX12_none lk_RX12_121 (ct_M_none h) (by decide) lm0 rfl rfl rfl (Nat.le_of_ble_eq_true rfl) (tk T_cX12_must 7 rfl) hr (fun r2 M2 h => ?_)
  refine a_if_ne C 25 (tk T_cX12_must 8 rfl) rfl (fun c => ?_) (fun c => ?_)
  · have h := h.1 c
    exact a_to (k_M_must_25 C hr hR x1 x2 x3 M2 h) rfl
  · have h := h.2 c
    refine a_aload_n C (tk T_cX12_must 9 rfl) rfl ?_
    refine a_iload_n C (tk T_cX12_must 10 rfl) rfl ?_
    refine a_iload_n C (tk T_cX12_must 11 rfl) rfl ?_
    refine a_callI C [.int x2, .int x3] me_yX12_noLine lk_RX12_154 (ct_M_noLine h) (by decide) lm0 rfl rfl rfl (Nat.le_of_ble_eq_true rfl) (tk T_cX12_must 12 rfl) hr (fun r3 M3 h => ?_)
    refine a_if_eq C 29 (tk T_cX12_must 13 rfl) rfl (fun c => ?_) (fun c => ?_)
    · have h := h.1 c
      refine a_iconst C (0 : Int32) (tk T_cX12_must 16 rfl) kI_0 ?_
      exact a_to (k_M_must_30 C hr hR x1 x2 x3 (0 : Int32) M3 h) rfl
    · have h := h.2 c
      exact a_to (k_M_must_25 C hr hR x1 x2 x3 M3 h) rfl
theorem ct_M_must {l : Launch} {g : GT} {post : Int32 → Mem → Prop} {x1 x2 x3 : Int32} {M : Mem} (h : P_M_must post x1 x2 x3 M) : CI l g layM yX12_must cX12_must 4 (some .boolean) 4 [.ref (ad g 0), .int x1, .int x2, .int x3] M post :=
  cz_of (plainFor_of_name (by decide +kernel)) (Nat.le_of_ble_eq_true rfl) rfl (fun X A Z hl C hr hR => by subst hl; exact k_M_must C hr hR x1 x2 x3 M h)
def T_cX12_isInSetL : List (Nat × Instr × Nat) := [(0, .aload_n 0, 1), (1, .iload_n 2, 1), (2, .invokevirtual 148, 3), (5, .ifCond .ne 12, 3), (8, .iload_n 1, 1), (9, .iload_n 2, 1), (10, .ishr, 1), (11, .iconst 1, 1), (12, .iand, 1), (13, .iconst 1, 1), (14, .if_icmp .ne 7, 3), (17, .iconst 1, 1), (18, .goto 4, 3), (21, .iconst 0, 1), (22, .ireturn, 1)]
theorem T_cX12_isInSet : tabOK cX12_isInSet T_cX12_isInSetL = true := by decide +kernel
def P_M_isInSet_22 (post : Int32 → Mem → Prop) (s0 : Int32) (M : Mem) : Prop :=
  (s0 = 0 ∨ s0 = 1) ∧ post s0 M
theorem k_M_isInSet_22 {X : FX} {g : GT} {A : Nat → Prop} {Z : State → Prop} {post : Int32 → Mem → Prop} (C : Cx X g layM A cX12_isInSet 3 RX12 1) (hr : 0 ≤ X.2.2.2.1.cells ∧ 0 ≤ X.2.2.2.1.slots) (hR : RetZ X g layM A cX12_isInSet 3 0 0 Z post) (s0 : Int32) (M : Mem) (h : P_M_isInSet_22 post s0 M) : At X g layM A 3 0 0 Z 22 [] [.int s0] M := by
  exact hR _ _ _ _ (tk T_cX12_isInSet 14 rfl) h
def P_M_isInSet_17 (post : Int32 → Mem → Prop) (M : Mem) : Prop :=
  P_M_isInSet_22 post (1 : Int32) M
theorem k_M_isInSet_17 {X : FX} {g : GT} {A : Nat → Prop} {Z : State → Prop} {post : Int32 → Mem → Prop} (C : Cx X g layM A cX12_isInSet 3 RX12 1) (hr : 0 ≤ X.2.2.2.1.cells ∧ 0 ≤ X.2.2.2.1.slots) (hR : RetZ X g layM A cX12_isInSet 3 0 0 Z post)  (M : Mem) (h : P_M_isInSet_17 post M) : At X g layM A 3 0 0 Z 17 [] [] M := by
  refine a_iconst C (1 : Int32) (tk T_cX12_isInSet 11 rfl) kI_1 ?_
  refine a_goto C 22 (tk T_cX12_isInSet 12 rfl) rfl ?_
  exact a_to (k_M_isInSet_22 C hr hR (1 : Int32) M h) rfl
def P_M_isInSet (post : Int32 → Mem → Prop) (x1 x2 : Int32) (M : Mem) : Prop :=
  P_M_isAir (fun r1 M1 =>
  (¬ r1 = 0 → (P_M_isInSet_17 post M1)) ∧
  (r1 = 0 → ((¬ ((x1 >>> (x2 &&& 31)) &&& (1 : Int32)) = (1 : Int32) → (P_M_isInSet_22 post (0 : Int32) M1)) ∧
  (((x1 >>> (x2 &&& 31)) &&& (1 : Int32)) = (1 : Int32) → (P_M_isInSet_17 post M1))))) x2 M
theorem k_M_isInSet {X : FX} {g : GT} {A : Nat → Prop} {Z : State → Prop} {post : Int32 → Mem → Prop} (C : Cx X g layM A cX12_isInSet 3 RX12 1) (hr : 0 ≤ X.2.2.2.1.cells ∧ 0 ≤ X.2.2.2.1.slots) (hR : RetZ X g layM A cX12_isInSet 3 0 0 Z post) (x1 x2 : Int32) (M : Mem) (h : P_M_isInSet post x1 x2 M) : At X g layM A 3 0 0 Z 0 [(0, .ref (ad g 0)), (1, .int x1), (2, .int x2)] [] M := by
  refine a_aload_n C (tk T_cX12_isInSet 0 rfl) rfl ?_
  refine a_iload_n C (tk T_cX12_isInSet 1 rfl) rfl ?_
  refine a_callI C [.int x2] me_yX12_isAir lk_RX12_148 (ct_M_isAir h) (by decide) lm0 rfl rfl rfl (Nat.le_of_ble_eq_true rfl) (tk T_cX12_isInSet 2 rfl) hr (fun r1 M1 h => ?_)
  refine a_if_ne C 17 (tk T_cX12_isInSet 3 rfl) rfl (fun c => ?_) (fun c => ?_)
  · have h := h.1 c
    exact a_to (k_M_isInSet_17 C hr hR M1 h) rfl
  · have h := h.2 c
    refine a_iload_n C (tk T_cX12_isInSet 4 rfl) rfl ?_
    refine a_iload_n C (tk T_cX12_isInSet 5 rfl) rfl ?_
    refine a_ishr C (tk T_cX12_isInSet 6 rfl) ?_
    refine a_iconst C (1 : Int32) (tk T_cX12_isInSet 7 rfl) kI_1 ?_
    refine a_iand C (tk T_cX12_isInSet 8 rfl) ?_
    refine a_iconst C (1 : Int32) (tk T_cX12_isInSet 9 rfl) kI_1 ?_
    refine a_icmp_ne C 21 (tk T_cX12_isInSet 10 rfl) rfl (fun c => ?_) (fun c => ?_)
    · have h := h.1 c
      refine a_iconst C (0 : Int32) (tk T_cX12_isInSet 13 rfl) kI_0 ?_
      exact a_to (k_M_isInSet_22 C hr hR (0 : Int32) M1 h) rfl
    · have h := h.2 c
      exact a_to (k_M_isInSet_17 C hr hR M1 h) rfl
theorem ct_M_isInSet {l : Launch} {g : GT} {post : Int32 → Mem → Prop} {x1 x2 : Int32} {M : Mem} (h : P_M_isInSet post x1 x2 M) : CI l g layM yX12_isInSet cX12_isInSet 3 (some .boolean) 1 [.ref (ad g 0), .int x1, .int x2] M post :=
  cz_of (plainFor_of_name (by decide +kernel)) (Nat.le_of_ble_eq_true rfl) rfl (fun X A Z hl C hr hR => by subst hl; exact k_M_isInSet C hr hR x1 x2 M h)
def T_cX12_linesInL : List (Nat × Instr × Nat) := [(0, .iconst 0, 1), (1, .istore 5, 2), (3, .iconst 0, 1), (4, .istore 6, 2), (6, .iload 6, 2), (8, .aload_n 0, 1), (9, .getfield 13, 3), (12, .bipush 7, 2), (14, .iaload, 1), (15, .if_icmp .ge 93, 3), (18, .aload_n 0, 1), (19, .iload_n 2, 1), (20, .iload 6, 2), (22, .invokevirtual 175, 3), (25, .ifCond .ne 6, 3), (28, .goto 74, 3), (31, .iconst 0, 1), (32, .istore 7, 2), (34, .iconst 0, 1), (35, .istore 8, 2), (37, .iload 8, 2), (39, .aload_n 0, 1), (40, .iload 6, 2), (42, .invokevirtual 125, 3), (45, .if_icmp .ge 36, 3), (48, .iload 7, 2), (50, .aload_n 0, 1), (51, .iload_n 1, 1), (52, .aload_n 0, 1), (53, .iload 6, 2), (55, .iload 8, 2), (57, .iload_n 3, 1), (58, .invokevirtual 160, 3), (61, .invokevirtual 178, 3), (64, .ifCond .eq 7, 3), (67, .iconst 1, 1), (68, .goto 4, 3), (71, .iconst 0, 1), (72, .iadd, 1), (73, .istore 7, 2), (75, .iinc 8 1, 3), (78, .goto (-41), 3), (81, .iload 5, 2), (83, .iload 4, 2), (85, .ifCond .eq 12, 3), (88, .iload 7, 2), (90, .iconst 1, 1), (91, .invokestatic 109, 3), (94, .goto 5, 3), (97, .iload 7, 2), (99, .iadd, 1), (100, .istore 5, 2), (102, .iinc 6 1, 3), (105, .goto (-99), 3), (108, .iload 5, 2), (110, .ireturn, 1)]
theorem T_cX12_linesIn : tabOK cX12_linesIn T_cX12_linesInL = true := by decide +kernel
def P_M_linesIn_102 (post : Int32 → Mem → Prop) (R6 : Int32 → Int32 → Int32 → Int32 → Int32 → Int32 → Mem → Prop) (x1 x2 x3 x4 x5 x6 : Int32) (M : Mem) : Prop :=
  R6 x1 x2 x3 x4 x5 (x6 + (1 : Int32)) M
theorem k_M_linesIn_102 {X : FX} {g : GT} {A : Nat → Prop} {Z : State → Prop} {post : Int32 → Mem → Prop} {R6 : Int32 → Int32 → Int32 → Int32 → Int32 → Int32 → Mem → Prop} (C : Cx X g layM A cX12_linesIn 9 RX12 2) (hr : 0 ≤ X.2.2.2.1.cells ∧ 0 ≤ X.2.2.2.1.slots) (hR : RetI X g layM A cX12_linesIn 9 0 0 Z post) (k6 : ∀ (y1 y2 y3 y4 y5 y6 : Int32) (M : Mem), R6 y1 y2 y3 y4 y5 y6 M → At X g layM A 9 0 0 Z 6 [(0, .ref (ad g 0)), (1, .int y1), (2, .int y2), (3, .int y3), (4, .int y4), (5, .int y5), (6, .int y6)] [] M) (x1 x2 x3 x4 x5 x6 : Int32) (M : Mem) (h : P_M_linesIn_102 post R6 x1 x2 x3 x4 x5 x6 M) : At X g layM A 9 0 0 Z 102 [(0, .ref (ad g 0)), (1, .int x1), (2, .int x2), (3, .int x3), (4, .int x4), (5, .int x5), (6, .int x6)] [] M := by
  refine a_iinc C (1 : Int32) (tk T_cX12_linesIn 52 rfl) rfl kI_1 (by decide) ?_
  refine a_goto C 6 (tk T_cX12_linesIn 53 rfl) rfl ?_
  exact a_to (k6 x1 x2 x3 x4 x5 (x6 + (1 : Int32)) M h) rfl
def P_M_linesIn_99 (post : Int32 → Mem → Prop) (R6 : Int32 → Int32 → Int32 → Int32 → Int32 → Int32 → Mem → Prop) (x1 x2 x3 x4 x6 s0 s1 : Int32) (M : Mem) : Prop :=
  ∀ x5_1, x5_1 = (s0 + s1) → P_M_linesIn_102 post R6 x1 x2 x3 x4 x5_1 x6 M
theorem k_M_linesIn_99 {X : FX} {g : GT} {A : Nat → Prop} {Z : State → Prop} {post : Int32 → Mem → Prop} {R6 : Int32 → Int32 → Int32 → Int32 → Int32 → Int32 → Mem → Prop} (C : Cx X g layM A cX12_linesIn 9 RX12 2) (hr : 0 ≤ X.2.2.2.1.cells ∧ 0 ≤ X.2.2.2.1.slots) (hR : RetI X g layM A cX12_linesIn 9 0 0 Z post) (k6 : ∀ (y1 y2 y3 y4 y5 y6 : Int32) (M : Mem), R6 y1 y2 y3 y4 y5 y6 M → At X g layM A 9 0 0 Z 6 [(0, .ref (ad g 0)), (1, .int y1), (2, .int y2), (3, .int y3), (4, .int y4), (5, .int y5), (6, .int y6)] [] M) (x1 x2 x3 x4 x6 s0 s1 : Int32) (M : Mem) (h : P_M_linesIn_99 post R6 x1 x2 x3 x4 x6 s0 s1 M) : At X g layM A 9 0 0 Z 99 [(0, .ref (ad g 0)), (1, .int x1), (2, .int x2), (3, .int x3), (4, .int x4), (6, .int x6)] [.int s1, .int s0] M := by
  refine a_iadd C (tk T_cX12_linesIn 50 rfl) ?_
  refine a_top (fun x5_1 e_x5_1 => ?_)
  have h := h x5_1 e_x5_1
  refine a_istore C (tk T_cX12_linesIn 51 rfl) (by decide) ?_
  exact a_to (k_M_linesIn_102 C hr hR k6 x1 x2 x3 x4 x5_1 x6 M h) rfl
def P_M_linesIn_72 (post : Int32 → Mem → Prop) (R6 : Int32 → Int32 → Int32 → Int32 → Int32 → Int32 → Mem → Prop) (R37 : Int32 → Int32 → Int32 → Int32 → Int32 → Int32 → Int32 → Int32 → Mem → Prop) (x1 x2 x3 x4 x5 x6 x8 s0 s1 : Int32) (M : Mem) : Prop :=
  ∀ x7_1, x7_1 = (s0 + s1) → R37 x1 x2 x3 x4 x5 x6 x7_1 (x8 + (1 : Int32)) M
theorem k_M_linesIn_72 {X : FX} {g : GT} {A : Nat → Prop} {Z : State → Prop} {post : Int32 → Mem → Prop} {R6 : Int32 → Int32 → Int32 → Int32 → Int32 → Int32 → Mem → Prop} {R37 : Int32 → Int32 → Int32 → Int32 → Int32 → Int32 → Int32 → Int32 → Mem → Prop} (C : Cx X g layM A cX12_linesIn 9 RX12 2) (hr : 0 ≤ X.2.2.2.1.cells ∧ 0 ≤ X.2.2.2.1.slots) (hR : RetI X g layM A cX12_linesIn 9 0 0 Z post) (k6 : ∀ (y1 y2 y3 y4 y5 y6 : Int32) (M : Mem), R6 y1 y2 y3 y4 y5 y6 M → At X g layM A 9 0 0 Z 6 [(0, .ref (ad g 0)), (1, .int y1), (2, .int y2), (3, .int y3), (4, .int y4), (5, .int y5), (6, .int y6)] [] M) (k37 : ∀ (y1 y2 y3 y4 y5 y6 y7 y8 : Int32) (M : Mem), R37 y1 y2 y3 y4 y5 y6 y7 y8 M → At X g layM A 9 0 0 Z 37 [(0, .ref (ad g 0)), (1, .int y1), (2, .int y2), (3, .int y3), (4, .int y4), (5, .int y5), (6, .int y6), (7, .int y7), (8, .int y8)] [] M) (x1 x2 x3 x4 x5 x6 x8 s0 s1 : Int32) (M : Mem) (h : P_M_linesIn_72 post R6 R37 x1 x2 x3 x4 x5 x6 x8 s0 s1 M) : At X g layM A 9 0 0 Z 72 [(0, .ref (ad g 0)), (1, .int x1), (2, .int x2), (3, .int x3), (4, .int x4), (5, .int x5), (6, .int x6), (8, .int x8)] [.int s1, .int s0] M := by
  refine a_iadd C (tk T_cX12_linesIn 38 rfl) ?_
  refine a_top (fun x7_1 e_x7_1 => ?_)
  have h := h x7_1 e_x7_1
  refine a_istore C (tk T_cX12_linesIn 39 rfl) (by decide) ?_
  refine a_iinc C (1 : Int32) (tk T_cX12_linesIn 40 rfl) rfl kI_1 (by decide) ?_
  refine a_goto C 37 (tk T_cX12_linesIn 41 rfl) rfl ?_
  exact a_to (k37 x1 x2 x3 x4 x5 x6 x7_1 (x8 + (1 : Int32)) M h) rfl
def P_M_linesIn_37 (post : Int32 → Mem → Prop) (R6 : Int32 → Int32 → Int32 → Int32 → Int32 → Int32 → Mem → Prop) : Nat → Int32 → Int32 → Int32 → Int32 → Int32 → Int32 → Int32 → Int32 → Mem → Prop
  | 0, _, _, _, _, _, _, _, _, _ => False
  | n + 1, x1, x2, x3, x4, x5, x6, x7, x8, M =>
    P_M_lines (fun r1 M1 =>
  (r1 ≤ x8 → ((x4 = 0 → (P_M_linesIn_99 post R6 x1 x2 x3 x4 x6 x5 x7 M1)) ∧
  (¬ x4 = 0 → (P_Math_min (fun r2 M2 =>
  P_M_linesIn_99 post R6 x1 x2 x3 x4 x6 x5 r2 M2) x7 (1 : Int32) M1)))) ∧
  (¬ r1 ≤ x8 → (P_M_shifted (fun r3 M3 =>
  P_M_isIn (fun r4 M4 =>
  (r4 = 0 → (P_M_linesIn_72 post R6 (P_M_linesIn_37 post R6 n) x1 x2 x3 x4 x5 x6 x8 x7 (0 : Int32) M4)) ∧
  (¬ r4 = 0 → (P_M_linesIn_72 post R6 (P_M_linesIn_37 post R6 n) x1 x2 x3 x4 x5 x6 x8 x7 (1 : Int32) M4))) x1 r3 M3) x6 x8 x3 M1))) x6 M
theorem k_M_linesIn_37 {X : FX} {g : GT} {A : Nat → Prop} {Z : State → Prop} {post : Int32 → Mem → Prop} {R6 : Int32 → Int32 → Int32 → Int32 → Int32 → Int32 → Mem → Prop} (C : Cx X g layM A cX12_linesIn 9 RX12 2) (hr : 0 ≤ X.2.2.2.1.cells ∧ 0 ≤ X.2.2.2.1.slots) (hR : RetI X g layM A cX12_linesIn 9 0 0 Z post) (k6 : ∀ (y1 y2 y3 y4 y5 y6 : Int32) (M : Mem), R6 y1 y2 y3 y4 y5 y6 M → At X g layM A 9 0 0 Z 6 [(0, .ref (ad g 0)), (1, .int y1), (2, .int y2), (3, .int y3), (4, .int y4), (5, .int y5), (6, .int y6)] [] M) : ∀ (n : Nat) (x1 x2 x3 x4 x5 x6 x7 x8 : Int32) (M : Mem), P_M_linesIn_37 post R6 n x1 x2 x3 x4 x5 x6 x7 x8 M → At X g layM A 9 0 0 Z 37 [(0, .ref (ad g 0)), (1, .int x1), (2, .int x2), (3, .int x3), (4, .int x4), (5, .int x5), (6, .int x6), (7, .int x7), (8, .int x8)] [] M := by
  intro n
  induction n with
  | zero =>
    intro x1 x2 x3 x4 x5 x6 x7 x8 M h
    exact h.elim
  | succ n ih =>
    intro x1 x2 x3 x4 x5 x6 x7 x8 M h
    refine a_iload C (tk T_cX12_linesIn 20 rfl) rfl ?_
    refine a_aload_n C (tk T_cX12_linesIn 21 rfl) rfl ?_
    refine a_iload C (tk T_cX12_linesIn 22 rfl) rfl ?_
    refine a_callI C [.int x6] me_yX12_lines lk_RX12_125 (ct_M_lines h) (by decide) lm0 rfl rfl rfl (Nat.le_of_ble_eq_true rfl) (tk T_cX12_linesIn 23 rfl) hr (fun r1 M1 h => ?_)
    refine a_icmp_ge C 81 (tk T_cX12_linesIn 24 rfl) rfl (fun c => ?_) (fun c => ?_)
    · have h := h.1 c
      refine a_iload C (tk T_cX12_linesIn 42 rfl) rfl ?_
      refine a_iload C (tk T_cX12_linesIn 43 rfl) rfl ?_
      refine a_if_eq C 97 (tk T_cX12_linesIn 44 rfl) rfl (fun c => ?_) (fun c => ?_)
      · have h := h.1 c
        refine a_iload C (tk T_cX12_linesIn 49 rfl) rfl ?_
        exact a_to (k_M_linesIn_99 C hr hR k6 x1 x2 x3 x4 x6 x5 x7 M1 h) rfl
      · have h := h.2 c
        refine a_iload C (tk T_cX12_linesIn 45 rfl) rfl ?_
        refine a_iconst C (1 : Int32) (tk T_cX12_linesIn 46 rfl) kI_1 ?_
        refine a_statI C [.int x7, .int (1 : Int32)] me_yJ9_min_7cf53 lk_RX12_109 (ct_Math_min h) (by decide) rfl rfl (Nat.le_of_ble_eq_true rfl) (tk T_cX12_linesIn 47 rfl) hr (fun r2 M2 h => ?_)
        refine a_goto C 99 (tk T_cX12_linesIn 48 rfl) rfl ?_
        exact a_to (k_M_linesIn_99 C hr hR k6 x1 x2 x3 x4 x6 x5 r2 M2 h) rfl
    · have h := h.2 c
      refine a_iload C (tk T_cX12_linesIn 25 rfl) rfl ?_
      refine a_aload_n C (tk T_cX12_linesIn 26 rfl) rfl ?_
      refine a_iload_n C (tk T_cX12_linesIn 27 rfl) rfl ?_
      refine a_aload_n C (tk T_cX12_linesIn 28 rfl) rfl ?_
      refine a_iload C (tk T_cX12_linesIn 29 rfl) rfl ?_
      refine a_iload C (tk T_cX12_linesIn 30 rfl) rfl ?_
      refine a_iload_n C (tk T_cX12_linesIn 31 rfl) rfl ?_
      refine a_callI C [.int x6, .int x8, .int x3] me_yX12_shifted lk_RX12_160 (ct_M_shifted h) (by decide) lm0 rfl rfl rfl (Nat.le_of_ble_eq_true rfl) (tk T_cX12_linesIn 32 rfl) hr (fun r3 M3 h => ?_)
      refine a_callI C [.int x1, .int r3] me_yX12_isIn lk_RX12_178 (ct_M_isIn h) (by decide) lm0 rfl rfl rfl (Nat.le_of_ble_eq_true rfl) (tk T_cX12_linesIn 33 rfl) hr (fun r4 M4 h => ?_)
      refine a_if_eq C 71 (tk T_cX12_linesIn 34 rfl) rfl (fun c => ?_) (fun c => ?_)
      · have h := h.1 c
        refine a_iconst C (0 : Int32) (tk T_cX12_linesIn 37 rfl) kI_0 ?_
        exact a_to (k_M_linesIn_72 C hr hR k6 ih x1 x2 x3 x4 x5 x6 x8 x7 (0 : Int32) M4 h) rfl
      · have h := h.2 c
        refine a_iconst C (1 : Int32) (tk T_cX12_linesIn 35 rfl) kI_1 ?_
        refine a_goto C 72 (tk T_cX12_linesIn 36 rfl) rfl ?_
        exact a_to (k_M_linesIn_72 C hr hR k6 ih x1 x2 x3 x4 x5 x6 x8 x7 (1 : Int32) M4 h) rfl
def P_M_linesIn_6 (post : Int32 → Mem → Prop) : Nat → Int32 → Int32 → Int32 → Int32 → Int32 → Int32 → Mem → Prop
  | 0, _, _, _, _, _, _, _ => False
  | n + 1, x1, x2, x3, x4, x5, x6, M =>
    vp_in (7 : Int32) 5966 ∧ ((M 1 (7 : Int32).toNatClampNeg) ≤ x6 → (post x5 M)) ∧
  (¬ (M 1 (7 : Int32).toNatClampNeg) ≤ x6 → (P_M_isInSet (fun r1 M1 =>
  (¬ r1 = 0 → (∃ j37, P_M_linesIn_37 post (P_M_linesIn_6 post n) j37 x1 x2 x3 x4 x5 x6 (0 : Int32) (0 : Int32) M1)) ∧
  (r1 = 0 → (P_M_linesIn_102 post (P_M_linesIn_6 post n) x1 x2 x3 x4 x5 x6 M1))) x2 x6 M))
theorem k_M_linesIn_6 {X : FX} {g : GT} {A : Nat → Prop} {Z : State → Prop} {post : Int32 → Mem → Prop} (C : Cx X g layM A cX12_linesIn 9 RX12 2) (hr : 0 ≤ X.2.2.2.1.cells ∧ 0 ≤ X.2.2.2.1.slots) (hR : RetI X g layM A cX12_linesIn 9 0 0 Z post) : ∀ (n : Nat) (x1 x2 x3 x4 x5 x6 : Int32) (M : Mem), P_M_linesIn_6 post n x1 x2 x3 x4 x5 x6 M → At X g layM A 9 0 0 Z 6 [(0, .ref (ad g 0)), (1, .int x1), (2, .int x2), (3, .int x3), (4, .int x4), (5, .int x5), (6, .int x6)] [] M := by
  intro n
  induction n with
  | zero =>
    intro x1 x2 x3 x4 x5 x6 M h
    exact h.elim
  | succ n ih =>
    intro x1 x2 x3 x4 x5 x6 M h
    refine a_iload C (tk T_cX12_linesIn 4 rfl) rfl ?_
    refine a_aload_n C (tk T_cX12_linesIn 5 rfl) rfl ?_
    refine a_getR C f_RX12_13 (tk T_cX12_linesIn 6 rfl) lm0 rfl ?_
    refine a_bipush C (7 : Int32) (tk T_cX12_linesIn 7 rfl) kB_7 ?_
    obtain ⟨hb, h⟩ := h
    refine a_iald C (tk T_cX12_linesIn 8 rfl) lm1 hb ?_
    refine a_icmp_ge C 108 (tk T_cX12_linesIn 9 rfl) rfl (fun c => ?_) (fun c => ?_)
    · have h := h.1 c
      refine a_iload C (tk T_cX12_linesIn 54 rfl) rfl ?_
      exact hR _ _ _ _ (tk T_cX12_linesIn 55 rfl) h
    · have h := h.2 c
      refine a_aload_n C (tk T_cX12_linesIn 10 rfl) rfl ?_
      refine a_iload_n C (tk T_cX12_linesIn 11 rfl) rfl ?_
      refine a_iload C (tk T_cX12_linesIn 12 rfl) rfl ?_
      refine a_callI C [.int x2, .int x6] me_yX12_isInSet lk_RX12_175 (ct_M_isInSet h) (by decide) lm0 rfl rfl rfl (Nat.le_of_ble_eq_true rfl) (tk T_cX12_linesIn 13 rfl) hr (fun r1 M1 h => ?_)
      refine a_if_ne C 31 (tk T_cX12_linesIn 14 rfl) rfl (fun c => ?_) (fun c => ?_)
      · have h := h.1 c
        refine a_iconst C (0 : Int32) (tk T_cX12_linesIn 16 rfl) kI_0 ?_
        refine a_istore C (tk T_cX12_linesIn 17 rfl) (by decide) ?_
        refine a_iconst C (0 : Int32) (tk T_cX12_linesIn 18 rfl) kI_0 ?_
        refine a_istore C (tk T_cX12_linesIn 19 rfl) (by decide) ?_
        obtain ⟨n1, h⟩ := h
        exact a_to (k_M_linesIn_37 C hr hR ih n1 x1 x2 x3 x4 x5 x6 (0 : Int32) (0 : Int32) M1 h) rfl
      · have h := h.2 c
        refine a_goto C 102 (tk T_cX12_linesIn 15 rfl) rfl ?_
        exact a_to (k_M_linesIn_102 C hr hR ih x1 x2 x3 x4 x5 x6 M1 h) rfl
def P_M_linesIn (post : Int32 → Mem → Prop) (x1 x2 x3 x4 : Int32) (M : Mem) : Prop :=
  ∃ j6, P_M_linesIn_6 post j6 x1 x2 x3 x4 (0 : Int32) (0 : Int32) M
theorem k_M_linesIn {X : FX} {g : GT} {A : Nat → Prop} {Z : State → Prop} {post : Int32 → Mem → Prop} (C : Cx X g layM A cX12_linesIn 9 RX12 2) (hr : 0 ≤ X.2.2.2.1.cells ∧ 0 ≤ X.2.2.2.1.slots) (hR : RetI X g layM A cX12_linesIn 9 0 0 Z post) (x1 x2 x3 x4 : Int32) (M : Mem) (h : P_M_linesIn post x1 x2 x3 x4 M) : At X g layM A 9 0 0 Z 0 [(0, .ref (ad g 0)), (1, .int x1), (2, .int x2), (3, .int x3), (4, .int x4)] [] M := by
  refine a_iconst C (0 : Int32) (tk T_cX12_linesIn 0 rfl) kI_0 ?_
  refine a_istore C (tk T_cX12_linesIn 1 rfl) (by decide) ?_
  refine a_iconst C (0 : Int32) (tk T_cX12_linesIn 2 rfl) kI_0 ?_
  refine a_istore C (tk T_cX12_linesIn 3 rfl) (by decide) ?_
  obtain ⟨n1, h⟩ := h
  exact a_to (k_M_linesIn_6 C hr hR n1 x1 x2 x3 x4 (0 : Int32) (0 : Int32) M h) rfl
theorem ct_M_linesIn {l : Launch} {g : GT} {post : Int32 → Mem → Prop} {x1 x2 x3 x4 : Int32} {M : Mem} (h : P_M_linesIn post x1 x2 x3 x4 M) : CI l g layM yX12_linesIn cX12_linesIn 9 (some .int) 2 [.ref (ad g 0), .int x1, .int x2, .int x3, .int x4] M post :=
  ci_of (plainFor_of_name (by decide +kernel)) (Nat.le_of_ble_eq_true rfl) rfl (fun X A Z hl C hr hR => by subst hl; exact k_M_linesIn C hr hR x1 x2 x3 x4 M h)
def T_cX12_leftOfL : List (Nat × Instr × Nat) := [(0, .iconst 0, 1), (1, .istore 4, 2), (3, .iconst 0, 1), (4, .istore 5, 2), (6, .iload 5, 2), (8, .aload_n 0, 1), (9, .invokevirtual 128, 3), (12, .if_icmp .ge 50, 3), (15, .aload_n 0, 1), (16, .iload 5, 2), (18, .iconst 0, 1), (19, .invokevirtual 132, 3), (22, .iload_n 1, 1), (23, .if_icmp .ne 33, 3), (26, .aload_n 0, 1), (27, .iload 5, 2), (29, .invokevirtual 145, 3), (32, .ifCond .ne 24, 3), (35, .aload_n 0, 1), (36, .iload 5, 2), (38, .iload_n 2, 1), (39, .iload_n 3, 1), (40, .iconst 0, 1), (41, .invokevirtual 181, 3), (44, .ifCond .ne 12, 3), (47, .iload 4, 2), (49, .iconst 1, 1), (50, .iload 5, 2), (52, .ishl, 1), (53, .ior, 1), (54, .istore 4, 2), (56, .iinc 5 1, 3), (59, .goto (-53), 3), (62, .iload 4, 2), (64, .ireturn, 1)]
theorem T_cX12_leftOf : tabOK cX12_leftOf T_cX12_leftOfL = true := by decide +kernel
def P_M_leftOf_56 (post : Int32 → Mem → Prop) (R6 : Int32 → Int32 → Int32 → Int32 → Int32 → Mem → Prop) (x1 x2 x3 x4 x5 : Int32) (M : Mem) : Prop :=
  R6 x1 x2 x3 x4 (x5 + (1 : Int32)) M
theorem k_M_leftOf_56 {X : FX} {g : GT} {A : Nat → Prop} {Z : State → Prop} {post : Int32 → Mem → Prop} {R6 : Int32 → Int32 → Int32 → Int32 → Int32 → Mem → Prop} (C : Cx X g layM A cX12_leftOf 6 RX12 3) (hr : 0 ≤ X.2.2.2.1.cells ∧ 0 ≤ X.2.2.2.1.slots) (hR : RetI X g layM A cX12_leftOf 6 0 0 Z post) (k6 : ∀ (y1 y2 y3 y4 y5 : Int32) (M : Mem), R6 y1 y2 y3 y4 y5 M → At X g layM A 6 0 0 Z 6 [(0, .ref (ad g 0)), (1, .int y1), (2, .int y2), (3, .int y3), (4, .int y4), (5, .int y5)] [] M) (x1 x2 x3 x4 x5 : Int32) (M : Mem) (h : P_M_leftOf_56 post R6 x1 x2 x3 x4 x5 M) : At X g layM A 6 0 0 Z 56 [(0, .ref (ad g 0)), (1, .int x1), (2, .int x2), (3, .int x3), (4, .int x4), (5, .int x5)] [] M := by
  refine a_iinc C (1 : Int32) (tk T_cX12_leftOf 31 rfl) rfl kI_1 (by decide) ?_
  refine a_goto C 6 (tk T_cX12_leftOf 32 rfl) rfl ?_
  exact a_to (k6 x1 x2 x3 x4 (x5 + (1 : Int32)) M h) rfl
def P_M_leftOf_6 (post : Int32 → Mem → Prop) : Nat → Int32 → Int32 → Int32 → Int32 → Int32 → Mem → Prop
  | 0, _, _, _, _, _, _ => False
  | n + 1, x1, x2, x3, x4, x5, M =>
    P_M_readings (fun r1 M1 =>
  (r1 ≤ x5 → (post x4 M1)) ∧
  (¬ r1 ≤ x5 → (P_M_of (fun r2 M2 =>
  (¬ r2 = x1 → (P_M_leftOf_56 post (P_M_leftOf_6 post n) x1 x2 x3 x4 x5 M2)) ∧
  (r2 = x1 → (P_M_isGhost (fun r3 M3 =>
  (¬ r3 = 0 → (P_M_leftOf_56 post (P_M_leftOf_6 post n) x1 x2 x3 x4 x5 M3)) ∧
  (r3 = 0 → (P_M_linesIn (fun r4 M4 =>
  (¬ r4 = 0 → (P_M_leftOf_56 post (P_M_leftOf_6 post n) x1 x2 x3 x4 x5 M4)) ∧
  (r4 = 0 → (∀ x4_5, x4_5 = (x4 ||| ((1 : Int32) <<< (x5 &&& 31))) → P_M_leftOf_56 post (P_M_leftOf_6 post n) x1 x2 x3 x4_5 x5 M4))) x5 x2 x3 (0 : Int32) M3))) x5 M2))) x5 (0 : Int32) M1))) M
theorem k_M_leftOf_6 {X : FX} {g : GT} {A : Nat → Prop} {Z : State → Prop} {post : Int32 → Mem → Prop} (C : Cx X g layM A cX12_leftOf 6 RX12 3) (hr : 0 ≤ X.2.2.2.1.cells ∧ 0 ≤ X.2.2.2.1.slots) (hR : RetI X g layM A cX12_leftOf 6 0 0 Z post) : ∀ (n : Nat) (x1 x2 x3 x4 x5 : Int32) (M : Mem), P_M_leftOf_6 post n x1 x2 x3 x4 x5 M → At X g layM A 6 0 0 Z 6 [(0, .ref (ad g 0)), (1, .int x1), (2, .int x2), (3, .int x3), (4, .int x4), (5, .int x5)] [] M := by
  intro n
  induction n with
  | zero =>
    intro x1 x2 x3 x4 x5 M h
    exact h.elim
  | succ n ih =>
    intro x1 x2 x3 x4 x5 M h
    refine a_iload C (tk T_cX12_leftOf 4 rfl) rfl ?_
    refine a_aload_n C (tk T_cX12_leftOf 5 rfl) rfl ?_
    refine a_callI C [] me_yX12_readings lk_RX12_128 (ct_M_readings h) (by decide) lm0 rfl rfl rfl (Nat.le_of_ble_eq_true rfl) (tk T_cX12_leftOf 6 rfl) hr (fun r1 M1 h => ?_)
    refine a_icmp_ge C 62 (tk T_cX12_leftOf 7 rfl) rfl (fun c => ?_) (fun c => ?_)
    · have h := h.1 c
      refine a_iload C (tk T_cX12_leftOf 33 rfl) rfl ?_
      exact hR _ _ _ _ (tk T_cX12_leftOf 34 rfl) h
    · have h := h.2 c
      refine a_aload_n C (tk T_cX12_leftOf 8 rfl) rfl ?_
      refine a_iload C (tk T_cX12_leftOf 9 rfl) rfl ?_
      refine a_iconst C (0 : Int32) (tk T_cX12_leftOf 10 rfl) kI_0 ?_
      refine a_callI C [.int x5, .int (0 : Int32)] me_yX12_of lk_RX12_132 (ct_M_of h) (by decide) lm0 rfl rfl rfl (Nat.le_of_ble_eq_true rfl) (tk T_cX12_leftOf 11 rfl) hr (fun r2 M2 h => ?_)
      refine a_iload_n C (tk T_cX12_leftOf 12 rfl) rfl ?_
      refine a_icmp_ne C 56 (tk T_cX12_leftOf 13 rfl) rfl (fun c => ?_) (fun c => ?_)
      · have h := h.1 c
        exact a_to (k_M_leftOf_56 C hr hR ih x1 x2 x3 x4 x5 M2 h) rfl
      · have h := h.2 c
        refine a_aload_n C (tk T_cX12_leftOf 14 rfl) rfl ?_
        refine a_iload C (tk T_cX12_leftOf 15 rfl) rfl ?_
        refine a_callI C [.int x5] me_yX12_isGhost lk_RX12_145 (ct_M_isGhost h) (by decide) lm0 rfl rfl rfl (Nat.le_of_ble_eq_true rfl) (tk T_cX12_leftOf 16 rfl) hr (fun r3 M3 h => ?_)
        refine a_if_ne C 56 (tk T_cX12_leftOf 17 rfl) rfl (fun c => ?_) (fun c => ?_)
        · have h := h.1 c
          exact a_to (k_M_leftOf_56 C hr hR ih x1 x2 x3 x4 x5 M3 h) rfl
        · have h := h.2 c
          refine a_aload_n C (tk T_cX12_leftOf 18 rfl) rfl ?_
          refine a_iload C (tk T_cX12_leftOf 19 rfl) rfl ?_
          refine a_iload_n C (tk T_cX12_leftOf 20 rfl) rfl ?_
          refine a_iload_n C (tk T_cX12_leftOf 21 rfl) rfl ?_
          refine a_iconst C (0 : Int32) (tk T_cX12_leftOf 22 rfl) kI_0 ?_
          refine a_callI C [.int x5, .int x2, .int x3, .int (0 : Int32)] me_yX12_linesIn lk_RX12_181 (ct_M_linesIn h) (by decide) lm0 rfl rfl rfl (Nat.le_of_ble_eq_true rfl) (tk T_cX12_leftOf 23 rfl) hr (fun r4 M4 h => ?_)
          refine a_if_ne C 56 (tk T_cX12_leftOf 24 rfl) rfl (fun c => ?_) (fun c => ?_)
          · have h := h.1 c
            exact a_to (k_M_leftOf_56 C hr hR ih x1 x2 x3 x4 x5 M4 h) rfl
          · have h := h.2 c
            refine a_iload C (tk T_cX12_leftOf 25 rfl) rfl ?_
            refine a_iconst C (1 : Int32) (tk T_cX12_leftOf 26 rfl) kI_1 ?_
            refine a_iload C (tk T_cX12_leftOf 27 rfl) rfl ?_
            refine a_ishl C (tk T_cX12_leftOf 28 rfl) ?_
            refine a_ior C (tk T_cX12_leftOf 29 rfl) ?_
            refine a_top (fun x4_5 e_x4_5 => ?_)
            have h := h x4_5 e_x4_5
            refine a_istore C (tk T_cX12_leftOf 30 rfl) (by decide) ?_
            exact a_to (k_M_leftOf_56 C hr hR ih x1 x2 x3 x4_5 x5 M4 h) rfl
def P_M_leftOf (post : Int32 → Mem → Prop) (x1 x2 x3 : Int32) (M : Mem) : Prop :=
  ∃ j6, P_M_leftOf_6 post j6 x1 x2 x3 (0 : Int32) (0 : Int32) M
theorem k_M_leftOf {X : FX} {g : GT} {A : Nat → Prop} {Z : State → Prop} {post : Int32 → Mem → Prop} (C : Cx X g layM A cX12_leftOf 6 RX12 3) (hr : 0 ≤ X.2.2.2.1.cells ∧ 0 ≤ X.2.2.2.1.slots) (hR : RetI X g layM A cX12_leftOf 6 0 0 Z post) (x1 x2 x3 : Int32) (M : Mem) (h : P_M_leftOf post x1 x2 x3 M) : At X g layM A 6 0 0 Z 0 [(0, .ref (ad g 0)), (1, .int x1), (2, .int x2), (3, .int x3)] [] M := by
  refine a_iconst C (0 : Int32) (tk T_cX12_leftOf 0 rfl) kI_0 ?_
  refine a_istore C (tk T_cX12_leftOf 1 rfl) (by decide) ?_
  refine a_iconst C (0 : Int32) (tk T_cX12_leftOf 2 rfl) kI_0 ?_
  refine a_istore C (tk T_cX12_leftOf 3 rfl) (by decide) ?_
  obtain ⟨n1, h⟩ := h
  exact a_to (k_M_leftOf_6 C hr hR n1 x1 x2 x3 (0 : Int32) (0 : Int32) M h) rfl
theorem ct_M_leftOf {l : Launch} {g : GT} {post : Int32 → Mem → Prop} {x1 x2 x3 : Int32} {M : Mem} (h : P_M_leftOf post x1 x2 x3 M) : CI l g layM yX12_leftOf cX12_leftOf 6 (some .int) 3 [.ref (ad g 0), .int x1, .int x2, .int x3] M post :=
  ci_of (plainFor_of_name (by decide +kernel)) (Nat.le_of_ble_eq_true rfl) rfl (fun X A Z hl C hr hR => by subst hl; exact k_M_leftOf C hr hR x1 x2 x3 M h)
def T_cX12_isSeenL : List (Nat × Instr × Nat) := [(0, .iconst 0, 1), (1, .istore_n 3, 1), (2, .iconst 0, 1), (3, .istore 4, 2), (5, .iload 4, 2), (7, .aload_n 0, 1), (8, .invokevirtual 128, 3), (11, .if_icmp .ge 40, 3), (14, .iload_n 3, 1), (15, .ifCond .ne 24, 3), (18, .aload_n 0, 1), (19, .iload 4, 2), (21, .iconst 0, 1), (22, .invokevirtual 132, 3), (25, .iload_n 1, 1), (26, .if_icmp .ne 17, 3), (29, .aload_n 0, 1), (30, .iload 4, 2), (32, .iload_n 2, 1), (33, .invokevirtual 178, 3), (36, .ifCond .eq 7, 3), (39, .iconst 1, 1), (40, .goto 4, 3), (43, .iconst 0, 1), (44, .istore_n 3, 1), (45, .iinc 4 1, 3), (48, .goto (-43), 3), (51, .iload_n 3, 1), (52, .ireturn, 1)]
theorem T_cX12_isSeen : tabOK cX12_isSeen T_cX12_isSeenL = true := by decide +kernel
def P_M_isSeen_44 (post : Int32 → Mem → Prop) (R5 : Int32 → Int32 → Int32 → Int32 → Mem → Prop) (x1 x2 x4 s0 : Int32) (M : Mem) : Prop :=
  R5 x1 x2 s0 (x4 + (1 : Int32)) M
theorem k_M_isSeen_44 {X : FX} {g : GT} {A : Nat → Prop} {Z : State → Prop} {post : Int32 → Mem → Prop} {R5 : Int32 → Int32 → Int32 → Int32 → Mem → Prop} (C : Cx X g layM A cX12_isSeen 5 RX12 2) (hr : 0 ≤ X.2.2.2.1.cells ∧ 0 ≤ X.2.2.2.1.slots) (hR : RetZ X g layM A cX12_isSeen 5 0 0 Z post) (k5 : ∀ (y1 y2 y3 y4 : Int32) (M : Mem), R5 y1 y2 y3 y4 M → At X g layM A 5 0 0 Z 5 [(0, .ref (ad g 0)), (1, .int y1), (2, .int y2), (3, .int y3), (4, .int y4)] [] M) (x1 x2 x4 s0 : Int32) (M : Mem) (h : P_M_isSeen_44 post R5 x1 x2 x4 s0 M) : At X g layM A 5 0 0 Z 44 [(0, .ref (ad g 0)), (1, .int x1), (2, .int x2), (4, .int x4)] [.int s0] M := by
  refine a_istore_n C (tk T_cX12_isSeen 24 rfl) (by decide) ?_
  refine a_iinc C (1 : Int32) (tk T_cX12_isSeen 25 rfl) rfl kI_1 (by decide) ?_
  refine a_goto C 5 (tk T_cX12_isSeen 26 rfl) rfl ?_
  exact a_to (k5 x1 x2 s0 (x4 + (1 : Int32)) M h) rfl
def P_M_isSeen_43 (post : Int32 → Mem → Prop) (R5 : Int32 → Int32 → Int32 → Int32 → Mem → Prop) (x1 x2 x4 : Int32) (M : Mem) : Prop :=
  P_M_isSeen_44 post R5 x1 x2 x4 (0 : Int32) M
theorem k_M_isSeen_43 {X : FX} {g : GT} {A : Nat → Prop} {Z : State → Prop} {post : Int32 → Mem → Prop} {R5 : Int32 → Int32 → Int32 → Int32 → Mem → Prop} (C : Cx X g layM A cX12_isSeen 5 RX12 2) (hr : 0 ≤ X.2.2.2.1.cells ∧ 0 ≤ X.2.2.2.1.slots) (hR : RetZ X g layM A cX12_isSeen 5 0 0 Z post) (k5 : ∀ (y1 y2 y3 y4 : Int32) (M : Mem), R5 y1 y2 y3 y4 M → At X g layM A 5 0 0 Z 5 [(0, .ref (ad g 0)), (1, .int y1), (2, .int y2), (3, .int y3), (4, .int y4)] [] M) (x1 x2 x4 : Int32) (M : Mem) (h : P_M_isSeen_43 post R5 x1 x2 x4 M) : At X g layM A 5 0 0 Z 43 [(0, .ref (ad g 0)), (1, .int x1), (2, .int x2), (4, .int x4)] [] M := by
  refine a_iconst C (0 : Int32) (tk T_cX12_isSeen 23 rfl) kI_0 ?_
  exact a_to (k_M_isSeen_44 C hr hR k5 x1 x2 x4 (0 : Int32) M h) rfl
def P_M_isSeen_39 (post : Int32 → Mem → Prop) (R5 : Int32 → Int32 → Int32 → Int32 → Mem → Prop) (x1 x2 x4 : Int32) (M : Mem) : Prop :=
  P_M_isSeen_44 post R5 x1 x2 x4 (1 : Int32) M
theorem k_M_isSeen_39 {X : FX} {g : GT} {A : Nat → Prop} {Z : State → Prop} {post : Int32 → Mem → Prop} {R5 : Int32 → Int32 → Int32 → Int32 → Mem → Prop} (C : Cx X g layM A cX12_isSeen 5 RX12 2) (hr : 0 ≤ X.2.2.2.1.cells ∧ 0 ≤ X.2.2.2.1.slots) (hR : RetZ X g layM A cX12_isSeen 5 0 0 Z post) (k5 : ∀ (y1 y2 y3 y4 : Int32) (M : Mem), R5 y1 y2 y3 y4 M → At X g layM A 5 0 0 Z 5 [(0, .ref (ad g 0)), (1, .int y1), (2, .int y2), (3, .int y3), (4, .int y4)] [] M) (x1 x2 x4 : Int32) (M : Mem) (h : P_M_isSeen_39 post R5 x1 x2 x4 M) : At X g layM A 5 0 0 Z 39 [(0, .ref (ad g 0)), (1, .int x1), (2, .int x2), (4, .int x4)] [] M := by
  refine a_iconst C (1 : Int32) (tk T_cX12_isSeen 21 rfl) kI_1 ?_
  refine a_goto C 44 (tk T_cX12_isSeen 22 rfl) rfl ?_
  exact a_to (k_M_isSeen_44 C hr hR k5 x1 x2 x4 (1 : Int32) M h) rfl
def P_M_isSeen_5 (post : Int32 → Mem → Prop) : Nat → Int32 → Int32 → Int32 → Int32 → Mem → Prop
  | 0, _, _, _, _, _ => False
  | n + 1, x1, x2, x3, x4, M =>
    P_M_readings (fun r1 M1 =>
  (r1 ≤ x4 → ((x3 = 0 ∨ x3 = 1) ∧ post x3 M1)) ∧
  (¬ r1 ≤ x4 → ((¬ x3 = 0 → (P_M_isSeen_39 post (P_M_isSeen_5 post n) x1 x2 x4 M1)) ∧
  (x3 = 0 → (P_M_of (fun r2 M2 =>
  (¬ r2 = x1 → (P_M_isSeen_43 post (P_M_isSeen_5 post n) x1 x2 x4 M2)) ∧
  (r2 = x1 → (P_M_isIn (fun r3 M3 =>
  (r3 = 0 → (P_M_isSeen_43 post (P_M_isSeen_5 post n) x1 x2 x4 M3)) ∧
  (¬ r3 = 0 → (P_M_isSeen_39 post (P_M_isSeen_5 post n) x1 x2 x4 M3))) x4 x2 M2))) x4 (0 : Int32) M1))))) M
theorem k_M_isSeen_5 {X : FX} {g : GT} {A : Nat → Prop} {Z : State → Prop} {post : Int32 → Mem → Prop} (C : Cx X g layM A cX12_isSeen 5 RX12 2) (hr : 0 ≤ X.2.2.2.1.cells ∧ 0 ≤ X.2.2.2.1.slots) (hR : RetZ X g layM A cX12_isSeen 5 0 0 Z post) : ∀ (n : Nat) (x1 x2 x3 x4 : Int32) (M : Mem), P_M_isSeen_5 post n x1 x2 x3 x4 M → At X g layM A 5 0 0 Z 5 [(0, .ref (ad g 0)), (1, .int x1), (2, .int x2), (3, .int x3), (4, .int x4)] [] M := by
  intro n
  induction n with
  | zero =>
    intro x1 x2 x3 x4 M h
    exact h.elim
  | succ n ih =>
    intro x1 x2 x3 x4 M h
    refine a_iload C (tk T_cX12_isSeen 4 rfl) rfl ?_
    refine a_aload_n C (tk T_cX12_isSeen 5 rfl) rfl ?_
    refine a_callI C [] me_yX12_readings lk_RX12_128 (ct_M_readings h) (by decide) lm0 rfl rfl rfl (Nat.le_of_ble_eq_true rfl) (tk T_cX12_isSeen 6 rfl) hr (fun r1 M1 h => ?_)
    refine a_icmp_ge C 51 (tk T_cX12_isSeen 7 rfl) rfl (fun c => ?_) (fun c => ?_)
    · have h := h.1 c
      refine a_iload_n C (tk T_cX12_isSeen 27 rfl) rfl ?_
      exact hR _ _ _ _ (tk T_cX12_isSeen 28 rfl) h
    · have h := h.2 c
      refine a_iload_n C (tk T_cX12_isSeen 8 rfl) rfl ?_
      refine a_if_ne C 39 (tk T_cX12_isSeen 9 rfl) rfl (fun c => ?_) (fun c => ?_)
      · have h := h.1 c
        exact a_to (k_M_isSeen_39 C hr hR ih x1 x2 x4 M1 h) rfl
      · have h := h.2 c
        refine a_aload_n C (tk T_cX12_isSeen 10 rfl) rfl ?_
        refine a_iload C (tk T_cX12_isSeen 11 rfl) rfl ?_
        refine a_iconst C (0 : Int32) (tk T_cX12_isSeen 12 rfl) kI_0 ?_
        refine a_callI C [.int x4, .int (0 : Int32)] me_yX12_of lk_RX12_132 (ct_M_of h) (by decide) lm0 rfl rfl rfl (Nat.le_of_ble_eq_true rfl) (tk T_cX12_isSeen 13 rfl) hr (fun r2 M2 h => ?_)
        refine a_iload_n C (tk T_cX12_isSeen 14 rfl) rfl ?_
        refine a_icmp_ne C 43 (tk T_cX12_isSeen 15 rfl) rfl (fun c => ?_) (fun c => ?_)
        · have h := h.1 c
          exact a_to (k_M_isSeen_43 C hr hR ih x1 x2 x4 M2 h) rfl
        · have h := h.2 c
          refine a_aload_n C (tk T_cX12_isSeen 16 rfl) rfl ?_
          refine a_iload C (tk T_cX12_isSeen 17 rfl) rfl ?_
          refine a_iload_n C (tk T_cX12_isSeen 18 rfl) rfl ?_
          refine a_callI C [.int x4, .int x2] me_yX12_isIn lk_RX12_178 (ct_M_isIn h) (by decide) lm0 rfl rfl rfl (Nat.le_of_ble_eq_true rfl) (tk T_cX12_isSeen 19 rfl) hr (fun r3 M3 h => ?_)
          refine a_if_eq C 43 (tk T_cX12_isSeen 20 rfl) rfl (fun c => ?_) (fun c => ?_)
          · have h := h.1 c
            exact a_to (k_M_isSeen_43 C hr hR ih x1 x2 x4 M3 h) rfl
          · have h := h.2 c
            exact a_to (k_M_isSeen_39 C hr hR ih x1 x2 x4 M3 h) rfl
def P_M_isSeen (post : Int32 → Mem → Prop) (x1 x2 : Int32) (M : Mem) : Prop :=
  ∃ j5, P_M_isSeen_5 post j5 x1 x2 (0 : Int32) (0 : Int32) M
theorem k_M_isSeen {X : FX} {g : GT} {A : Nat → Prop} {Z : State → Prop} {post : Int32 → Mem → Prop} (C : Cx X g layM A cX12_isSeen 5 RX12 2) (hr : 0 ≤ X.2.2.2.1.cells ∧ 0 ≤ X.2.2.2.1.slots) (hR : RetZ X g layM A cX12_isSeen 5 0 0 Z post) (x1 x2 : Int32) (M : Mem) (h : P_M_isSeen post x1 x2 M) : At X g layM A 5 0 0 Z 0 [(0, .ref (ad g 0)), (1, .int x1), (2, .int x2)] [] M := by
  refine a_iconst C (0 : Int32) (tk T_cX12_isSeen 0 rfl) kI_0 ?_
  refine a_istore_n C (tk T_cX12_isSeen 1 rfl) (by decide) ?_
  refine a_iconst C (0 : Int32) (tk T_cX12_isSeen 2 rfl) kI_0 ?_
  refine a_istore C (tk T_cX12_isSeen 3 rfl) (by decide) ?_
  obtain ⟨n1, h⟩ := h
  exact a_to (k_M_isSeen_5 C hr hR n1 x1 x2 (0 : Int32) (0 : Int32) M h) rfl
theorem ct_M_isSeen {l : Launch} {g : GT} {post : Int32 → Mem → Prop} {x1 x2 : Int32} {M : Mem} (h : P_M_isSeen post x1 x2 M) : CI l g layM yX12_isSeen cX12_isSeen 5 (some .boolean) 2 [.ref (ad g 0), .int x1, .int x2] M post :=
  cz_of (plainFor_of_name (by decide +kernel)) (Nat.le_of_ble_eq_true rfl) rfl (fun X A Z hl C hr hR => by subst hl; exact k_M_isSeen C hr hR x1 x2 M h)
