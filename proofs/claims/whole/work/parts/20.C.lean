def T_cX3_sharedBitsL : List (Nat × Instr × Nat) := [(0, .aload_n 0, 1), (1, .getfield 38, 3), (4, .getfield 123, 3), (7, .iload_n 1, 1), (8, .invokevirtual 152, 3), (11, .istore_n 2, 1), (12, .iconst 0, 1), (13, .istore_n 3, 1), (14, .iconst 0, 1), (15, .istore 4, 2), (17, .iconst 0, 1), (18, .istore 5, 2), (20, .iload 5, 2), (22, .aload_n 0, 1), (23, .getfield 38, 3), (26, .getfield 123, 3), (29, .getfield 127, 3), (32, .if_icmp .ge 45, 3), (35, .iload_n 2, 1), (36, .iload 5, 2), (38, .invokestatic 132, 3), (41, .ifCond .eq 30, 3), (44, .aload_n 0, 1), (45, .iconst 1, 1), (46, .iload 5, 2), (48, .ishl, 1), (49, .iconst 0, 1), (50, .invokevirtual 155, 3), (53, .iload 4, 2), (55, .iload_n 3, 1), (56, .aload_n 0, 1), (57, .getfield 117, 3), (60, .iand, 1), (61, .ior, 1), (62, .istore 4, 2), (64, .iload_n 3, 1), (65, .aload_n 0, 1), (66, .getfield 117, 3), (69, .ior, 1), (70, .istore_n 3, 1), (71, .iinc 5 1, 3), (74, .goto (-54), 3), (77, .iload 4, 2), (79, .ireturn, 1)]
theorem T_cX3_sharedBits : tabOK cX3_sharedBits T_cX3_sharedBitsL = true := by decide +kernel
def P_Judge_sharedBits_71 (post : Int32 → Mem → Prop) (R20 : Int32 → Int32 → Int32 → Int32 → Mem → Prop) (x2 x3 x4 x5 : Int32) (M : Mem) : Prop :=
  R20 x2 x3 x4 (x5 + (1 : Int32)) M
theorem k_Judge_sharedBits_71 {X : FX} {g : GT} {ext : List CD} {A : Nat → Prop} {Z : State → Prop} {post : Int32 → Mem → Prop} {R20 : Int32 → Int32 → Int32 → Int32 → Mem → Prop} (C : Cx X g (layC ++ ext) A cX3_sharedBits 6 RX3 3) (hr : 0 ≤ X.2.2.2.1.cells ∧ 0 ≤ X.2.2.2.1.slots) (hR : RetI X g (layC ++ ext) A cX3_sharedBits 6 0 0 Z post) (k20 : ∀ (y2 y3 y4 y5 : Int32) (M : Mem), R20 y2 y3 y4 y5 M → At X g (layC ++ ext) A 6 0 0 Z 20 [(0, .ref (ad g 69)), (2, .int y2), (3, .int y3), (4, .int y4), (5, .int y5)] [] M) (x2 x3 x4 x5 : Int32) (M : Mem) (h : P_Judge_sharedBits_71 post R20 x2 x3 x4 x5 M) : At X g (layC ++ ext) A 6 0 0 Z 71 [(0, .ref (ad g 69)), (2, .int x2), (3, .int x3), (4, .int x4), (5, .int x5)] [] M := by
  refine a_iinc C (1 : Int32) (tk T_cX3_sharedBits 40 rfl) rfl kI_1 (by decide) rfl ?_
  refine a_goto C 20 (tk T_cX3_sharedBits 41 rfl) rfl ?_
  exact a_to (k20 x2 x3 x4 (x5 + (1 : Int32)) M h) rfl
def P_Judge_sharedBits_20 (post : Int32 → Mem → Prop) : Nat → Int32 → Int32 → Int32 → Int32 → Mem → Prop
  | 0, _, _, _, _, _ => False
  | n + 1, x2, x3, x4, x5, M =>
    ((M 13 4) ≤ x5 → (post x4 M)) ∧
  (¬ (M 13 4) ≤ x5 → (P_R_has (fun r1 M1 =>
  (r1 = 0 → (P_Judge_sharedBits_71 post (P_Judge_sharedBits_20 post n) x2 x3 x4 x5 M1)) ∧
  (¬ r1 = 0 → (P_Judge_survey (fun M2 =>
  ∀ x4_3, x4_3 = (x4 ||| (x3 &&& (M2 69 13))) → ∀ x3_4, x3_4 = (x3 ||| (M2 69 13)) → P_Judge_sharedBits_71 post (P_Judge_sharedBits_20 post n) x2 x3_4 x4_3 x5 M2) ((1 : Int32) <<< (x5 &&& 31)) (0 : Int32) M1))) x2 x5 M))
theorem k_Judge_sharedBits_20 {X : FX} {g : GT} {ext : List CD} {A : Nat → Prop} {Z : State → Prop} {post : Int32 → Mem → Prop} (C : Cx X g (layC ++ ext) A cX3_sharedBits 6 RX3 3) (hr : 0 ≤ X.2.2.2.1.cells ∧ 0 ≤ X.2.2.2.1.slots) (hR : RetI X g (layC ++ ext) A cX3_sharedBits 6 0 0 Z post) : ∀ (n : Nat) (x2 x3 x4 x5 : Int32) (M : Mem), P_Judge_sharedBits_20 post n x2 x3 x4 x5 M → At X g (layC ++ ext) A 6 0 0 Z 20 [(0, .ref (ad g 69)), (2, .int x2), (3, .int x3), (4, .int x4), (5, .int x5)] [] M := by
  intro n
  induction n with
  | zero =>
    intro x2 x3 x4 x5 M h
    exact h.elim
  | succ n ih =>
    intro x2 x3 x4 x5 M h
    refine a_iload C (tk T_cX3_sharedBits 12 rfl) rfl ?_
    refine a_aload_n C (tk T_cX3_sharedBits 13 rfl) rfl ?_
    refine a_getR C f_RX3_38 (tk T_cX3_sharedBits 14 rfl) lc69 rfl ?_
    refine a_getR C f_RX3_123 (tk T_cX3_sharedBits 15 rfl) lc1 rfl ?_
    refine a_getI C f_RX3_127 (tk T_cX3_sharedBits 16 rfl) lc13 rfl ?_
    refine a_icmp_ge C 77 (tk T_cX3_sharedBits 17 rfl) rfl (fun c => ?_) (fun c => ?_)
    · have h := h.1 c
      refine a_iload C (tk T_cX3_sharedBits 42 rfl) rfl ?_
      exact hR _ _ _ _ (tk T_cX3_sharedBits 43 rfl) h
    · have h := h.2 c
      refine a_iload_n C (tk T_cX3_sharedBits 18 rfl) rfl ?_
      refine a_iload C (tk T_cX3_sharedBits 19 rfl) rfl ?_
      refine a_nestI C [.int x2, .int x5] me_yX11_has lk_RX3_132 (ct_R_has h) (by decide) rfl rfl (Nat.le_of_ble_eq_true rfl) (tk T_cX3_sharedBits 20 rfl) hr (fun r1 M1 h => ?_)
      refine a_if_eq C 71 (tk T_cX3_sharedBits 21 rfl) rfl (fun c => ?_) (fun c => ?_)
      · have h := h.1 c
        exact a_to (k_Judge_sharedBits_71 C hr hR ih x2 x3 x4 x5 M1 h) rfl
      · have h := h.2 c
        refine a_aload_n C (tk T_cX3_sharedBits 22 rfl) rfl ?_
        refine a_iconst C (1 : Int32) (tk T_cX3_sharedBits 23 rfl) kI_1 ?_
        refine a_iload C (tk T_cX3_sharedBits 24 rfl) rfl ?_
        refine a_ishl C (tk T_cX3_sharedBits 25 rfl) ?_
        refine a_iconst C (0 : Int32) (tk T_cX3_sharedBits 26 rfl) kI_0 ?_
        refine a_callV C [.int ((1 : Int32) <<< (x5 &&& 31)), .int (0 : Int32)] me_yX3_survey lk_RX3_155 (ct_Judge_survey h) (by decide) lc69 rfl rfl rfl (Nat.le_of_ble_eq_true rfl) (tk T_cX3_sharedBits 27 rfl) hr (fun M2 h => ?_)
        refine a_iload C (tk T_cX3_sharedBits 28 rfl) rfl ?_
        refine a_iload_n C (tk T_cX3_sharedBits 29 rfl) rfl ?_
        refine a_aload_n C (tk T_cX3_sharedBits 30 rfl) rfl ?_
        refine a_getI C f_RX3_117 (tk T_cX3_sharedBits 31 rfl) lc69 rfl ?_
        refine a_iand C (tk T_cX3_sharedBits 32 rfl) ?_
        refine a_ior C (tk T_cX3_sharedBits 33 rfl) ?_
        refine a_top (fun x4_3 e_x4_3 => ?_)
        have h := h x4_3 e_x4_3
        refine a_istore C (tk T_cX3_sharedBits 34 rfl) (by decide) rfl ?_
        refine a_iload_n C (tk T_cX3_sharedBits 35 rfl) rfl ?_
        refine a_aload_n C (tk T_cX3_sharedBits 36 rfl) rfl ?_
        refine a_getI C f_RX3_117 (tk T_cX3_sharedBits 37 rfl) lc69 rfl ?_
        refine a_ior C (tk T_cX3_sharedBits 38 rfl) ?_
        refine a_top (fun x3_4 e_x3_4 => ?_)
        have h := h x3_4 e_x3_4
        refine a_istore_n C (tk T_cX3_sharedBits 39 rfl) (by decide) rfl ?_
        exact a_to (k_Judge_sharedBits_71 C hr hR ih x2 x3_4 x4_3 x5 M2 h) rfl
def P_Judge_sharedBits (post : Int32 → Mem → Prop) (x1 : Int32) (M : Mem) : Prop :=
  P_Table_withAir (fun r1 M1 =>
  ∃ j20, P_Judge_sharedBits_20 post j20 r1 (0 : Int32) (0 : Int32) (0 : Int32) M1) x1 M
theorem k_Judge_sharedBits {X : FX} {g : GT} {ext : List CD} {A : Nat → Prop} {Z : State → Prop} {post : Int32 → Mem → Prop} (C : Cx X g (layC ++ ext) A cX3_sharedBits 6 RX3 3) (hr : 0 ≤ X.2.2.2.1.cells ∧ 0 ≤ X.2.2.2.1.slots) (hR : RetI X g (layC ++ ext) A cX3_sharedBits 6 0 0 Z post) (x1 : Int32) (M : Mem) (h : P_Judge_sharedBits post x1 M) : At X g (layC ++ ext) A 6 0 0 Z 0 [(0, .ref (ad g 69)), (1, .int x1)] [] M := by
  refine a_aload_n C (tk T_cX3_sharedBits 0 rfl) rfl ?_
  refine a_getR C f_RX3_38 (tk T_cX3_sharedBits 1 rfl) lc69 rfl ?_
  refine a_getR C f_RX3_123 (tk T_cX3_sharedBits 2 rfl) lc1 rfl ?_
  refine a_iload_n C (tk T_cX3_sharedBits 3 rfl) rfl ?_
  refine a_callI C [.int x1] me_yX10_withAir lk_RX3_152 (ct_Table_withAir h) (by decide) lc13 rfl rfl rfl (Nat.le_of_ble_eq_true rfl) (tk T_cX3_sharedBits 4 rfl) hr (fun r1 M1 h => ?_)
  refine a_istore_n C (tk T_cX3_sharedBits 5 rfl) (by decide) rfl ?_
  refine a_iconst C (0 : Int32) (tk T_cX3_sharedBits 6 rfl) kI_0 ?_
  refine a_istore_n C (tk T_cX3_sharedBits 7 rfl) (by decide) rfl ?_
  refine a_iconst C (0 : Int32) (tk T_cX3_sharedBits 8 rfl) kI_0 ?_
  refine a_istore C (tk T_cX3_sharedBits 9 rfl) (by decide) rfl ?_
  refine a_iconst C (0 : Int32) (tk T_cX3_sharedBits 10 rfl) kI_0 ?_
  refine a_istore C (tk T_cX3_sharedBits 11 rfl) (by decide) rfl ?_
  obtain ⟨n1, h⟩ := h
  exact a_to (k_Judge_sharedBits_20 C hr hR n1 r1 (0 : Int32) (0 : Int32) (0 : Int32) M1 h) rfl
theorem ct_Judge_sharedBits {l : Launch} {g : GT} {ext : List CD} {post : Int32 → Mem → Prop} {x1 : Int32} {M : Mem} (h : P_Judge_sharedBits post x1 M) : CI l g (layC ++ ext) yX3_sharedBits cX3_sharedBits 6 (some .int) 3 [.ref (ad g 69), .int x1] M post :=
  ci_of (plainFor_of_name (by decide +kernel)) (Nat.le_of_ble_eq_true rfl) (fun X A Z hl C hr hR => by subst hl; exact k_Judge_sharedBits C hr hR x1 M h)
def T_cX3_meetingL : List (Nat × Instr × Nat) := [(0, .iconst 0, 1), (1, .istore_n 3, 1), (2, .iconst 0, 1), (3, .istore 4, 2), (5, .iload 4, 2), (7, .aload_n 0, 1), (8, .getfield 38, 3), (11, .getfield 61, 3), (14, .getfield 67, 3), (17, .if_icmp .ge 47, 3), (20, .aload_n 0, 1), (21, .iload 4, 2), (23, .invokevirtual 221, 3), (26, .ifCond .eq 32, 3), (29, .aload_n 0, 1), (30, .getfield 9, 3), (33, .iload 4, 2), (35, .iaload, 1), (36, .iload_n 2, 1), (37, .if_icmp .gt 21, 3), (40, .iload_n 1, 1), (41, .aload_n 0, 1), (42, .getfield 15, 3), (45, .iload 4, 2), (47, .iaload, 1), (48, .if_icmp .gt 10, 3), (51, .iload_n 3, 1), (52, .iconst 1, 1), (53, .iload 4, 2), (55, .ishl, 1), (56, .ior, 1), (57, .istore_n 3, 1), (58, .iinc 4 1, 3), (61, .goto (-56), 3), (64, .iload_n 3, 1), (65, .ireturn, 1)]
theorem T_cX3_meeting : tabOK cX3_meeting T_cX3_meetingL = true := by decide +kernel
def P_Judge_meeting_58 (post : Int32 → Mem → Prop) (R5 : Int32 → Int32 → Int32 → Int32 → Mem → Prop) (x1 x2 x3 x4 : Int32) (M : Mem) : Prop :=
  R5 x1 x2 x3 (x4 + (1 : Int32)) M
theorem k_Judge_meeting_58 {X : FX} {g : GT} {ext : List CD} {A : Nat → Prop} {Z : State → Prop} {post : Int32 → Mem → Prop} {R5 : Int32 → Int32 → Int32 → Int32 → Mem → Prop} (C : Cx X g (layC ++ ext) A cX3_meeting 5 RX3 1) (hr : 0 ≤ X.2.2.2.1.cells ∧ 0 ≤ X.2.2.2.1.slots) (hR : RetI X g (layC ++ ext) A cX3_meeting 5 0 0 Z post) (k5 : ∀ (y1 y2 y3 y4 : Int32) (M : Mem), R5 y1 y2 y3 y4 M → At X g (layC ++ ext) A 5 0 0 Z 5 [(0, .ref (ad g 69)), (1, .int y1), (2, .int y2), (3, .int y3), (4, .int y4)] [] M) (x1 x2 x3 x4 : Int32) (M : Mem) (h : P_Judge_meeting_58 post R5 x1 x2 x3 x4 M) : At X g (layC ++ ext) A 5 0 0 Z 58 [(0, .ref (ad g 69)), (1, .int x1), (2, .int x2), (3, .int x3), (4, .int x4)] [] M := by
  refine a_iinc C (1 : Int32) (tk T_cX3_meeting 32 rfl) rfl kI_1 (by decide) rfl ?_
  refine a_goto C 5 (tk T_cX3_meeting 33 rfl) rfl ?_
  exact a_to (k5 x1 x2 x3 (x4 + (1 : Int32)) M h) rfl
def P_Judge_meeting_5 (post : Int32 → Mem → Prop) : Nat → Int32 → Int32 → Int32 → Int32 → Mem → Prop
  | 0, _, _, _, _, _ => False
  | n + 1, x1, x2, x3, x4, M =>
    ((M 18 11) ≤ x4 → (post x3 M)) ∧
  (¬ (M 18 11) ≤ x4 → (P_Judge_hasSpan (fun r1 M1 =>
  (r1 = 0 → (P_Judge_meeting_58 post (P_Judge_meeting_5 post n) x1 x2 x3 x4 M1)) ∧
  (¬ r1 = 0 → (vp_in x4 24 ∧ (x2 < (M1 70 x4.toNatClampNeg) → (P_Judge_meeting_58 post (P_Judge_meeting_5 post n) x1 x2 x3 x4 M1)) ∧
  (¬ x2 < (M1 70 x4.toNatClampNeg) → (vp_in x4 24 ∧ ((M1 71 x4.toNatClampNeg) < x1 → (P_Judge_meeting_58 post (P_Judge_meeting_5 post n) x1 x2 x3 x4 M1)) ∧
  (¬ (M1 71 x4.toNatClampNeg) < x1 → (∀ x3_2, x3_2 = (x3 ||| ((1 : Int32) <<< (x4 &&& 31))) → P_Judge_meeting_58 post (P_Judge_meeting_5 post n) x1 x2 x3_2 x4 M1))))))) x4 M))
theorem k_Judge_meeting_5 {X : FX} {g : GT} {ext : List CD} {A : Nat → Prop} {Z : State → Prop} {post : Int32 → Mem → Prop} (C : Cx X g (layC ++ ext) A cX3_meeting 5 RX3 1) (hr : 0 ≤ X.2.2.2.1.cells ∧ 0 ≤ X.2.2.2.1.slots) (hR : RetI X g (layC ++ ext) A cX3_meeting 5 0 0 Z post) : ∀ (n : Nat) (x1 x2 x3 x4 : Int32) (M : Mem), P_Judge_meeting_5 post n x1 x2 x3 x4 M → At X g (layC ++ ext) A 5 0 0 Z 5 [(0, .ref (ad g 69)), (1, .int x1), (2, .int x2), (3, .int x3), (4, .int x4)] [] M := by
  intro n
  induction n with
  | zero =>
    intro x1 x2 x3 x4 M h
    exact h.elim
  | succ n ih =>
    intro x1 x2 x3 x4 M h
    refine a_iload C (tk T_cX3_meeting 4 rfl) rfl ?_
    refine a_aload_n C (tk T_cX3_meeting 5 rfl) rfl ?_
    refine a_getR C f_RX3_38 (tk T_cX3_meeting 6 rfl) lc69 rfl ?_
    refine a_getR C f_RX3_61 (tk T_cX3_meeting 7 rfl) lc1 rfl ?_
    refine a_getI C f_RX3_67 (tk T_cX3_meeting 8 rfl) lc18 rfl ?_
    refine a_icmp_ge C 64 (tk T_cX3_meeting 9 rfl) rfl (fun c => ?_) (fun c => ?_)
    · have h := h.1 c
      refine a_iload_n C (tk T_cX3_meeting 34 rfl) rfl ?_
      exact hR _ _ _ _ (tk T_cX3_meeting 35 rfl) h
    · have h := h.2 c
      refine a_aload_n C (tk T_cX3_meeting 10 rfl) rfl ?_
      refine a_iload C (tk T_cX3_meeting 11 rfl) rfl ?_
      refine a_callI C [.int x4] me_yX3_hasSpan lk_RX3_221 (ct_Judge_hasSpan h) (by decide) lc69 rfl rfl rfl (Nat.le_of_ble_eq_true rfl) (tk T_cX3_meeting 12 rfl) hr (fun r1 M1 h => ?_)
      refine a_if_eq C 58 (tk T_cX3_meeting 13 rfl) rfl (fun c => ?_) (fun c => ?_)
      · have h := h.1 c
        exact a_to (k_Judge_meeting_58 C hr hR ih x1 x2 x3 x4 M1 h) rfl
      · have h := h.2 c
        refine a_aload_n C (tk T_cX3_meeting 14 rfl) rfl ?_
        refine a_getR C f_RX3_9 (tk T_cX3_meeting 15 rfl) lc69 rfl ?_
        refine a_iload C (tk T_cX3_meeting 16 rfl) rfl ?_
        obtain ⟨hb, h⟩ := h
        refine a_iald C (tk T_cX3_meeting 17 rfl) lc70 hb ?_
        refine a_iload_n C (tk T_cX3_meeting 18 rfl) rfl ?_
        refine a_icmp_gt C 58 (tk T_cX3_meeting 19 rfl) rfl (fun c => ?_) (fun c => ?_)
        · have h := h.1 c
          exact a_to (k_Judge_meeting_58 C hr hR ih x1 x2 x3 x4 M1 h) rfl
        · have h := h.2 c
          refine a_iload_n C (tk T_cX3_meeting 20 rfl) rfl ?_
          refine a_aload_n C (tk T_cX3_meeting 21 rfl) rfl ?_
          refine a_getR C f_RX3_15 (tk T_cX3_meeting 22 rfl) lc69 rfl ?_
          refine a_iload C (tk T_cX3_meeting 23 rfl) rfl ?_
          obtain ⟨hb, h⟩ := h
          refine a_iald C (tk T_cX3_meeting 24 rfl) lc71 hb ?_
          refine a_icmp_gt C 58 (tk T_cX3_meeting 25 rfl) rfl (fun c => ?_) (fun c => ?_)
          · have h := h.1 c
            exact a_to (k_Judge_meeting_58 C hr hR ih x1 x2 x3 x4 M1 h) rfl
          · have h := h.2 c
            refine a_iload_n C (tk T_cX3_meeting 26 rfl) rfl ?_
            refine a_iconst C (1 : Int32) (tk T_cX3_meeting 27 rfl) kI_1 ?_
            refine a_iload C (tk T_cX3_meeting 28 rfl) rfl ?_
            refine a_ishl C (tk T_cX3_meeting 29 rfl) ?_
            refine a_ior C (tk T_cX3_meeting 30 rfl) ?_
            refine a_top (fun x3_2 e_x3_2 => ?_)
            have h := h x3_2 e_x3_2
            refine a_istore_n C (tk T_cX3_meeting 31 rfl) (by decide) rfl ?_
            exact a_to (k_Judge_meeting_58 C hr hR ih x1 x2 x3_2 x4 M1 h) rfl
def P_Judge_meeting (post : Int32 → Mem → Prop) (x1 x2 : Int32) (M : Mem) : Prop :=
  ∃ j5, P_Judge_meeting_5 post j5 x1 x2 (0 : Int32) (0 : Int32) M
theorem k_Judge_meeting {X : FX} {g : GT} {ext : List CD} {A : Nat → Prop} {Z : State → Prop} {post : Int32 → Mem → Prop} (C : Cx X g (layC ++ ext) A cX3_meeting 5 RX3 1) (hr : 0 ≤ X.2.2.2.1.cells ∧ 0 ≤ X.2.2.2.1.slots) (hR : RetI X g (layC ++ ext) A cX3_meeting 5 0 0 Z post) (x1 x2 : Int32) (M : Mem) (h : P_Judge_meeting post x1 x2 M) : At X g (layC ++ ext) A 5 0 0 Z 0 [(0, .ref (ad g 69)), (1, .int x1), (2, .int x2)] [] M := by
  refine a_iconst C (0 : Int32) (tk T_cX3_meeting 0 rfl) kI_0 ?_
  refine a_istore_n C (tk T_cX3_meeting 1 rfl) (by decide) rfl ?_
  refine a_iconst C (0 : Int32) (tk T_cX3_meeting 2 rfl) kI_0 ?_
  refine a_istore C (tk T_cX3_meeting 3 rfl) (by decide) rfl ?_
  obtain ⟨n1, h⟩ := h
  exact a_to (k_Judge_meeting_5 C hr hR n1 x1 x2 (0 : Int32) (0 : Int32) M h) rfl
theorem ct_Judge_meeting {l : Launch} {g : GT} {ext : List CD} {post : Int32 → Mem → Prop} {x1 x2 : Int32} {M : Mem} (h : P_Judge_meeting post x1 x2 M) : CI l g (layC ++ ext) yX3_meeting cX3_meeting 5 (some .int) 1 [.ref (ad g 69), .int x1, .int x2] M post :=
  ci_of (plainFor_of_name (by decide +kernel)) (Nat.le_of_ble_eq_true rfl) (fun X A Z hl C hr hR => by subst hl; exact k_Judge_meeting C hr hR x1 x2 M h)
def T_cX3_alikeBitsL : List (Nat × Instr × Nat) := [(0, .iconst 0, 1), (1, .istore_n 2, 1), (2, .iconst 0, 1), (3, .istore_n 3, 1), (4, .iload_n 3, 1), (5, .aload_n 0, 1), (6, .getfield 38, 3), (9, .getfield 61, 3), (12, .getfield 67, 3), (15, .if_icmp .ge 101, 3), (18, .aload_n 0, 1), (19, .getfield 38, 3), (22, .getfield 61, 3), (25, .getfield 76, 3), (28, .iload_n 3, 1), (29, .iaload, 1), (30, .iload_n 1, 1), (31, .if_icmp .ne 79, 3), (34, .aload_n 0, 1), (35, .getfield 42, 3), (38, .aload_n 0, 1), (39, .getfield 38, 3), (42, .getfield 86, 3), (45, .aload_n 0, 1), (46, .getfield 38, 3), (49, .getfield 61, 3), (52, .getfield 90, 3), (55, .iload_n 3, 1), (56, .iaload, 1), (57, .aload_n 0, 1), (58, .getfield 38, 3), (61, .getfield 61, 3), (64, .getfield 93, 3), (67, .iload_n 3, 1), (68, .baload, 1), (69, .invokevirtual 97, 3), (72, .invokevirtual 103, 3), (75, .istore 4, 2), (77, .iload 4, 2), (79, .iconst (-1), 1), (80, .if_icmp .eq 30, 3), (83, .iload_n 2, 1), (84, .aload_n 0, 1), (85, .aload_n 0, 1), (86, .getfield 42, 3), (89, .getfield 107, 3), (92, .iload 4, 2), (94, .iaload, 1), (95, .aload_n 0, 1), (96, .getfield 42, 3), (99, .getfield 110, 3), (102, .iload 4, 2), (104, .iaload, 1), (105, .invokevirtual 218, 3), (108, .ior, 1), (109, .istore_n 2, 1), (110, .iinc 3 1, 3), (113, .goto (-109), 3), (116, .iload_n 2, 1), (117, .ireturn, 1)]
theorem T_cX3_alikeBits : tabOK cX3_alikeBits T_cX3_alikeBitsL = true := by decide +kernel
def P_Judge_alikeBits_110 (post : Int32 → Mem → Prop) (R4 : Int32 → Int32 → Int32 → Mem → Prop) (x1 x2 x3 : Int32) (M : Mem) : Prop :=
  R4 x1 x2 (x3 + (1 : Int32)) M
theorem k_Judge_alikeBits_110 {X : FX} {g : GT} {ext : List CD} {A : Nat → Prop} {Z : State → Prop} {post : Int32 → Mem → Prop} {R4 : Int32 → Int32 → Int32 → Mem → Prop} (C : Cx X g (layC ++ ext) A cX3_alikeBits 5 RX3 4) (hr : 0 ≤ X.2.2.2.1.cells ∧ 0 ≤ X.2.2.2.1.slots) (hR : RetI X g (layC ++ ext) A cX3_alikeBits 5 0 0 Z post) (k4 : ∀ (y1 y2 y3 : Int32) (M : Mem), R4 y1 y2 y3 M → At X g (layC ++ ext) A 5 0 0 Z 4 [(0, .ref (ad g 69)), (1, .int y1), (2, .int y2), (3, .int y3)] [] M) (x1 x2 x3 : Int32) (M : Mem) (h : P_Judge_alikeBits_110 post R4 x1 x2 x3 M) : At X g (layC ++ ext) A 5 0 0 Z 110 [(0, .ref (ad g 69)), (1, .int x1), (2, .int x2), (3, .int x3)] [] M := by
  refine a_iinc C (1 : Int32) (tk T_cX3_alikeBits 56 rfl) rfl kI_1 (by decide) rfl ?_
  refine a_goto C 4 (tk T_cX3_alikeBits 57 rfl) rfl ?_
  exact a_to (k4 x1 x2 (x3 + (1 : Int32)) M h) rfl
def P_Judge_alikeBits_4 (post : Int32 → Mem → Prop) : Nat → Int32 → Int32 → Int32 → Mem → Prop
  | 0, _, _, _, _ => False
  | n + 1, x1, x2, x3, M =>
    ((M 18 11) ≤ x3 → (post x2 M)) ∧
  (¬ (M 18 11) ≤ x3 → (vp_in x3 24 ∧ (¬ (M 24 x3.toNatClampNeg) = x1 → (P_Judge_alikeBits_110 post (P_Judge_alikeBits_4 post n) x1 x2 x3 M)) ∧
  ((M 24 x3.toNatClampNeg) = x1 → (vp_in x3 24 ∧ vp_in x3 24 ∧ P_Screw_truePlace (fun r1 M1 =>
  P_Laws_slotOf (fun r2 M2 =>
  (r2 = (-1 : Int32) → (P_Judge_alikeBits_110 post (P_Judge_alikeBits_4 post n) x1 x2 x3 M2)) ∧
  (¬ r2 = (-1 : Int32) → (vp_in r2 1087 ∧ vp_in r2 1087 ∧ P_Judge_meeting (fun r3 M3 =>
  ∀ x2_4, x2_4 = (x2 ||| r3) → P_Judge_alikeBits_110 post (P_Judge_alikeBits_4 post n) x1 x2_4 x3 M3) (M2 67 r2.toNatClampNeg) (M2 68 r2.toNatClampNeg) M2))) r1 M1) (M 25 x3.toNatClampNeg) (M 26 x3.toNatClampNeg) M))))
theorem k_Judge_alikeBits_4 {X : FX} {g : GT} {ext : List CD} {A : Nat → Prop} {Z : State → Prop} {post : Int32 → Mem → Prop} (C : Cx X g (layC ++ ext) A cX3_alikeBits 5 RX3 4) (hr : 0 ≤ X.2.2.2.1.cells ∧ 0 ≤ X.2.2.2.1.slots) (hR : RetI X g (layC ++ ext) A cX3_alikeBits 5 0 0 Z post) : ∀ (n : Nat) (x1 x2 x3 : Int32) (M : Mem), P_Judge_alikeBits_4 post n x1 x2 x3 M → At X g (layC ++ ext) A 5 0 0 Z 4 [(0, .ref (ad g 69)), (1, .int x1), (2, .int x2), (3, .int x3)] [] M := by
  intro n
  induction n with
  | zero =>
    intro x1 x2 x3 M h
    exact h.elim
  | succ n ih =>
    intro x1 x2 x3 M h
    refine a_iload_n C (tk T_cX3_alikeBits 4 rfl) rfl ?_
    refine a_aload_n C (tk T_cX3_alikeBits 5 rfl) rfl ?_
    refine a_getR C f_RX3_38 (tk T_cX3_alikeBits 6 rfl) lc69 rfl ?_
    refine a_getR C f_RX3_61 (tk T_cX3_alikeBits 7 rfl) lc1 rfl ?_
    refine a_getI C f_RX3_67 (tk T_cX3_alikeBits 8 rfl) lc18 rfl ?_
    refine a_icmp_ge C 116 (tk T_cX3_alikeBits 9 rfl) rfl (fun c => ?_) (fun c => ?_)
    · have h := h.1 c
      refine a_iload_n C (tk T_cX3_alikeBits 58 rfl) rfl ?_
      exact hR _ _ _ _ (tk T_cX3_alikeBits 59 rfl) h
    · have h := h.2 c
      refine a_aload_n C (tk T_cX3_alikeBits 10 rfl) rfl ?_
      refine a_getR C f_RX3_38 (tk T_cX3_alikeBits 11 rfl) lc69 rfl ?_
      refine a_getR C f_RX3_61 (tk T_cX3_alikeBits 12 rfl) lc1 rfl ?_
      refine a_getR C f_RX3_76 (tk T_cX3_alikeBits 13 rfl) lc18 rfl ?_
      refine a_iload_n C (tk T_cX3_alikeBits 14 rfl) rfl ?_
      obtain ⟨hb, h⟩ := h
      refine a_iald C (tk T_cX3_alikeBits 15 rfl) lc24 hb ?_
      refine a_iload_n C (tk T_cX3_alikeBits 16 rfl) rfl ?_
      refine a_icmp_ne C 110 (tk T_cX3_alikeBits 17 rfl) rfl (fun c => ?_) (fun c => ?_)
      · have h := h.1 c
        exact a_to (k_Judge_alikeBits_110 C hr hR ih x1 x2 x3 M h) rfl
      · have h := h.2 c
        refine a_aload_n C (tk T_cX3_alikeBits 18 rfl) rfl ?_
        refine a_getR C f_RX3_42 (tk T_cX3_alikeBits 19 rfl) lc69 rfl ?_
        refine a_aload_n C (tk T_cX3_alikeBits 20 rfl) rfl ?_
        refine a_getR C f_RX3_38 (tk T_cX3_alikeBits 21 rfl) lc69 rfl ?_
        refine a_getR C f_RX3_86 (tk T_cX3_alikeBits 22 rfl) lc1 rfl ?_
        refine a_aload_n C (tk T_cX3_alikeBits 23 rfl) rfl ?_
        refine a_getR C f_RX3_38 (tk T_cX3_alikeBits 24 rfl) lc69 rfl ?_
        refine a_getR C f_RX3_61 (tk T_cX3_alikeBits 25 rfl) lc1 rfl ?_
        refine a_getR C f_RX3_90 (tk T_cX3_alikeBits 26 rfl) lc18 rfl ?_
        refine a_iload_n C (tk T_cX3_alikeBits 27 rfl) rfl ?_
        obtain ⟨hb, h⟩ := h
        refine a_iald C (tk T_cX3_alikeBits 28 rfl) lc25 hb ?_
        refine a_aload_n C (tk T_cX3_alikeBits 29 rfl) rfl ?_
        refine a_getR C f_RX3_38 (tk T_cX3_alikeBits 30 rfl) lc69 rfl ?_
        refine a_getR C f_RX3_61 (tk T_cX3_alikeBits 31 rfl) lc1 rfl ?_
        refine a_getR C f_RX3_93 (tk T_cX3_alikeBits 32 rfl) lc18 rfl ?_
        refine a_iload_n C (tk T_cX3_alikeBits 33 rfl) rfl ?_
        obtain ⟨hb, h⟩ := h
        refine a_zald C (tk T_cX3_alikeBits 34 rfl) lc26 hb ?_
        refine a_callI C [.int (M 25 x3.toNatClampNeg), .int (M 26 x3.toNatClampNeg)] me_yX8_truePlace lk_RX3_97 (ct_Screw_truePlace h) (by decide) lc2 rfl rfl rfl (Nat.le_of_ble_eq_true rfl) (tk T_cX3_alikeBits 35 rfl) hr (fun r1 M1 h => ?_)
        refine a_callI C [.int r1] me_yX5_slotOf lk_RX3_103 (ct_Laws_slotOf h) (by decide) lc63 rfl rfl rfl (Nat.le_of_ble_eq_true rfl) (tk T_cX3_alikeBits 36 rfl) hr (fun r2 M2 h => ?_)
        refine a_istore C (tk T_cX3_alikeBits 37 rfl) (by decide) rfl ?_
        refine a_iload C (tk T_cX3_alikeBits 38 rfl) rfl ?_
        refine a_iconst C (-1 : Int32) (tk T_cX3_alikeBits 39 rfl) kI_m1 ?_
        refine a_icmp_eq C 110 (tk T_cX3_alikeBits 40 rfl) rfl (fun c => ?_) (fun c => ?_)
        · have h := h.1 c
          exact a_to (k_Judge_alikeBits_110 C hr hR ih x1 x2 x3 M2 h) rfl
        · have h := h.2 c
          refine a_iload_n C (tk T_cX3_alikeBits 41 rfl) rfl ?_
          refine a_aload_n C (tk T_cX3_alikeBits 42 rfl) rfl ?_
          refine a_aload_n C (tk T_cX3_alikeBits 43 rfl) rfl ?_
          refine a_getR C f_RX3_42 (tk T_cX3_alikeBits 44 rfl) lc69 rfl ?_
          refine a_getR C f_RX3_107 (tk T_cX3_alikeBits 45 rfl) lc63 rfl ?_
          refine a_iload C (tk T_cX3_alikeBits 46 rfl) rfl ?_
          obtain ⟨hb, h⟩ := h
          refine a_iald C (tk T_cX3_alikeBits 47 rfl) lc67 hb ?_
          refine a_aload_n C (tk T_cX3_alikeBits 48 rfl) rfl ?_
          refine a_getR C f_RX3_42 (tk T_cX3_alikeBits 49 rfl) lc69 rfl ?_
          refine a_getR C f_RX3_110 (tk T_cX3_alikeBits 50 rfl) lc63 rfl ?_
          refine a_iload C (tk T_cX3_alikeBits 51 rfl) rfl ?_
          obtain ⟨hb, h⟩ := h
          refine a_iald C (tk T_cX3_alikeBits 52 rfl) lc68 hb ?_
          refine a_callI C [.int (M2 67 r2.toNatClampNeg), .int (M2 68 r2.toNatClampNeg)] me_yX3_meeting lk_RX3_218 (ct_Judge_meeting h) (by decide) lc69 rfl rfl rfl (Nat.le_of_ble_eq_true rfl) (tk T_cX3_alikeBits 53 rfl) hr (fun r3 M3 h => ?_)
          refine a_ior C (tk T_cX3_alikeBits 54 rfl) ?_
          refine a_top (fun x2_4 e_x2_4 => ?_)
          have h := h x2_4 e_x2_4
          refine a_istore_n C (tk T_cX3_alikeBits 55 rfl) (by decide) rfl ?_
          exact a_to (k_Judge_alikeBits_110 C hr hR ih x1 x2_4 x3 M3 h) rfl
def P_Judge_alikeBits (post : Int32 → Mem → Prop) (x1 : Int32) (M : Mem) : Prop :=
  ∃ j4, P_Judge_alikeBits_4 post j4 x1 (0 : Int32) (0 : Int32) M
theorem k_Judge_alikeBits {X : FX} {g : GT} {ext : List CD} {A : Nat → Prop} {Z : State → Prop} {post : Int32 → Mem → Prop} (C : Cx X g (layC ++ ext) A cX3_alikeBits 5 RX3 4) (hr : 0 ≤ X.2.2.2.1.cells ∧ 0 ≤ X.2.2.2.1.slots) (hR : RetI X g (layC ++ ext) A cX3_alikeBits 5 0 0 Z post) (x1 : Int32) (M : Mem) (h : P_Judge_alikeBits post x1 M) : At X g (layC ++ ext) A 5 0 0 Z 0 [(0, .ref (ad g 69)), (1, .int x1)] [] M := by
  refine a_iconst C (0 : Int32) (tk T_cX3_alikeBits 0 rfl) kI_0 ?_
  refine a_istore_n C (tk T_cX3_alikeBits 1 rfl) (by decide) rfl ?_
  refine a_iconst C (0 : Int32) (tk T_cX3_alikeBits 2 rfl) kI_0 ?_
  refine a_istore_n C (tk T_cX3_alikeBits 3 rfl) (by decide) rfl ?_
  obtain ⟨n1, h⟩ := h
  exact a_to (k_Judge_alikeBits_4 C hr hR n1 x1 (0 : Int32) (0 : Int32) M h) rfl
theorem ct_Judge_alikeBits {l : Launch} {g : GT} {ext : List CD} {post : Int32 → Mem → Prop} {x1 : Int32} {M : Mem} (h : P_Judge_alikeBits post x1 M) : CI l g (layC ++ ext) yX3_alikeBits cX3_alikeBits 5 (some .int) 4 [.ref (ad g 69), .int x1] M post :=
  ci_of (plainFor_of_name (by decide +kernel)) (Nat.le_of_ble_eq_true rfl) (fun X A Z hl C hr hR => by subst hl; exact k_Judge_alikeBits C hr hR x1 M h)
def T_cX3_putStarL : List (Nat × Instr × Nat) := [(0, .iconst 0, 1), (1, .istore_n 3, 1), (2, .iload_n 3, 1), (3, .bipush 101, 2), (5, .if_icmp .ge 42, 3), (8, .iload_n 3, 1), (9, .aload_n 1, 1), (10, .arraylength, 1), (11, .if_icmp .ge 36, 3), (14, .aload_n 0, 1), (15, .iload_n 2, 1), (16, .iload_n 3, 1), (17, .bipush 50, 2), (19, .isub, 1), (20, .invokevirtual 155, 3), (23, .aload_n 1, 1), (24, .iload_n 3, 1), (25, .aload_n 0, 1), (26, .getfield 120, 3), (29, .ifCond .le 7, 3), (32, .iconst (-1), 1), (33, .goto 7, 3), (36, .aload_n 0, 1), (37, .getfield 117, 3), (40, .iastore, 1), (41, .iinc 3 1, 3), (44, .goto (-42), 3), (47, .return_, 1)]
theorem T_cX3_putStar : tabOK cX3_putStar T_cX3_putStarL = true := by decide +kernel
def P_Judge_putStar_47 (post : Mem → Prop) (M : Mem) : Prop :=
  post M
theorem k_Judge_putStar_47 {X : FX} {g : GT} {ext : List CD} {A : Nat → Prop} {Z : State → Prop} {post : Mem → Prop} (C : Cx X g (layC ++ ext) A cX3_putStar 4 RX3 3) (hr : 0 ≤ X.2.2.2.1.cells ∧ 0 ≤ X.2.2.2.1.slots) (hR : RetV X g (layC ++ ext) A cX3_putStar 4 0 0 Z post)  (M : Mem) (h : P_Judge_putStar_47 post M) : At X g (layC ++ ext) A 4 0 0 Z 47 [] [] M := by
  exact hR _ _ _ (tk T_cX3_putStar 27 rfl) h
def P_Judge_putStar_40 (post : Mem → Prop) (R2 : Int32 → Int32 → Mem → Prop) (x2 x3 s1 s2 : Int32) (M : Mem) : Prop :=
  vp_in s1 101 ∧ ∀ M1, M1 = ms M 75 s1.toNatClampNeg s2 → R2 x2 (x3 + (1 : Int32)) M1
theorem k_Judge_putStar_40 {X : FX} {g : GT} {ext : List CD} {A : Nat → Prop} {Z : State → Prop} {post : Mem → Prop} {R2 : Int32 → Int32 → Mem → Prop} (C : Cx X g (layC ++ ext) A cX3_putStar 4 RX3 3) (hr : 0 ≤ X.2.2.2.1.cells ∧ 0 ≤ X.2.2.2.1.slots) (hR : RetV X g (layC ++ ext) A cX3_putStar 4 0 0 Z post) (k2 : ∀ (y2 y3 : Int32) (M : Mem), R2 y2 y3 M → At X g (layC ++ ext) A 4 0 0 Z 2 [(0, .ref (ad g 69)), (1, .ref (ad g 75)), (2, .int y2), (3, .int y3)] [] M) (x2 x3 s1 s2 : Int32) (M : Mem) (h : P_Judge_putStar_40 post R2 x2 x3 s1 s2 M) : At X g (layC ++ ext) A 4 0 0 Z 40 [(0, .ref (ad g 69)), (1, .ref (ad g 75)), (2, .int x2), (3, .int x3)] [.int s2, .int s1, .ref (ad g 75)] M := by
  obtain ⟨hb, h⟩ := h
  refine a_iast C (tk T_cX3_putStar 24 rfl) lc75 hb ?_
  refine a_mem (fun M1 e_M1 => ?_)
  have h := h M1 e_M1
  refine a_iinc C (1 : Int32) (tk T_cX3_putStar 25 rfl) rfl kI_1 (by decide) rfl ?_
  refine a_goto C 2 (tk T_cX3_putStar 26 rfl) rfl ?_
  exact a_to (k2 x2 (x3 + (1 : Int32)) M1 h) rfl
def P_Judge_putStar_2 (post : Mem → Prop) : Nat → Int32 → Int32 → Mem → Prop
  | 0, _, _, _ => False
  | n + 1, x2, x3, M =>
    ((101 : Int32) ≤ x3 → (P_Judge_putStar_47 post M)) ∧
  (¬ (101 : Int32) ≤ x3 → (((101 : Int32) ≤ x3 → (P_Judge_putStar_47 post M)) ∧
  (¬ (101 : Int32) ≤ x3 → (P_Judge_survey (fun M1 =>
  ((M1 69 14) ≤ 0 → (P_Judge_putStar_40 post (P_Judge_putStar_2 post n) x2 x3 x3 (M1 69 13) M1)) ∧
  (¬ (M1 69 14) ≤ 0 → (P_Judge_putStar_40 post (P_Judge_putStar_2 post n) x2 x3 x3 (-1 : Int32) M1))) x2 (x3 - (50 : Int32)) M))))
theorem k_Judge_putStar_2 {X : FX} {g : GT} {ext : List CD} {A : Nat → Prop} {Z : State → Prop} {post : Mem → Prop} (C : Cx X g (layC ++ ext) A cX3_putStar 4 RX3 3) (hr : 0 ≤ X.2.2.2.1.cells ∧ 0 ≤ X.2.2.2.1.slots) (hR : RetV X g (layC ++ ext) A cX3_putStar 4 0 0 Z post) : ∀ (n : Nat) (x2 x3 : Int32) (M : Mem), P_Judge_putStar_2 post n x2 x3 M → At X g (layC ++ ext) A 4 0 0 Z 2 [(0, .ref (ad g 69)), (1, .ref (ad g 75)), (2, .int x2), (3, .int x3)] [] M := by
  intro n
  induction n with
  | zero =>
    intro x2 x3 M h
    exact h.elim
  | succ n ih =>
    intro x2 x3 M h
    refine a_iload_n C (tk T_cX3_putStar 2 rfl) rfl ?_
    refine a_bipush C (101 : Int32) (tk T_cX3_putStar 3 rfl) kB_101 ?_
    refine a_icmp_ge C 47 (tk T_cX3_putStar 4 rfl) rfl (fun c => ?_) (fun c => ?_)
    · have h := h.1 c
      exact a_to (k_Judge_putStar_47 C hr hR M h) rfl
    · have h := h.2 c
      refine a_iload_n C (tk T_cX3_putStar 5 rfl) rfl ?_
      refine a_aload_n C (tk T_cX3_putStar 6 rfl) rfl ?_
      refine a_alen0 C (tk T_cX3_putStar 7 rfl) lc75 rfl ?_
      refine a_icmp_ge C 47 (tk T_cX3_putStar 8 rfl) rfl (fun c => ?_) (fun c => ?_)
      · have h := h.1 c
        exact a_to (k_Judge_putStar_47 C hr hR M h) rfl
      · have h := h.2 c
        refine a_aload_n C (tk T_cX3_putStar 9 rfl) rfl ?_
        refine a_iload_n C (tk T_cX3_putStar 10 rfl) rfl ?_
        refine a_iload_n C (tk T_cX3_putStar 11 rfl) rfl ?_
        refine a_bipush C (50 : Int32) (tk T_cX3_putStar 12 rfl) kB_50 ?_
        refine a_isub C (tk T_cX3_putStar 13 rfl) ?_
        refine a_callV C [.int x2, .int (x3 - (50 : Int32))] me_yX3_survey lk_RX3_155 (ct_Judge_survey h) (by decide) lc69 rfl rfl rfl (Nat.le_of_ble_eq_true rfl) (tk T_cX3_putStar 14 rfl) hr (fun M1 h => ?_)
        refine a_aload_n C (tk T_cX3_putStar 15 rfl) rfl ?_
        refine a_iload_n C (tk T_cX3_putStar 16 rfl) rfl ?_
        refine a_aload_n C (tk T_cX3_putStar 17 rfl) rfl ?_
        refine a_getI C f_RX3_120 (tk T_cX3_putStar 18 rfl) lc69 rfl ?_
        refine a_if_le C 36 (tk T_cX3_putStar 19 rfl) rfl (fun c => ?_) (fun c => ?_)
        · have h := h.1 c
          refine a_aload_n C (tk T_cX3_putStar 22 rfl) rfl ?_
          refine a_getI C f_RX3_117 (tk T_cX3_putStar 23 rfl) lc69 rfl ?_
          exact a_to (k_Judge_putStar_40 C hr hR ih x2 x3 x3 (M1 69 13) M1 h) rfl
        · have h := h.2 c
          refine a_iconst C (-1 : Int32) (tk T_cX3_putStar 20 rfl) kI_m1 ?_
          refine a_goto C 40 (tk T_cX3_putStar 21 rfl) rfl ?_
          exact a_to (k_Judge_putStar_40 C hr hR ih x2 x3 x3 (-1 : Int32) M1 h) rfl
def P_Judge_putStar (post : Mem → Prop) (x2 : Int32) (M : Mem) : Prop :=
  ∃ j2, P_Judge_putStar_2 post j2 x2 (0 : Int32) M
theorem k_Judge_putStar {X : FX} {g : GT} {ext : List CD} {A : Nat → Prop} {Z : State → Prop} {post : Mem → Prop} (C : Cx X g (layC ++ ext) A cX3_putStar 4 RX3 3) (hr : 0 ≤ X.2.2.2.1.cells ∧ 0 ≤ X.2.2.2.1.slots) (hR : RetV X g (layC ++ ext) A cX3_putStar 4 0 0 Z post) (x2 : Int32) (M : Mem) (h : P_Judge_putStar post x2 M) : At X g (layC ++ ext) A 4 0 0 Z 0 [(0, .ref (ad g 69)), (1, .ref (ad g 75)), (2, .int x2)] [] M := by
  refine a_iconst C (0 : Int32) (tk T_cX3_putStar 0 rfl) kI_0 ?_
  refine a_istore_n C (tk T_cX3_putStar 1 rfl) (by decide) rfl ?_
  obtain ⟨n1, h⟩ := h
  exact a_to (k_Judge_putStar_2 C hr hR n1 x2 (0 : Int32) M h) rfl
theorem ct_Judge_putStar {l : Launch} {g : GT} {ext : List CD} {post : Mem → Prop} {x2 : Int32} {M : Mem} (h : P_Judge_putStar post x2 M) : CV l g (layC ++ ext) yX3_putStar cX3_putStar 4 none 3 [.ref (ad g 69), .ref (ad g 75), .int x2] M post :=
  cv_of (plainFor_of_name (by decide +kernel)) (Nat.le_of_ble_eq_true rfl) (fun X A Z hl C hr hR => by subst hl; exact k_Judge_putStar C hr hR x2 M h)
def P_Judge_putStar_69_76_47 (post : Mem → Prop) (M : Mem) : Prop :=
  post M
theorem k_Judge_putStar_69_76_47 {X : FX} {g : GT} {ext : List CD} {A : Nat → Prop} {Z : State → Prop} {post : Mem → Prop} (C : Cx X g (layC ++ ext) A cX3_putStar 4 RX3 3) (hr : 0 ≤ X.2.2.2.1.cells ∧ 0 ≤ X.2.2.2.1.slots) (hR : RetV X g (layC ++ ext) A cX3_putStar 4 0 0 Z post)  (M : Mem) (h : P_Judge_putStar_69_76_47 post M) : At X g (layC ++ ext) A 4 0 0 Z 47 [] [] M := by
  exact hR _ _ _ (tk T_cX3_putStar 27 rfl) h
def P_Judge_putStar_69_76_40 (post : Mem → Prop) (R2 : Int32 → Int32 → Mem → Prop) (x2 x3 s1 s2 : Int32) (M : Mem) : Prop :=
  vp_in s1 101 ∧ ∀ M1, M1 = ms M 76 s1.toNatClampNeg s2 → R2 x2 (x3 + (1 : Int32)) M1
theorem k_Judge_putStar_69_76_40 {X : FX} {g : GT} {ext : List CD} {A : Nat → Prop} {Z : State → Prop} {post : Mem → Prop} {R2 : Int32 → Int32 → Mem → Prop} (C : Cx X g (layC ++ ext) A cX3_putStar 4 RX3 3) (hr : 0 ≤ X.2.2.2.1.cells ∧ 0 ≤ X.2.2.2.1.slots) (hR : RetV X g (layC ++ ext) A cX3_putStar 4 0 0 Z post) (k2 : ∀ (y2 y3 : Int32) (M : Mem), R2 y2 y3 M → At X g (layC ++ ext) A 4 0 0 Z 2 [(0, .ref (ad g 69)), (1, .ref (ad g 76)), (2, .int y2), (3, .int y3)] [] M) (x2 x3 s1 s2 : Int32) (M : Mem) (h : P_Judge_putStar_69_76_40 post R2 x2 x3 s1 s2 M) : At X g (layC ++ ext) A 4 0 0 Z 40 [(0, .ref (ad g 69)), (1, .ref (ad g 76)), (2, .int x2), (3, .int x3)] [.int s2, .int s1, .ref (ad g 76)] M := by
  obtain ⟨hb, h⟩ := h
  refine a_iast C (tk T_cX3_putStar 24 rfl) lc76 hb ?_
  refine a_mem (fun M1 e_M1 => ?_)
  have h := h M1 e_M1
  refine a_iinc C (1 : Int32) (tk T_cX3_putStar 25 rfl) rfl kI_1 (by decide) rfl ?_
  refine a_goto C 2 (tk T_cX3_putStar 26 rfl) rfl ?_
  exact a_to (k2 x2 (x3 + (1 : Int32)) M1 h) rfl
def P_Judge_putStar_69_76_2 (post : Mem → Prop) : Nat → Int32 → Int32 → Mem → Prop
  | 0, _, _, _ => False
  | n + 1, x2, x3, M =>
    ((101 : Int32) ≤ x3 → (P_Judge_putStar_69_76_47 post M)) ∧
  (¬ (101 : Int32) ≤ x3 → (((101 : Int32) ≤ x3 → (P_Judge_putStar_69_76_47 post M)) ∧
  (¬ (101 : Int32) ≤ x3 → (P_Judge_survey (fun M1 =>
  ((M1 69 14) ≤ 0 → (P_Judge_putStar_69_76_40 post (P_Judge_putStar_69_76_2 post n) x2 x3 x3 (M1 69 13) M1)) ∧
  (¬ (M1 69 14) ≤ 0 → (P_Judge_putStar_69_76_40 post (P_Judge_putStar_69_76_2 post n) x2 x3 x3 (-1 : Int32) M1))) x2 (x3 - (50 : Int32)) M))))
theorem k_Judge_putStar_69_76_2 {X : FX} {g : GT} {ext : List CD} {A : Nat → Prop} {Z : State → Prop} {post : Mem → Prop} (C : Cx X g (layC ++ ext) A cX3_putStar 4 RX3 3) (hr : 0 ≤ X.2.2.2.1.cells ∧ 0 ≤ X.2.2.2.1.slots) (hR : RetV X g (layC ++ ext) A cX3_putStar 4 0 0 Z post) : ∀ (n : Nat) (x2 x3 : Int32) (M : Mem), P_Judge_putStar_69_76_2 post n x2 x3 M → At X g (layC ++ ext) A 4 0 0 Z 2 [(0, .ref (ad g 69)), (1, .ref (ad g 76)), (2, .int x2), (3, .int x3)] [] M := by
  intro n
  induction n with
  | zero =>
    intro x2 x3 M h
    exact h.elim
  | succ n ih =>
    intro x2 x3 M h
    refine a_iload_n C (tk T_cX3_putStar 2 rfl) rfl ?_
    refine a_bipush C (101 : Int32) (tk T_cX3_putStar 3 rfl) kB_101 ?_
    refine a_icmp_ge C 47 (tk T_cX3_putStar 4 rfl) rfl (fun c => ?_) (fun c => ?_)
    · have h := h.1 c
      exact a_to (k_Judge_putStar_69_76_47 C hr hR M h) rfl
    · have h := h.2 c
      refine a_iload_n C (tk T_cX3_putStar 5 rfl) rfl ?_
      refine a_aload_n C (tk T_cX3_putStar 6 rfl) rfl ?_
      refine a_alen0 C (tk T_cX3_putStar 7 rfl) lc76 rfl ?_
      refine a_icmp_ge C 47 (tk T_cX3_putStar 8 rfl) rfl (fun c => ?_) (fun c => ?_)
      · have h := h.1 c
        exact a_to (k_Judge_putStar_69_76_47 C hr hR M h) rfl
      · have h := h.2 c
        refine a_aload_n C (tk T_cX3_putStar 9 rfl) rfl ?_
        refine a_iload_n C (tk T_cX3_putStar 10 rfl) rfl ?_
        refine a_iload_n C (tk T_cX3_putStar 11 rfl) rfl ?_
        refine a_bipush C (50 : Int32) (tk T_cX3_putStar 12 rfl) kB_50 ?_
        refine a_isub C (tk T_cX3_putStar 13 rfl) ?_
        refine a_callV C [.int x2, .int (x3 - (50 : Int32))] me_yX3_survey lk_RX3_155 (ct_Judge_survey h) (by decide) lc69 rfl rfl rfl (Nat.le_of_ble_eq_true rfl) (tk T_cX3_putStar 14 rfl) hr (fun M1 h => ?_)
        refine a_aload_n C (tk T_cX3_putStar 15 rfl) rfl ?_
        refine a_iload_n C (tk T_cX3_putStar 16 rfl) rfl ?_
        refine a_aload_n C (tk T_cX3_putStar 17 rfl) rfl ?_
        refine a_getI C f_RX3_120 (tk T_cX3_putStar 18 rfl) lc69 rfl ?_
        refine a_if_le C 36 (tk T_cX3_putStar 19 rfl) rfl (fun c => ?_) (fun c => ?_)
        · have h := h.1 c
          refine a_aload_n C (tk T_cX3_putStar 22 rfl) rfl ?_
          refine a_getI C f_RX3_117 (tk T_cX3_putStar 23 rfl) lc69 rfl ?_
          exact a_to (k_Judge_putStar_69_76_40 C hr hR ih x2 x3 x3 (M1 69 13) M1 h) rfl
        · have h := h.2 c
          refine a_iconst C (-1 : Int32) (tk T_cX3_putStar 20 rfl) kI_m1 ?_
          refine a_goto C 40 (tk T_cX3_putStar 21 rfl) rfl ?_
          exact a_to (k_Judge_putStar_69_76_40 C hr hR ih x2 x3 x3 (-1 : Int32) M1 h) rfl
def P_Judge_putStar_69_76 (post : Mem → Prop) (x2 : Int32) (M : Mem) : Prop :=
  ∃ j2, P_Judge_putStar_69_76_2 post j2 x2 (0 : Int32) M
theorem k_Judge_putStar_69_76 {X : FX} {g : GT} {ext : List CD} {A : Nat → Prop} {Z : State → Prop} {post : Mem → Prop} (C : Cx X g (layC ++ ext) A cX3_putStar 4 RX3 3) (hr : 0 ≤ X.2.2.2.1.cells ∧ 0 ≤ X.2.2.2.1.slots) (hR : RetV X g (layC ++ ext) A cX3_putStar 4 0 0 Z post) (x2 : Int32) (M : Mem) (h : P_Judge_putStar_69_76 post x2 M) : At X g (layC ++ ext) A 4 0 0 Z 0 [(0, .ref (ad g 69)), (1, .ref (ad g 76)), (2, .int x2)] [] M := by
  refine a_iconst C (0 : Int32) (tk T_cX3_putStar 0 rfl) kI_0 ?_
  refine a_istore_n C (tk T_cX3_putStar 1 rfl) (by decide) rfl ?_
  obtain ⟨n1, h⟩ := h
  exact a_to (k_Judge_putStar_69_76_2 C hr hR n1 x2 (0 : Int32) M h) rfl
theorem ct_Judge_putStar_69_76 {l : Launch} {g : GT} {ext : List CD} {post : Mem → Prop} {x2 : Int32} {M : Mem} (h : P_Judge_putStar_69_76 post x2 M) : CV l g (layC ++ ext) yX3_putStar cX3_putStar 4 none 3 [.ref (ad g 69), .ref (ad g 76), .int x2] M post :=
  cv_of (plainFor_of_name (by decide +kernel)) (Nat.le_of_ble_eq_true rfl) (fun X A Z hl C hr hR => by subst hl; exact k_Judge_putStar_69_76 C hr hR x2 M h)
def T_cX3_pairStarsL : List (Nat × Instr × Nat) := [(0, .aload_n 0, 1), (1, .aload_n 0, 1), (2, .getfield 38, 3), (5, .getfield 123, 3), (8, .invokevirtual 224, 3), (11, .iconst 0, 1), (12, .invokevirtual 155, 3), (15, .aload_n 0, 1), (16, .getfield 55, 3), (19, .aload_n 0, 1), (20, .getfield 58, 3), (23, .iconst (-1), 1), (24, .ixor, 1), (25, .iand, 1), (26, .aload_n 0, 1), (27, .getfield 117, 3), (30, .iconst (-1), 1), (31, .ixor, 1), (32, .iand, 1), (33, .istore 4, 2), (35, .aload_n 0, 1), (36, .getfield 120, 3), (39, .ifCond .ne 7, 3), (42, .iconst 1, 1), (43, .goto 4, 3), (46, .iconst 0, 1), (47, .istore 5, 2), (49, .aload_n 0, 1), (50, .aload_n 0, 1), (51, .getfield 27, 3), (54, .aload_n 0, 1), (55, .getfield 38, 3), (58, .getfield 123, 3), (61, .iload_n 1, 1), (62, .invokevirtual 165, 3), (65, .invokevirtual 228, 3), (68, .aload_n 0, 1), (69, .aload_n 0, 1), (70, .getfield 30, 3), (73, .aload_n 0, 1), (74, .getfield 38, 3), (77, .getfield 123, 3), (80, .iload_n 2, 1), (81, .invokevirtual 165, 3), (84, .invokevirtual 228, 3), (87, .iconst 0, 1), (88, .istore 6, 2), (90, .iconst 0, 1), (91, .istore 7, 2), (93, .iload 5, 2), (95, .ifCond .eq 102, 3), (98, .iload 7, 2), (100, .bipush 101, 2), (102, .if_icmp .ge 95, 3), (105, .iconst 0, 1), (106, .istore 8, 2), (108, .aload_n 0, 1), (109, .getfield 27, 3), (112, .iload 7, 2), (114, .iaload, 1), (115, .iconst (-1), 1), (116, .if_icmp .eq 75, 3), (119, .iload 8, 2), (121, .bipush 101, 2), (123, .if_icmp .ge 68, 3), (126, .aload_n 0, 1), (127, .getfield 30, 3), (130, .iload 8, 2), (132, .iaload, 1), (133, .iconst (-1), 1), (134, .if_icmp .eq 51, 3), (137, .iload 4, 2), (139, .aload_n 0, 1), (140, .getfield 27, 3), (143, .iload 7, 2), (145, .iaload, 1), (146, .iconst (-1), 1), (147, .ixor, 1), (148, .iand, 1), (149, .aload_n 0, 1), (150, .getfield 30, 3), (153, .iload 8, 2), (155, .iaload, 1), (156, .iconst (-1), 1), (157, .ixor, 1), (158, .iand, 1), (159, .ifCond .ne 26, 3), (162, .iload_n 3, 1), (163, .ifCond .eq 19, 3), (166, .iload_n 3, 1), (167, .iconst 1, 1), (168, .if_icmp .ne 8, 3), (171, .iload 7, 2), (173, .goto 5, 3), (176, .iload 8, 2), (178, .bipush 50, 2), (180, .isub, 1), (181, .ireturn, 1), (182, .iinc 6 1, 3), (185, .iinc 8 1, 3), (188, .goto (-80), 3), (191, .iinc 7 1, 3), (194, .goto (-101), 3), (197, .iload_n 3, 1), (198, .ifCond .ne 8, 3), (201, .iload 6, 2), (203, .goto 5, 3), (206, .bipush 99, 2), (208, .ireturn, 1)]
theorem T_cX3_pairStars : tabOK cX3_pairStars T_cX3_pairStarsL = true := by decide +kernel
def P_Judge_pairStars_208 (post : Int32 → Mem → Prop) (s0 : Int32) (M : Mem) : Prop :=
  post s0 M
theorem k_Judge_pairStars_208 {X : FX} {g : GT} {ext : List CD} {A : Nat → Prop} {Z : State → Prop} {post : Int32 → Mem → Prop} (C : Cx X g (layC ++ ext) A cX3_pairStars 9 RX3 4) (hr : 0 ≤ X.2.2.2.1.cells ∧ 0 ≤ X.2.2.2.1.slots) (hR : RetI X g (layC ++ ext) A cX3_pairStars 9 0 0 Z post) (s0 : Int32) (M : Mem) (h : P_Judge_pairStars_208 post s0 M) : At X g (layC ++ ext) A 9 0 0 Z 208 [] [.int s0] M := by
  exact hR _ _ _ _ (tk T_cX3_pairStars 108 rfl) h
def P_Judge_pairStars_197 (post : Int32 → Mem → Prop) (x3 x6 : Int32) (M : Mem) : Prop :=
  (¬ x3 = 0 → (P_Judge_pairStars_208 post (99 : Int32) M)) ∧
  (x3 = 0 → (P_Judge_pairStars_208 post x6 M))
theorem k_Judge_pairStars_197 {X : FX} {g : GT} {ext : List CD} {A : Nat → Prop} {Z : State → Prop} {post : Int32 → Mem → Prop} (C : Cx X g (layC ++ ext) A cX3_pairStars 9 RX3 4) (hr : 0 ≤ X.2.2.2.1.cells ∧ 0 ≤ X.2.2.2.1.slots) (hR : RetI X g (layC ++ ext) A cX3_pairStars 9 0 0 Z post) (x3 x6 : Int32) (M : Mem) (h : P_Judge_pairStars_197 post x3 x6 M) : At X g (layC ++ ext) A 9 0 0 Z 197 [(3, .int x3), (6, .int x6)] [] M := by
  refine a_iload_n C (tk T_cX3_pairStars 103 rfl) rfl ?_
  refine a_if_ne C 206 (tk T_cX3_pairStars 104 rfl) rfl (fun c => ?_) (fun c => ?_)
  · have h := h.1 c
    refine a_bipush C (99 : Int32) (tk T_cX3_pairStars 107 rfl) kB_99 ?_
    exact a_to (k_Judge_pairStars_208 C hr hR (99 : Int32) M h) rfl
  · have h := h.2 c
    refine a_iload C (tk T_cX3_pairStars 105 rfl) rfl ?_
    refine a_goto C 208 (tk T_cX3_pairStars 106 rfl) rfl ?_
    exact a_to (k_Judge_pairStars_208 C hr hR x6 M h) rfl
def P_Judge_pairStars_191 (post : Int32 → Mem → Prop) (R93 : Int32 → Int32 → Int32 → Int32 → Int32 → Mem → Prop) (x3 x4 x5 x6 x7 : Int32) (M : Mem) : Prop :=
  R93 x3 x4 x5 x6 (x7 + (1 : Int32)) M
theorem k_Judge_pairStars_191 {X : FX} {g : GT} {ext : List CD} {A : Nat → Prop} {Z : State → Prop} {post : Int32 → Mem → Prop} {R93 : Int32 → Int32 → Int32 → Int32 → Int32 → Mem → Prop} (C : Cx X g (layC ++ ext) A cX3_pairStars 9 RX3 4) (hr : 0 ≤ X.2.2.2.1.cells ∧ 0 ≤ X.2.2.2.1.slots) (hR : RetI X g (layC ++ ext) A cX3_pairStars 9 0 0 Z post) (k93 : ∀ (y3 y4 y5 y6 y7 : Int32) (M : Mem), R93 y3 y4 y5 y6 y7 M → At X g (layC ++ ext) A 9 0 0 Z 93 [(0, .ref (ad g 69)), (3, .int y3), (4, .int y4), (5, .int y5), (6, .int y6), (7, .int y7)] [] M) (x3 x4 x5 x6 x7 : Int32) (M : Mem) (h : P_Judge_pairStars_191 post R93 x3 x4 x5 x6 x7 M) : At X g (layC ++ ext) A 9 0 0 Z 191 [(0, .ref (ad g 69)), (3, .int x3), (4, .int x4), (5, .int x5), (6, .int x6), (7, .int x7)] [] M := by
  refine a_iinc C (1 : Int32) (tk T_cX3_pairStars 101 rfl) rfl kI_1 (by decide) rfl ?_
  refine a_goto C 93 (tk T_cX3_pairStars 102 rfl) rfl ?_
  exact a_to (k93 x3 x4 x5 x6 (x7 + (1 : Int32)) M h) rfl
def P_Judge_pairStars_185 (post : Int32 → Mem → Prop) (R93 : Int32 → Int32 → Int32 → Int32 → Int32 → Mem → Prop) (R108 : Int32 → Int32 → Int32 → Int32 → Int32 → Int32 → Mem → Prop) (x3 x4 x5 x6 x7 x8 : Int32) (M : Mem) : Prop :=
  R108 x3 x4 x5 x6 x7 (x8 + (1 : Int32)) M
theorem k_Judge_pairStars_185 {X : FX} {g : GT} {ext : List CD} {A : Nat → Prop} {Z : State → Prop} {post : Int32 → Mem → Prop} {R93 : Int32 → Int32 → Int32 → Int32 → Int32 → Mem → Prop} {R108 : Int32 → Int32 → Int32 → Int32 → Int32 → Int32 → Mem → Prop} (C : Cx X g (layC ++ ext) A cX3_pairStars 9 RX3 4) (hr : 0 ≤ X.2.2.2.1.cells ∧ 0 ≤ X.2.2.2.1.slots) (hR : RetI X g (layC ++ ext) A cX3_pairStars 9 0 0 Z post) (k93 : ∀ (y3 y4 y5 y6 y7 : Int32) (M : Mem), R93 y3 y4 y5 y6 y7 M → At X g (layC ++ ext) A 9 0 0 Z 93 [(0, .ref (ad g 69)), (3, .int y3), (4, .int y4), (5, .int y5), (6, .int y6), (7, .int y7)] [] M) (k108 : ∀ (y3 y4 y5 y6 y7 y8 : Int32) (M : Mem), R108 y3 y4 y5 y6 y7 y8 M → At X g (layC ++ ext) A 9 0 0 Z 108 [(0, .ref (ad g 69)), (3, .int y3), (4, .int y4), (5, .int y5), (6, .int y6), (7, .int y7), (8, .int y8)] [] M) (x3 x4 x5 x6 x7 x8 : Int32) (M : Mem) (h : P_Judge_pairStars_185 post R93 R108 x3 x4 x5 x6 x7 x8 M) : At X g (layC ++ ext) A 9 0 0 Z 185 [(0, .ref (ad g 69)), (3, .int x3), (4, .int x4), (5, .int x5), (6, .int x6), (7, .int x7), (8, .int x8)] [] M := by
  refine a_iinc C (1 : Int32) (tk T_cX3_pairStars 99 rfl) rfl kI_1 (by decide) rfl ?_
  refine a_goto C 108 (tk T_cX3_pairStars 100 rfl) rfl ?_
  exact a_to (k108 x3 x4 x5 x6 x7 (x8 + (1 : Int32)) M h) rfl
def P_Judge_pairStars_178 (post : Int32 → Mem → Prop) (R93 : Int32 → Int32 → Int32 → Int32 → Int32 → Mem → Prop) (R108 : Int32 → Int32 → Int32 → Int32 → Int32 → Int32 → Mem → Prop) (s0 : Int32) (M : Mem) : Prop :=
  post (s0 - (50 : Int32)) M
theorem k_Judge_pairStars_178 {X : FX} {g : GT} {ext : List CD} {A : Nat → Prop} {Z : State → Prop} {post : Int32 → Mem → Prop} {R93 : Int32 → Int32 → Int32 → Int32 → Int32 → Mem → Prop} {R108 : Int32 → Int32 → Int32 → Int32 → Int32 → Int32 → Mem → Prop} (C : Cx X g (layC ++ ext) A cX3_pairStars 9 RX3 4) (hr : 0 ≤ X.2.2.2.1.cells ∧ 0 ≤ X.2.2.2.1.slots) (hR : RetI X g (layC ++ ext) A cX3_pairStars 9 0 0 Z post) (k93 : ∀ (y3 y4 y5 y6 y7 : Int32) (M : Mem), R93 y3 y4 y5 y6 y7 M → At X g (layC ++ ext) A 9 0 0 Z 93 [(0, .ref (ad g 69)), (3, .int y3), (4, .int y4), (5, .int y5), (6, .int y6), (7, .int y7)] [] M) (k108 : ∀ (y3 y4 y5 y6 y7 y8 : Int32) (M : Mem), R108 y3 y4 y5 y6 y7 y8 M → At X g (layC ++ ext) A 9 0 0 Z 108 [(0, .ref (ad g 69)), (3, .int y3), (4, .int y4), (5, .int y5), (6, .int y6), (7, .int y7), (8, .int y8)] [] M) (s0 : Int32) (M : Mem) (h : P_Judge_pairStars_178 post R93 R108 s0 M) : At X g (layC ++ ext) A 9 0 0 Z 178 [] [.int s0] M := by
  refine a_bipush C (50 : Int32) (tk T_cX3_pairStars 95 rfl) kB_50 ?_
  refine a_isub C (tk T_cX3_pairStars 96 rfl) ?_
  exact hR _ _ _ _ (tk T_cX3_pairStars 97 rfl) h
def P_Judge_pairStars_108 (post : Int32 → Mem → Prop) (R93 : Int32 → Int32 → Int32 → Int32 → Int32 → Mem → Prop) : Nat → Int32 → Int32 → Int32 → Int32 → Int32 → Int32 → Mem → Prop
  | 0, _, _, _, _, _, _, _ => False
  | n + 1, x3, x4, x5, x6, x7, x8, M =>
    vp_in x7 101 ∧ ((M 75 x7.toNatClampNeg) = (-1 : Int32) → (P_Judge_pairStars_191 post R93 x3 x4 x5 x6 x7 M)) ∧
  (¬ (M 75 x7.toNatClampNeg) = (-1 : Int32) → (((101 : Int32) ≤ x8 → (P_Judge_pairStars_191 post R93 x3 x4 x5 x6 x7 M)) ∧
  (¬ (101 : Int32) ≤ x8 → (vp_in x8 101 ∧ ((M 76 x8.toNatClampNeg) = (-1 : Int32) → (P_Judge_pairStars_185 post R93 (P_Judge_pairStars_108 post R93 n) x3 x4 x5 x6 x7 x8 M)) ∧
  (¬ (M 76 x8.toNatClampNeg) = (-1 : Int32) → (vp_in x7 101 ∧ vp_in x8 101 ∧ ∀ v1, v1 = ((x4 &&& ((M 75 x7.toNatClampNeg) ^^^ (-1 : Int32))) &&& ((M 76 x8.toNatClampNeg) ^^^ (-1 : Int32))) → (¬ v1 = 0 → (P_Judge_pairStars_185 post R93 (P_Judge_pairStars_108 post R93 n) x3 x4 x5 x6 x7 x8 M)) ∧
  (v1 = 0 → ((x3 = 0 → (P_Judge_pairStars_185 post R93 (P_Judge_pairStars_108 post R93 n) x3 x4 x5 (x6 + (1 : Int32)) x7 x8 M)) ∧
  (¬ x3 = 0 → ((¬ x3 = (1 : Int32) → (P_Judge_pairStars_178 post R93 (P_Judge_pairStars_108 post R93 n) x8 M)) ∧
  (x3 = (1 : Int32) → (P_Judge_pairStars_178 post R93 (P_Judge_pairStars_108 post R93 n) x7 M))))))))))))
theorem k_Judge_pairStars_108 {X : FX} {g : GT} {ext : List CD} {A : Nat → Prop} {Z : State → Prop} {post : Int32 → Mem → Prop} {R93 : Int32 → Int32 → Int32 → Int32 → Int32 → Mem → Prop} (C : Cx X g (layC ++ ext) A cX3_pairStars 9 RX3 4) (hr : 0 ≤ X.2.2.2.1.cells ∧ 0 ≤ X.2.2.2.1.slots) (hR : RetI X g (layC ++ ext) A cX3_pairStars 9 0 0 Z post) (k93 : ∀ (y3 y4 y5 y6 y7 : Int32) (M : Mem), R93 y3 y4 y5 y6 y7 M → At X g (layC ++ ext) A 9 0 0 Z 93 [(0, .ref (ad g 69)), (3, .int y3), (4, .int y4), (5, .int y5), (6, .int y6), (7, .int y7)] [] M) : ∀ (n : Nat) (x3 x4 x5 x6 x7 x8 : Int32) (M : Mem), P_Judge_pairStars_108 post R93 n x3 x4 x5 x6 x7 x8 M → At X g (layC ++ ext) A 9 0 0 Z 108 [(0, .ref (ad g 69)), (3, .int x3), (4, .int x4), (5, .int x5), (6, .int x6), (7, .int x7), (8, .int x8)] [] M := by
  intro n
  induction n with
  | zero =>
    intro x3 x4 x5 x6 x7 x8 M h
    exact h.elim
  | succ n ih =>
    intro x3 x4 x5 x6 x7 x8 M h
    refine a_aload_n C (tk T_cX3_pairStars 56 rfl) rfl ?_
    refine a_getR C f_RX3_27 (tk T_cX3_pairStars 57 rfl) lc69 rfl ?_
    refine a_iload C (tk T_cX3_pairStars 58 rfl) rfl ?_
    obtain ⟨hb, h⟩ := h
    refine a_iald C (tk T_cX3_pairStars 59 rfl) lc75 hb ?_
    refine a_iconst C (-1 : Int32) (tk T_cX3_pairStars 60 rfl) kI_m1 ?_
    refine a_icmp_eq C 191 (tk T_cX3_pairStars 61 rfl) rfl (fun c => ?_) (fun c => ?_)
    · have h := h.1 c
      exact a_to (k_Judge_pairStars_191 C hr hR k93 x3 x4 x5 x6 x7 M h) rfl
    · have h := h.2 c
      refine a_iload C (tk T_cX3_pairStars 62 rfl) rfl ?_
      refine a_bipush C (101 : Int32) (tk T_cX3_pairStars 63 rfl) kB_101 ?_
      refine a_icmp_ge C 191 (tk T_cX3_pairStars 64 rfl) rfl (fun c => ?_) (fun c => ?_)
      · have h := h.1 c
        exact a_to (k_Judge_pairStars_191 C hr hR k93 x3 x4 x5 x6 x7 M h) rfl
      · have h := h.2 c
        refine a_aload_n C (tk T_cX3_pairStars 65 rfl) rfl ?_
        refine a_getR C f_RX3_30 (tk T_cX3_pairStars 66 rfl) lc69 rfl ?_
        refine a_iload C (tk T_cX3_pairStars 67 rfl) rfl ?_
        obtain ⟨hb, h⟩ := h
        refine a_iald C (tk T_cX3_pairStars 68 rfl) lc76 hb ?_
        refine a_iconst C (-1 : Int32) (tk T_cX3_pairStars 69 rfl) kI_m1 ?_
        refine a_icmp_eq C 185 (tk T_cX3_pairStars 70 rfl) rfl (fun c => ?_) (fun c => ?_)
        · have h := h.1 c
          exact a_to (k_Judge_pairStars_185 C hr hR k93 ih x3 x4 x5 x6 x7 x8 M h) rfl
        · have h := h.2 c
          refine a_iload C (tk T_cX3_pairStars 71 rfl) rfl ?_
          refine a_aload_n C (tk T_cX3_pairStars 72 rfl) rfl ?_
          refine a_getR C f_RX3_27 (tk T_cX3_pairStars 73 rfl) lc69 rfl ?_
          refine a_iload C (tk T_cX3_pairStars 74 rfl) rfl ?_
          obtain ⟨hb, h⟩ := h
          refine a_iald C (tk T_cX3_pairStars 75 rfl) lc75 hb ?_
          refine a_iconst C (-1 : Int32) (tk T_cX3_pairStars 76 rfl) kI_m1 ?_
          refine a_ixor C (tk T_cX3_pairStars 77 rfl) ?_
          refine a_iand C (tk T_cX3_pairStars 78 rfl) ?_
          refine a_aload_n C (tk T_cX3_pairStars 79 rfl) rfl ?_
          refine a_getR C f_RX3_30 (tk T_cX3_pairStars 80 rfl) lc69 rfl ?_
          refine a_iload C (tk T_cX3_pairStars 81 rfl) rfl ?_
          obtain ⟨hb, h⟩ := h
          refine a_iald C (tk T_cX3_pairStars 82 rfl) lc76 hb ?_
          refine a_iconst C (-1 : Int32) (tk T_cX3_pairStars 83 rfl) kI_m1 ?_
          refine a_ixor C (tk T_cX3_pairStars 84 rfl) ?_
          refine a_iand C (tk T_cX3_pairStars 85 rfl) ?_
          refine a_top (fun v1 e_v1 => ?_)
          have h := h v1 e_v1
          refine a_if_ne C 185 (tk T_cX3_pairStars 86 rfl) rfl (fun c => ?_) (fun c => ?_)
          · have h := h.1 c
            exact a_to (k_Judge_pairStars_185 C hr hR k93 ih x3 x4 x5 x6 x7 x8 M h) rfl
          · have h := h.2 c
            refine a_iload_n C (tk T_cX3_pairStars 87 rfl) rfl ?_
            refine a_if_eq C 182 (tk T_cX3_pairStars 88 rfl) rfl (fun c => ?_) (fun c => ?_)
            · have h := h.1 c
              refine a_iinc C (1 : Int32) (tk T_cX3_pairStars 98 rfl) rfl kI_1 (by decide) rfl ?_
              exact a_to (k_Judge_pairStars_185 C hr hR k93 ih x3 x4 x5 (x6 + (1 : Int32)) x7 x8 M h) rfl
            · have h := h.2 c
              refine a_iload_n C (tk T_cX3_pairStars 89 rfl) rfl ?_
              refine a_iconst C (1 : Int32) (tk T_cX3_pairStars 90 rfl) kI_1 ?_
              refine a_icmp_ne C 176 (tk T_cX3_pairStars 91 rfl) rfl (fun c => ?_) (fun c => ?_)
              · have h := h.1 c
                refine a_iload C (tk T_cX3_pairStars 94 rfl) rfl ?_
                exact a_to (k_Judge_pairStars_178 C hr hR k93 ih x8 M h) rfl
              · have h := h.2 c
                refine a_iload C (tk T_cX3_pairStars 92 rfl) rfl ?_
                refine a_goto C 178 (tk T_cX3_pairStars 93 rfl) rfl ?_
                exact a_to (k_Judge_pairStars_178 C hr hR k93 ih x7 M h) rfl
def P_Judge_pairStars_93 (post : Int32 → Mem → Prop) : Nat → Int32 → Int32 → Int32 → Int32 → Int32 → Mem → Prop
  | 0, _, _, _, _, _, _ => False
  | n + 1, x3, x4, x5, x6, x7, M =>
    (x5 = 0 → (P_Judge_pairStars_197 post x3 x6 M)) ∧
  (¬ x5 = 0 → (((101 : Int32) ≤ x7 → (P_Judge_pairStars_197 post x3 x6 M)) ∧
  (¬ (101 : Int32) ≤ x7 → (∃ j108, P_Judge_pairStars_108 post (P_Judge_pairStars_93 post n) j108 x3 x4 x5 x6 x7 (0 : Int32) M))))
theorem k_Judge_pairStars_93 {X : FX} {g : GT} {ext : List CD} {A : Nat → Prop} {Z : State → Prop} {post : Int32 → Mem → Prop} (C : Cx X g (layC ++ ext) A cX3_pairStars 9 RX3 4) (hr : 0 ≤ X.2.2.2.1.cells ∧ 0 ≤ X.2.2.2.1.slots) (hR : RetI X g (layC ++ ext) A cX3_pairStars 9 0 0 Z post) : ∀ (n : Nat) (x3 x4 x5 x6 x7 : Int32) (M : Mem), P_Judge_pairStars_93 post n x3 x4 x5 x6 x7 M → At X g (layC ++ ext) A 9 0 0 Z 93 [(0, .ref (ad g 69)), (3, .int x3), (4, .int x4), (5, .int x5), (6, .int x6), (7, .int x7)] [] M := by
  intro n
  induction n with
  | zero =>
    intro x3 x4 x5 x6 x7 M h
    exact h.elim
  | succ n ih =>
    intro x3 x4 x5 x6 x7 M h
    refine a_iload C (tk T_cX3_pairStars 49 rfl) rfl ?_
    refine a_if_eq C 197 (tk T_cX3_pairStars 50 rfl) rfl (fun c => ?_) (fun c => ?_)
    · have h := h.1 c
      exact a_to (k_Judge_pairStars_197 C hr hR x3 x6 M h) rfl
    · have h := h.2 c
      refine a_iload C (tk T_cX3_pairStars 51 rfl) rfl ?_
      refine a_bipush C (101 : Int32) (tk T_cX3_pairStars 52 rfl) kB_101 ?_
      refine a_icmp_ge C 197 (tk T_cX3_pairStars 53 rfl) rfl (fun c => ?_) (fun c => ?_)
      · have h := h.1 c
        exact a_to (k_Judge_pairStars_197 C hr hR x3 x6 M h) rfl
      · have h := h.2 c
        refine a_iconst C (0 : Int32) (tk T_cX3_pairStars 54 rfl) kI_0 ?_
        refine a_istore C (tk T_cX3_pairStars 55 rfl) (by decide) rfl ?_
        obtain ⟨n1, h⟩ := h
        exact a_to (k_Judge_pairStars_108 C hr hR ih n1 x3 x4 x5 x6 x7 (0 : Int32) M h) rfl
def P_Judge_pairStars_47 (post : Int32 → Mem → Prop) (x1 x2 x3 x4 s0 : Int32) (M : Mem) : Prop :=
  P_Table_withoutAir (fun r1 M1 =>
  P_Judge_putStar (fun M2 =>
  P_Table_withoutAir (fun r3 M3 =>
  P_Judge_putStar_69_76 (fun M4 =>
  ∃ j93, P_Judge_pairStars_93 post j93 x3 x4 s0 (0 : Int32) (0 : Int32) M4) r3 M3) x2 M2) r1 M1) x1 M
theorem k_Judge_pairStars_47 {X : FX} {g : GT} {ext : List CD} {A : Nat → Prop} {Z : State → Prop} {post : Int32 → Mem → Prop} (C : Cx X g (layC ++ ext) A cX3_pairStars 9 RX3 4) (hr : 0 ≤ X.2.2.2.1.cells ∧ 0 ≤ X.2.2.2.1.slots) (hR : RetI X g (layC ++ ext) A cX3_pairStars 9 0 0 Z post) (x1 x2 x3 x4 s0 : Int32) (M : Mem) (h : P_Judge_pairStars_47 post x1 x2 x3 x4 s0 M) : At X g (layC ++ ext) A 9 0 0 Z 47 [(0, .ref (ad g 69)), (1, .int x1), (2, .int x2), (3, .int x3), (4, .int x4)] [.int s0] M := by
  refine a_istore C (tk T_cX3_pairStars 26 rfl) (by decide) rfl ?_
  refine a_aload_n C (tk T_cX3_pairStars 27 rfl) rfl ?_
  refine a_aload_n C (tk T_cX3_pairStars 28 rfl) rfl ?_
  refine a_getR C f_RX3_27 (tk T_cX3_pairStars 29 rfl) lc69 rfl ?_
  refine a_aload_n C (tk T_cX3_pairStars 30 rfl) rfl ?_
  refine a_getR C f_RX3_38 (tk T_cX3_pairStars 31 rfl) lc69 rfl ?_
  refine a_getR C f_RX3_123 (tk T_cX3_pairStars 32 rfl) lc1 rfl ?_
  refine a_iload_n C (tk T_cX3_pairStars 33 rfl) rfl ?_
  refine a_callI C [.int x1] me_yX10_withoutAir lk_RX3_165 (ct_Table_withoutAir h) (by decide) lc13 rfl rfl rfl (Nat.le_of_ble_eq_true rfl) (tk T_cX3_pairStars 34 rfl) hr (fun r1 M1 h => ?_)
  refine a_callV C [.ref (ad g 75), .int r1] me_yX3_putStar lk_RX3_228 (ct_Judge_putStar h) (by decide) lc69 rfl rfl rfl (Nat.le_of_ble_eq_true rfl) (tk T_cX3_pairStars 35 rfl) hr (fun M2 h => ?_)
  refine a_aload_n C (tk T_cX3_pairStars 36 rfl) rfl ?_
  refine a_aload_n C (tk T_cX3_pairStars 37 rfl) rfl ?_
  refine a_getR C f_RX3_30 (tk T_cX3_pairStars 38 rfl) lc69 rfl ?_
  refine a_aload_n C (tk T_cX3_pairStars 39 rfl) rfl ?_
  refine a_getR C f_RX3_38 (tk T_cX3_pairStars 40 rfl) lc69 rfl ?_
  refine a_getR C f_RX3_123 (tk T_cX3_pairStars 41 rfl) lc1 rfl ?_
  refine a_iload_n C (tk T_cX3_pairStars 42 rfl) rfl ?_
  refine a_callI C [.int x2] me_yX10_withoutAir lk_RX3_165 (ct_Table_withoutAir h) (by decide) lc13 rfl rfl rfl (Nat.le_of_ble_eq_true rfl) (tk T_cX3_pairStars 43 rfl) hr (fun r3 M3 h => ?_)
  refine a_callV C [.ref (ad g 76), .int r3] me_yX3_putStar lk_RX3_228 (ct_Judge_putStar_69_76 h) (by decide) lc69 rfl rfl rfl (Nat.le_of_ble_eq_true rfl) (tk T_cX3_pairStars 44 rfl) hr (fun M4 h => ?_)
  refine a_iconst C (0 : Int32) (tk T_cX3_pairStars 45 rfl) kI_0 ?_
  refine a_istore C (tk T_cX3_pairStars 46 rfl) (by decide) rfl ?_
  refine a_iconst C (0 : Int32) (tk T_cX3_pairStars 47 rfl) kI_0 ?_
  refine a_istore C (tk T_cX3_pairStars 48 rfl) (by decide) rfl ?_
  obtain ⟨n1, h⟩ := h
  exact a_to (k_Judge_pairStars_93 C hr hR n1 x3 x4 s0 (0 : Int32) (0 : Int32) M4 h) rfl
def P_Judge_pairStars (post : Int32 → Mem → Prop) (x1 x2 x3 : Int32) (M : Mem) : Prop :=
  P_Table_airBits (fun r1 M1 =>
  P_Judge_survey (fun M2 =>
  ∀ v3, v3 = (((M2 69 11) &&& ((M2 69 12) ^^^ (-1 : Int32))) &&& ((M2 69 13) ^^^ (-1 : Int32))) → (¬ (M2 69 14) = 0 → (P_Judge_pairStars_47 post x1 x2 x3 v3 (0 : Int32) M2)) ∧
  ((M2 69 14) = 0 → (P_Judge_pairStars_47 post x1 x2 x3 v3 (1 : Int32) M2))) r1 (0 : Int32) M1) M
theorem k_Judge_pairStars {X : FX} {g : GT} {ext : List CD} {A : Nat → Prop} {Z : State → Prop} {post : Int32 → Mem → Prop} (C : Cx X g (layC ++ ext) A cX3_pairStars 9 RX3 4) (hr : 0 ≤ X.2.2.2.1.cells ∧ 0 ≤ X.2.2.2.1.slots) (hR : RetI X g (layC ++ ext) A cX3_pairStars 9 0 0 Z post) (x1 x2 x3 : Int32) (M : Mem) (h : P_Judge_pairStars post x1 x2 x3 M) : At X g (layC ++ ext) A 9 0 0 Z 0 [(0, .ref (ad g 69)), (1, .int x1), (2, .int x2), (3, .int x3)] [] M := by
  refine a_aload_n C (tk T_cX3_pairStars 0 rfl) rfl ?_
  refine a_aload_n C (tk T_cX3_pairStars 1 rfl) rfl ?_
  refine a_getR C f_RX3_38 (tk T_cX3_pairStars 2 rfl) lc69 rfl ?_
  refine a_getR C f_RX3_123 (tk T_cX3_pairStars 3 rfl) lc1 rfl ?_
  refine a_callI C [] me_yX10_airBits lk_RX3_224 (ct_Table_airBits h) (by decide) lc13 rfl rfl rfl (Nat.le_of_ble_eq_true rfl) (tk T_cX3_pairStars 4 rfl) hr (fun r1 M1 h => ?_)
  refine a_iconst C (0 : Int32) (tk T_cX3_pairStars 5 rfl) kI_0 ?_
  refine a_callV C [.int r1, .int (0 : Int32)] me_yX3_survey lk_RX3_155 (ct_Judge_survey h) (by decide) lc69 rfl rfl rfl (Nat.le_of_ble_eq_true rfl) (tk T_cX3_pairStars 6 rfl) hr (fun M2 h => ?_)
  refine a_aload_n C (tk T_cX3_pairStars 7 rfl) rfl ?_
  refine a_getI C f_RX3_55 (tk T_cX3_pairStars 8 rfl) lc69 rfl ?_
  refine a_aload_n C (tk T_cX3_pairStars 9 rfl) rfl ?_
  refine a_getI C f_RX3_58 (tk T_cX3_pairStars 10 rfl) lc69 rfl ?_
  refine a_iconst C (-1 : Int32) (tk T_cX3_pairStars 11 rfl) kI_m1 ?_
  refine a_ixor C (tk T_cX3_pairStars 12 rfl) ?_
  refine a_iand C (tk T_cX3_pairStars 13 rfl) ?_
  refine a_aload_n C (tk T_cX3_pairStars 14 rfl) rfl ?_
  refine a_getI C f_RX3_117 (tk T_cX3_pairStars 15 rfl) lc69 rfl ?_
  refine a_iconst C (-1 : Int32) (tk T_cX3_pairStars 16 rfl) kI_m1 ?_
  refine a_ixor C (tk T_cX3_pairStars 17 rfl) ?_
  refine a_iand C (tk T_cX3_pairStars 18 rfl) ?_
  refine a_top (fun v3 e_v3 => ?_)
  have h := h v3 e_v3
  refine a_istore C (tk T_cX3_pairStars 19 rfl) (by decide) rfl ?_
  refine a_aload_n C (tk T_cX3_pairStars 20 rfl) rfl ?_
  refine a_getI C f_RX3_120 (tk T_cX3_pairStars 21 rfl) lc69 rfl ?_
  refine a_if_ne C 46 (tk T_cX3_pairStars 22 rfl) rfl (fun c => ?_) (fun c => ?_)
  · have h := h.1 c
    refine a_iconst C (0 : Int32) (tk T_cX3_pairStars 25 rfl) kI_0 ?_
    exact a_to (k_Judge_pairStars_47 C hr hR x1 x2 x3 v3 (0 : Int32) M2 h) rfl
  · have h := h.2 c
    refine a_iconst C (1 : Int32) (tk T_cX3_pairStars 23 rfl) kI_1 ?_
    refine a_goto C 47 (tk T_cX3_pairStars 24 rfl) rfl ?_
    exact a_to (k_Judge_pairStars_47 C hr hR x1 x2 x3 v3 (1 : Int32) M2 h) rfl
theorem ct_Judge_pairStars {l : Launch} {g : GT} {ext : List CD} {post : Int32 → Mem → Prop} {x1 x2 x3 : Int32} {M : Mem} (h : P_Judge_pairStars post x1 x2 x3 M) : CI l g (layC ++ ext) yX3_pairStars cX3_pairStars 9 (some .int) 4 [.ref (ad g 69), .int x1, .int x2, .int x3] M post :=
  ci_of (plainFor_of_name (by decide +kernel)) (Nat.le_of_ble_eq_true rfl) (fun X A Z hl C hr hR => by subst hl; exact k_Judge_pairStars C hr hR x1 x2 x3 M h)
def T_cX5_forgetL : List (Nat × Instr × Nat) := [(0, .aload_n 0, 1), (1, .iconst 0, 1), (2, .putfield 31, 3), (5, .return_, 1)]
theorem T_cX5_forget : tabOK cX5_forget T_cX5_forgetL = true := by decide +kernel
def P_Laws_forget (post : Mem → Prop) (M : Mem) : Prop :=
  ∀ M1, M1 = ms M 63 12 (0 : Int32) → post M1
theorem k_Laws_forget {X : FX} {g : GT} {ext : List CD} {A : Nat → Prop} {Z : State → Prop} {post : Mem → Prop} (C : Cx X g (layC ++ ext) A cX5_forget 1 RX5 0) (hr : 0 ≤ X.2.2.2.1.cells ∧ 0 ≤ X.2.2.2.1.slots) (hR : RetV X g (layC ++ ext) A cX5_forget 1 0 0 Z post) (M : Mem) (h : P_Laws_forget post M) : At X g (layC ++ ext) A 1 0 0 Z 0 [(0, .ref (ad g 63))] [] M := by
  refine a_aload_n C (tk T_cX5_forget 0 rfl) rfl ?_
  refine a_iconst C (0 : Int32) (tk T_cX5_forget 1 rfl) kI_0 ?_
  refine a_put C f_RX5_31 f_RX5_31p (nar_z (Or.inl rfl)) (fit_z (Or.inl rfl)) (tk T_cX5_forget 2 rfl) lc63 rfl ?_
  refine a_mem (fun M1 e_M1 => ?_)
  have h := h M1 e_M1
  exact hR _ _ _ (tk T_cX5_forget 3 rfl) h
theorem ct_Laws_forget {l : Launch} {g : GT} {ext : List CD} {post : Mem → Prop} {M : Mem} (h : P_Laws_forget post M) : CV l g (layC ++ ext) yX5_forget cX5_forget 1 none 0 [.ref (ad g 63)] M post :=
  cv_of (plainFor_of_name (by decide +kernel)) (Nat.le_of_ble_eq_true rfl) (fun X A Z hl C hr hR => by subst hl; exact k_Laws_forget C hr hR  M h)
def T_cX6_isDigitL : List (Nat × Instr × Nat) := [(0, .iload_n 1, 1), (1, .ifCond .lt 31, 3), (4, .iload_n 1, 1), (5, .aload_n 0, 1), (6, .getfield 29, 3), (9, .if_icmp .ge 23, 3), (12, .aload_n 0, 1), (13, .getfield 9, 3), (16, .iload_n 1, 1), (17, .baload, 1), (18, .bipush 48, 2), (20, .bipush 57, 2), (22, .invokestatic 69, 3), (25, .ifCond .eq 7, 3), (28, .iconst 1, 1), (29, .goto 4, 3), (32, .iconst 0, 1), (33, .ireturn, 1)]
theorem T_cX6_isDigit : tabOK cX6_isDigit T_cX6_isDigitL = true := by decide +kernel
def P_Reader_isDigit_33 (post : Int32 → Mem → Prop) (s0 : Int32) (M : Mem) : Prop :=
  (s0 = 0 ∨ s0 = 1) ∧ post s0 M
theorem k_Reader_isDigit_33 {X : FX} {g : GT} {ext : List CD} {A : Nat → Prop} {Z : State → Prop} {post : Int32 → Mem → Prop} (C : Cx X g (layC ++ ext) A cX6_isDigit 2 RX6 1) (hr : 0 ≤ X.2.2.2.1.cells ∧ 0 ≤ X.2.2.2.1.slots) (hR : RetZ X g (layC ++ ext) A cX6_isDigit 2 0 0 Z post) (s0 : Int32) (M : Mem) (h : P_Reader_isDigit_33 post s0 M) : At X g (layC ++ ext) A 2 0 0 Z 33 [] [.int s0] M := by
  exact hR _ _ _ _ (tk T_cX6_isDigit 17 rfl) h
def P_Reader_isDigit_32 (post : Int32 → Mem → Prop) (M : Mem) : Prop :=
  P_Reader_isDigit_33 post (0 : Int32) M
theorem k_Reader_isDigit_32 {X : FX} {g : GT} {ext : List CD} {A : Nat → Prop} {Z : State → Prop} {post : Int32 → Mem → Prop} (C : Cx X g (layC ++ ext) A cX6_isDigit 2 RX6 1) (hr : 0 ≤ X.2.2.2.1.cells ∧ 0 ≤ X.2.2.2.1.slots) (hR : RetZ X g (layC ++ ext) A cX6_isDigit 2 0 0 Z post)  (M : Mem) (h : P_Reader_isDigit_32 post M) : At X g (layC ++ ext) A 2 0 0 Z 32 [] [] M := by
  refine a_iconst C (0 : Int32) (tk T_cX6_isDigit 16 rfl) kI_0 ?_
  exact a_to (k_Reader_isDigit_33 C hr hR (0 : Int32) M h) rfl
def P_Reader_isDigit (post : Int32 → Mem → Prop) (x1 : Int32) (M : Mem) : Prop :=
  (x1 < 0 → (P_Reader_isDigit_32 post M)) ∧
  (¬ x1 < 0 → (((M 84 4) ≤ x1 → (P_Reader_isDigit_32 post M)) ∧
  (¬ (M 84 4) ≤ x1 → (vp_in x1 400 ∧ P_R_within (fun r1 M1 =>
  (r1 = 0 → (P_Reader_isDigit_32 post M1)) ∧
  (¬ r1 = 0 → (P_Reader_isDigit_33 post (1 : Int32) M1))) (M 85 x1.toNatClampNeg) (48 : Int32) (57 : Int32) M))))
theorem k_Reader_isDigit {X : FX} {g : GT} {ext : List CD} {A : Nat → Prop} {Z : State → Prop} {post : Int32 → Mem → Prop} (C : Cx X g (layC ++ ext) A cX6_isDigit 2 RX6 1) (hr : 0 ≤ X.2.2.2.1.cells ∧ 0 ≤ X.2.2.2.1.slots) (hR : RetZ X g (layC ++ ext) A cX6_isDigit 2 0 0 Z post) (x1 : Int32) (M : Mem) (h : P_Reader_isDigit post x1 M) : At X g (layC ++ ext) A 2 0 0 Z 0 [(0, .ref (ad g 84)), (1, .int x1)] [] M := by
  refine a_iload_n C (tk T_cX6_isDigit 0 rfl) rfl ?_
  refine a_if_lt C 32 (tk T_cX6_isDigit 1 rfl) rfl (fun c => ?_) (fun c => ?_)
  · have h := h.1 c
    exact a_to (k_Reader_isDigit_32 C hr hR M h) rfl
  · have h := h.2 c
    refine a_iload_n C (tk T_cX6_isDigit 2 rfl) rfl ?_
    refine a_aload_n C (tk T_cX6_isDigit 3 rfl) rfl ?_
    refine a_getI C f_RX6_29 (tk T_cX6_isDigit 4 rfl) lc84 rfl ?_
    refine a_icmp_ge C 32 (tk T_cX6_isDigit 5 rfl) rfl (fun c => ?_) (fun c => ?_)
    · have h := h.1 c
      exact a_to (k_Reader_isDigit_32 C hr hR M h) rfl
    · have h := h.2 c
      refine a_aload_n C (tk T_cX6_isDigit 6 rfl) rfl ?_
      refine a_getR C f_RX6_9 (tk T_cX6_isDigit 7 rfl) lc84 rfl ?_
      refine a_iload_n C (tk T_cX6_isDigit 8 rfl) rfl ?_
      obtain ⟨hb, h⟩ := h
      refine a_bald C (tk T_cX6_isDigit 9 rfl) lc85 hb ?_
      refine a_bipush C (48 : Int32) (tk T_cX6_isDigit 10 rfl) kB_48 ?_
      refine a_bipush C (57 : Int32) (tk T_cX6_isDigit 11 rfl) kB_57 ?_
      refine a_nestI C [.int (M 85 x1.toNatClampNeg), .int (48 : Int32), .int (57 : Int32)] me_yX11_within lk_RX6_69 (ct_R_within h) (by decide) rfl rfl (Nat.le_of_ble_eq_true rfl) (tk T_cX6_isDigit 12 rfl) hr (fun r1 M1 h => ?_)
      refine a_if_eq C 32 (tk T_cX6_isDigit 13 rfl) rfl (fun c => ?_) (fun c => ?_)
      · have h := h.1 c
        exact a_to (k_Reader_isDigit_32 C hr hR M1 h) rfl
      · have h := h.2 c
        refine a_iconst C (1 : Int32) (tk T_cX6_isDigit 14 rfl) kI_1 ?_
        refine a_goto C 33 (tk T_cX6_isDigit 15 rfl) rfl ?_
        exact a_to (k_Reader_isDigit_33 C hr hR (1 : Int32) M1 h) rfl
theorem ct_Reader_isDigit {l : Launch} {g : GT} {ext : List CD} {post : Int32 → Mem → Prop} {x1 : Int32} {M : Mem} (h : P_Reader_isDigit post x1 M) : CI l g (layC ++ ext) yX6_isDigit cX6_isDigit 2 (some .boolean) 1 [.ref (ad g 84), .int x1] M post :=
  cz_of (plainFor_of_name (by decide +kernel)) (Nat.le_of_ble_eq_true rfl) (fun X A Z hl C hr hR => by subst hl; exact k_Reader_isDigit C hr hR x1 M h)
def T_cX6_isLetterL : List (Nat × Instr × Nat) := [(0, .iload_n 1, 1), (1, .ifCond .lt 31, 3), (4, .iload_n 1, 1), (5, .aload_n 0, 1), (6, .getfield 29, 3), (9, .if_icmp .ge 23, 3), (12, .aload_n 0, 1), (13, .getfield 9, 3), (16, .iload_n 1, 1), (17, .baload, 1), (18, .bipush 97, 2), (20, .bipush 122, 2), (22, .invokestatic 69, 3), (25, .ifCond .eq 7, 3), (28, .iconst 1, 1), (29, .goto 4, 3), (32, .iconst 0, 1), (33, .ireturn, 1)]
theorem T_cX6_isLetter : tabOK cX6_isLetter T_cX6_isLetterL = true := by decide +kernel
def P_Reader_isLetter_33 (post : Int32 → Mem → Prop) (s0 : Int32) (M : Mem) : Prop :=
  (s0 = 0 ∨ s0 = 1) ∧ post s0 M
theorem k_Reader_isLetter_33 {X : FX} {g : GT} {ext : List CD} {A : Nat → Prop} {Z : State → Prop} {post : Int32 → Mem → Prop} (C : Cx X g (layC ++ ext) A cX6_isLetter 2 RX6 1) (hr : 0 ≤ X.2.2.2.1.cells ∧ 0 ≤ X.2.2.2.1.slots) (hR : RetZ X g (layC ++ ext) A cX6_isLetter 2 0 0 Z post) (s0 : Int32) (M : Mem) (h : P_Reader_isLetter_33 post s0 M) : At X g (layC ++ ext) A 2 0 0 Z 33 [] [.int s0] M := by
  exact hR _ _ _ _ (tk T_cX6_isLetter 17 rfl) h
def P_Reader_isLetter_32 (post : Int32 → Mem → Prop) (M : Mem) : Prop :=
  P_Reader_isLetter_33 post (0 : Int32) M
theorem k_Reader_isLetter_32 {X : FX} {g : GT} {ext : List CD} {A : Nat → Prop} {Z : State → Prop} {post : Int32 → Mem → Prop} (C : Cx X g (layC ++ ext) A cX6_isLetter 2 RX6 1) (hr : 0 ≤ X.2.2.2.1.cells ∧ 0 ≤ X.2.2.2.1.slots) (hR : RetZ X g (layC ++ ext) A cX6_isLetter 2 0 0 Z post)  (M : Mem) (h : P_Reader_isLetter_32 post M) : At X g (layC ++ ext) A 2 0 0 Z 32 [] [] M := by
  refine a_iconst C (0 : Int32) (tk T_cX6_isLetter 16 rfl) kI_0 ?_
  exact a_to (k_Reader_isLetter_33 C hr hR (0 : Int32) M h) rfl
def P_Reader_isLetter (post : Int32 → Mem → Prop) (x1 : Int32) (M : Mem) : Prop :=
  (x1 < 0 → (P_Reader_isLetter_32 post M)) ∧
  (¬ x1 < 0 → (((M 84 4) ≤ x1 → (P_Reader_isLetter_32 post M)) ∧
  (¬ (M 84 4) ≤ x1 → (vp_in x1 400 ∧ P_R_within (fun r1 M1 =>
  (r1 = 0 → (P_Reader_isLetter_32 post M1)) ∧
  (¬ r1 = 0 → (P_Reader_isLetter_33 post (1 : Int32) M1))) (M 85 x1.toNatClampNeg) (97 : Int32) (122 : Int32) M))))
theorem k_Reader_isLetter {X : FX} {g : GT} {ext : List CD} {A : Nat → Prop} {Z : State → Prop} {post : Int32 → Mem → Prop} (C : Cx X g (layC ++ ext) A cX6_isLetter 2 RX6 1) (hr : 0 ≤ X.2.2.2.1.cells ∧ 0 ≤ X.2.2.2.1.slots) (hR : RetZ X g (layC ++ ext) A cX6_isLetter 2 0 0 Z post) (x1 : Int32) (M : Mem) (h : P_Reader_isLetter post x1 M) : At X g (layC ++ ext) A 2 0 0 Z 0 [(0, .ref (ad g 84)), (1, .int x1)] [] M := by
  refine a_iload_n C (tk T_cX6_isLetter 0 rfl) rfl ?_
  refine a_if_lt C 32 (tk T_cX6_isLetter 1 rfl) rfl (fun c => ?_) (fun c => ?_)
  · have h := h.1 c
    exact a_to (k_Reader_isLetter_32 C hr hR M h) rfl
  · have h := h.2 c
    refine a_iload_n C (tk T_cX6_isLetter 2 rfl) rfl ?_
    refine a_aload_n C (tk T_cX6_isLetter 3 rfl) rfl ?_
    refine a_getI C f_RX6_29 (tk T_cX6_isLetter 4 rfl) lc84 rfl ?_
    refine a_icmp_ge C 32 (tk T_cX6_isLetter 5 rfl) rfl (fun c => ?_) (fun c => ?_)
    · have h := h.1 c
      exact a_to (k_Reader_isLetter_32 C hr hR M h) rfl
    · have h := h.2 c
      refine a_aload_n C (tk T_cX6_isLetter 6 rfl) rfl ?_
      refine a_getR C f_RX6_9 (tk T_cX6_isLetter 7 rfl) lc84 rfl ?_
      refine a_iload_n C (tk T_cX6_isLetter 8 rfl) rfl ?_
      obtain ⟨hb, h⟩ := h
      refine a_bald C (tk T_cX6_isLetter 9 rfl) lc85 hb ?_
      refine a_bipush C (97 : Int32) (tk T_cX6_isLetter 10 rfl) kB_97 ?_
      refine a_bipush C (122 : Int32) (tk T_cX6_isLetter 11 rfl) kB_122 ?_
      refine a_nestI C [.int (M 85 x1.toNatClampNeg), .int (97 : Int32), .int (122 : Int32)] me_yX11_within lk_RX6_69 (ct_R_within h) (by decide) rfl rfl (Nat.le_of_ble_eq_true rfl) (tk T_cX6_isLetter 12 rfl) hr (fun r1 M1 h => ?_)
      refine a_if_eq C 32 (tk T_cX6_isLetter 13 rfl) rfl (fun c => ?_) (fun c => ?_)
      · have h := h.1 c
        exact a_to (k_Reader_isLetter_32 C hr hR M1 h) rfl
      · have h := h.2 c
        refine a_iconst C (1 : Int32) (tk T_cX6_isLetter 14 rfl) kI_1 ?_
        refine a_goto C 33 (tk T_cX6_isLetter 15 rfl) rfl ?_
        exact a_to (k_Reader_isLetter_33 C hr hR (1 : Int32) M1 h) rfl
theorem ct_Reader_isLetter {l : Launch} {g : GT} {ext : List CD} {post : Int32 → Mem → Prop} {x1 : Int32} {M : Mem} (h : P_Reader_isLetter post x1 M) : CI l g (layC ++ ext) yX6_isLetter cX6_isLetter 2 (some .boolean) 1 [.ref (ad g 84), .int x1] M post :=
  cz_of (plainFor_of_name (by decide +kernel)) (Nat.le_of_ble_eq_true rfl) (fun X A Z hl C hr hR => by subst hl; exact k_Reader_isLetter C hr hR x1 M h)
def T_cX6_signEndL : List (Nat × Instr × Nat) := [(0, .iload_n 1, 1), (1, .iconst 1, 1), (2, .iadd, 1), (3, .istore_n 2, 1), (4, .aload_n 0, 1), (5, .iload_n 1, 1), (6, .invokevirtual 63, 3), (9, .istore_n 3, 1), (10, .aload_n 0, 1), (11, .iload_n 1, 1), (12, .invokevirtual 66, 3), (15, .istore 4, 2), (17, .iconst 0, 1), (18, .istore 5, 2), (20, .iload 5, 2), (22, .sipush 400, 3), (25, .if_icmp .ge 37, 3), (28, .iload_n 3, 1), (29, .ifCond .eq 11, 3), (32, .aload_n 0, 1), (33, .iload_n 2, 1), (34, .invokevirtual 63, 3), (37, .ifCond .ne 16, 3), (40, .iload 4, 2), (42, .ifCond .eq 20, 3), (45, .aload_n 0, 1), (46, .iload_n 2, 1), (47, .invokevirtual 66, 3), (50, .ifCond .eq 12, 3), (53, .iinc 2 1, 3), (56, .iinc 5 1, 3), (59, .goto (-39), 3), (62, .iload_n 2, 1), (63, .ireturn, 1)]
theorem T_cX6_signEnd : tabOK cX6_signEnd T_cX6_signEndL = true := by decide +kernel
def P_Reader_signEnd_62 (post : Int32 → Mem → Prop) (x2 : Int32) (M : Mem) : Prop :=
  post x2 M
theorem k_Reader_signEnd_62 {X : FX} {g : GT} {ext : List CD} {A : Nat → Prop} {Z : State → Prop} {post : Int32 → Mem → Prop} (C : Cx X g (layC ++ ext) A cX6_signEnd 6 RX6 2) (hr : 0 ≤ X.2.2.2.1.cells ∧ 0 ≤ X.2.2.2.1.slots) (hR : RetI X g (layC ++ ext) A cX6_signEnd 6 0 0 Z post) (x2 : Int32) (M : Mem) (h : P_Reader_signEnd_62 post x2 M) : At X g (layC ++ ext) A 6 0 0 Z 62 [(2, .int x2)] [] M := by
  refine a_iload_n C (tk T_cX6_signEnd 32 rfl) rfl ?_
  exact hR _ _ _ _ (tk T_cX6_signEnd 33 rfl) h
def P_Reader_signEnd_53 (post : Int32 → Mem → Prop) (R20 : Int32 → Int32 → Int32 → Int32 → Mem → Prop) (x2 x3 x4 x5 : Int32) (M : Mem) : Prop :=
  R20 (x2 + (1 : Int32)) x3 x4 (x5 + (1 : Int32)) M
theorem k_Reader_signEnd_53 {X : FX} {g : GT} {ext : List CD} {A : Nat → Prop} {Z : State → Prop} {post : Int32 → Mem → Prop} {R20 : Int32 → Int32 → Int32 → Int32 → Mem → Prop} (C : Cx X g (layC ++ ext) A cX6_signEnd 6 RX6 2) (hr : 0 ≤ X.2.2.2.1.cells ∧ 0 ≤ X.2.2.2.1.slots) (hR : RetI X g (layC ++ ext) A cX6_signEnd 6 0 0 Z post) (k20 : ∀ (y2 y3 y4 y5 : Int32) (M : Mem), R20 y2 y3 y4 y5 M → At X g (layC ++ ext) A 6 0 0 Z 20 [(0, .ref (ad g 84)), (2, .int y2), (3, .int y3), (4, .int y4), (5, .int y5)] [] M) (x2 x3 x4 x5 : Int32) (M : Mem) (h : P_Reader_signEnd_53 post R20 x2 x3 x4 x5 M) : At X g (layC ++ ext) A 6 0 0 Z 53 [(0, .ref (ad g 84)), (2, .int x2), (3, .int x3), (4, .int x4), (5, .int x5)] [] M := by
  refine a_iinc C (1 : Int32) (tk T_cX6_signEnd 29 rfl) rfl kI_1 (by decide) rfl ?_
  refine a_iinc C (1 : Int32) (tk T_cX6_signEnd 30 rfl) rfl kI_1 (by decide) rfl ?_
  refine a_goto C 20 (tk T_cX6_signEnd 31 rfl) rfl ?_
  exact a_to (k20 (x2 + (1 : Int32)) x3 x4 (x5 + (1 : Int32)) M h) rfl
def P_Reader_signEnd_40 (post : Int32 → Mem → Prop) (R20 : Int32 → Int32 → Int32 → Int32 → Mem → Prop) (x2 x3 x4 x5 : Int32) (M : Mem) : Prop :=
  (x4 = 0 → (P_Reader_signEnd_62 post x2 M)) ∧
  (¬ x4 = 0 → (P_Reader_isDigit (fun r1 M1 =>
  (r1 = 0 → (P_Reader_signEnd_62 post x2 M1)) ∧
  (¬ r1 = 0 → (P_Reader_signEnd_53 post R20 x2 x3 x4 x5 M1))) x2 M))
theorem k_Reader_signEnd_40 {X : FX} {g : GT} {ext : List CD} {A : Nat → Prop} {Z : State → Prop} {post : Int32 → Mem → Prop} {R20 : Int32 → Int32 → Int32 → Int32 → Mem → Prop} (C : Cx X g (layC ++ ext) A cX6_signEnd 6 RX6 2) (hr : 0 ≤ X.2.2.2.1.cells ∧ 0 ≤ X.2.2.2.1.slots) (hR : RetI X g (layC ++ ext) A cX6_signEnd 6 0 0 Z post) (k20 : ∀ (y2 y3 y4 y5 : Int32) (M : Mem), R20 y2 y3 y4 y5 M → At X g (layC ++ ext) A 6 0 0 Z 20 [(0, .ref (ad g 84)), (2, .int y2), (3, .int y3), (4, .int y4), (5, .int y5)] [] M) (x2 x3 x4 x5 : Int32) (M : Mem) (h : P_Reader_signEnd_40 post R20 x2 x3 x4 x5 M) : At X g (layC ++ ext) A 6 0 0 Z 40 [(0, .ref (ad g 84)), (2, .int x2), (3, .int x3), (4, .int x4), (5, .int x5)] [] M := by
  refine a_iload C (tk T_cX6_signEnd 23 rfl) rfl ?_
  refine a_if_eq C 62 (tk T_cX6_signEnd 24 rfl) rfl (fun c => ?_) (fun c => ?_)
  · have h := h.1 c
    exact a_to (k_Reader_signEnd_62 C hr hR x2 M h) rfl
  · have h := h.2 c
    refine a_aload_n C (tk T_cX6_signEnd 25 rfl) rfl ?_
    refine a_iload_n C (tk T_cX6_signEnd 26 rfl) rfl ?_
    refine a_callI C [.int x2] me_yX6_isDigit lk_RX6_66 (ct_Reader_isDigit h) (by decide) lc84 rfl rfl rfl (Nat.le_of_ble_eq_true rfl) (tk T_cX6_signEnd 27 rfl) hr (fun r1 M1 h => ?_)
    refine a_if_eq C 62 (tk T_cX6_signEnd 28 rfl) rfl (fun c => ?_) (fun c => ?_)
    · have h := h.1 c
      exact a_to (k_Reader_signEnd_62 C hr hR x2 M1 h) rfl
    · have h := h.2 c
      exact a_to (k_Reader_signEnd_53 C hr hR k20 x2 x3 x4 x5 M1 h) rfl
def P_Reader_signEnd_20 (post : Int32 → Mem → Prop) : Nat → Int32 → Int32 → Int32 → Int32 → Mem → Prop
  | 0, _, _, _, _, _ => False
  | n + 1, x2, x3, x4, x5, M =>
    ((400 : Int32) ≤ x5 → (P_Reader_signEnd_62 post x2 M)) ∧
  (¬ (400 : Int32) ≤ x5 → ((x3 = 0 → (P_Reader_signEnd_40 post (P_Reader_signEnd_20 post n) x2 x3 x4 x5 M)) ∧
  (¬ x3 = 0 → (P_Reader_isLetter (fun r1 M1 =>
  (¬ r1 = 0 → (P_Reader_signEnd_53 post (P_Reader_signEnd_20 post n) x2 x3 x4 x5 M1)) ∧
  (r1 = 0 → (P_Reader_signEnd_40 post (P_Reader_signEnd_20 post n) x2 x3 x4 x5 M1))) x2 M))))
theorem k_Reader_signEnd_20 {X : FX} {g : GT} {ext : List CD} {A : Nat → Prop} {Z : State → Prop} {post : Int32 → Mem → Prop} (C : Cx X g (layC ++ ext) A cX6_signEnd 6 RX6 2) (hr : 0 ≤ X.2.2.2.1.cells ∧ 0 ≤ X.2.2.2.1.slots) (hR : RetI X g (layC ++ ext) A cX6_signEnd 6 0 0 Z post) : ∀ (n : Nat) (x2 x3 x4 x5 : Int32) (M : Mem), P_Reader_signEnd_20 post n x2 x3 x4 x5 M → At X g (layC ++ ext) A 6 0 0 Z 20 [(0, .ref (ad g 84)), (2, .int x2), (3, .int x3), (4, .int x4), (5, .int x5)] [] M := by
  intro n
  induction n with
  | zero =>
    intro x2 x3 x4 x5 M h
    exact h.elim
  | succ n ih =>
    intro x2 x3 x4 x5 M h
    refine a_iload C (tk T_cX6_signEnd 14 rfl) rfl ?_
    refine a_sipush C (400 : Int32) (tk T_cX6_signEnd 15 rfl) kS_400 ?_
    refine a_icmp_ge C 62 (tk T_cX6_signEnd 16 rfl) rfl (fun c => ?_) (fun c => ?_)
    · have h := h.1 c
      exact a_to (k_Reader_signEnd_62 C hr hR x2 M h) rfl
    · have h := h.2 c
      refine a_iload_n C (tk T_cX6_signEnd 17 rfl) rfl ?_
      refine a_if_eq C 40 (tk T_cX6_signEnd 18 rfl) rfl (fun c => ?_) (fun c => ?_)
      · have h := h.1 c
        exact a_to (k_Reader_signEnd_40 C hr hR ih x2 x3 x4 x5 M h) rfl
      · have h := h.2 c
        refine a_aload_n C (tk T_cX6_signEnd 19 rfl) rfl ?_
        refine a_iload_n C (tk T_cX6_signEnd 20 rfl) rfl ?_
        refine a_callI C [.int x2] me_yX6_isLetter lk_RX6_63 (ct_Reader_isLetter h) (by decide) lc84 rfl rfl rfl (Nat.le_of_ble_eq_true rfl) (tk T_cX6_signEnd 21 rfl) hr (fun r1 M1 h => ?_)
        refine a_if_ne C 53 (tk T_cX6_signEnd 22 rfl) rfl (fun c => ?_) (fun c => ?_)
        · have h := h.1 c
          exact a_to (k_Reader_signEnd_53 C hr hR ih x2 x3 x4 x5 M1 h) rfl
        · have h := h.2 c
          exact a_to (k_Reader_signEnd_40 C hr hR ih x2 x3 x4 x5 M1 h) rfl
def P_Reader_signEnd (post : Int32 → Mem → Prop) (x1 : Int32) (M : Mem) : Prop :=
  ∀ x2_1, x2_1 = (x1 + (1 : Int32)) → P_Reader_isLetter (fun r2 M2 =>
  P_Reader_isDigit (fun r3 M3 =>
  ∃ j20, P_Reader_signEnd_20 post j20 x2_1 r2 r3 (0 : Int32) M3) x1 M2) x1 M
theorem k_Reader_signEnd {X : FX} {g : GT} {ext : List CD} {A : Nat → Prop} {Z : State → Prop} {post : Int32 → Mem → Prop} (C : Cx X g (layC ++ ext) A cX6_signEnd 6 RX6 2) (hr : 0 ≤ X.2.2.2.1.cells ∧ 0 ≤ X.2.2.2.1.slots) (hR : RetI X g (layC ++ ext) A cX6_signEnd 6 0 0 Z post) (x1 : Int32) (M : Mem) (h : P_Reader_signEnd post x1 M) : At X g (layC ++ ext) A 6 0 0 Z 0 [(0, .ref (ad g 84)), (1, .int x1)] [] M := by
  refine a_iload_n C (tk T_cX6_signEnd 0 rfl) rfl ?_
  refine a_iconst C (1 : Int32) (tk T_cX6_signEnd 1 rfl) kI_1 ?_
  refine a_iadd C (tk T_cX6_signEnd 2 rfl) ?_
  refine a_top (fun x2_1 e_x2_1 => ?_)
  have h := h x2_1 e_x2_1
  refine a_istore_n C (tk T_cX6_signEnd 3 rfl) (by decide) rfl ?_
  refine a_aload_n C (tk T_cX6_signEnd 4 rfl) rfl ?_
  refine a_iload_n C (tk T_cX6_signEnd 5 rfl) rfl ?_
  refine a_callI C [.int x1] me_yX6_isLetter lk_RX6_63 (ct_Reader_isLetter h) (by decide) lc84 rfl rfl rfl (Nat.le_of_ble_eq_true rfl) (tk T_cX6_signEnd 6 rfl) hr (fun r2 M2 h => ?_)
  refine a_istore_n C (tk T_cX6_signEnd 7 rfl) (by decide) rfl ?_
  refine a_aload_n C (tk T_cX6_signEnd 8 rfl) rfl ?_
  refine a_iload_n C (tk T_cX6_signEnd 9 rfl) rfl ?_
  refine a_callI C [.int x1] me_yX6_isDigit lk_RX6_66 (ct_Reader_isDigit h) (by decide) lc84 rfl rfl rfl (Nat.le_of_ble_eq_true rfl) (tk T_cX6_signEnd 10 rfl) hr (fun r3 M3 h => ?_)
  refine a_istore C (tk T_cX6_signEnd 11 rfl) (by decide) rfl ?_
  refine a_iconst C (0 : Int32) (tk T_cX6_signEnd 12 rfl) kI_0 ?_
  refine a_istore C (tk T_cX6_signEnd 13 rfl) (by decide) rfl ?_
  obtain ⟨n1, h⟩ := h
  exact a_to (k_Reader_signEnd_20 C hr hR n1 x2_1 r2 r3 (0 : Int32) M3 h) rfl
theorem ct_Reader_signEnd {l : Launch} {g : GT} {ext : List CD} {post : Int32 → Mem → Prop} {x1 : Int32} {M : Mem} (h : P_Reader_signEnd post x1 M) : CI l g (layC ++ ext) yX6_signEnd cX6_signEnd 6 (some .int) 2 [.ref (ad g 84), .int x1] M post :=
  ci_of (plainFor_of_name (by decide +kernel)) (Nat.le_of_ble_eq_true rfl) (fun X A Z hl C hr hR => by subst hl; exact k_Reader_signEnd C hr hR x1 M h)
def T_cX6_valueOfL : List (Nat × Instr × Nat) := [(0, .iconst 0, 1), (1, .istore_n 3, 1), (2, .iload_n 1, 1), (3, .istore 4, 2), (5, .iload 4, 2), (7, .iload_n 2, 1), (8, .if_icmp .ge 34, 3), (11, .aload_n 0, 1), (12, .iload 4, 2), (14, .invokevirtual 66, 3), (17, .ifCond .eq 25, 3), (20, .bipush 10, 2), (22, .iload_n 3, 1), (23, .imul, 1), (24, .aload_n 0, 1), (25, .getfield 9, 3), (28, .iload 4, 2), (30, .baload, 1), (31, .iadd, 1), (32, .bipush 48, 2), (34, .isub, 1), (35, .istore_n 3, 1), (36, .iinc 4 1, 3), (39, .goto (-34), 3), (42, .iload_n 3, 1), (43, .ireturn, 1)]
theorem T_cX6_valueOf : tabOK cX6_valueOf T_cX6_valueOfL = true := by decide +kernel
def P_Reader_valueOf_42 (post : Int32 → Mem → Prop) (x3 : Int32) (M : Mem) : Prop :=
  post x3 M
theorem k_Reader_valueOf_42 {X : FX} {g : GT} {ext : List CD} {A : Nat → Prop} {Z : State → Prop} {post : Int32 → Mem → Prop} (C : Cx X g (layC ++ ext) A cX6_valueOf 5 RX6 2) (hr : 0 ≤ X.2.2.2.1.cells ∧ 0 ≤ X.2.2.2.1.slots) (hR : RetI X g (layC ++ ext) A cX6_valueOf 5 0 0 Z post) (x3 : Int32) (M : Mem) (h : P_Reader_valueOf_42 post x3 M) : At X g (layC ++ ext) A 5 0 0 Z 42 [(3, .int x3)] [] M := by
  refine a_iload_n C (tk T_cX6_valueOf 24 rfl) rfl ?_
  exact hR _ _ _ _ (tk T_cX6_valueOf 25 rfl) h
def P_Reader_valueOf_5 (post : Int32 → Mem → Prop) : Nat → Int32 → Int32 → Int32 → Mem → Prop
  | 0, _, _, _, _ => False
  | n + 1, x2, x3, x4, M =>
    (x2 ≤ x4 → (P_Reader_valueOf_42 post x3 M)) ∧
  (¬ x2 ≤ x4 → (P_Reader_isDigit (fun r1 M1 =>
  (r1 = 0 → (P_Reader_valueOf_42 post x3 M1)) ∧
  (¬ r1 = 0 → (vp_in x4 400 ∧ ∀ v2, v2 = ((((10 : Int32) * x3) + (M1 85 x4.toNatClampNeg)) - (48 : Int32)) → P_Reader_valueOf_5 post n x2 v2 (x4 + (1 : Int32)) M1))) x4 M))
theorem k_Reader_valueOf_5 {X : FX} {g : GT} {ext : List CD} {A : Nat → Prop} {Z : State → Prop} {post : Int32 → Mem → Prop} (C : Cx X g (layC ++ ext) A cX6_valueOf 5 RX6 2) (hr : 0 ≤ X.2.2.2.1.cells ∧ 0 ≤ X.2.2.2.1.slots) (hR : RetI X g (layC ++ ext) A cX6_valueOf 5 0 0 Z post) : ∀ (n : Nat) (x2 x3 x4 : Int32) (M : Mem), P_Reader_valueOf_5 post n x2 x3 x4 M → At X g (layC ++ ext) A 5 0 0 Z 5 [(0, .ref (ad g 84)), (2, .int x2), (3, .int x3), (4, .int x4)] [] M := by
  intro n
  induction n with
  | zero =>
    intro x2 x3 x4 M h
    exact h.elim
  | succ n ih =>
    intro x2 x3 x4 M h
    refine a_iload C (tk T_cX6_valueOf 4 rfl) rfl ?_
    refine a_iload_n C (tk T_cX6_valueOf 5 rfl) rfl ?_
    refine a_icmp_ge C 42 (tk T_cX6_valueOf 6 rfl) rfl (fun c => ?_) (fun c => ?_)
    · have h := h.1 c
      exact a_to (k_Reader_valueOf_42 C hr hR x3 M h) rfl
    · have h := h.2 c
      refine a_aload_n C (tk T_cX6_valueOf 7 rfl) rfl ?_
      refine a_iload C (tk T_cX6_valueOf 8 rfl) rfl ?_
      refine a_callI C [.int x4] me_yX6_isDigit lk_RX6_66 (ct_Reader_isDigit h) (by decide) lc84 rfl rfl rfl (Nat.le_of_ble_eq_true rfl) (tk T_cX6_valueOf 9 rfl) hr (fun r1 M1 h => ?_)
      refine a_if_eq C 42 (tk T_cX6_valueOf 10 rfl) rfl (fun c => ?_) (fun c => ?_)
      · have h := h.1 c
        exact a_to (k_Reader_valueOf_42 C hr hR x3 M1 h) rfl
      · have h := h.2 c
        refine a_bipush C (10 : Int32) (tk T_cX6_valueOf 11 rfl) kB_10 ?_
        refine a_iload_n C (tk T_cX6_valueOf 12 rfl) rfl ?_
        refine a_imul C (tk T_cX6_valueOf 13 rfl) ?_
        refine a_aload_n C (tk T_cX6_valueOf 14 rfl) rfl ?_
        refine a_getR C f_RX6_9 (tk T_cX6_valueOf 15 rfl) lc84 rfl ?_
        refine a_iload C (tk T_cX6_valueOf 16 rfl) rfl ?_
        obtain ⟨hb, h⟩ := h
        refine a_bald C (tk T_cX6_valueOf 17 rfl) lc85 hb ?_
        refine a_iadd C (tk T_cX6_valueOf 18 rfl) ?_
        refine a_bipush C (48 : Int32) (tk T_cX6_valueOf 19 rfl) kB_48 ?_
        refine a_isub C (tk T_cX6_valueOf 20 rfl) ?_
        refine a_top (fun v2 e_v2 => ?_)
        have h := h v2 e_v2
        refine a_istore_n C (tk T_cX6_valueOf 21 rfl) (by decide) rfl ?_
        refine a_iinc C (1 : Int32) (tk T_cX6_valueOf 22 rfl) rfl kI_1 (by decide) rfl ?_
        refine a_goto C 5 (tk T_cX6_valueOf 23 rfl) rfl ?_
        exact a_to (ih x2 v2 (x4 + (1 : Int32)) M1 h) rfl
def P_Reader_valueOf (post : Int32 → Mem → Prop) (x1 x2 : Int32) (M : Mem) : Prop :=
  ∃ j5, P_Reader_valueOf_5 post j5 x2 (0 : Int32) x1 M
theorem k_Reader_valueOf {X : FX} {g : GT} {ext : List CD} {A : Nat → Prop} {Z : State → Prop} {post : Int32 → Mem → Prop} (C : Cx X g (layC ++ ext) A cX6_valueOf 5 RX6 2) (hr : 0 ≤ X.2.2.2.1.cells ∧ 0 ≤ X.2.2.2.1.slots) (hR : RetI X g (layC ++ ext) A cX6_valueOf 5 0 0 Z post) (x1 x2 : Int32) (M : Mem) (h : P_Reader_valueOf post x1 x2 M) : At X g (layC ++ ext) A 5 0 0 Z 0 [(0, .ref (ad g 84)), (1, .int x1), (2, .int x2)] [] M := by
  refine a_iconst C (0 : Int32) (tk T_cX6_valueOf 0 rfl) kI_0 ?_
  refine a_istore_n C (tk T_cX6_valueOf 1 rfl) (by decide) rfl ?_
  refine a_iload_n C (tk T_cX6_valueOf 2 rfl) rfl ?_
  refine a_istore C (tk T_cX6_valueOf 3 rfl) (by decide) rfl ?_
  obtain ⟨n1, h⟩ := h
  exact a_to (k_Reader_valueOf_5 C hr hR n1 x2 (0 : Int32) x1 M h) rfl
theorem ct_Reader_valueOf {l : Launch} {g : GT} {ext : List CD} {post : Int32 → Mem → Prop} {x1 x2 : Int32} {M : Mem} (h : P_Reader_valueOf post x1 x2 M) : CI l g (layC ++ ext) yX6_valueOf cX6_valueOf 5 (some .int) 2 [.ref (ad g 84), .int x1, .int x2] M post :=
  ci_of (plainFor_of_name (by decide +kernel)) (Nat.le_of_ble_eq_true rfl) (fun X A Z hl C hr hR => by subst hl; exact k_Reader_valueOf C hr hR x1 x2 M h)
def T_cX6_codedL : List (Nat × Instr × Nat) := [(0, .iload_n 0, 1), (1, .bipush 32, 2), (3, .iload_n 1, 1), (4, .imul, 1), (5, .iadd, 1), (6, .ireturn, 1)]
theorem T_cX6_coded : tabOK cX6_coded T_cX6_codedL = true := by decide +kernel
def P_Reader_coded (post : Int32 → Mem → Prop) (x0 x1 : Int32) (M : Mem) : Prop :=
  post (x0 + ((32 : Int32) * x1)) M
theorem k_Reader_coded {X : FX} {g : GT} {ext : List CD} {A : Nat → Prop} {Z : State → Prop} {post : Int32 → Mem → Prop} (C : Cx X g (layC ++ ext) A cX6_coded 2 RX6 0) (hr : 0 ≤ X.2.2.2.1.cells ∧ 0 ≤ X.2.2.2.1.slots) (hR : RetI X g (layC ++ ext) A cX6_coded 2 0 0 Z post) (x0 x1 : Int32) (M : Mem) (h : P_Reader_coded post x0 x1 M) : At X g (layC ++ ext) A 2 0 0 Z 0 [(0, .int x0), (1, .int x1)] [] M := by
  refine a_iload_n C (tk T_cX6_coded 0 rfl) rfl ?_
  refine a_bipush C (32 : Int32) (tk T_cX6_coded 1 rfl) kB_32 ?_
  refine a_iload_n C (tk T_cX6_coded 2 rfl) rfl ?_
  refine a_imul C (tk T_cX6_coded 3 rfl) ?_
  refine a_iadd C (tk T_cX6_coded 4 rfl) ?_
  exact hR _ _ _ _ (tk T_cX6_coded 5 rfl) h
theorem ct_Reader_coded {l : Launch} {g : GT} {ext : List CD} {post : Int32 → Mem → Prop} {x0 x1 : Int32} {M : Mem} (h : P_Reader_coded post x0 x1 M) : CI l g (layC ++ ext) yX6_coded cX6_coded 2 (some .int) 0 [.int x0, .int x1] M post :=
  ci_of (plainFor_of_name (by decide +kernel)) (Nat.le_of_ble_eq_true rfl) (fun X A Z hl C hr hR => by subst hl; exact k_Reader_coded C hr hR x0 x1 M h)
def T_cX6_nextIsL : List (Nat × Instr × Nat) := [(0, .aload_n 0, 1), (1, .getfield 15, 3), (4, .aload_n 0, 1), (5, .getfield 35, 3), (8, .iaload, 1), (9, .bipush 32, 2), (11, .irem, 1), (12, .iload_n 1, 1), (13, .if_icmp .ne 7, 3), (16, .iconst 1, 1), (17, .goto 4, 3), (20, .iconst 0, 1), (21, .ireturn, 1)]
theorem T_cX6_nextIs : tabOK cX6_nextIs T_cX6_nextIsL = true := by decide +kernel
def P_Reader_nextIs_21 (post : Int32 → Mem → Prop) (s0 : Int32) (M : Mem) : Prop :=
  (s0 = 0 ∨ s0 = 1) ∧ post s0 M
theorem k_Reader_nextIs_21 {X : FX} {g : GT} {ext : List CD} {A : Nat → Prop} {Z : State → Prop} {post : Int32 → Mem → Prop} (C : Cx X g (layC ++ ext) A cX6_nextIs 2 RX6 0) (hr : 0 ≤ X.2.2.2.1.cells ∧ 0 ≤ X.2.2.2.1.slots) (hR : RetZ X g (layC ++ ext) A cX6_nextIs 2 0 0 Z post) (s0 : Int32) (M : Mem) (h : P_Reader_nextIs_21 post s0 M) : At X g (layC ++ ext) A 2 0 0 Z 21 [] [.int s0] M := by
  exact hR _ _ _ _ (tk T_cX6_nextIs 12 rfl) h
def P_Reader_nextIs (post : Int32 → Mem → Prop) (x1 : Int32) (M : Mem) : Prop :=
  vp_in (M 84 6) 401 ∧ (¬ (irm (M 86 (M 84 6).toNatClampNeg) (32 : Int32)) = x1 → (P_Reader_nextIs_21 post (0 : Int32) M)) ∧
  ((irm (M 86 (M 84 6).toNatClampNeg) (32 : Int32)) = x1 → (P_Reader_nextIs_21 post (1 : Int32) M))
theorem k_Reader_nextIs {X : FX} {g : GT} {ext : List CD} {A : Nat → Prop} {Z : State → Prop} {post : Int32 → Mem → Prop} (C : Cx X g (layC ++ ext) A cX6_nextIs 2 RX6 0) (hr : 0 ≤ X.2.2.2.1.cells ∧ 0 ≤ X.2.2.2.1.slots) (hR : RetZ X g (layC ++ ext) A cX6_nextIs 2 0 0 Z post) (x1 : Int32) (M : Mem) (h : P_Reader_nextIs post x1 M) : At X g (layC ++ ext) A 2 0 0 Z 0 [(0, .ref (ad g 84)), (1, .int x1)] [] M := by
  refine a_aload_n C (tk T_cX6_nextIs 0 rfl) rfl ?_
  refine a_getR C f_RX6_15 (tk T_cX6_nextIs 1 rfl) lc84 rfl ?_
  refine a_aload_n C (tk T_cX6_nextIs 2 rfl) rfl ?_
  refine a_getI C f_RX6_35 (tk T_cX6_nextIs 3 rfl) lc84 rfl ?_
  obtain ⟨hb, h⟩ := h
  refine a_iald C (tk T_cX6_nextIs 4 rfl) lc86 hb ?_
  refine a_bipush C (32 : Int32) (tk T_cX6_nextIs 5 rfl) kB_32 ?_
  refine a_irem C (tk T_cX6_nextIs 6 rfl) (by decide) ?_
  refine a_iload_n C (tk T_cX6_nextIs 7 rfl) rfl ?_
  refine a_icmp_ne C 20 (tk T_cX6_nextIs 8 rfl) rfl (fun c => ?_) (fun c => ?_)
  · have h := h.1 c
    refine a_iconst C (0 : Int32) (tk T_cX6_nextIs 11 rfl) kI_0 ?_
    exact a_to (k_Reader_nextIs_21 C hr hR (0 : Int32) M h) rfl
  · have h := h.2 c
    refine a_iconst C (1 : Int32) (tk T_cX6_nextIs 9 rfl) kI_1 ?_
    refine a_goto C 21 (tk T_cX6_nextIs 10 rfl) rfl ?_
    exact a_to (k_Reader_nextIs_21 C hr hR (1 : Int32) M h) rfl
theorem ct_Reader_nextIs {l : Launch} {g : GT} {ext : List CD} {post : Int32 → Mem → Prop} {x1 : Int32} {M : Mem} (h : P_Reader_nextIs post x1 M) : CI l g (layC ++ ext) yX6_nextIs cX6_nextIs 2 (some .boolean) 0 [.ref (ad g 84), .int x1] M post :=
  cz_of (plainFor_of_name (by decide +kernel)) (Nat.le_of_ble_eq_true rfl) (fun X A Z hl C hr hR => by subst hl; exact k_Reader_nextIs C hr hR x1 M h)
def T_cX6_takeSignL : List (Nat × Instr × Nat) := [(0, .aload_n 0, 1), (1, .iload_n 1, 1), (2, .invokevirtual 135, 3), (5, .ifCond .ne 5, 3), (8, .iconst 0, 1), (9, .ireturn, 1), (10, .aload_n 0, 1), (11, .getfield 35, 3), (14, .aload_n 0, 1), (15, .getfield 52, 3), (18, .if_icmp .ge 13, 3), (21, .aload_n 0, 1), (22, .dup, 1), (23, .getfield 35, 3), (26, .iconst 1, 1), (27, .iadd, 1), (28, .putfield 35, 3), (31, .iconst 1, 1), (32, .ireturn, 1)]
theorem T_cX6_takeSign : tabOK cX6_takeSign T_cX6_takeSignL = true := by decide +kernel
def P_Reader_takeSign_31 (post : Int32 → Mem → Prop) (M : Mem) : Prop :=
  post (1 : Int32) M
theorem k_Reader_takeSign_31 {X : FX} {g : GT} {ext : List CD} {A : Nat → Prop} {Z : State → Prop} {post : Int32 → Mem → Prop} (C : Cx X g (layC ++ ext) A cX6_takeSign 2 RX6 1) (hr : 0 ≤ X.2.2.2.1.cells ∧ 0 ≤ X.2.2.2.1.slots) (hR : RetZ X g (layC ++ ext) A cX6_takeSign 2 0 0 Z post)  (M : Mem) (h : P_Reader_takeSign_31 post M) : At X g (layC ++ ext) A 2 0 0 Z 31 [] [] M := by
  refine a_iconst C (1 : Int32) (tk T_cX6_takeSign 17 rfl) kI_1 ?_
  exact hR _ _ _ _ (tk T_cX6_takeSign 18 rfl) ⟨Or.inr rfl, h⟩
def P_Reader_takeSign (post : Int32 → Mem → Prop) (x1 : Int32) (M : Mem) : Prop :=
  P_Reader_nextIs (fun r1 M1 =>
  (¬ r1 = 0 → (((M1 84 5) ≤ (M1 84 6) → (P_Reader_takeSign_31 post M1)) ∧
  (¬ (M1 84 5) ≤ (M1 84 6) → (∀ M2, M2 = ms M1 84 6 ((M1 84 6) + (1 : Int32)) → P_Reader_takeSign_31 post M2)))) ∧
  (r1 = 0 → (post (0 : Int32) M1))) x1 M
theorem k_Reader_takeSign {X : FX} {g : GT} {ext : List CD} {A : Nat → Prop} {Z : State → Prop} {post : Int32 → Mem → Prop} (C : Cx X g (layC ++ ext) A cX6_takeSign 2 RX6 1) (hr : 0 ≤ X.2.2.2.1.cells ∧ 0 ≤ X.2.2.2.1.slots) (hR : RetZ X g (layC ++ ext) A cX6_takeSign 2 0 0 Z post) (x1 : Int32) (M : Mem) (h : P_Reader_takeSign post x1 M) : At X g (layC ++ ext) A 2 0 0 Z 0 [(0, .ref (ad g 84)), (1, .int x1)] [] M := by
  refine a_aload_n C (tk T_cX6_takeSign 0 rfl) rfl ?_
  refine a_iload_n C (tk T_cX6_takeSign 1 rfl) rfl ?_
  refine a_callI C [.int x1] me_yX6_nextIs lk_RX6_135 (ct_Reader_nextIs h) (by decide) lc84 rfl rfl rfl (Nat.le_of_ble_eq_true rfl) (tk T_cX6_takeSign 2 rfl) hr (fun r1 M1 h => ?_)
  refine a_if_ne C 10 (tk T_cX6_takeSign 3 rfl) rfl (fun c => ?_) (fun c => ?_)
  · have h := h.1 c
    refine a_aload_n C (tk T_cX6_takeSign 6 rfl) rfl ?_
    refine a_getI C f_RX6_35 (tk T_cX6_takeSign 7 rfl) lc84 rfl ?_
    refine a_aload_n C (tk T_cX6_takeSign 8 rfl) rfl ?_
    refine a_getI C f_RX6_52 (tk T_cX6_takeSign 9 rfl) lc84 rfl ?_
    refine a_icmp_ge C 31 (tk T_cX6_takeSign 10 rfl) rfl (fun c => ?_) (fun c => ?_)
    · have h := h.1 c
      exact a_to (k_Reader_takeSign_31 C hr hR M1 h) rfl
    · have h := h.2 c
      refine a_aload_n C (tk T_cX6_takeSign 11 rfl) rfl ?_
      refine a_dupr C (tk T_cX6_takeSign 12 rfl) ?_
      refine a_getI C f_RX6_35 (tk T_cX6_takeSign 13 rfl) lc84 rfl ?_
      refine a_iconst C (1 : Int32) (tk T_cX6_takeSign 14 rfl) kI_1 ?_
      refine a_iadd C (tk T_cX6_takeSign 15 rfl) ?_
      refine a_put C f_RX6_35 f_RX6_35p rfl rfl (tk T_cX6_takeSign 16 rfl) lc84 rfl ?_
      refine a_mem (fun M2 e_M2 => ?_)
      have h := h M2 e_M2
      exact a_to (k_Reader_takeSign_31 C hr hR M2 h) rfl
  · have h := h.2 c
    refine a_iconst C (0 : Int32) (tk T_cX6_takeSign 4 rfl) kI_0 ?_
    exact hR _ _ _ _ (tk T_cX6_takeSign 5 rfl) ⟨Or.inl rfl, h⟩
theorem ct_Reader_takeSign {l : Launch} {g : GT} {ext : List CD} {post : Int32 → Mem → Prop} {x1 : Int32} {M : Mem} (h : P_Reader_takeSign post x1 M) : CI l g (layC ++ ext) yX6_takeSign cX6_takeSign 2 (some .boolean) 1 [.ref (ad g 84), .int x1] M post :=
  cz_of (plainFor_of_name (by decide +kernel)) (Nat.le_of_ble_eq_true rfl) (fun X A Z hl C hr hR => by subst hl; exact k_Reader_takeSign C hr hR x1 M h)
def T_cX6_failL : List (Nat × Instr × Nat) := [(0, .aload_n 0, 1), (1, .aload_n 0, 1), (2, .getfield 19, 3), (5, .aload_n 0, 1), (6, .getfield 35, 3), (9, .iaload, 1), (10, .putfield 25, 3), (13, .iconst 0, 1), (14, .ireturn, 1)]
theorem T_cX6_fail : tabOK cX6_fail T_cX6_failL = true := by decide +kernel
def P_Reader_fail (post : Int32 → Mem → Prop) (M : Mem) : Prop :=
  vp_in (M 84 6) 401 ∧ ∀ M1, M1 = ms M 84 8 (M 87 (M 84 6).toNatClampNeg) → post (0 : Int32) M1
theorem k_Reader_fail {X : FX} {g : GT} {ext : List CD} {A : Nat → Prop} {Z : State → Prop} {post : Int32 → Mem → Prop} (C : Cx X g (layC ++ ext) A cX6_fail 1 RX6 0) (hr : 0 ≤ X.2.2.2.1.cells ∧ 0 ≤ X.2.2.2.1.slots) (hR : RetZ X g (layC ++ ext) A cX6_fail 1 0 0 Z post) (M : Mem) (h : P_Reader_fail post M) : At X g (layC ++ ext) A 1 0 0 Z 0 [(0, .ref (ad g 84))] [] M := by
  refine a_aload_n C (tk T_cX6_fail 0 rfl) rfl ?_
  refine a_aload_n C (tk T_cX6_fail 1 rfl) rfl ?_
  refine a_getR C f_RX6_19 (tk T_cX6_fail 2 rfl) lc84 rfl ?_
  refine a_aload_n C (tk T_cX6_fail 3 rfl) rfl ?_
  refine a_getI C f_RX6_35 (tk T_cX6_fail 4 rfl) lc84 rfl ?_
  obtain ⟨hb, h⟩ := h
  refine a_iald C (tk T_cX6_fail 5 rfl) lc87 hb ?_
  refine a_put C f_RX6_25 f_RX6_25p rfl rfl (tk T_cX6_fail 6 rfl) lc84 rfl ?_
  refine a_mem (fun M1 e_M1 => ?_)
  have h := h M1 e_M1
  refine a_iconst C (0 : Int32) (tk T_cX6_fail 7 rfl) kI_0 ?_
  exact hR _ _ _ _ (tk T_cX6_fail 8 rfl) ⟨Or.inl rfl, h⟩
theorem ct_Reader_fail {l : Launch} {g : GT} {ext : List CD} {post : Int32 → Mem → Prop} {M : Mem} (h : P_Reader_fail post M) : CI l g (layC ++ ext) yX6_fail cX6_fail 1 (some .boolean) 0 [.ref (ad g 84)] M post :=
  cz_of (plainFor_of_name (by decide +kernel)) (Nat.le_of_ble_eq_true rfl) (fun X A Z hl C hr hR => by subst hl; exact k_Reader_fail C hr hR  M h)
def T_cX6_emitL : List (Nat × Instr × Nat) := [(0, .aload_n 0, 1), (1, .getfield 38, 3), (4, .sipush 400, 3), (7, .if_icmp .ge 23, 3), (10, .aload_n 0, 1), (11, .getfield 22, 3), (14, .aload_n 0, 1), (15, .getfield 38, 3), (18, .iload_n 1, 1), (19, .iastore, 1), (20, .aload_n 0, 1), (21, .dup, 1), (22, .getfield 38, 3), (25, .iconst 1, 1), (26, .iadd, 1), (27, .putfield 38, 3), (30, .iconst 1, 1), (31, .ireturn, 1)]
theorem T_cX6_emit : tabOK cX6_emit T_cX6_emitL = true := by decide +kernel
def P_Reader_emit_30 (post : Int32 → Mem → Prop) (M : Mem) : Prop :=
  post (1 : Int32) M
theorem k_Reader_emit_30 {X : FX} {g : GT} {ext : List CD} {A : Nat → Prop} {Z : State → Prop} {post : Int32 → Mem → Prop} (C : Cx X g (layC ++ ext) A cX6_emit 2 RX6 0) (hr : 0 ≤ X.2.2.2.1.cells ∧ 0 ≤ X.2.2.2.1.slots) (hR : RetZ X g (layC ++ ext) A cX6_emit 2 0 0 Z post)  (M : Mem) (h : P_Reader_emit_30 post M) : At X g (layC ++ ext) A 2 0 0 Z 30 [] [] M := by
  refine a_iconst C (1 : Int32) (tk T_cX6_emit 16 rfl) kI_1 ?_
  exact hR _ _ _ _ (tk T_cX6_emit 17 rfl) ⟨Or.inr rfl, h⟩
def P_Reader_emit (post : Int32 → Mem → Prop) (x1 : Int32) (M : Mem) : Prop :=
  ((400 : Int32) ≤ (M 84 7) → (P_Reader_emit_30 post M)) ∧
  (¬ (400 : Int32) ≤ (M 84 7) → (vp_in (M 84 7) 400 ∧ ∀ M1, M1 = ms M 88 (M 84 7).toNatClampNeg x1 → ∀ M2, M2 = ms M1 84 7 ((M1 84 7) + (1 : Int32)) → P_Reader_emit_30 post M2))
theorem k_Reader_emit {X : FX} {g : GT} {ext : List CD} {A : Nat → Prop} {Z : State → Prop} {post : Int32 → Mem → Prop} (C : Cx X g (layC ++ ext) A cX6_emit 2 RX6 0) (hr : 0 ≤ X.2.2.2.1.cells ∧ 0 ≤ X.2.2.2.1.slots) (hR : RetZ X g (layC ++ ext) A cX6_emit 2 0 0 Z post) (x1 : Int32) (M : Mem) (h : P_Reader_emit post x1 M) : At X g (layC ++ ext) A 2 0 0 Z 0 [(0, .ref (ad g 84)), (1, .int x1)] [] M := by
  refine a_aload_n C (tk T_cX6_emit 0 rfl) rfl ?_
  refine a_getI C f_RX6_38 (tk T_cX6_emit 1 rfl) lc84 rfl ?_
  refine a_sipush C (400 : Int32) (tk T_cX6_emit 2 rfl) kS_400 ?_
  refine a_icmp_ge C 30 (tk T_cX6_emit 3 rfl) rfl (fun c => ?_) (fun c => ?_)
  · have h := h.1 c
    exact a_to (k_Reader_emit_30 C hr hR M h) rfl
  · have h := h.2 c
    refine a_aload_n C (tk T_cX6_emit 4 rfl) rfl ?_
    refine a_getR C f_RX6_22 (tk T_cX6_emit 5 rfl) lc84 rfl ?_
    refine a_aload_n C (tk T_cX6_emit 6 rfl) rfl ?_
    refine a_getI C f_RX6_38 (tk T_cX6_emit 7 rfl) lc84 rfl ?_
    refine a_iload_n C (tk T_cX6_emit 8 rfl) rfl ?_
    obtain ⟨hb, h⟩ := h
    refine a_iast C (tk T_cX6_emit 9 rfl) lc88 hb ?_
    refine a_mem (fun M1 e_M1 => ?_)
    have h := h M1 e_M1
    refine a_aload_n C (tk T_cX6_emit 10 rfl) rfl ?_
    refine a_dupr C (tk T_cX6_emit 11 rfl) ?_
    refine a_getI C f_RX6_38 (tk T_cX6_emit 12 rfl) lc84 rfl ?_
    refine a_iconst C (1 : Int32) (tk T_cX6_emit 13 rfl) kI_1 ?_
    refine a_iadd C (tk T_cX6_emit 14 rfl) ?_
    refine a_put C f_RX6_38 f_RX6_38p rfl rfl (tk T_cX6_emit 15 rfl) lc84 rfl ?_
    refine a_mem (fun M2 e_M2 => ?_)
    have h := h M2 e_M2
    exact a_to (k_Reader_emit_30 C hr hR M2 h) rfl
theorem ct_Reader_emit {l : Launch} {g : GT} {ext : List CD} {post : Int32 → Mem → Prop} {x1 : Int32} {M : Mem} (h : P_Reader_emit post x1 M) : CI l g (layC ++ ext) yX6_emit cX6_emit 2 (some .boolean) 0 [.ref (ad g 84), .int x1] M post :=
  cz_of (plainFor_of_name (by decide +kernel)) (Nat.le_of_ble_eq_true rfl) (fun X A Z hl C hr hR => by subst hl; exact k_Reader_emit C hr hR x1 M h)
def T_cX6_readSumL : List (Nat × Instr × Nat) := [(0, .iconst 0, 1), (1, .istore_n 1, 1), (2, .iload_n 1, 1), (3, .sipush 400, 3), (6, .if_icmp .ge 76, 3), (9, .aload_n 0, 1), (10, .getfield 15, 3), (13, .aload_n 0, 1), (14, .getfield 35, 3), (17, .iaload, 1), (18, .bipush 32, 2), (20, .irem, 1), (21, .iconst 5, 1), (22, .if_icmp .le 8, 3), (25, .aload_n 0, 1), (26, .invokevirtual 48, 3), (29, .ireturn, 1), (30, .aload_n 0, 1), (31, .aload_n 0, 1), (32, .getfield 15, 3), (35, .aload_n 0, 1), (36, .getfield 35, 3), (39, .iaload, 1), (40, .invokevirtual 123, 3), (43, .pop, 1), (44, .aload_n 0, 1), (45, .dup, 1), (46, .getfield 35, 3), (49, .iconst 1, 1), (50, .iadd, 1), (51, .putfield 35, 3), (54, .iload_n 1, 1), (55, .ifCond .le 10, 3), (58, .aload_n 0, 1), (59, .bipush 9, 2), (61, .invokevirtual 123, 3), (64, .pop, 1), (65, .aload_n 0, 1), (66, .bipush 9, 2), (68, .invokevirtual 45, 3), (71, .ifCond .ne 5, 3), (74, .iconst 1, 1), (75, .ireturn, 1), (76, .iinc 1 1, 3), (79, .goto (-77), 3), (82, .aload_n 0, 1), (83, .invokevirtual 48, 3), (86, .ireturn, 1)]
theorem T_cX6_readSum : tabOK cX6_readSum T_cX6_readSumL = true := by decide +kernel
def P_Reader_readSum_65 (post : Int32 → Mem → Prop) (R2 : Int32 → Mem → Prop) (x1 : Int32) (M : Mem) : Prop :=
  P_Reader_takeSign (fun r1 M1 =>
  (¬ r1 = 0 → (R2 (x1 + (1 : Int32)) M1)) ∧
  (r1 = 0 → (post (1 : Int32) M1))) (9 : Int32) M
theorem k_Reader_readSum_65 {X : FX} {g : GT} {ext : List CD} {A : Nat → Prop} {Z : State → Prop} {post : Int32 → Mem → Prop} {R2 : Int32 → Mem → Prop} (C : Cx X g (layC ++ ext) A cX6_readSum 2 RX6 2) (hr : 0 ≤ X.2.2.2.1.cells ∧ 0 ≤ X.2.2.2.1.slots) (hR : RetZ X g (layC ++ ext) A cX6_readSum 2 0 0 Z post) (k2 : ∀ (y1 : Int32) (M : Mem), R2 y1 M → At X g (layC ++ ext) A 2 0 0 Z 2 [(0, .ref (ad g 84)), (1, .int y1)] [] M) (x1 : Int32) (M : Mem) (h : P_Reader_readSum_65 post R2 x1 M) : At X g (layC ++ ext) A 2 0 0 Z 65 [(0, .ref (ad g 84)), (1, .int x1)] [] M := by
  refine a_aload_n C (tk T_cX6_readSum 37 rfl) rfl ?_
  refine a_bipush C (9 : Int32) (tk T_cX6_readSum 38 rfl) kB_9 ?_
  refine a_callI C [.int (9 : Int32)] me_yX6_takeSign lk_RX6_45 (ct_Reader_takeSign h) (by decide) lc84 rfl rfl rfl (Nat.le_of_ble_eq_true rfl) (tk T_cX6_readSum 39 rfl) hr (fun r1 M1 h => ?_)
  refine a_if_ne C 76 (tk T_cX6_readSum 40 rfl) rfl (fun c => ?_) (fun c => ?_)
  · have h := h.1 c
    refine a_iinc C (1 : Int32) (tk T_cX6_readSum 43 rfl) rfl kI_1 (by decide) rfl ?_
    refine a_goto C 2 (tk T_cX6_readSum 44 rfl) rfl ?_
    exact a_to (k2 (x1 + (1 : Int32)) M1 h) rfl
  · have h := h.2 c
    refine a_iconst C (1 : Int32) (tk T_cX6_readSum 41 rfl) kI_1 ?_
    exact hR _ _ _ _ (tk T_cX6_readSum 42 rfl) ⟨Or.inr rfl, h⟩
def P_Reader_readSum_2 (post : Int32 → Mem → Prop) : Nat → Int32 → Mem → Prop
  | 0, _, _ => False
  | n + 1, x1, M =>
    ((400 : Int32) ≤ x1 → (P_Reader_fail (fun r1 M1 =>
  (r1 = 0 ∨ r1 = 1) ∧ post r1 M1) M)) ∧
  (¬ (400 : Int32) ≤ x1 → (vp_in (M 84 6) 401 ∧ ((irm (M 86 (M 84 6).toNatClampNeg) (32 : Int32)) ≤ (5 : Int32) → (vp_in (M 84 6) 401 ∧ P_Reader_emit (fun r2 M2 =>
  ∀ M3, M3 = ms M2 84 6 ((M2 84 6) + (1 : Int32)) → (x1 ≤ 0 → (P_Reader_readSum_65 post (P_Reader_readSum_2 post n) x1 M3)) ∧
  (¬ x1 ≤ 0 → (P_Reader_emit (fun r4 M4 =>
  P_Reader_readSum_65 post (P_Reader_readSum_2 post n) x1 M4) (9 : Int32) M3))) (M 86 (M 84 6).toNatClampNeg) M)) ∧
  (¬ (irm (M 86 (M 84 6).toNatClampNeg) (32 : Int32)) ≤ (5 : Int32) → (P_Reader_fail (fun r5 M5 =>
  (r5 = 0 ∨ r5 = 1) ∧ post r5 M5) M))))
theorem k_Reader_readSum_2 {X : FX} {g : GT} {ext : List CD} {A : Nat → Prop} {Z : State → Prop} {post : Int32 → Mem → Prop} (C : Cx X g (layC ++ ext) A cX6_readSum 2 RX6 2) (hr : 0 ≤ X.2.2.2.1.cells ∧ 0 ≤ X.2.2.2.1.slots) (hR : RetZ X g (layC ++ ext) A cX6_readSum 2 0 0 Z post) : ∀ (n : Nat) (x1 : Int32) (M : Mem), P_Reader_readSum_2 post n x1 M → At X g (layC ++ ext) A 2 0 0 Z 2 [(0, .ref (ad g 84)), (1, .int x1)] [] M := by
  intro n
  induction n with
  | zero =>
    intro x1 M h
    exact h.elim
  | succ n ih =>
    intro x1 M h
    refine a_iload_n C (tk T_cX6_readSum 2 rfl) rfl ?_
    refine a_sipush C (400 : Int32) (tk T_cX6_readSum 3 rfl) kS_400 ?_
    refine a_icmp_ge C 82 (tk T_cX6_readSum 4 rfl) rfl (fun c => ?_) (fun c => ?_)
    · have h := h.1 c
      refine a_aload_n C (tk T_cX6_readSum 45 rfl) rfl ?_
      refine a_callI C [] me_yX6_fail lk_RX6_48 (ct_Reader_fail h) (by decide) lc84 rfl rfl rfl (Nat.le_of_ble_eq_true rfl) (tk T_cX6_readSum 46 rfl) hr (fun r1 M1 h => ?_)
      exact hR _ _ _ _ (tk T_cX6_readSum 47 rfl) h
    · have h := h.2 c
      refine a_aload_n C (tk T_cX6_readSum 5 rfl) rfl ?_
      refine a_getR C f_RX6_15 (tk T_cX6_readSum 6 rfl) lc84 rfl ?_
      refine a_aload_n C (tk T_cX6_readSum 7 rfl) rfl ?_
      refine a_getI C f_RX6_35 (tk T_cX6_readSum 8 rfl) lc84 rfl ?_
      obtain ⟨hb, h⟩ := h
      refine a_iald C (tk T_cX6_readSum 9 rfl) lc86 hb ?_
      refine a_bipush C (32 : Int32) (tk T_cX6_readSum 10 rfl) kB_32 ?_
      refine a_irem C (tk T_cX6_readSum 11 rfl) (by decide) ?_
      refine a_iconst C (5 : Int32) (tk T_cX6_readSum 12 rfl) kI_5 ?_
      refine a_icmp_le C 30 (tk T_cX6_readSum 13 rfl) rfl (fun c => ?_) (fun c => ?_)
      · have h := h.1 c
        refine a_aload_n C (tk T_cX6_readSum 17 rfl) rfl ?_
        refine a_aload_n C (tk T_cX6_readSum 18 rfl) rfl ?_
        refine a_getR C f_RX6_15 (tk T_cX6_readSum 19 rfl) lc84 rfl ?_
        refine a_aload_n C (tk T_cX6_readSum 20 rfl) rfl ?_
        refine a_getI C f_RX6_35 (tk T_cX6_readSum 21 rfl) lc84 rfl ?_
        obtain ⟨hb, h⟩ := h
        refine a_iald C (tk T_cX6_readSum 22 rfl) lc86 hb ?_
        refine a_callI C [.int (M 86 (M 84 6).toNatClampNeg)] me_yX6_emit lk_RX6_123 (ct_Reader_emit h) (by decide) lc84 rfl rfl rfl (Nat.le_of_ble_eq_true rfl) (tk T_cX6_readSum 23 rfl) hr (fun r2 M2 h => ?_)
        refine a_popi C (tk T_cX6_readSum 24 rfl) ?_
        refine a_aload_n C (tk T_cX6_readSum 25 rfl) rfl ?_
        refine a_dupr C (tk T_cX6_readSum 26 rfl) ?_
        refine a_getI C f_RX6_35 (tk T_cX6_readSum 27 rfl) lc84 rfl ?_
        refine a_iconst C (1 : Int32) (tk T_cX6_readSum 28 rfl) kI_1 ?_
        refine a_iadd C (tk T_cX6_readSum 29 rfl) ?_
        refine a_put C f_RX6_35 f_RX6_35p rfl rfl (tk T_cX6_readSum 30 rfl) lc84 rfl ?_
        refine a_mem (fun M3 e_M3 => ?_)
        have h := h M3 e_M3
        refine a_iload_n C (tk T_cX6_readSum 31 rfl) rfl ?_
        refine a_if_le C 65 (tk T_cX6_readSum 32 rfl) rfl (fun c => ?_) (fun c => ?_)
        · have h := h.1 c
          exact a_to (k_Reader_readSum_65 C hr hR ih x1 M3 h) rfl
        · have h := h.2 c
          refine a_aload_n C (tk T_cX6_readSum 33 rfl) rfl ?_
          refine a_bipush C (9 : Int32) (tk T_cX6_readSum 34 rfl) kB_9 ?_
          refine a_callI C [.int (9 : Int32)] me_yX6_emit lk_RX6_123 (ct_Reader_emit h) (by decide) lc84 rfl rfl rfl (Nat.le_of_ble_eq_true rfl) (tk T_cX6_readSum 35 rfl) hr (fun r4 M4 h => ?_)
          refine a_popi C (tk T_cX6_readSum 36 rfl) ?_
          exact a_to (k_Reader_readSum_65 C hr hR ih x1 M4 h) rfl
      · have h := h.2 c
        refine a_aload_n C (tk T_cX6_readSum 14 rfl) rfl ?_
        refine a_callI C [] me_yX6_fail lk_RX6_48 (ct_Reader_fail h) (by decide) lc84 rfl rfl rfl (Nat.le_of_ble_eq_true rfl) (tk T_cX6_readSum 15 rfl) hr (fun r5 M5 h => ?_)
        exact hR _ _ _ _ (tk T_cX6_readSum 16 rfl) h
def P_Reader_readSum (post : Int32 → Mem → Prop) (M : Mem) : Prop :=
  ∃ j2, P_Reader_readSum_2 post j2 (0 : Int32) M
theorem k_Reader_readSum {X : FX} {g : GT} {ext : List CD} {A : Nat → Prop} {Z : State → Prop} {post : Int32 → Mem → Prop} (C : Cx X g (layC ++ ext) A cX6_readSum 2 RX6 2) (hr : 0 ≤ X.2.2.2.1.cells ∧ 0 ≤ X.2.2.2.1.slots) (hR : RetZ X g (layC ++ ext) A cX6_readSum 2 0 0 Z post) (M : Mem) (h : P_Reader_readSum post M) : At X g (layC ++ ext) A 2 0 0 Z 0 [(0, .ref (ad g 84))] [] M := by
  refine a_iconst C (0 : Int32) (tk T_cX6_readSum 0 rfl) kI_0 ?_
  refine a_istore_n C (tk T_cX6_readSum 1 rfl) (by decide) rfl ?_
  obtain ⟨n1, h⟩ := h
  exact a_to (k_Reader_readSum_2 C hr hR n1 (0 : Int32) M h) rfl
theorem ct_Reader_readSum {l : Launch} {g : GT} {ext : List CD} {post : Int32 → Mem → Prop} {M : Mem} (h : P_Reader_readSum post M) : CI l g (layC ++ ext) yX6_readSum cX6_readSum 2 (some .boolean) 2 [.ref (ad g 84)] M post :=
  cz_of (plainFor_of_name (by decide +kernel)) (Nat.le_of_ble_eq_true rfl) (fun X A Z hl C hr hR => by subst hl; exact k_Reader_readSum C hr hR  M h)
def T_cX6_readElementL : List (Nat × Instr × Nat) := [(0, .aload_n 0, 1), (1, .getfield 15, 3), (4, .aload_n 0, 1), (5, .getfield 35, 3), (8, .iaload, 1), (9, .bipush 32, 2), (11, .idiv, 1), (12, .istore_n 2, 1), (13, .aload_n 0, 1), (14, .iconst 0, 1), (15, .invokevirtual 135, 3), (18, .ifCond .eq 9, 3), (21, .iload_n 2, 1), (22, .bipush 6, 2), (24, .if_icmp .lt 8, 3), (27, .aload_n 0, 1), (28, .invokevirtual 48, 3), (31, .ireturn, 1), (32, .aload_n 0, 1), (33, .dup, 1), (34, .getfield 35, 3), (37, .iconst 1, 1), (38, .iadd, 1), (39, .putfield 35, 3), (42, .aload_n 0, 1), (43, .iload_n 1, 1), (44, .iload_n 2, 1), (45, .invokestatic 81, 3), (48, .invokevirtual 123, 3), (51, .ireturn, 1)]
theorem T_cX6_readElement : tabOK cX6_readElement T_cX6_readElementL = true := by decide +kernel
def P_Reader_readElement_27 (post : Int32 → Mem → Prop) (M : Mem) : Prop :=
  P_Reader_fail (fun r1 M1 =>
  (r1 = 0 ∨ r1 = 1) ∧ post r1 M1) M
theorem k_Reader_readElement_27 {X : FX} {g : GT} {ext : List CD} {A : Nat → Prop} {Z : State → Prop} {post : Int32 → Mem → Prop} (C : Cx X g (layC ++ ext) A cX6_readElement 3 RX6 1) (hr : 0 ≤ X.2.2.2.1.cells ∧ 0 ≤ X.2.2.2.1.slots) (hR : RetZ X g (layC ++ ext) A cX6_readElement 3 0 0 Z post)  (M : Mem) (h : P_Reader_readElement_27 post M) : At X g (layC ++ ext) A 3 0 0 Z 27 [(0, .ref (ad g 84))] [] M := by
  refine a_aload_n C (tk T_cX6_readElement 15 rfl) rfl ?_
  refine a_callI C [] me_yX6_fail lk_RX6_48 (ct_Reader_fail h) (by decide) lc84 rfl rfl rfl (Nat.le_of_ble_eq_true rfl) (tk T_cX6_readElement 16 rfl) hr (fun r1 M1 h => ?_)
  exact hR _ _ _ _ (tk T_cX6_readElement 17 rfl) h
def P_Reader_readElement (post : Int32 → Mem → Prop) (x1 : Int32) (M : Mem) : Prop :=
  vp_in (M 84 6) 401 ∧ ∀ x2_1, x2_1 = ((M 86 (M 84 6).toNatClampNeg) / (32 : Int32)) → P_Reader_nextIs (fun r2 M2 =>
  (r2 = 0 → (P_Reader_readElement_27 post M2)) ∧
  (¬ r2 = 0 → ((x2_1 < (6 : Int32) → (∀ M3, M3 = ms M2 84 6 ((M2 84 6) + (1 : Int32)) → P_Reader_coded (fun r4 M4 =>
  P_Reader_emit (fun r5 M5 =>
  (r5 = 0 ∨ r5 = 1) ∧ post r5 M5) r4 M4) x1 x2_1 M3)) ∧
  (¬ x2_1 < (6 : Int32) → (P_Reader_readElement_27 post M2))))) (0 : Int32) M
theorem k_Reader_readElement {X : FX} {g : GT} {ext : List CD} {A : Nat → Prop} {Z : State → Prop} {post : Int32 → Mem → Prop} (C : Cx X g (layC ++ ext) A cX6_readElement 3 RX6 1) (hr : 0 ≤ X.2.2.2.1.cells ∧ 0 ≤ X.2.2.2.1.slots) (hR : RetZ X g (layC ++ ext) A cX6_readElement 3 0 0 Z post) (x1 : Int32) (M : Mem) (h : P_Reader_readElement post x1 M) : At X g (layC ++ ext) A 3 0 0 Z 0 [(0, .ref (ad g 84)), (1, .int x1)] [] M := by
  refine a_aload_n C (tk T_cX6_readElement 0 rfl) rfl ?_
  refine a_getR C f_RX6_15 (tk T_cX6_readElement 1 rfl) lc84 rfl ?_
  refine a_aload_n C (tk T_cX6_readElement 2 rfl) rfl ?_
  refine a_getI C f_RX6_35 (tk T_cX6_readElement 3 rfl) lc84 rfl ?_
  obtain ⟨hb, h⟩ := h
  refine a_iald C (tk T_cX6_readElement 4 rfl) lc86 hb ?_
  refine a_bipush C (32 : Int32) (tk T_cX6_readElement 5 rfl) kB_32 ?_
  refine a_idiv C (tk T_cX6_readElement 6 rfl) (by decide) ?_
  refine a_top (fun x2_1 e_x2_1 => ?_)
  have h := h x2_1 e_x2_1
  refine a_istore_n C (tk T_cX6_readElement 7 rfl) (by decide) rfl ?_
  refine a_aload_n C (tk T_cX6_readElement 8 rfl) rfl ?_
  refine a_iconst C (0 : Int32) (tk T_cX6_readElement 9 rfl) kI_0 ?_
  refine a_callI C [.int (0 : Int32)] me_yX6_nextIs lk_RX6_135 (ct_Reader_nextIs h) (by decide) lc84 rfl rfl rfl (Nat.le_of_ble_eq_true rfl) (tk T_cX6_readElement 10 rfl) hr (fun r2 M2 h => ?_)
  refine a_if_eq C 27 (tk T_cX6_readElement 11 rfl) rfl (fun c => ?_) (fun c => ?_)
  · have h := h.1 c
    exact a_to (k_Reader_readElement_27 C hr hR M2 h) rfl
  · have h := h.2 c
    refine a_iload_n C (tk T_cX6_readElement 12 rfl) rfl ?_
    refine a_bipush C (6 : Int32) (tk T_cX6_readElement 13 rfl) kB_6 ?_
    refine a_icmp_lt C 32 (tk T_cX6_readElement 14 rfl) rfl (fun c => ?_) (fun c => ?_)
    · have h := h.1 c
      refine a_aload_n C (tk T_cX6_readElement 18 rfl) rfl ?_
      refine a_dupr C (tk T_cX6_readElement 19 rfl) ?_
      refine a_getI C f_RX6_35 (tk T_cX6_readElement 20 rfl) lc84 rfl ?_
      refine a_iconst C (1 : Int32) (tk T_cX6_readElement 21 rfl) kI_1 ?_
      refine a_iadd C (tk T_cX6_readElement 22 rfl) ?_
      refine a_put C f_RX6_35 f_RX6_35p rfl rfl (tk T_cX6_readElement 23 rfl) lc84 rfl ?_
      refine a_mem (fun M3 e_M3 => ?_)
      have h := h M3 e_M3
      refine a_aload_n C (tk T_cX6_readElement 24 rfl) rfl ?_
      refine a_iload_n C (tk T_cX6_readElement 25 rfl) rfl ?_
      refine a_iload_n C (tk T_cX6_readElement 26 rfl) rfl ?_
      refine a_statI C [.int x1, .int x2_1] me_yX6_coded lk_RX6_81 (ct_Reader_coded h) (by decide) rfl rfl (Nat.le_of_ble_eq_true rfl) (tk T_cX6_readElement 27 rfl) hr (fun r4 M4 h => ?_)
      refine a_callI C [.int r4] me_yX6_emit lk_RX6_123 (ct_Reader_emit h) (by decide) lc84 rfl rfl rfl (Nat.le_of_ble_eq_true rfl) (tk T_cX6_readElement 28 rfl) hr (fun r5 M5 h => ?_)
      exact hR _ _ _ _ (tk T_cX6_readElement 29 rfl) h
    · have h := h.2 c
      exact a_to (k_Reader_readElement_27 C hr hR M2 h) rfl
theorem ct_Reader_readElement {l : Launch} {g : GT} {ext : List CD} {post : Int32 → Mem → Prop} {x1 : Int32} {M : Mem} (h : P_Reader_readElement post x1 M) : CI l g (layC ++ ext) yX6_readElement cX6_readElement 3 (some .boolean) 1 [.ref (ad g 84), .int x1] M post :=
  cz_of (plainFor_of_name (by decide +kernel)) (Nat.le_of_ble_eq_true rfl) (fun X A Z hl C hr hR => by subst hl; exact k_Reader_readElement C hr hR x1 M h)
def T_cX7_gatherL : List (Nat × Instr × Nat) := [(0, .aload_n 0, 1), (1, .getfield 26, 3), (4, .iload_n 1, 1), (5, .iconst 0, 1), (6, .invokevirtual 30, 3), (9, .istore_n 2, 1), (10, .aload_n 0, 1), (11, .iconst 0, 1), (12, .putfield 36, 3), (15, .iconst 0, 1), (16, .istore_n 3, 1), (17, .iload_n 3, 1), (18, .aload_n 0, 1), (19, .getfield 22, 3), (22, .getfield 40, 3), (25, .getfield 46, 3), (28, .if_icmp .ge 92, 3), (31, .aload_n 0, 1), (32, .getfield 36, 3), (35, .bipush 10, 2), (37, .if_icmp .ge 83, 3), (40, .aload_n 0, 1), (41, .getfield 26, 3), (44, .getfield 51, 3), (47, .iload_n 3, 1), (48, .iaload, 1), (49, .aload_n 0, 1), (50, .getfield 26, 3), (53, .getfield 54, 3), (56, .iload_n 3, 1), (57, .iaload, 1), (58, .iadd, 1), (59, .iconst 2, 1), (60, .invokestatic 57, 3), (63, .istore 4, 2), (65, .iload_n 2, 1), (66, .iload_n 3, 1), (67, .invokestatic 62, 3), (70, .ifCond .eq 44, 3), (73, .aload_n 0, 1), (74, .getfield 26, 3), (77, .iload_n 3, 1), (78, .invokevirtual 66, 3), (81, .ifCond .eq 33, 3), (84, .iload 4, 2), (86, .iconst 1, 1), (87, .if_icmp .lt 27, 3), (90, .aload_n 0, 1), (91, .getfield 11, 3), (94, .aload_n 0, 1), (95, .getfield 36, 3), (98, .ldc 70, 2), (100, .iload 4, 2), (102, .idiv, 1), (103, .iastore, 1), (104, .aload_n 0, 1), (105, .dup, 1), (106, .getfield 36, 3), (109, .iconst 1, 1), (110, .iadd, 1), (111, .putfield 36, 3), (114, .iinc 3 1, 3), (117, .goto (-100), 3), (120, .return_, 1)]
theorem T_cX7_gather : tabOK cX7_gather T_cX7_gatherL = true := by decide +kernel
def P_Rows_gather_120 (post : Mem → Prop) (M : Mem) : Prop :=
  post M
theorem k_Rows_gather_120 {X : FX} {g : GT} {ext : List CD} {A : Nat → Prop} {Z : State → Prop} {post : Mem → Prop} (C : Cx X g (layC ++ ext) A cX7_gather 5 RX7 4) (hr : 0 ≤ X.2.2.2.1.cells ∧ 0 ≤ X.2.2.2.1.slots) (hR : RetV X g (layC ++ ext) A cX7_gather 5 0 0 Z post)  (M : Mem) (h : P_Rows_gather_120 post M) : At X g (layC ++ ext) A 5 0 0 Z 120 [] [] M := by
  exact hR _ _ _ (tk T_cX7_gather 63 rfl) h
def P_Rows_gather_114 (post : Mem → Prop) (R17 : Int32 → Int32 → Mem → Prop) (x2 x3 : Int32) (M : Mem) : Prop :=
  R17 x2 (x3 + (1 : Int32)) M
theorem k_Rows_gather_114 {X : FX} {g : GT} {ext : List CD} {A : Nat → Prop} {Z : State → Prop} {post : Mem → Prop} {R17 : Int32 → Int32 → Mem → Prop} (C : Cx X g (layC ++ ext) A cX7_gather 5 RX7 4) (hr : 0 ≤ X.2.2.2.1.cells ∧ 0 ≤ X.2.2.2.1.slots) (hR : RetV X g (layC ++ ext) A cX7_gather 5 0 0 Z post) (k17 : ∀ (y2 y3 : Int32) (M : Mem), R17 y2 y3 M → At X g (layC ++ ext) A 5 0 0 Z 17 [(0, .ref (ad g 80)), (2, .int y2), (3, .int y3)] [] M) (x2 x3 : Int32) (M : Mem) (h : P_Rows_gather_114 post R17 x2 x3 M) : At X g (layC ++ ext) A 5 0 0 Z 114 [(0, .ref (ad g 80)), (2, .int x2), (3, .int x3)] [] M := by
  refine a_iinc C (1 : Int32) (tk T_cX7_gather 61 rfl) rfl kI_1 (by decide) rfl ?_
  refine a_goto C 17 (tk T_cX7_gather 62 rfl) rfl ?_
  exact a_to (k17 x2 (x3 + (1 : Int32)) M h) rfl
def P_Rows_gather_17 (post : Mem → Prop) : Nat → Int32 → Int32 → Mem → Prop
  | 0, _, _, _ => False
  | n + 1, x2, x3, M =>
    ((M 18 11) ≤ x3 → (P_Rows_gather_120 post M)) ∧
  (¬ (M 18 11) ≤ x3 → (((10 : Int32) ≤ (M 80 5) → (P_Rows_gather_120 post M)) ∧
  (¬ (10 : Int32) ≤ (M 80 5) → (vp_in x3 24 ∧ vp_in x3 24 ∧ P_Math_floorDiv (fun r1 M1 =>
  P_R_has (fun r2 M2 =>
  (r2 = 0 → (P_Rows_gather_114 post (P_Rows_gather_17 post n) x2 x3 M2)) ∧
  (¬ r2 = 0 → (P_Judge_hasSpan (fun r3 M3 =>
  (r3 = 0 → (P_Rows_gather_114 post (P_Rows_gather_17 post n) x2 x3 M3)) ∧
  (¬ r3 = 0 → ((r1 < (1 : Int32) → (P_Rows_gather_114 post (P_Rows_gather_17 post n) x2 x3 M3)) ∧
  (¬ r1 < (1 : Int32) → ((¬ r1 = 0) ∧ vp_in (M3 80 5) 10 ∧ ∀ M4, M4 = ms M3 81 (M3 80 5).toNatClampNeg ((10000000 : Int32) / r1) → ∀ M5, M5 = ms M4 80 5 ((M4 80 5) + (1 : Int32)) → P_Rows_gather_114 post (P_Rows_gather_17 post n) x2 x3 M5))))) x3 M2))) x2 x3 M1) ((M 70 x3.toNatClampNeg) + (M 71 x3.toNatClampNeg)) (2 : Int32) M))))
theorem k_Rows_gather_17 {X : FX} {g : GT} {ext : List CD} {A : Nat → Prop} {Z : State → Prop} {post : Mem → Prop} (C : Cx X g (layC ++ ext) A cX7_gather 5 RX7 4) (hr : 0 ≤ X.2.2.2.1.cells ∧ 0 ≤ X.2.2.2.1.slots) (hR : RetV X g (layC ++ ext) A cX7_gather 5 0 0 Z post) : ∀ (n : Nat) (x2 x3 : Int32) (M : Mem), P_Rows_gather_17 post n x2 x3 M → At X g (layC ++ ext) A 5 0 0 Z 17 [(0, .ref (ad g 80)), (2, .int x2), (3, .int x3)] [] M := by
  intro n
  induction n with
  | zero =>
    intro x2 x3 M h
    exact h.elim
  | succ n ih =>
    intro x2 x3 M h
    refine a_iload_n C (tk T_cX7_gather 11 rfl) rfl ?_
    refine a_aload_n C (tk T_cX7_gather 12 rfl) rfl ?_
    refine a_getR C f_RX7_22 (tk T_cX7_gather 13 rfl) lc80 rfl ?_
    refine a_getR C f_RX7_40 (tk T_cX7_gather 14 rfl) lc1 rfl ?_
    refine a_getI C f_RX7_46 (tk T_cX7_gather 15 rfl) lc18 rfl ?_
    refine a_icmp_ge C 120 (tk T_cX7_gather 16 rfl) rfl (fun c => ?_) (fun c => ?_)
    · have h := h.1 c
      exact a_to (k_Rows_gather_120 C hr hR M h) rfl
    · have h := h.2 c
      refine a_aload_n C (tk T_cX7_gather 17 rfl) rfl ?_
      refine a_getI C f_RX7_36 (tk T_cX7_gather 18 rfl) lc80 rfl ?_
      refine a_bipush C (10 : Int32) (tk T_cX7_gather 19 rfl) kB_10 ?_
      refine a_icmp_ge C 120 (tk T_cX7_gather 20 rfl) rfl (fun c => ?_) (fun c => ?_)
      · have h := h.1 c
        exact a_to (k_Rows_gather_120 C hr hR M h) rfl
      · have h := h.2 c
        refine a_aload_n C (tk T_cX7_gather 21 rfl) rfl ?_
        refine a_getR C f_RX7_26 (tk T_cX7_gather 22 rfl) lc80 rfl ?_
        refine a_getR C f_RX7_51 (tk T_cX7_gather 23 rfl) lc69 rfl ?_
        refine a_iload_n C (tk T_cX7_gather 24 rfl) rfl ?_
        obtain ⟨hb, h⟩ := h
        refine a_iald C (tk T_cX7_gather 25 rfl) lc70 hb ?_
        refine a_aload_n C (tk T_cX7_gather 26 rfl) rfl ?_
        refine a_getR C f_RX7_26 (tk T_cX7_gather 27 rfl) lc80 rfl ?_
        refine a_getR C f_RX7_54 (tk T_cX7_gather 28 rfl) lc69 rfl ?_
        refine a_iload_n C (tk T_cX7_gather 29 rfl) rfl ?_
        obtain ⟨hb, h⟩ := h
        refine a_iald C (tk T_cX7_gather 30 rfl) lc71 hb ?_
        refine a_iadd C (tk T_cX7_gather 31 rfl) ?_
        refine a_iconst C (2 : Int32) (tk T_cX7_gather 32 rfl) kI_2 ?_
        refine a_statI C [.int ((M 70 x3.toNatClampNeg) + (M 71 x3.toNatClampNeg)), .int (2 : Int32)] me_yJ9_floorDiv_7cf53 lk_RX7_57 (ct_Math_floorDiv h) (by decide) rfl rfl (Nat.le_of_ble_eq_true rfl) (tk T_cX7_gather 33 rfl) hr (fun r1 M1 h => ?_)
        refine a_istore C (tk T_cX7_gather 34 rfl) (by decide) rfl ?_
        refine a_iload_n C (tk T_cX7_gather 35 rfl) rfl ?_
        refine a_iload_n C (tk T_cX7_gather 36 rfl) rfl ?_
        refine a_nestI C [.int x2, .int x3] me_yX11_has lk_RX7_62 (ct_R_has h) (by decide) rfl rfl (Nat.le_of_ble_eq_true rfl) (tk T_cX7_gather 37 rfl) hr (fun r2 M2 h => ?_)
        refine a_if_eq C 114 (tk T_cX7_gather 38 rfl) rfl (fun c => ?_) (fun c => ?_)
        · have h := h.1 c
          exact a_to (k_Rows_gather_114 C hr hR ih x2 x3 M2 h) rfl
        · have h := h.2 c
          refine a_aload_n C (tk T_cX7_gather 39 rfl) rfl ?_
          refine a_getR C f_RX7_26 (tk T_cX7_gather 40 rfl) lc80 rfl ?_
          refine a_iload_n C (tk T_cX7_gather 41 rfl) rfl ?_
          refine a_callI C [.int x3] me_yX3_hasSpan lk_RX7_66 (ct_Judge_hasSpan h) (by decide) lc69 rfl rfl rfl (Nat.le_of_ble_eq_true rfl) (tk T_cX7_gather 42 rfl) hr (fun r3 M3 h => ?_)
          refine a_if_eq C 114 (tk T_cX7_gather 43 rfl) rfl (fun c => ?_) (fun c => ?_)
          · have h := h.1 c
            exact a_to (k_Rows_gather_114 C hr hR ih x2 x3 M3 h) rfl
          · have h := h.2 c
            refine a_iload C (tk T_cX7_gather 44 rfl) rfl ?_
            refine a_iconst C (1 : Int32) (tk T_cX7_gather 45 rfl) kI_1 ?_
            refine a_icmp_lt C 114 (tk T_cX7_gather 46 rfl) rfl (fun c => ?_) (fun c => ?_)
            · have h := h.1 c
              exact a_to (k_Rows_gather_114 C hr hR ih x2 x3 M3 h) rfl
            · have h := h.2 c
              refine a_aload_n C (tk T_cX7_gather 47 rfl) rfl ?_
              refine a_getR C f_RX7_11 (tk T_cX7_gather 48 rfl) lc80 rfl ?_
              refine a_aload_n C (tk T_cX7_gather 49 rfl) rfl ?_
              refine a_getI C f_RX7_36 (tk T_cX7_gather 50 rfl) lc80 rfl ?_
              refine a_ldc C c_RX7_70 (tk T_cX7_gather 51 rfl) ?_
              refine a_iload C (tk T_cX7_gather 52 rfl) rfl ?_
              obtain ⟨hy, h⟩ := h
              refine a_idiv C (tk T_cX7_gather 53 rfl) hy ?_
              obtain ⟨hb, h⟩ := h
              refine a_iast C (tk T_cX7_gather 54 rfl) lc81 hb ?_
              refine a_mem (fun M4 e_M4 => ?_)
              have h := h M4 e_M4
              refine a_aload_n C (tk T_cX7_gather 55 rfl) rfl ?_
              refine a_dupr C (tk T_cX7_gather 56 rfl) ?_
              refine a_getI C f_RX7_36 (tk T_cX7_gather 57 rfl) lc80 rfl ?_
              refine a_iconst C (1 : Int32) (tk T_cX7_gather 58 rfl) kI_1 ?_
              refine a_iadd C (tk T_cX7_gather 59 rfl) ?_
              refine a_put C f_RX7_36 f_RX7_36p rfl rfl (tk T_cX7_gather 60 rfl) lc80 rfl ?_
              refine a_mem (fun M5 e_M5 => ?_)
              have h := h M5 e_M5
              exact a_to (k_Rows_gather_114 C hr hR ih x2 x3 M5 h) rfl
def P_Rows_gather (post : Mem → Prop) (x1 : Int32) (M : Mem) : Prop :=
  P_Judge_leftBits (fun r1 M1 =>
  ∀ M2, M2 = ms M1 80 5 (0 : Int32) → ∃ j17, P_Rows_gather_17 post j17 r1 (0 : Int32) M2) x1 (0 : Int32) M
theorem k_Rows_gather {X : FX} {g : GT} {ext : List CD} {A : Nat → Prop} {Z : State → Prop} {post : Mem → Prop} (C : Cx X g (layC ++ ext) A cX7_gather 5 RX7 4) (hr : 0 ≤ X.2.2.2.1.cells ∧ 0 ≤ X.2.2.2.1.slots) (hR : RetV X g (layC ++ ext) A cX7_gather 5 0 0 Z post) (x1 : Int32) (M : Mem) (h : P_Rows_gather post x1 M) : At X g (layC ++ ext) A 5 0 0 Z 0 [(0, .ref (ad g 80)), (1, .int x1)] [] M := by
  refine a_aload_n C (tk T_cX7_gather 0 rfl) rfl ?_
  refine a_getR C f_RX7_26 (tk T_cX7_gather 1 rfl) lc80 rfl ?_
  refine a_iload_n C (tk T_cX7_gather 2 rfl) rfl ?_
  refine a_iconst C (0 : Int32) (tk T_cX7_gather 3 rfl) kI_0 ?_
  refine a_callI C [.int x1, .int (0 : Int32)] me_yX3_leftBits lk_RX7_30 (ct_Judge_leftBits h) (by decide) lc69 rfl rfl rfl (Nat.le_of_ble_eq_true rfl) (tk T_cX7_gather 4 rfl) hr (fun r1 M1 h => ?_)
  refine a_istore_n C (tk T_cX7_gather 5 rfl) (by decide) rfl ?_
  refine a_aload_n C (tk T_cX7_gather 6 rfl) rfl ?_
  refine a_iconst C (0 : Int32) (tk T_cX7_gather 7 rfl) kI_0 ?_
  refine a_put C f_RX7_36 f_RX7_36p rfl rfl (tk T_cX7_gather 8 rfl) lc80 rfl ?_
  refine a_mem (fun M2 e_M2 => ?_)
  have h := h M2 e_M2
  refine a_iconst C (0 : Int32) (tk T_cX7_gather 9 rfl) kI_0 ?_
  refine a_istore_n C (tk T_cX7_gather 10 rfl) (by decide) rfl ?_
  obtain ⟨n1, h⟩ := h
  exact a_to (k_Rows_gather_17 C hr hR n1 r1 (0 : Int32) M2 h) rfl
theorem ct_Rows_gather {l : Launch} {g : GT} {ext : List CD} {post : Mem → Prop} {x1 : Int32} {M : Mem} (h : P_Rows_gather post x1 M) : CV l g (layC ++ ext) yX7_gather cX7_gather 5 none 4 [.ref (ad g 80), .int x1] M post :=
  cv_of (plainFor_of_name (by decide +kernel)) (Nat.le_of_ble_eq_true rfl) (fun X A Z hl C hr hR => by subst hl; exact k_Rows_gather C hr hR x1 M h)
def T_cX7_leastStepAboveL : List (Nat × Instr × Nat) := [(0, .iconst (-1), 1), (1, .istore_n 2, 1), (2, .iconst 0, 1), (3, .istore_n 3, 1), (4, .iload_n 3, 1), (5, .aload_n 0, 1), (6, .getfield 36, 3), (9, .if_icmp .ge 63, 3), (12, .iconst 0, 1), (13, .istore 4, 2), (15, .iload 4, 2), (17, .iload_n 3, 1), (18, .if_icmp .ge 48, 3), (21, .aload_n 0, 1), (22, .getfield 11, 3), (25, .iload_n 3, 1), (26, .iaload, 1), (27, .aload_n 0, 1), (28, .getfield 11, 3), (31, .iload 4, 2), (33, .iaload, 1), (34, .isub, 1), (35, .invokestatic 88, 3), (38, .istore 5, 2), (40, .iload 5, 2), (42, .iload_n 1, 1), (43, .if_icmp .le 17, 3), (46, .iload_n 2, 1), (47, .iconst (-1), 1), (48, .if_icmp .eq 9, 3), (51, .iload 5, 2), (53, .iload_n 2, 1), (54, .if_icmp .ge 6, 3), (57, .iload 5, 2), (59, .istore_n 2, 1), (60, .iinc 4 1, 3), (63, .goto (-48), 3), (66, .iinc 3 1, 3), (69, .goto (-65), 3), (72, .iload_n 2, 1), (73, .ireturn, 1)]
theorem T_cX7_leastStepAbove : tabOK cX7_leastStepAbove T_cX7_leastStepAboveL = true := by decide +kernel
def P_Rows_leastStepAbove_60 (post : Int32 → Mem → Prop) (R4 : Int32 → Int32 → Int32 → Mem → Prop) (R15 : Int32 → Int32 → Int32 → Int32 → Mem → Prop) (x1 x2 x3 x4 : Int32) (M : Mem) : Prop :=
  R15 x1 x2 x3 (x4 + (1 : Int32)) M
theorem k_Rows_leastStepAbove_60 {X : FX} {g : GT} {ext : List CD} {A : Nat → Prop} {Z : State → Prop} {post : Int32 → Mem → Prop} {R4 : Int32 → Int32 → Int32 → Mem → Prop} {R15 : Int32 → Int32 → Int32 → Int32 → Mem → Prop} (C : Cx X g (layC ++ ext) A cX7_leastStepAbove 6 RX7 1) (hr : 0 ≤ X.2.2.2.1.cells ∧ 0 ≤ X.2.2.2.1.slots) (hR : RetI X g (layC ++ ext) A cX7_leastStepAbove 6 0 0 Z post) (k4 : ∀ (y1 y2 y3 : Int32) (M : Mem), R4 y1 y2 y3 M → At X g (layC ++ ext) A 6 0 0 Z 4 [(0, .ref (ad g 80)), (1, .int y1), (2, .int y2), (3, .int y3)] [] M) (k15 : ∀ (y1 y2 y3 y4 : Int32) (M : Mem), R15 y1 y2 y3 y4 M → At X g (layC ++ ext) A 6 0 0 Z 15 [(0, .ref (ad g 80)), (1, .int y1), (2, .int y2), (3, .int y3), (4, .int y4)] [] M) (x1 x2 x3 x4 : Int32) (M : Mem) (h : P_Rows_leastStepAbove_60 post R4 R15 x1 x2 x3 x4 M) : At X g (layC ++ ext) A 6 0 0 Z 60 [(0, .ref (ad g 80)), (1, .int x1), (2, .int x2), (3, .int x3), (4, .int x4)] [] M := by
  refine a_iinc C (1 : Int32) (tk T_cX7_leastStepAbove 35 rfl) rfl kI_1 (by decide) rfl ?_
  refine a_goto C 15 (tk T_cX7_leastStepAbove 36 rfl) rfl ?_
  exact a_to (k15 x1 x2 x3 (x4 + (1 : Int32)) M h) rfl
def P_Rows_leastStepAbove_57 (post : Int32 → Mem → Prop) (R4 : Int32 → Int32 → Int32 → Mem → Prop) (R15 : Int32 → Int32 → Int32 → Int32 → Mem → Prop) (x1 x3 x4 x5 : Int32) (M : Mem) : Prop :=
  P_Rows_leastStepAbove_60 post R4 R15 x1 x5 x3 x4 M
theorem k_Rows_leastStepAbove_57 {X : FX} {g : GT} {ext : List CD} {A : Nat → Prop} {Z : State → Prop} {post : Int32 → Mem → Prop} {R4 : Int32 → Int32 → Int32 → Mem → Prop} {R15 : Int32 → Int32 → Int32 → Int32 → Mem → Prop} (C : Cx X g (layC ++ ext) A cX7_leastStepAbove 6 RX7 1) (hr : 0 ≤ X.2.2.2.1.cells ∧ 0 ≤ X.2.2.2.1.slots) (hR : RetI X g (layC ++ ext) A cX7_leastStepAbove 6 0 0 Z post) (k4 : ∀ (y1 y2 y3 : Int32) (M : Mem), R4 y1 y2 y3 M → At X g (layC ++ ext) A 6 0 0 Z 4 [(0, .ref (ad g 80)), (1, .int y1), (2, .int y2), (3, .int y3)] [] M) (k15 : ∀ (y1 y2 y3 y4 : Int32) (M : Mem), R15 y1 y2 y3 y4 M → At X g (layC ++ ext) A 6 0 0 Z 15 [(0, .ref (ad g 80)), (1, .int y1), (2, .int y2), (3, .int y3), (4, .int y4)] [] M) (x1 x3 x4 x5 : Int32) (M : Mem) (h : P_Rows_leastStepAbove_57 post R4 R15 x1 x3 x4 x5 M) : At X g (layC ++ ext) A 6 0 0 Z 57 [(0, .ref (ad g 80)), (1, .int x1), (3, .int x3), (4, .int x4), (5, .int x5)] [] M := by
  refine a_iload C (tk T_cX7_leastStepAbove 33 rfl) rfl ?_
  refine a_istore_n C (tk T_cX7_leastStepAbove 34 rfl) (by decide) rfl ?_
  exact a_to (k_Rows_leastStepAbove_60 C hr hR k4 k15 x1 x5 x3 x4 M h) rfl
def P_Rows_leastStepAbove_15 (post : Int32 → Mem → Prop) (R4 : Int32 → Int32 → Int32 → Mem → Prop) : Nat → Int32 → Int32 → Int32 → Int32 → Mem → Prop
  | 0, _, _, _, _, _ => False
  | n + 1, x1, x2, x3, x4, M =>
    (x3 ≤ x4 → (R4 x1 x2 (x3 + (1 : Int32)) M)) ∧
  (¬ x3 ≤ x4 → (vp_in x3 10 ∧ vp_in x4 10 ∧ P_Math_abs (fun r1 M1 =>
  (r1 ≤ x1 → (P_Rows_leastStepAbove_60 post R4 (P_Rows_leastStepAbove_15 post R4 n) x1 x2 x3 x4 M1)) ∧
  (¬ r1 ≤ x1 → ((x2 = (-1 : Int32) → (P_Rows_leastStepAbove_57 post R4 (P_Rows_leastStepAbove_15 post R4 n) x1 x3 x4 r1 M1)) ∧
  (¬ x2 = (-1 : Int32) → ((x2 ≤ r1 → (P_Rows_leastStepAbove_60 post R4 (P_Rows_leastStepAbove_15 post R4 n) x1 x2 x3 x4 M1)) ∧
  (¬ x2 ≤ r1 → (P_Rows_leastStepAbove_57 post R4 (P_Rows_leastStepAbove_15 post R4 n) x1 x3 x4 r1 M1))))))) ((M 81 x3.toNatClampNeg) - (M 81 x4.toNatClampNeg)) M))
theorem k_Rows_leastStepAbove_15 {X : FX} {g : GT} {ext : List CD} {A : Nat → Prop} {Z : State → Prop} {post : Int32 → Mem → Prop} {R4 : Int32 → Int32 → Int32 → Mem → Prop} (C : Cx X g (layC ++ ext) A cX7_leastStepAbove 6 RX7 1) (hr : 0 ≤ X.2.2.2.1.cells ∧ 0 ≤ X.2.2.2.1.slots) (hR : RetI X g (layC ++ ext) A cX7_leastStepAbove 6 0 0 Z post) (k4 : ∀ (y1 y2 y3 : Int32) (M : Mem), R4 y1 y2 y3 M → At X g (layC ++ ext) A 6 0 0 Z 4 [(0, .ref (ad g 80)), (1, .int y1), (2, .int y2), (3, .int y3)] [] M) : ∀ (n : Nat) (x1 x2 x3 x4 : Int32) (M : Mem), P_Rows_leastStepAbove_15 post R4 n x1 x2 x3 x4 M → At X g (layC ++ ext) A 6 0 0 Z 15 [(0, .ref (ad g 80)), (1, .int x1), (2, .int x2), (3, .int x3), (4, .int x4)] [] M := by
  intro n
  induction n with
  | zero =>
    intro x1 x2 x3 x4 M h
    exact h.elim
  | succ n ih =>
    intro x1 x2 x3 x4 M h
    refine a_iload C (tk T_cX7_leastStepAbove 10 rfl) rfl ?_
    refine a_iload_n C (tk T_cX7_leastStepAbove 11 rfl) rfl ?_
    refine a_icmp_ge C 66 (tk T_cX7_leastStepAbove 12 rfl) rfl (fun c => ?_) (fun c => ?_)
    · have h := h.1 c
      refine a_iinc C (1 : Int32) (tk T_cX7_leastStepAbove 37 rfl) rfl kI_1 (by decide) rfl ?_
      refine a_goto C 4 (tk T_cX7_leastStepAbove 38 rfl) rfl ?_
      exact a_to (k4 x1 x2 (x3 + (1 : Int32)) M h) rfl
    · have h := h.2 c
      refine a_aload_n C (tk T_cX7_leastStepAbove 13 rfl) rfl ?_
      refine a_getR C f_RX7_11 (tk T_cX7_leastStepAbove 14 rfl) lc80 rfl ?_
      refine a_iload_n C (tk T_cX7_leastStepAbove 15 rfl) rfl ?_
      obtain ⟨hb, h⟩ := h
      refine a_iald C (tk T_cX7_leastStepAbove 16 rfl) lc81 hb ?_
      refine a_aload_n C (tk T_cX7_leastStepAbove 17 rfl) rfl ?_
      refine a_getR C f_RX7_11 (tk T_cX7_leastStepAbove 18 rfl) lc80 rfl ?_
      refine a_iload C (tk T_cX7_leastStepAbove 19 rfl) rfl ?_
      obtain ⟨hb, h⟩ := h
      refine a_iald C (tk T_cX7_leastStepAbove 20 rfl) lc81 hb ?_
      refine a_isub C (tk T_cX7_leastStepAbove 21 rfl) ?_
      refine a_statI C [.int ((M 81 x3.toNatClampNeg) - (M 81 x4.toNatClampNeg))] me_yJ9_abs_0f7a4 lk_RX7_88 (ct_Math_abs h) (by decide) rfl rfl (Nat.le_of_ble_eq_true rfl) (tk T_cX7_leastStepAbove 22 rfl) hr (fun r1 M1 h => ?_)
      refine a_istore C (tk T_cX7_leastStepAbove 23 rfl) (by decide) rfl ?_
      refine a_iload C (tk T_cX7_leastStepAbove 24 rfl) rfl ?_
      refine a_iload_n C (tk T_cX7_leastStepAbove 25 rfl) rfl ?_
      refine a_icmp_le C 60 (tk T_cX7_leastStepAbove 26 rfl) rfl (fun c => ?_) (fun c => ?_)
      · have h := h.1 c
        exact a_to (k_Rows_leastStepAbove_60 C hr hR k4 ih x1 x2 x3 x4 M1 h) rfl
      · have h := h.2 c
        refine a_iload_n C (tk T_cX7_leastStepAbove 27 rfl) rfl ?_
        refine a_iconst C (-1 : Int32) (tk T_cX7_leastStepAbove 28 rfl) kI_m1 ?_
        refine a_icmp_eq C 57 (tk T_cX7_leastStepAbove 29 rfl) rfl (fun c => ?_) (fun c => ?_)
        · have h := h.1 c
          exact a_to (k_Rows_leastStepAbove_57 C hr hR k4 ih x1 x3 x4 r1 M1 h) rfl
        · have h := h.2 c
          refine a_iload C (tk T_cX7_leastStepAbove 30 rfl) rfl ?_
          refine a_iload_n C (tk T_cX7_leastStepAbove 31 rfl) rfl ?_
          refine a_icmp_ge C 60 (tk T_cX7_leastStepAbove 32 rfl) rfl (fun c => ?_) (fun c => ?_)
          · have h := h.1 c
            exact a_to (k_Rows_leastStepAbove_60 C hr hR k4 ih x1 x2 x3 x4 M1 h) rfl
          · have h := h.2 c
            exact a_to (k_Rows_leastStepAbove_57 C hr hR k4 ih x1 x3 x4 r1 M1 h) rfl
def P_Rows_leastStepAbove_4 (post : Int32 → Mem → Prop) : Nat → Int32 → Int32 → Int32 → Mem → Prop
  | 0, _, _, _, _ => False
  | n + 1, x1, x2, x3, M =>
    ((M 80 5) ≤ x3 → (post x2 M)) ∧
  (¬ (M 80 5) ≤ x3 → (∃ j15, P_Rows_leastStepAbove_15 post (P_Rows_leastStepAbove_4 post n) j15 x1 x2 x3 (0 : Int32) M))
theorem k_Rows_leastStepAbove_4 {X : FX} {g : GT} {ext : List CD} {A : Nat → Prop} {Z : State → Prop} {post : Int32 → Mem → Prop} (C : Cx X g (layC ++ ext) A cX7_leastStepAbove 6 RX7 1) (hr : 0 ≤ X.2.2.2.1.cells ∧ 0 ≤ X.2.2.2.1.slots) (hR : RetI X g (layC ++ ext) A cX7_leastStepAbove 6 0 0 Z post) : ∀ (n : Nat) (x1 x2 x3 : Int32) (M : Mem), P_Rows_leastStepAbove_4 post n x1 x2 x3 M → At X g (layC ++ ext) A 6 0 0 Z 4 [(0, .ref (ad g 80)), (1, .int x1), (2, .int x2), (3, .int x3)] [] M := by
  intro n
  induction n with
  | zero =>
    intro x1 x2 x3 M h
    exact h.elim
  | succ n ih =>
    intro x1 x2 x3 M h
    refine a_iload_n C (tk T_cX7_leastStepAbove 4 rfl) rfl ?_
    refine a_aload_n C (tk T_cX7_leastStepAbove 5 rfl) rfl ?_
    refine a_getI C f_RX7_36 (tk T_cX7_leastStepAbove 6 rfl) lc80 rfl ?_
    refine a_icmp_ge C 72 (tk T_cX7_leastStepAbove 7 rfl) rfl (fun c => ?_) (fun c => ?_)
    · have h := h.1 c
      refine a_iload_n C (tk T_cX7_leastStepAbove 39 rfl) rfl ?_
      exact hR _ _ _ _ (tk T_cX7_leastStepAbove 40 rfl) h
    · have h := h.2 c
      refine a_iconst C (0 : Int32) (tk T_cX7_leastStepAbove 8 rfl) kI_0 ?_
      refine a_istore C (tk T_cX7_leastStepAbove 9 rfl) (by decide) rfl ?_
      obtain ⟨n1, h⟩ := h
      exact a_to (k_Rows_leastStepAbove_15 C hr hR ih n1 x1 x2 x3 (0 : Int32) M h) rfl
def P_Rows_leastStepAbove (post : Int32 → Mem → Prop) (x1 : Int32) (M : Mem) : Prop :=
  ∃ j4, P_Rows_leastStepAbove_4 post j4 x1 (-1 : Int32) (0 : Int32) M
theorem k_Rows_leastStepAbove {X : FX} {g : GT} {ext : List CD} {A : Nat → Prop} {Z : State → Prop} {post : Int32 → Mem → Prop} (C : Cx X g (layC ++ ext) A cX7_leastStepAbove 6 RX7 1) (hr : 0 ≤ X.2.2.2.1.cells ∧ 0 ≤ X.2.2.2.1.slots) (hR : RetI X g (layC ++ ext) A cX7_leastStepAbove 6 0 0 Z post) (x1 : Int32) (M : Mem) (h : P_Rows_leastStepAbove post x1 M) : At X g (layC ++ ext) A 6 0 0 Z 0 [(0, .ref (ad g 80)), (1, .int x1)] [] M := by
  refine a_iconst C (-1 : Int32) (tk T_cX7_leastStepAbove 0 rfl) kI_m1 ?_
  refine a_istore_n C (tk T_cX7_leastStepAbove 1 rfl) (by decide) rfl ?_
  refine a_iconst C (0 : Int32) (tk T_cX7_leastStepAbove 2 rfl) kI_0 ?_
  refine a_istore_n C (tk T_cX7_leastStepAbove 3 rfl) (by decide) rfl ?_
  obtain ⟨n1, h⟩ := h
  exact a_to (k_Rows_leastStepAbove_4 C hr hR n1 x1 (-1 : Int32) (0 : Int32) M h) rfl
theorem ct_Rows_leastStepAbove {l : Launch} {g : GT} {ext : List CD} {post : Int32 → Mem → Prop} {x1 : Int32} {M : Mem} (h : P_Rows_leastStepAbove post x1 M) : CI l g (layC ++ ext) yX7_leastStepAbove cX7_leastStepAbove 6 (some .int) 1 [.ref (ad g 80), .int x1] M post :=
  ci_of (plainFor_of_name (by decide +kernel)) (Nat.le_of_ble_eq_true rfl) (fun X A Z hl C hr hR => by subst hl; exact k_Rows_leastStepAbove C hr hR x1 M h)
def T_cX7_putPartnersL : List (Nat × Instr × Nat) := [(0, .iconst 0, 1), (1, .istore_n 3, 1), (2, .iconst 0, 1), (3, .istore 4, 2), (5, .iload 4, 2), (7, .aload_n 0, 1), (8, .getfield 36, 3), (11, .if_icmp .ge 76, 3), (14, .aload_n 0, 1), (15, .getfield 15, 3), (18, .iload 4, 2), (20, .iconst 0, 1), (21, .iastore, 1), (22, .iconst 0, 1), (23, .istore 5, 2), (25, .iload 5, 2), (27, .iload 4, 2), (29, .if_icmp .ge 52, 3), (32, .aload_n 0, 1), (33, .getfield 11, 3), (36, .iload 4, 2), (38, .iaload, 1), (39, .aload_n 0, 1), (40, .getfield 11, 3), (43, .iload 5, 2), (45, .iaload, 1), (46, .isub, 1), (47, .invokestatic 88, 3), (50, .iload_n 1, 1), (51, .iload_n 2, 1), (52, .invokestatic 91, 3), (55, .ifCond .eq 20, 3), (58, .aload_n 0, 1), (59, .getfield 15, 3), (62, .iload 4, 2), (64, .dup2, 1), (65, .iaload, 1), (66, .iconst 1, 1), (67, .iload 5, 2), (69, .ishl, 1), (70, .ior, 1), (71, .iastore, 1), (72, .iinc 3 1, 3), (75, .iinc 5 1, 3), (78, .goto (-53), 3), (81, .iinc 4 1, 3), (84, .goto (-79), 3), (87, .iload_n 3, 1), (88, .ireturn, 1)]
theorem T_cX7_putPartners : tabOK cX7_putPartners T_cX7_putPartnersL = true := by decide +kernel
def P_Rows_putPartners_75 (post : Int32 → Mem → Prop) (R5 : Int32 → Int32 → Int32 → Int32 → Mem → Prop) (R25 : Int32 → Int32 → Int32 → Int32 → Int32 → Mem → Prop) (x1 x2 x3 x4 x5 : Int32) (M : Mem) : Prop :=
  R25 x1 x2 x3 x4 (x5 + (1 : Int32)) M
theorem k_Rows_putPartners_75 {X : FX} {g : GT} {ext : List CD} {A : Nat → Prop} {Z : State → Prop} {post : Int32 → Mem → Prop} {R5 : Int32 → Int32 → Int32 → Int32 → Mem → Prop} {R25 : Int32 → Int32 → Int32 → Int32 → Int32 → Mem → Prop} (C : Cx X g (layC ++ ext) A cX7_putPartners 6 RX7 1) (hr : 0 ≤ X.2.2.2.1.cells ∧ 0 ≤ X.2.2.2.1.slots) (hR : RetI X g (layC ++ ext) A cX7_putPartners 6 0 0 Z post) (k5 : ∀ (y1 y2 y3 y4 : Int32) (M : Mem), R5 y1 y2 y3 y4 M → At X g (layC ++ ext) A 6 0 0 Z 5 [(0, .ref (ad g 80)), (1, .int y1), (2, .int y2), (3, .int y3), (4, .int y4)] [] M) (k25 : ∀ (y1 y2 y3 y4 y5 : Int32) (M : Mem), R25 y1 y2 y3 y4 y5 M → At X g (layC ++ ext) A 6 0 0 Z 25 [(0, .ref (ad g 80)), (1, .int y1), (2, .int y2), (3, .int y3), (4, .int y4), (5, .int y5)] [] M) (x1 x2 x3 x4 x5 : Int32) (M : Mem) (h : P_Rows_putPartners_75 post R5 R25 x1 x2 x3 x4 x5 M) : At X g (layC ++ ext) A 6 0 0 Z 75 [(0, .ref (ad g 80)), (1, .int x1), (2, .int x2), (3, .int x3), (4, .int x4), (5, .int x5)] [] M := by
  refine a_iinc C (1 : Int32) (tk T_cX7_putPartners 43 rfl) rfl kI_1 (by decide) rfl ?_
  refine a_goto C 25 (tk T_cX7_putPartners 44 rfl) rfl ?_
  exact a_to (k25 x1 x2 x3 x4 (x5 + (1 : Int32)) M h) rfl
def P_Rows_putPartners_25 (post : Int32 → Mem → Prop) (R5 : Int32 → Int32 → Int32 → Int32 → Mem → Prop) : Nat → Int32 → Int32 → Int32 → Int32 → Int32 → Mem → Prop
  | 0, _, _, _, _, _, _ => False
  | n + 1, x1, x2, x3, x4, x5, M =>
    (x4 ≤ x5 → (R5 x1 x2 x3 (x4 + (1 : Int32)) M)) ∧
  (¬ x4 ≤ x5 → (vp_in x4 10 ∧ vp_in x5 10 ∧ P_Math_abs (fun r1 M1 =>
  P_R_within (fun r2 M2 =>
  (r2 = 0 → (P_Rows_putPartners_75 post R5 (P_Rows_putPartners_25 post R5 n) x1 x2 x3 x4 x5 M2)) ∧
  (¬ r2 = 0 → (vp_in x4 10 ∧ vp_in x4 10 ∧ ∀ M3, M3 = ms M2 82 x4.toNatClampNeg ((M2 82 x4.toNatClampNeg) ||| ((1 : Int32) <<< (x5 &&& 31))) → P_Rows_putPartners_75 post R5 (P_Rows_putPartners_25 post R5 n) x1 x2 (x3 + (1 : Int32)) x4 x5 M3))) r1 x1 x2 M1) ((M 81 x4.toNatClampNeg) - (M 81 x5.toNatClampNeg)) M))
theorem k_Rows_putPartners_25 {X : FX} {g : GT} {ext : List CD} {A : Nat → Prop} {Z : State → Prop} {post : Int32 → Mem → Prop} {R5 : Int32 → Int32 → Int32 → Int32 → Mem → Prop} (C : Cx X g (layC ++ ext) A cX7_putPartners 6 RX7 1) (hr : 0 ≤ X.2.2.2.1.cells ∧ 0 ≤ X.2.2.2.1.slots) (hR : RetI X g (layC ++ ext) A cX7_putPartners 6 0 0 Z post) (k5 : ∀ (y1 y2 y3 y4 : Int32) (M : Mem), R5 y1 y2 y3 y4 M → At X g (layC ++ ext) A 6 0 0 Z 5 [(0, .ref (ad g 80)), (1, .int y1), (2, .int y2), (3, .int y3), (4, .int y4)] [] M) : ∀ (n : Nat) (x1 x2 x3 x4 x5 : Int32) (M : Mem), P_Rows_putPartners_25 post R5 n x1 x2 x3 x4 x5 M → At X g (layC ++ ext) A 6 0 0 Z 25 [(0, .ref (ad g 80)), (1, .int x1), (2, .int x2), (3, .int x3), (4, .int x4), (5, .int x5)] [] M := by
  intro n
  induction n with
  | zero =>
    intro x1 x2 x3 x4 x5 M h
    exact h.elim
  | succ n ih =>
    intro x1 x2 x3 x4 x5 M h
    refine a_iload C (tk T_cX7_putPartners 15 rfl) rfl ?_
    refine a_iload C (tk T_cX7_putPartners 16 rfl) rfl ?_
    refine a_icmp_ge C 81 (tk T_cX7_putPartners 17 rfl) rfl (fun c => ?_) (fun c => ?_)
    · have h := h.1 c
      refine a_iinc C (1 : Int32) (tk T_cX7_putPartners 45 rfl) rfl kI_1 (by decide) rfl ?_
      refine a_goto C 5 (tk T_cX7_putPartners 46 rfl) rfl ?_
      exact a_to (k5 x1 x2 x3 (x4 + (1 : Int32)) M h) rfl
    · have h := h.2 c
      refine a_aload_n C (tk T_cX7_putPartners 18 rfl) rfl ?_
      refine a_getR C f_RX7_11 (tk T_cX7_putPartners 19 rfl) lc80 rfl ?_
      refine a_iload C (tk T_cX7_putPartners 20 rfl) rfl ?_
      obtain ⟨hb, h⟩ := h
      refine a_iald C (tk T_cX7_putPartners 21 rfl) lc81 hb ?_
      refine a_aload_n C (tk T_cX7_putPartners 22 rfl) rfl ?_
      refine a_getR C f_RX7_11 (tk T_cX7_putPartners 23 rfl) lc80 rfl ?_
      refine a_iload C (tk T_cX7_putPartners 24 rfl) rfl ?_
      obtain ⟨hb, h⟩ := h
      refine a_iald C (tk T_cX7_putPartners 25 rfl) lc81 hb ?_
      refine a_isub C (tk T_cX7_putPartners 26 rfl) ?_
      refine a_statI C [.int ((M 81 x4.toNatClampNeg) - (M 81 x5.toNatClampNeg))] me_yJ9_abs_0f7a4 lk_RX7_88 (ct_Math_abs h) (by decide) rfl rfl (Nat.le_of_ble_eq_true rfl) (tk T_cX7_putPartners 27 rfl) hr (fun r1 M1 h => ?_)
      refine a_iload_n C (tk T_cX7_putPartners 28 rfl) rfl ?_
      refine a_iload_n C (tk T_cX7_putPartners 29 rfl) rfl ?_
      refine a_nestI C [.int r1, .int x1, .int x2] me_yX11_within lk_RX7_91 (ct_R_within h) (by decide) rfl rfl (Nat.le_of_ble_eq_true rfl) (tk T_cX7_putPartners 30 rfl) hr (fun r2 M2 h => ?_)
      refine a_if_eq C 75 (tk T_cX7_putPartners 31 rfl) rfl (fun c => ?_) (fun c => ?_)
      · have h := h.1 c
        exact a_to (k_Rows_putPartners_75 C hr hR k5 ih x1 x2 x3 x4 x5 M2 h) rfl
      · have h := h.2 c
        refine a_aload_n C (tk T_cX7_putPartners 32 rfl) rfl ?_
        refine a_getR C f_RX7_15 (tk T_cX7_putPartners 33 rfl) lc80 rfl ?_
        refine a_iload C (tk T_cX7_putPartners 34 rfl) rfl ?_
        refine a_dup2ir C (tk T_cX7_putPartners 35 rfl) ?_
        obtain ⟨hb, h⟩ := h
        refine a_iald C (tk T_cX7_putPartners 36 rfl) lc82 hb ?_
        refine a_iconst C (1 : Int32) (tk T_cX7_putPartners 37 rfl) kI_1 ?_
        refine a_iload C (tk T_cX7_putPartners 38 rfl) rfl ?_
        refine a_ishl C (tk T_cX7_putPartners 39 rfl) ?_
        refine a_ior C (tk T_cX7_putPartners 40 rfl) ?_
        obtain ⟨hb, h⟩ := h
        refine a_iast C (tk T_cX7_putPartners 41 rfl) lc82 hb ?_
        refine a_mem (fun M3 e_M3 => ?_)
        have h := h M3 e_M3
        refine a_iinc C (1 : Int32) (tk T_cX7_putPartners 42 rfl) rfl kI_1 (by decide) rfl ?_
        exact a_to (k_Rows_putPartners_75 C hr hR k5 ih x1 x2 (x3 + (1 : Int32)) x4 x5 M3 h) rfl
def P_Rows_putPartners_5 (post : Int32 → Mem → Prop) : Nat → Int32 → Int32 → Int32 → Int32 → Mem → Prop
  | 0, _, _, _, _, _ => False
  | n + 1, x1, x2, x3, x4, M =>
    ((M 80 5) ≤ x4 → (post x3 M)) ∧
  (¬ (M 80 5) ≤ x4 → (vp_in x4 10 ∧ ∀ M1, M1 = ms M 82 x4.toNatClampNeg (0 : Int32) → ∃ j25, P_Rows_putPartners_25 post (P_Rows_putPartners_5 post n) j25 x1 x2 x3 x4 (0 : Int32) M1))
theorem k_Rows_putPartners_5 {X : FX} {g : GT} {ext : List CD} {A : Nat → Prop} {Z : State → Prop} {post : Int32 → Mem → Prop} (C : Cx X g (layC ++ ext) A cX7_putPartners 6 RX7 1) (hr : 0 ≤ X.2.2.2.1.cells ∧ 0 ≤ X.2.2.2.1.slots) (hR : RetI X g (layC ++ ext) A cX7_putPartners 6 0 0 Z post) : ∀ (n : Nat) (x1 x2 x3 x4 : Int32) (M : Mem), P_Rows_putPartners_5 post n x1 x2 x3 x4 M → At X g (layC ++ ext) A 6 0 0 Z 5 [(0, .ref (ad g 80)), (1, .int x1), (2, .int x2), (3, .int x3), (4, .int x4)] [] M := by
  intro n
  induction n with
  | zero =>
    intro x1 x2 x3 x4 M h
    exact h.elim
  | succ n ih =>
    intro x1 x2 x3 x4 M h
    refine a_iload C (tk T_cX7_putPartners 4 rfl) rfl ?_
    refine a_aload_n C (tk T_cX7_putPartners 5 rfl) rfl ?_
    refine a_getI C f_RX7_36 (tk T_cX7_putPartners 6 rfl) lc80 rfl ?_
    refine a_icmp_ge C 87 (tk T_cX7_putPartners 7 rfl) rfl (fun c => ?_) (fun c => ?_)
    · have h := h.1 c
      refine a_iload_n C (tk T_cX7_putPartners 47 rfl) rfl ?_
      exact hR _ _ _ _ (tk T_cX7_putPartners 48 rfl) h
    · have h := h.2 c
      refine a_aload_n C (tk T_cX7_putPartners 8 rfl) rfl ?_
      refine a_getR C f_RX7_15 (tk T_cX7_putPartners 9 rfl) lc80 rfl ?_
      refine a_iload C (tk T_cX7_putPartners 10 rfl) rfl ?_
      refine a_iconst C (0 : Int32) (tk T_cX7_putPartners 11 rfl) kI_0 ?_
      obtain ⟨hb, h⟩ := h
      refine a_iast C (tk T_cX7_putPartners 12 rfl) lc82 hb ?_
      refine a_mem (fun M1 e_M1 => ?_)
      have h := h M1 e_M1
      refine a_iconst C (0 : Int32) (tk T_cX7_putPartners 13 rfl) kI_0 ?_
      refine a_istore C (tk T_cX7_putPartners 14 rfl) (by decide) rfl ?_
      obtain ⟨n1, h⟩ := h
      exact a_to (k_Rows_putPartners_25 C hr hR ih n1 x1 x2 x3 x4 (0 : Int32) M1 h) rfl
def P_Rows_putPartners (post : Int32 → Mem → Prop) (x1 x2 : Int32) (M : Mem) : Prop :=
  ∃ j5, P_Rows_putPartners_5 post j5 x1 x2 (0 : Int32) (0 : Int32) M
theorem k_Rows_putPartners {X : FX} {g : GT} {ext : List CD} {A : Nat → Prop} {Z : State → Prop} {post : Int32 → Mem → Prop} (C : Cx X g (layC ++ ext) A cX7_putPartners 6 RX7 1) (hr : 0 ≤ X.2.2.2.1.cells ∧ 0 ≤ X.2.2.2.1.slots) (hR : RetI X g (layC ++ ext) A cX7_putPartners 6 0 0 Z post) (x1 x2 : Int32) (M : Mem) (h : P_Rows_putPartners post x1 x2 M) : At X g (layC ++ ext) A 6 0 0 Z 0 [(0, .ref (ad g 80)), (1, .int x1), (2, .int x2)] [] M := by
  refine a_iconst C (0 : Int32) (tk T_cX7_putPartners 0 rfl) kI_0 ?_
  refine a_istore_n C (tk T_cX7_putPartners 1 rfl) (by decide) rfl ?_
  refine a_iconst C (0 : Int32) (tk T_cX7_putPartners 2 rfl) kI_0 ?_
  refine a_istore C (tk T_cX7_putPartners 3 rfl) (by decide) rfl ?_
  obtain ⟨n1, h⟩ := h
  exact a_to (k_Rows_putPartners_5 C hr hR n1 x1 x2 (0 : Int32) (0 : Int32) M h) rfl
theorem ct_Rows_putPartners {l : Launch} {g : GT} {ext : List CD} {post : Int32 → Mem → Prop} {x1 x2 : Int32} {M : Mem} (h : P_Rows_putPartners post x1 x2 M) : CI l g (layC ++ ext) yX7_putPartners cX7_putPartners 6 (some .int) 1 [.ref (ad g 80), .int x1, .int x2] M post :=
  ci_of (plainFor_of_name (by decide +kernel)) (Nat.le_of_ble_eq_true rfl) (fun X A Z hl C hr hR => by subst hl; exact k_Rows_putPartners C hr hR x1 x2 M h)
def T_cX7_mostPairsL : List (Nat × Instr × Nat) := [(0, .aload_n 0, 1), (1, .getfield 18, 3), (4, .iconst 0, 1), (5, .iconst 0, 1), (6, .bastore, 1), (7, .iconst 0, 1), (8, .istore_n 1, 1), (9, .iload_n 1, 1), (10, .aload_n 0, 1), (11, .getfield 36, 3), (14, .if_icmp .ge 115, 3), (17, .iconst 0, 1), (18, .istore_n 2, 1), (19, .iload_n 2, 1), (20, .iconst 1, 1), (21, .iload_n 1, 1), (22, .ishl, 1), (23, .if_icmp .ge 100, 3), (26, .aload_n 0, 1), (27, .getfield 15, 3), (30, .iload_n 1, 1), (31, .iaload, 1), (32, .iload_n 2, 1), (33, .iand, 1), (34, .istore_n 3, 1), (35, .aload_n 0, 1), (36, .getfield 18, 3), (39, .iload_n 2, 1), (40, .baload, 1), (41, .istore 4, 2), (43, .iconst 0, 1), (44, .istore 5, 2), (46, .iload 5, 2), (48, .iload_n 1, 1), (49, .if_icmp .ge 56, 3), (52, .iload_n 3, 1), (53, .ifCond .eq 52, 3), (56, .iload_n 3, 1), (57, .iload 5, 2), (59, .invokestatic 62, 3), (62, .ifCond .eq 37, 3), (65, .aload_n 0, 1), (66, .getfield 18, 3), (69, .iload_n 2, 1), (70, .iconst 1, 1), (71, .iload 5, 2), (73, .ishl, 1), (74, .isub, 1), (75, .baload, 1), (76, .iconst 1, 1), (77, .iadd, 1), (78, .iload 4, 2), (80, .if_icmp .le 19, 3), (83, .aload_n 0, 1), (84, .getfield 18, 3), (87, .iload_n 2, 1), (88, .iconst 1, 1), (89, .iload 5, 2), (91, .ishl, 1), (92, .isub, 1), (93, .baload, 1), (94, .iconst 1, 1), (95, .iadd, 1), (96, .i2b, 1), (97, .istore 4, 2), (99, .iinc 5 1, 3), (102, .goto (-56), 3), (105, .aload_n 0, 1), (106, .getfield 18, 3), (109, .iconst 1, 1), (110, .iload_n 1, 1), (111, .ishl, 1), (112, .iload_n 2, 1), (113, .iadd, 1), (114, .iload 4, 2), (116, .bastore, 1), (117, .iinc 2 1, 3), (120, .goto (-101), 3), (123, .iinc 1 1, 3), (126, .goto (-117), 3), (129, .aload_n 0, 1), (130, .getfield 18, 3), (133, .iconst 1, 1), (134, .aload_n 0, 1), (135, .getfield 36, 3), (138, .ishl, 1), (139, .iconst 1, 1), (140, .isub, 1), (141, .baload, 1), (142, .ireturn, 1)]
theorem T_cX7_mostPairs : tabOK cX7_mostPairs T_cX7_mostPairsL = true := by decide +kernel
def P_Rows_mostPairs_105 (post : Int32 → Mem → Prop) (R9 : Int32 → Mem → Prop) (R19 : Int32 → Int32 → Mem → Prop) (x1 x2 x4 : Int32) (M : Mem) : Prop :=
  vp_in (((1 : Int32) <<< (x1 &&& 31)) + x2) 1024 ∧ ∀ M1, M1 = ms M 83 (((1 : Int32) <<< (x1 &&& 31)) + x2).toNatClampNeg (vp_nar .byte x4) → R19 x1 (x2 + (1 : Int32)) M1
theorem k_Rows_mostPairs_105 {X : FX} {g : GT} {ext : List CD} {A : Nat → Prop} {Z : State → Prop} {post : Int32 → Mem → Prop} {R9 : Int32 → Mem → Prop} {R19 : Int32 → Int32 → Mem → Prop} (C : Cx X g (layC ++ ext) A cX7_mostPairs 6 RX7 1) (hr : 0 ≤ X.2.2.2.1.cells ∧ 0 ≤ X.2.2.2.1.slots) (hR : RetI X g (layC ++ ext) A cX7_mostPairs 6 0 0 Z post) (k9 : ∀ (y1 : Int32) (M : Mem), R9 y1 M → At X g (layC ++ ext) A 6 0 0 Z 9 [(0, .ref (ad g 80)), (1, .int y1)] [] M) (k19 : ∀ (y1 y2 : Int32) (M : Mem), R19 y1 y2 M → At X g (layC ++ ext) A 6 0 0 Z 19 [(0, .ref (ad g 80)), (1, .int y1), (2, .int y2)] [] M) (x1 x2 x4 : Int32) (M : Mem) (h : P_Rows_mostPairs_105 post R9 R19 x1 x2 x4 M) : At X g (layC ++ ext) A 6 0 0 Z 105 [(0, .ref (ad g 80)), (1, .int x1), (2, .int x2), (4, .int x4)] [] M := by
  refine a_aload_n C (tk T_cX7_mostPairs 67 rfl) rfl ?_
  refine a_getR C f_RX7_18 (tk T_cX7_mostPairs 68 rfl) lc80 rfl ?_
  refine a_iconst C (1 : Int32) (tk T_cX7_mostPairs 69 rfl) kI_1 ?_
  refine a_iload_n C (tk T_cX7_mostPairs 70 rfl) rfl ?_
  refine a_ishl C (tk T_cX7_mostPairs 71 rfl) ?_
  refine a_iload_n C (tk T_cX7_mostPairs 72 rfl) rfl ?_
  refine a_iadd C (tk T_cX7_mostPairs 73 rfl) ?_
  refine a_iload C (tk T_cX7_mostPairs 74 rfl) rfl ?_
  obtain ⟨hb, h⟩ := h
  refine a_bast C (tk T_cX7_mostPairs 75 rfl) lc83 hb ?_
  refine a_mem (fun M1 e_M1 => ?_)
  have h := h M1 e_M1
  refine a_iinc C (1 : Int32) (tk T_cX7_mostPairs 76 rfl) rfl kI_1 (by decide) rfl ?_
  refine a_goto C 19 (tk T_cX7_mostPairs 77 rfl) rfl ?_
  exact a_to (k19 x1 (x2 + (1 : Int32)) M1 h) rfl
def P_Rows_mostPairs_99 (post : Int32 → Mem → Prop) (R9 : Int32 → Mem → Prop) (R19 : Int32 → Int32 → Mem → Prop) (R46 : Int32 → Int32 → Int32 → Int32 → Int32 → Mem → Prop) (x1 x2 x3 x4 x5 : Int32) (M : Mem) : Prop :=
  R46 x1 x2 x3 x4 (x5 + (1 : Int32)) M
theorem k_Rows_mostPairs_99 {X : FX} {g : GT} {ext : List CD} {A : Nat → Prop} {Z : State → Prop} {post : Int32 → Mem → Prop} {R9 : Int32 → Mem → Prop} {R19 : Int32 → Int32 → Mem → Prop} {R46 : Int32 → Int32 → Int32 → Int32 → Int32 → Mem → Prop} (C : Cx X g (layC ++ ext) A cX7_mostPairs 6 RX7 1) (hr : 0 ≤ X.2.2.2.1.cells ∧ 0 ≤ X.2.2.2.1.slots) (hR : RetI X g (layC ++ ext) A cX7_mostPairs 6 0 0 Z post) (k9 : ∀ (y1 : Int32) (M : Mem), R9 y1 M → At X g (layC ++ ext) A 6 0 0 Z 9 [(0, .ref (ad g 80)), (1, .int y1)] [] M) (k19 : ∀ (y1 y2 : Int32) (M : Mem), R19 y1 y2 M → At X g (layC ++ ext) A 6 0 0 Z 19 [(0, .ref (ad g 80)), (1, .int y1), (2, .int y2)] [] M) (k46 : ∀ (y1 y2 y3 y4 y5 : Int32) (M : Mem), R46 y1 y2 y3 y4 y5 M → At X g (layC ++ ext) A 6 0 0 Z 46 [(0, .ref (ad g 80)), (1, .int y1), (2, .int y2), (3, .int y3), (4, .int y4), (5, .int y5)] [] M) (x1 x2 x3 x4 x5 : Int32) (M : Mem) (h : P_Rows_mostPairs_99 post R9 R19 R46 x1 x2 x3 x4 x5 M) : At X g (layC ++ ext) A 6 0 0 Z 99 [(0, .ref (ad g 80)), (1, .int x1), (2, .int x2), (3, .int x3), (4, .int x4), (5, .int x5)] [] M := by
  refine a_iinc C (1 : Int32) (tk T_cX7_mostPairs 65 rfl) rfl kI_1 (by decide) rfl ?_
  refine a_goto C 46 (tk T_cX7_mostPairs 66 rfl) rfl ?_
  exact a_to (k46 x1 x2 x3 x4 (x5 + (1 : Int32)) M h) rfl
def P_Rows_mostPairs_46 (post : Int32 → Mem → Prop) (R9 : Int32 → Mem → Prop) (R19 : Int32 → Int32 → Mem → Prop) : Nat → Int32 → Int32 → Int32 → Int32 → Int32 → Mem → Prop
  | 0, _, _, _, _, _, _ => False
  | n + 1, x1, x2, x3, x4, x5, M =>
    (x1 ≤ x5 → (P_Rows_mostPairs_105 post R9 R19 x1 x2 x4 M)) ∧
  (¬ x1 ≤ x5 → ((x3 = 0 → (P_Rows_mostPairs_105 post R9 R19 x1 x2 x4 M)) ∧
  (¬ x3 = 0 → (P_R_has (fun r1 M1 =>
  (r1 = 0 → (P_Rows_mostPairs_99 post R9 R19 (P_Rows_mostPairs_46 post R9 R19 n) x1 x2 x3 x4 x5 M1)) ∧
  (¬ r1 = 0 → (∀ i2, i2 = (x2 - ((1 : Int32) <<< (x5 &&& 31))) → vp_in i2 1024 ∧ (((M1 83 i2.toNatClampNeg) + (1 : Int32)) ≤ x4 → (P_Rows_mostPairs_99 post R9 R19 (P_Rows_mostPairs_46 post R9 R19 n) x1 x2 x3 x4 x5 M1)) ∧
  (¬ ((M1 83 i2.toNatClampNeg) + (1 : Int32)) ≤ x4 → (∀ i3, i3 = (x2 - ((1 : Int32) <<< (x5 &&& 31))) → vp_in i3 1024 ∧ ∀ x4_4, x4_4 = ((M1 83 i3.toNatClampNeg) + (1 : Int32)).toInt8.toInt32 → P_Rows_mostPairs_99 post R9 R19 (P_Rows_mostPairs_46 post R9 R19 n) x1 x2 x3 x4_4 x5 M1))))) x3 x5 M))))
theorem k_Rows_mostPairs_46 {X : FX} {g : GT} {ext : List CD} {A : Nat → Prop} {Z : State → Prop} {post : Int32 → Mem → Prop} {R9 : Int32 → Mem → Prop} {R19 : Int32 → Int32 → Mem → Prop} (C : Cx X g (layC ++ ext) A cX7_mostPairs 6 RX7 1) (hr : 0 ≤ X.2.2.2.1.cells ∧ 0 ≤ X.2.2.2.1.slots) (hR : RetI X g (layC ++ ext) A cX7_mostPairs 6 0 0 Z post) (k9 : ∀ (y1 : Int32) (M : Mem), R9 y1 M → At X g (layC ++ ext) A 6 0 0 Z 9 [(0, .ref (ad g 80)), (1, .int y1)] [] M) (k19 : ∀ (y1 y2 : Int32) (M : Mem), R19 y1 y2 M → At X g (layC ++ ext) A 6 0 0 Z 19 [(0, .ref (ad g 80)), (1, .int y1), (2, .int y2)] [] M) : ∀ (n : Nat) (x1 x2 x3 x4 x5 : Int32) (M : Mem), P_Rows_mostPairs_46 post R9 R19 n x1 x2 x3 x4 x5 M → At X g (layC ++ ext) A 6 0 0 Z 46 [(0, .ref (ad g 80)), (1, .int x1), (2, .int x2), (3, .int x3), (4, .int x4), (5, .int x5)] [] M := by
  intro n
  induction n with
  | zero =>
    intro x1 x2 x3 x4 x5 M h
    exact h.elim
  | succ n ih =>
    intro x1 x2 x3 x4 x5 M h
    refine a_iload C (tk T_cX7_mostPairs 32 rfl) rfl ?_
    refine a_iload_n C (tk T_cX7_mostPairs 33 rfl) rfl ?_
    refine a_icmp_ge C 105 (tk T_cX7_mostPairs 34 rfl) rfl (fun c => ?_) (fun c => ?_)
    · have h := h.1 c
      exact a_to (k_Rows_mostPairs_105 C hr hR k9 k19 x1 x2 x4 M h) rfl
    · have h := h.2 c
      refine a_iload_n C (tk T_cX7_mostPairs 35 rfl) rfl ?_
      refine a_if_eq C 105 (tk T_cX7_mostPairs 36 rfl) rfl (fun c => ?_) (fun c => ?_)
      · have h := h.1 c
        exact a_to (k_Rows_mostPairs_105 C hr hR k9 k19 x1 x2 x4 M h) rfl
      · have h := h.2 c
        refine a_iload_n C (tk T_cX7_mostPairs 37 rfl) rfl ?_
        refine a_iload C (tk T_cX7_mostPairs 38 rfl) rfl ?_
        refine a_nestI C [.int x3, .int x5] me_yX11_has lk_RX7_62 (ct_R_has h) (by decide) rfl rfl (Nat.le_of_ble_eq_true rfl) (tk T_cX7_mostPairs 39 rfl) hr (fun r1 M1 h => ?_)
        refine a_if_eq C 99 (tk T_cX7_mostPairs 40 rfl) rfl (fun c => ?_) (fun c => ?_)
        · have h := h.1 c
          exact a_to (k_Rows_mostPairs_99 C hr hR k9 k19 ih x1 x2 x3 x4 x5 M1 h) rfl
        · have h := h.2 c
          refine a_aload_n C (tk T_cX7_mostPairs 41 rfl) rfl ?_
          refine a_getR C f_RX7_18 (tk T_cX7_mostPairs 42 rfl) lc80 rfl ?_
          refine a_iload_n C (tk T_cX7_mostPairs 43 rfl) rfl ?_
          refine a_iconst C (1 : Int32) (tk T_cX7_mostPairs 44 rfl) kI_1 ?_
          refine a_iload C (tk T_cX7_mostPairs 45 rfl) rfl ?_
          refine a_ishl C (tk T_cX7_mostPairs 46 rfl) ?_
          refine a_isub C (tk T_cX7_mostPairs 47 rfl) ?_
          refine a_top (fun i2 e_i2 => ?_)
          have h := h i2 e_i2
          obtain ⟨hb, h⟩ := h
          refine a_bald C (tk T_cX7_mostPairs 48 rfl) lc83 hb ?_
          refine a_iconst C (1 : Int32) (tk T_cX7_mostPairs 49 rfl) kI_1 ?_
          refine a_iadd C (tk T_cX7_mostPairs 50 rfl) ?_
          refine a_iload C (tk T_cX7_mostPairs 51 rfl) rfl ?_
          refine a_icmp_le C 99 (tk T_cX7_mostPairs 52 rfl) rfl (fun c => ?_) (fun c => ?_)
          · have h := h.1 c
            exact a_to (k_Rows_mostPairs_99 C hr hR k9 k19 ih x1 x2 x3 x4 x5 M1 h) rfl
          · have h := h.2 c
            refine a_aload_n C (tk T_cX7_mostPairs 53 rfl) rfl ?_
            refine a_getR C f_RX7_18 (tk T_cX7_mostPairs 54 rfl) lc80 rfl ?_
            refine a_iload_n C (tk T_cX7_mostPairs 55 rfl) rfl ?_
            refine a_iconst C (1 : Int32) (tk T_cX7_mostPairs 56 rfl) kI_1 ?_
            refine a_iload C (tk T_cX7_mostPairs 57 rfl) rfl ?_
            refine a_ishl C (tk T_cX7_mostPairs 58 rfl) ?_
            refine a_isub C (tk T_cX7_mostPairs 59 rfl) ?_
            refine a_top (fun i3 e_i3 => ?_)
            have h := h i3 e_i3
            obtain ⟨hb, h⟩ := h
            refine a_bald C (tk T_cX7_mostPairs 60 rfl) lc83 hb ?_
            refine a_iconst C (1 : Int32) (tk T_cX7_mostPairs 61 rfl) kI_1 ?_
            refine a_iadd C (tk T_cX7_mostPairs 62 rfl) ?_
            refine a_i2b C (tk T_cX7_mostPairs 63 rfl) ?_
            refine a_top (fun x4_4 e_x4_4 => ?_)
            have h := h x4_4 e_x4_4
            refine a_istore C (tk T_cX7_mostPairs 64 rfl) (by decide) rfl ?_
            exact a_to (k_Rows_mostPairs_99 C hr hR k9 k19 ih x1 x2 x3 x4_4 x5 M1 h) rfl
def P_Rows_mostPairs_19 (post : Int32 → Mem → Prop) (R9 : Int32 → Mem → Prop) : Nat → Int32 → Int32 → Mem → Prop
  | 0, _, _, _ => False
  | n + 1, x1, x2, M =>
    (((1 : Int32) <<< (x1 &&& 31)) ≤ x2 → (R9 (x1 + (1 : Int32)) M)) ∧
  (¬ ((1 : Int32) <<< (x1 &&& 31)) ≤ x2 → (vp_in x1 10 ∧ ∀ x3_1, x3_1 = ((M 82 x1.toNatClampNeg) &&& x2) → vp_in x2 1024 ∧ ∃ j46, P_Rows_mostPairs_46 post R9 (P_Rows_mostPairs_19 post R9 n) j46 x1 x2 x3_1 (M 83 x2.toNatClampNeg) (0 : Int32) M))
theorem k_Rows_mostPairs_19 {X : FX} {g : GT} {ext : List CD} {A : Nat → Prop} {Z : State → Prop} {post : Int32 → Mem → Prop} {R9 : Int32 → Mem → Prop} (C : Cx X g (layC ++ ext) A cX7_mostPairs 6 RX7 1) (hr : 0 ≤ X.2.2.2.1.cells ∧ 0 ≤ X.2.2.2.1.slots) (hR : RetI X g (layC ++ ext) A cX7_mostPairs 6 0 0 Z post) (k9 : ∀ (y1 : Int32) (M : Mem), R9 y1 M → At X g (layC ++ ext) A 6 0 0 Z 9 [(0, .ref (ad g 80)), (1, .int y1)] [] M) : ∀ (n : Nat) (x1 x2 : Int32) (M : Mem), P_Rows_mostPairs_19 post R9 n x1 x2 M → At X g (layC ++ ext) A 6 0 0 Z 19 [(0, .ref (ad g 80)), (1, .int x1), (2, .int x2)] [] M := by
  intro n
  induction n with
  | zero =>
    intro x1 x2 M h
    exact h.elim
  | succ n ih =>
    intro x1 x2 M h
    refine a_iload_n C (tk T_cX7_mostPairs 13 rfl) rfl ?_
    refine a_iconst C (1 : Int32) (tk T_cX7_mostPairs 14 rfl) kI_1 ?_
    refine a_iload_n C (tk T_cX7_mostPairs 15 rfl) rfl ?_
    refine a_ishl C (tk T_cX7_mostPairs 16 rfl) ?_
    refine a_icmp_ge C 123 (tk T_cX7_mostPairs 17 rfl) rfl (fun c => ?_) (fun c => ?_)
    · have h := h.1 c
      refine a_iinc C (1 : Int32) (tk T_cX7_mostPairs 78 rfl) rfl kI_1 (by decide) rfl ?_
      refine a_goto C 9 (tk T_cX7_mostPairs 79 rfl) rfl ?_
      exact a_to (k9 (x1 + (1 : Int32)) M h) rfl
    · have h := h.2 c
      refine a_aload_n C (tk T_cX7_mostPairs 18 rfl) rfl ?_
      refine a_getR C f_RX7_15 (tk T_cX7_mostPairs 19 rfl) lc80 rfl ?_
      refine a_iload_n C (tk T_cX7_mostPairs 20 rfl) rfl ?_
      obtain ⟨hb, h⟩ := h
      refine a_iald C (tk T_cX7_mostPairs 21 rfl) lc82 hb ?_
      refine a_iload_n C (tk T_cX7_mostPairs 22 rfl) rfl ?_
      refine a_iand C (tk T_cX7_mostPairs 23 rfl) ?_
      refine a_top (fun x3_1 e_x3_1 => ?_)
      have h := h x3_1 e_x3_1
      refine a_istore_n C (tk T_cX7_mostPairs 24 rfl) (by decide) rfl ?_
      refine a_aload_n C (tk T_cX7_mostPairs 25 rfl) rfl ?_
      refine a_getR C f_RX7_18 (tk T_cX7_mostPairs 26 rfl) lc80 rfl ?_
      refine a_iload_n C (tk T_cX7_mostPairs 27 rfl) rfl ?_
      obtain ⟨hb, h⟩ := h
      refine a_bald C (tk T_cX7_mostPairs 28 rfl) lc83 hb ?_
      refine a_istore C (tk T_cX7_mostPairs 29 rfl) (by decide) rfl ?_
      refine a_iconst C (0 : Int32) (tk T_cX7_mostPairs 30 rfl) kI_0 ?_
      refine a_istore C (tk T_cX7_mostPairs 31 rfl) (by decide) rfl ?_
      obtain ⟨n1, h⟩ := h
      exact a_to (k_Rows_mostPairs_46 C hr hR k9 ih n1 x1 x2 x3_1 (M 83 x2.toNatClampNeg) (0 : Int32) M h) rfl
def P_Rows_mostPairs_9 (post : Int32 → Mem → Prop) : Nat → Int32 → Mem → Prop
  | 0, _, _ => False
  | n + 1, x1, M =>
    ((M 80 5) ≤ x1 → (∀ i1, i1 = (((1 : Int32) <<< ((M 80 5) &&& 31)) - (1 : Int32)) → vp_in i1 1024 ∧ post (M 83 i1.toNatClampNeg) M)) ∧
  (¬ (M 80 5) ≤ x1 → (∃ j19, P_Rows_mostPairs_19 post (P_Rows_mostPairs_9 post n) j19 x1 (0 : Int32) M))
theorem k_Rows_mostPairs_9 {X : FX} {g : GT} {ext : List CD} {A : Nat → Prop} {Z : State → Prop} {post : Int32 → Mem → Prop} (C : Cx X g (layC ++ ext) A cX7_mostPairs 6 RX7 1) (hr : 0 ≤ X.2.2.2.1.cells ∧ 0 ≤ X.2.2.2.1.slots) (hR : RetI X g (layC ++ ext) A cX7_mostPairs 6 0 0 Z post) : ∀ (n : Nat) (x1 : Int32) (M : Mem), P_Rows_mostPairs_9 post n x1 M → At X g (layC ++ ext) A 6 0 0 Z 9 [(0, .ref (ad g 80)), (1, .int x1)] [] M := by
  intro n
  induction n with
  | zero =>
    intro x1 M h
    exact h.elim
  | succ n ih =>
    intro x1 M h
    refine a_iload_n C (tk T_cX7_mostPairs 7 rfl) rfl ?_
    refine a_aload_n C (tk T_cX7_mostPairs 8 rfl) rfl ?_
    refine a_getI C f_RX7_36 (tk T_cX7_mostPairs 9 rfl) lc80 rfl ?_
    refine a_icmp_ge C 129 (tk T_cX7_mostPairs 10 rfl) rfl (fun c => ?_) (fun c => ?_)
    · have h := h.1 c
      refine a_aload_n C (tk T_cX7_mostPairs 80 rfl) rfl ?_
      refine a_getR C f_RX7_18 (tk T_cX7_mostPairs 81 rfl) lc80 rfl ?_
      refine a_iconst C (1 : Int32) (tk T_cX7_mostPairs 82 rfl) kI_1 ?_
      refine a_aload_n C (tk T_cX7_mostPairs 83 rfl) rfl ?_
      refine a_getI C f_RX7_36 (tk T_cX7_mostPairs 84 rfl) lc80 rfl ?_
      refine a_ishl C (tk T_cX7_mostPairs 85 rfl) ?_
      refine a_iconst C (1 : Int32) (tk T_cX7_mostPairs 86 rfl) kI_1 ?_
      refine a_isub C (tk T_cX7_mostPairs 87 rfl) ?_
      refine a_top (fun i1 e_i1 => ?_)
      have h := h i1 e_i1
      obtain ⟨hb, h⟩ := h
      refine a_bald C (tk T_cX7_mostPairs 88 rfl) lc83 hb ?_
      exact hR _ _ _ _ (tk T_cX7_mostPairs 89 rfl) h
    · have h := h.2 c
      refine a_iconst C (0 : Int32) (tk T_cX7_mostPairs 11 rfl) kI_0 ?_
      refine a_istore_n C (tk T_cX7_mostPairs 12 rfl) (by decide) rfl ?_
      obtain ⟨n1, h⟩ := h
      exact a_to (k_Rows_mostPairs_19 C hr hR ih n1 x1 (0 : Int32) M h) rfl
def P_Rows_mostPairs (post : Int32 → Mem → Prop) (M : Mem) : Prop :=
  vp_in (0 : Int32) 1024 ∧ ∀ M1, M1 = ms M 83 (0 : Int32).toNatClampNeg (vp_nar .byte (0 : Int32)) → ∃ j9, P_Rows_mostPairs_9 post j9 (0 : Int32) M1
theorem k_Rows_mostPairs {X : FX} {g : GT} {ext : List CD} {A : Nat → Prop} {Z : State → Prop} {post : Int32 → Mem → Prop} (C : Cx X g (layC ++ ext) A cX7_mostPairs 6 RX7 1) (hr : 0 ≤ X.2.2.2.1.cells ∧ 0 ≤ X.2.2.2.1.slots) (hR : RetI X g (layC ++ ext) A cX7_mostPairs 6 0 0 Z post) (M : Mem) (h : P_Rows_mostPairs post M) : At X g (layC ++ ext) A 6 0 0 Z 0 [(0, .ref (ad g 80))] [] M := by
  refine a_aload_n C (tk T_cX7_mostPairs 0 rfl) rfl ?_
  refine a_getR C f_RX7_18 (tk T_cX7_mostPairs 1 rfl) lc80 rfl ?_
  refine a_iconst C (0 : Int32) (tk T_cX7_mostPairs 2 rfl) kI_0 ?_
  refine a_iconst C (0 : Int32) (tk T_cX7_mostPairs 3 rfl) kI_0 ?_
  obtain ⟨hb, h⟩ := h
  refine a_bast C (tk T_cX7_mostPairs 4 rfl) lc83 hb ?_
  refine a_mem (fun M1 e_M1 => ?_)
  have h := h M1 e_M1
  refine a_iconst C (0 : Int32) (tk T_cX7_mostPairs 5 rfl) kI_0 ?_
  refine a_istore_n C (tk T_cX7_mostPairs 6 rfl) (by decide) rfl ?_
  obtain ⟨n1, h⟩ := h
  exact a_to (k_Rows_mostPairs_9 C hr hR n1 (0 : Int32) M1 h) rfl
theorem ct_Rows_mostPairs {l : Launch} {g : GT} {ext : List CD} {post : Int32 → Mem → Prop} {M : Mem} (h : P_Rows_mostPairs post M) : CI l g (layC ++ ext) yX7_mostPairs cX7_mostPairs 6 (some .int) 1 [.ref (ad g 80)] M post :=
  ci_of (plainFor_of_name (by decide +kernel)) (Nat.le_of_ble_eq_true rfl) (fun X A Z hl C hr hR => by subst hl; exact k_Rows_mostPairs C hr hR  M h)
