def T_cX10_withAirL : List (Nat × Instr × Nat) := [(0, .iload_n 1, 1), (1, .iconst 1, 1), (2, .aload_n 0, 1), (3, .getfield 25, 3), (6, .ishl, 1), (7, .iconst 1, 1), (8, .isub, 1), (9, .iand, 1), (10, .aload_n 0, 1), (11, .invokevirtual 29, 3), (14, .ior, 1), (15, .ireturn, 1)]
theorem T_cX10_withAir : tabOK cX10_withAir T_cX10_withAirL = true := by decide +kernel
def P_Table_withAir (post : Int32 → Mem → Prop) (x1 : Int32) (M : Mem) : Prop :=
  P_Table_airBits (fun r1 M1 =>
  ∀ v2, v2 = ((x1 &&& (((1 : Int32) <<< ((M 13 4) &&& 31)) - (1 : Int32))) ||| r1) → post v2 M1) M
theorem k_Table_withAir {X : FX} {g : GT} {ext : List CD} {A : Nat → Prop} {Z : State → Prop} {post : Int32 → Mem → Prop} (C : Cx X g (layC ++ ext) A cX10_withAir 2 RX10 1) (hr : 0 ≤ X.2.2.2.1.cells ∧ 0 ≤ X.2.2.2.1.slots) (hR : RetI X g (layC ++ ext) A cX10_withAir 2 0 0 Z post) (x1 : Int32) (M : Mem) (h : P_Table_withAir post x1 M) : At X g (layC ++ ext) A 2 0 0 Z 0 [(0, .ref (ad g 13)), (1, .int x1)] [] M := by
  refine a_iload_n C (tk T_cX10_withAir 0 rfl) rfl ?_
  refine a_iconst C (1 : Int32) (tk T_cX10_withAir 1 rfl) kI_1 ?_
  refine a_aload_n C (tk T_cX10_withAir 2 rfl) rfl ?_
  refine a_getI C f_RX10_25 (tk T_cX10_withAir 3 rfl) lc13 rfl ?_
  refine a_ishl C (tk T_cX10_withAir 4 rfl) ?_
  refine a_iconst C (1 : Int32) (tk T_cX10_withAir 5 rfl) kI_1 ?_
  refine a_isub C (tk T_cX10_withAir 6 rfl) ?_
  refine a_iand C (tk T_cX10_withAir 7 rfl) ?_
  refine a_aload_n C (tk T_cX10_withAir 8 rfl) rfl ?_
  refine a_callI C [] me_yX10_airBits lk_RX10_29 (ct_Table_airBits h) (by decide) lc13 rfl rfl rfl (Nat.le_of_ble_eq_true rfl) (tk T_cX10_withAir 9 rfl) hr (fun r1 M1 h => ?_)
  refine a_ior C (tk T_cX10_withAir 10 rfl) ?_
  refine a_top (fun v2 e_v2 => ?_)
  have h := h v2 e_v2
  exact hR _ _ _ _ (tk T_cX10_withAir 11 rfl) h
theorem ct_Table_withAir {l : Launch} {g : GT} {ext : List CD} {post : Int32 → Mem → Prop} {x1 : Int32} {M : Mem} (h : P_Table_withAir post x1 M) : CI l g (layC ++ ext) yX10_withAir cX10_withAir 2 (some .int) 1 [.ref (ad g 13), .int x1] M post :=
  ci_of (plainFor_of_name (by decide +kernel)) (Nat.le_of_ble_eq_true rfl) (fun X A Z hl C hr hR => by subst hl; exact k_Table_withAir C hr hR x1 M h)
def T_cX11_hasL : List (Nat × Instr × Nat) := [(0, .iload_n 0, 1), (1, .iload_n 1, 1), (2, .ishr, 1), (3, .iconst 1, 1), (4, .iand, 1), (5, .iconst 1, 1), (6, .if_icmp .ne 7, 3), (9, .iconst 1, 1), (10, .goto 4, 3), (13, .iconst 0, 1), (14, .ireturn, 1)]
theorem T_cX11_has : tabOK cX11_has T_cX11_hasL = true := by decide +kernel
def P_R_has_14 (post : Int32 → Mem → Prop) (s0 : Int32) (M : Mem) : Prop :=
  (s0 = 0 ∨ s0 = 1) ∧ post s0 M
theorem k_R_has_14 {X : FX} {g : GT} {ext : List CD} {A : Nat → Prop} {Z : State → Prop} {post : Int32 → Mem → Prop} (C : Cx X g (layC ++ ext) A cX11_has 2 RX11 0) (hr : 0 ≤ X.2.2.2.1.cells ∧ 0 ≤ X.2.2.2.1.slots) (hR : RetZ X g (layC ++ ext) A cX11_has 2 0 0 Z post) (s0 : Int32) (M : Mem) (h : P_R_has_14 post s0 M) : At X g (layC ++ ext) A 2 0 0 Z 14 [] [.int s0] M := by
  exact hR _ _ _ _ (tk T_cX11_has 10 rfl) h
def P_R_has (post : Int32 → Mem → Prop) (x0 x1 : Int32) (M : Mem) : Prop :=
  (¬ ((x0 >>> (x1 &&& 31)) &&& (1 : Int32)) = (1 : Int32) → (P_R_has_14 post (0 : Int32) M)) ∧
  (((x0 >>> (x1 &&& 31)) &&& (1 : Int32)) = (1 : Int32) → (P_R_has_14 post (1 : Int32) M))
theorem k_R_has {X : FX} {g : GT} {ext : List CD} {A : Nat → Prop} {Z : State → Prop} {post : Int32 → Mem → Prop} (C : Cx X g (layC ++ ext) A cX11_has 2 RX11 0) (hr : 0 ≤ X.2.2.2.1.cells ∧ 0 ≤ X.2.2.2.1.slots) (hR : RetZ X g (layC ++ ext) A cX11_has 2 0 0 Z post) (x0 x1 : Int32) (M : Mem) (h : P_R_has post x0 x1 M) : At X g (layC ++ ext) A 2 0 0 Z 0 [(0, .int x0), (1, .int x1)] [] M := by
  refine a_iload_n C (tk T_cX11_has 0 rfl) rfl ?_
  refine a_iload_n C (tk T_cX11_has 1 rfl) rfl ?_
  refine a_ishr C (tk T_cX11_has 2 rfl) ?_
  refine a_iconst C (1 : Int32) (tk T_cX11_has 3 rfl) kI_1 ?_
  refine a_iand C (tk T_cX11_has 4 rfl) ?_
  refine a_iconst C (1 : Int32) (tk T_cX11_has 5 rfl) kI_1 ?_
  refine a_icmp_ne C 13 (tk T_cX11_has 6 rfl) rfl (fun c => ?_) (fun c => ?_)
  · have h := h.1 c
    refine a_iconst C (0 : Int32) (tk T_cX11_has 9 rfl) kI_0 ?_
    exact a_to (k_R_has_14 C hr hR (0 : Int32) M h) rfl
  · have h := h.2 c
    refine a_iconst C (1 : Int32) (tk T_cX11_has 7 rfl) kI_1 ?_
    refine a_goto C 14 (tk T_cX11_has 8 rfl) rfl ?_
    exact a_to (k_R_has_14 C hr hR (1 : Int32) M h) rfl
theorem ct_R_has {l : Launch} {g : GT} {ext : List CD} {post : Int32 → Mem → Prop} {x0 x1 : Int32} {M : Mem} (h : P_R_has post x0 x1 M) : CI l g (layC ++ ext) yX11_has cX11_has 2 (some .boolean) 0 [.int x0, .int x1] M post :=
  cz_of (plainFor_of_name (by decide +kernel)) (Nat.le_of_ble_eq_true rfl) (fun X A Z hl C hr hR => by subst hl; exact k_R_has C hr hR x0 x1 M h)
def T_cX10_liesAtL : List (Nat × Instr × Nat) := [(0, .iload_n 1, 1), (1, .bipush 6, 2), (3, .imul, 1), (4, .iload_n 2, 1), (5, .iadd, 1), (6, .istore 4, 2), (8, .aload_n 0, 1), (9, .getfield 9, 3), (12, .iload_n 1, 1), (13, .baload, 1), (14, .ifCond .eq 13, 3), (17, .aload_n 0, 1), (18, .getfield 19, 3), (21, .iload 4, 2), (23, .iaload, 1), (24, .goto 20, 3), (27, .aload_n 0, 1), (28, .getfield 19, 3), (31, .iload 4, 2), (33, .iaload, 1), (34, .sipush 1000, 3), (37, .iload_n 3, 1), (38, .iadd, 1), (39, .imul, 1), (40, .sipush 1000, 3), (43, .idiv, 1), (44, .ireturn, 1)]
theorem T_cX10_liesAt : tabOK cX10_liesAt T_cX10_liesAtL = true := by decide +kernel
def P_Table_liesAt_44 (post : Int32 → Mem → Prop) (s0 : Int32) (M : Mem) : Prop :=
  post s0 M
theorem k_Table_liesAt_44 {X : FX} {g : GT} {ext : List CD} {A : Nat → Prop} {Z : State → Prop} {post : Int32 → Mem → Prop} (C : Cx X g (layC ++ ext) A cX10_liesAt 5 RX10 0) (hr : 0 ≤ X.2.2.2.1.cells ∧ 0 ≤ X.2.2.2.1.slots) (hR : RetI X g (layC ++ ext) A cX10_liesAt 5 0 0 Z post) (s0 : Int32) (M : Mem) (h : P_Table_liesAt_44 post s0 M) : At X g (layC ++ ext) A 5 0 0 Z 44 [] [.int s0] M := by
  exact hR _ _ _ _ (tk T_cX10_liesAt 26 rfl) h
def P_Table_liesAt (post : Int32 → Mem → Prop) (x1 x2 x3 : Int32) (M : Mem) : Prop :=
  ∀ x4_1, x4_1 = ((x1 * (6 : Int32)) + x2) → vp_in x1 6 ∧ ((M 14 x1.toNatClampNeg) = 0 → (vp_in x4_1 36 ∧ ∀ v2, v2 = (((M 16 x4_1.toNatClampNeg) * ((1000 : Int32) + x3)) / (1000 : Int32)) → P_Table_liesAt_44 post v2 M)) ∧
  (¬ (M 14 x1.toNatClampNeg) = 0 → (vp_in x4_1 36 ∧ P_Table_liesAt_44 post (M 16 x4_1.toNatClampNeg) M))
theorem k_Table_liesAt {X : FX} {g : GT} {ext : List CD} {A : Nat → Prop} {Z : State → Prop} {post : Int32 → Mem → Prop} (C : Cx X g (layC ++ ext) A cX10_liesAt 5 RX10 0) (hr : 0 ≤ X.2.2.2.1.cells ∧ 0 ≤ X.2.2.2.1.slots) (hR : RetI X g (layC ++ ext) A cX10_liesAt 5 0 0 Z post) (x1 x2 x3 : Int32) (M : Mem) (h : P_Table_liesAt post x1 x2 x3 M) : At X g (layC ++ ext) A 5 0 0 Z 0 [(0, .ref (ad g 13)), (1, .int x1), (2, .int x2), (3, .int x3)] [] M := by
  refine a_iload_n C (tk T_cX10_liesAt 0 rfl) rfl ?_
  refine a_bipush C (6 : Int32) (tk T_cX10_liesAt 1 rfl) kB_6 ?_
  refine a_imul C (tk T_cX10_liesAt 2 rfl) ?_
  refine a_iload_n C (tk T_cX10_liesAt 3 rfl) rfl ?_
  refine a_iadd C (tk T_cX10_liesAt 4 rfl) ?_
  refine a_top (fun x4_1 e_x4_1 => ?_)
  have h := h x4_1 e_x4_1
  refine a_istore C (tk T_cX10_liesAt 5 rfl) (by decide) rfl ?_
  refine a_aload_n C (tk T_cX10_liesAt 6 rfl) rfl ?_
  refine a_getR C f_RX10_9 (tk T_cX10_liesAt 7 rfl) lc13 rfl ?_
  refine a_iload_n C (tk T_cX10_liesAt 8 rfl) rfl ?_
  obtain ⟨hb, h⟩ := h
  refine a_zald C (tk T_cX10_liesAt 9 rfl) lc14 hb ?_
  refine a_if_eq C 27 (tk T_cX10_liesAt 10 rfl) rfl (fun c => ?_) (fun c => ?_)
  · have h := h.1 c
    refine a_aload_n C (tk T_cX10_liesAt 16 rfl) rfl ?_
    refine a_getR C f_RX10_19 (tk T_cX10_liesAt 17 rfl) lc13 rfl ?_
    refine a_iload C (tk T_cX10_liesAt 18 rfl) rfl ?_
    obtain ⟨hb, h⟩ := h
    refine a_iald C (tk T_cX10_liesAt 19 rfl) lc16 hb ?_
    refine a_sipush C (1000 : Int32) (tk T_cX10_liesAt 20 rfl) kS_1000 ?_
    refine a_iload_n C (tk T_cX10_liesAt 21 rfl) rfl ?_
    refine a_iadd C (tk T_cX10_liesAt 22 rfl) ?_
    refine a_imul C (tk T_cX10_liesAt 23 rfl) ?_
    refine a_sipush C (1000 : Int32) (tk T_cX10_liesAt 24 rfl) kS_1000 ?_
    refine a_idiv C (tk T_cX10_liesAt 25 rfl) (by decide) ?_
    refine a_top (fun v2 e_v2 => ?_)
    have h := h v2 e_v2
    exact a_to (k_Table_liesAt_44 C hr hR v2 M h) rfl
  · have h := h.2 c
    refine a_aload_n C (tk T_cX10_liesAt 11 rfl) rfl ?_
    refine a_getR C f_RX10_19 (tk T_cX10_liesAt 12 rfl) lc13 rfl ?_
    refine a_iload C (tk T_cX10_liesAt 13 rfl) rfl ?_
    obtain ⟨hb, h⟩ := h
    refine a_iald C (tk T_cX10_liesAt 14 rfl) lc16 hb ?_
    refine a_goto C 44 (tk T_cX10_liesAt 15 rfl) rfl ?_
    exact a_to (k_Table_liesAt_44 C hr hR (M 16 x4_1.toNatClampNeg) M h) rfl
theorem ct_Table_liesAt {l : Launch} {g : GT} {ext : List CD} {post : Int32 → Mem → Prop} {x1 x2 x3 : Int32} {M : Mem} (h : P_Table_liesAt post x1 x2 x3 M) : CI l g (layC ++ ext) yX10_liesAt cX10_liesAt 5 (some .int) 0 [.ref (ad g 13), .int x1, .int x2, .int x3] M post :=
  ci_of (plainFor_of_name (by decide +kernel)) (Nat.le_of_ble_eq_true rfl) (fun X A Z hl C hr hR => by subst hl; exact k_Table_liesAt C hr hR x1 x2 x3 M h)
def T_cX3_holdersL : List (Nat × Instr × Nat) := [(0, .iconst 0, 1), (1, .istore_n 2, 1), (2, .iconst 0, 1), (3, .istore_n 3, 1), (4, .iload_n 3, 1), (5, .aload_n 0, 1), (6, .getfield 38, 3), (9, .getfield 61, 3), (12, .getfield 67, 3), (15, .if_icmp .ge 34, 3), (18, .iload_n 1, 1), (19, .aload_n 0, 1), (20, .getfield 9, 3), (23, .iload_n 3, 1), (24, .iaload, 1), (25, .aload_n 0, 1), (26, .getfield 15, 3), (29, .iload_n 3, 1), (30, .iaload, 1), (31, .invokestatic 113, 3), (34, .ifCond .eq 9, 3), (37, .iload_n 2, 1), (38, .iconst 1, 1), (39, .iload_n 3, 1), (40, .ishl, 1), (41, .ior, 1), (42, .istore_n 2, 1), (43, .iinc 3 1, 3), (46, .goto (-42), 3), (49, .iload_n 2, 1), (50, .ireturn, 1)]
theorem T_cX3_holders : tabOK cX3_holders T_cX3_holdersL = true := by decide +kernel
def P_Judge_holders_43 (post : Int32 → Mem → Prop) (R4 : Int32 → Int32 → Int32 → Mem → Prop) (x1 x2 x3 : Int32) (M : Mem) : Prop :=
  R4 x1 x2 (x3 + (1 : Int32)) M
theorem k_Judge_holders_43 {X : FX} {g : GT} {ext : List CD} {A : Nat → Prop} {Z : State → Prop} {post : Int32 → Mem → Prop} {R4 : Int32 → Int32 → Int32 → Mem → Prop} (C : Cx X g (layC ++ ext) A cX3_holders 4 RX3 1) (hr : 0 ≤ X.2.2.2.1.cells ∧ 0 ≤ X.2.2.2.1.slots) (hR : RetI X g (layC ++ ext) A cX3_holders 4 0 0 Z post) (k4 : ∀ (y1 y2 y3 : Int32) (M : Mem), R4 y1 y2 y3 M → At X g (layC ++ ext) A 4 0 0 Z 4 [(0, .ref (ad g 69)), (1, .int y1), (2, .int y2), (3, .int y3)] [] M) (x1 x2 x3 : Int32) (M : Mem) (h : P_Judge_holders_43 post R4 x1 x2 x3 M) : At X g (layC ++ ext) A 4 0 0 Z 43 [(0, .ref (ad g 69)), (1, .int x1), (2, .int x2), (3, .int x3)] [] M := by
  refine a_iinc C (1 : Int32) (tk T_cX3_holders 27 rfl) rfl kI_1 (by decide) rfl ?_
  refine a_goto C 4 (tk T_cX3_holders 28 rfl) rfl ?_
  exact a_to (k4 x1 x2 (x3 + (1 : Int32)) M h) rfl
def P_Judge_holders_4 (post : Int32 → Mem → Prop) : Nat → Int32 → Int32 → Int32 → Mem → Prop
  | 0, _, _, _, _ => False
  | n + 1, x1, x2, x3, M =>
    ((M 18 11) ≤ x3 → (post x2 M)) ∧
  (¬ (M 18 11) ≤ x3 → (vp_in x3 24 ∧ vp_in x3 24 ∧ P_R_within (fun r1 M1 =>
  (r1 = 0 → (P_Judge_holders_43 post (P_Judge_holders_4 post n) x1 x2 x3 M1)) ∧
  (¬ r1 = 0 → (∀ x2_2, x2_2 = (x2 ||| ((1 : Int32) <<< (x3 &&& 31))) → P_Judge_holders_43 post (P_Judge_holders_4 post n) x1 x2_2 x3 M1))) x1 (M 70 x3.toNatClampNeg) (M 71 x3.toNatClampNeg) M))
theorem k_Judge_holders_4 {X : FX} {g : GT} {ext : List CD} {A : Nat → Prop} {Z : State → Prop} {post : Int32 → Mem → Prop} (C : Cx X g (layC ++ ext) A cX3_holders 4 RX3 1) (hr : 0 ≤ X.2.2.2.1.cells ∧ 0 ≤ X.2.2.2.1.slots) (hR : RetI X g (layC ++ ext) A cX3_holders 4 0 0 Z post) : ∀ (n : Nat) (x1 x2 x3 : Int32) (M : Mem), P_Judge_holders_4 post n x1 x2 x3 M → At X g (layC ++ ext) A 4 0 0 Z 4 [(0, .ref (ad g 69)), (1, .int x1), (2, .int x2), (3, .int x3)] [] M := by
  intro n
  induction n with
  | zero =>
    intro x1 x2 x3 M h
    exact h.elim
  | succ n ih =>
    intro x1 x2 x3 M h
    refine a_iload_n C (tk T_cX3_holders 4 rfl) rfl ?_
    refine a_aload_n C (tk T_cX3_holders 5 rfl) rfl ?_
    refine a_getR C f_RX3_38 (tk T_cX3_holders 6 rfl) lc69 rfl ?_
    refine a_getR C f_RX3_61 (tk T_cX3_holders 7 rfl) lc1 rfl ?_
    refine a_getI C f_RX3_67 (tk T_cX3_holders 8 rfl) lc18 rfl ?_
    refine a_icmp_ge C 49 (tk T_cX3_holders 9 rfl) rfl (fun c => ?_) (fun c => ?_)
    · have h := h.1 c
      refine a_iload_n C (tk T_cX3_holders 29 rfl) rfl ?_
      exact hR _ _ _ _ (tk T_cX3_holders 30 rfl) h
    · have h := h.2 c
      refine a_iload_n C (tk T_cX3_holders 10 rfl) rfl ?_
      refine a_aload_n C (tk T_cX3_holders 11 rfl) rfl ?_
      refine a_getR C f_RX3_9 (tk T_cX3_holders 12 rfl) lc69 rfl ?_
      refine a_iload_n C (tk T_cX3_holders 13 rfl) rfl ?_
      obtain ⟨hb, h⟩ := h
      refine a_iald C (tk T_cX3_holders 14 rfl) lc70 hb ?_
      refine a_aload_n C (tk T_cX3_holders 15 rfl) rfl ?_
      refine a_getR C f_RX3_15 (tk T_cX3_holders 16 rfl) lc69 rfl ?_
      refine a_iload_n C (tk T_cX3_holders 17 rfl) rfl ?_
      obtain ⟨hb, h⟩ := h
      refine a_iald C (tk T_cX3_holders 18 rfl) lc71 hb ?_
      refine a_nestI C [.int x1, .int (M 70 x3.toNatClampNeg), .int (M 71 x3.toNatClampNeg)] me_yX11_within lk_RX3_113 (ct_R_within h) (by decide) rfl rfl (Nat.le_of_ble_eq_true rfl) (tk T_cX3_holders 19 rfl) hr (fun r1 M1 h => ?_)
      refine a_if_eq C 43 (tk T_cX3_holders 20 rfl) rfl (fun c => ?_) (fun c => ?_)
      · have h := h.1 c
        exact a_to (k_Judge_holders_43 C hr hR ih x1 x2 x3 M1 h) rfl
      · have h := h.2 c
        refine a_iload_n C (tk T_cX3_holders 21 rfl) rfl ?_
        refine a_iconst C (1 : Int32) (tk T_cX3_holders 22 rfl) kI_1 ?_
        refine a_iload_n C (tk T_cX3_holders 23 rfl) rfl ?_
        refine a_ishl C (tk T_cX3_holders 24 rfl) ?_
        refine a_ior C (tk T_cX3_holders 25 rfl) ?_
        refine a_top (fun x2_2 e_x2_2 => ?_)
        have h := h x2_2 e_x2_2
        refine a_istore_n C (tk T_cX3_holders 26 rfl) (by decide) rfl ?_
        exact a_to (k_Judge_holders_43 C hr hR ih x1 x2_2 x3 M1 h) rfl
def P_Judge_holders (post : Int32 → Mem → Prop) (x1 : Int32) (M : Mem) : Prop :=
  ∃ j4, P_Judge_holders_4 post j4 x1 (0 : Int32) (0 : Int32) M
theorem k_Judge_holders {X : FX} {g : GT} {ext : List CD} {A : Nat → Prop} {Z : State → Prop} {post : Int32 → Mem → Prop} (C : Cx X g (layC ++ ext) A cX3_holders 4 RX3 1) (hr : 0 ≤ X.2.2.2.1.cells ∧ 0 ≤ X.2.2.2.1.slots) (hR : RetI X g (layC ++ ext) A cX3_holders 4 0 0 Z post) (x1 : Int32) (M : Mem) (h : P_Judge_holders post x1 M) : At X g (layC ++ ext) A 4 0 0 Z 0 [(0, .ref (ad g 69)), (1, .int x1)] [] M := by
  refine a_iconst C (0 : Int32) (tk T_cX3_holders 0 rfl) kI_0 ?_
  refine a_istore_n C (tk T_cX3_holders 1 rfl) (by decide) rfl ?_
  refine a_iconst C (0 : Int32) (tk T_cX3_holders 2 rfl) kI_0 ?_
  refine a_istore_n C (tk T_cX3_holders 3 rfl) (by decide) rfl ?_
  obtain ⟨n1, h⟩ := h
  exact a_to (k_Judge_holders_4 C hr hR n1 x1 (0 : Int32) (0 : Int32) M h) rfl
theorem ct_Judge_holders {l : Launch} {g : GT} {ext : List CD} {post : Int32 → Mem → Prop} {x1 : Int32} {M : Mem} (h : P_Judge_holders post x1 M) : CI l g (layC ++ ext) yX3_holders cX3_holders 4 (some .int) 1 [.ref (ad g 69), .int x1] M post :=
  ci_of (plainFor_of_name (by decide +kernel)) (Nat.le_of_ble_eq_true rfl) (fun X A Z hl C hr hR => by subst hl; exact k_Judge_holders C hr hR x1 M h)
def T_cX9_mustShowL : List (Nat × Instr × Nat) := [(0, .iload_n 2, 1), (1, .aload_n 0, 1), (2, .getfield 18, 3), (5, .iload_n 1, 1), (6, .iaload, 1), (7, .aload_n 0, 1), (8, .getfield 21, 3), (11, .iload_n 1, 1), (12, .iaload, 1), (13, .invokestatic 56, 3), (16, .ifCond .eq 27, 3), (19, .iload_n 3, 1), (20, .aload_n 0, 1), (21, .getfield 9, 3), (24, .iload_n 1, 1), (25, .iaload, 1), (26, .imul, 1), (27, .aload_n 0, 1), (28, .getfield 15, 3), (31, .iload_n 1, 1), (32, .iaload, 1), (33, .imul, 1), (34, .bipush 30, 2), (36, .if_icmp .lt 7, 3), (39, .iconst 1, 1), (40, .goto 4, 3), (43, .iconst 0, 1), (44, .ireturn, 1)]
theorem T_cX9_mustShow : tabOK cX9_mustShow T_cX9_mustShowL = true := by decide +kernel
def P_Shelf_mustShow_44 (post : Int32 → Mem → Prop) (s0 : Int32) (M : Mem) : Prop :=
  (s0 = 0 ∨ s0 = 1) ∧ post s0 M
theorem k_Shelf_mustShow_44 {X : FX} {g : GT} {ext : List CD} {A : Nat → Prop} {Z : State → Prop} {post : Int32 → Mem → Prop} (C : Cx X g (layC ++ ext) A cX9_mustShow 4 RX9 1) (hr : 0 ≤ X.2.2.2.1.cells ∧ 0 ≤ X.2.2.2.1.slots) (hR : RetZ X g (layC ++ ext) A cX9_mustShow 4 0 0 Z post) (s0 : Int32) (M : Mem) (h : P_Shelf_mustShow_44 post s0 M) : At X g (layC ++ ext) A 4 0 0 Z 44 [] [.int s0] M := by
  exact hR _ _ _ _ (tk T_cX9_mustShow 27 rfl) h
def P_Shelf_mustShow_43 (post : Int32 → Mem → Prop) (M : Mem) : Prop :=
  P_Shelf_mustShow_44 post (0 : Int32) M
theorem k_Shelf_mustShow_43 {X : FX} {g : GT} {ext : List CD} {A : Nat → Prop} {Z : State → Prop} {post : Int32 → Mem → Prop} (C : Cx X g (layC ++ ext) A cX9_mustShow 4 RX9 1) (hr : 0 ≤ X.2.2.2.1.cells ∧ 0 ≤ X.2.2.2.1.slots) (hR : RetZ X g (layC ++ ext) A cX9_mustShow 4 0 0 Z post)  (M : Mem) (h : P_Shelf_mustShow_43 post M) : At X g (layC ++ ext) A 4 0 0 Z 43 [] [] M := by
  refine a_iconst C (0 : Int32) (tk T_cX9_mustShow 26 rfl) kI_0 ?_
  exact a_to (k_Shelf_mustShow_44 C hr hR (0 : Int32) M h) rfl
def P_Shelf_mustShow (post : Int32 → Mem → Prop) (x1 x2 x3 : Int32) (M : Mem) : Prop :=
  vp_in x1 3 ∧ vp_in x1 3 ∧ P_R_within (fun r1 M1 =>
  (r1 = 0 → (P_Shelf_mustShow_43 post M1)) ∧
  (¬ r1 = 0 → (vp_in x1 3 ∧ vp_in x1 3 ∧ (((x3 * (M1 19 x1.toNatClampNeg)) * (M1 20 x1.toNatClampNeg)) < (30 : Int32) → (P_Shelf_mustShow_43 post M1)) ∧
  (¬ ((x3 * (M1 19 x1.toNatClampNeg)) * (M1 20 x1.toNatClampNeg)) < (30 : Int32) → (P_Shelf_mustShow_44 post (1 : Int32) M1))))) x2 (M 21 x1.toNatClampNeg) (M 22 x1.toNatClampNeg) M
theorem k_Shelf_mustShow {X : FX} {g : GT} {ext : List CD} {A : Nat → Prop} {Z : State → Prop} {post : Int32 → Mem → Prop} (C : Cx X g (layC ++ ext) A cX9_mustShow 4 RX9 1) (hr : 0 ≤ X.2.2.2.1.cells ∧ 0 ≤ X.2.2.2.1.slots) (hR : RetZ X g (layC ++ ext) A cX9_mustShow 4 0 0 Z post) (x1 x2 x3 : Int32) (M : Mem) (h : P_Shelf_mustShow post x1 x2 x3 M) : At X g (layC ++ ext) A 4 0 0 Z 0 [(0, .ref (ad g 18)), (1, .int x1), (2, .int x2), (3, .int x3)] [] M := by
  refine a_iload_n C (tk T_cX9_mustShow 0 rfl) rfl ?_
  refine a_aload_n C (tk T_cX9_mustShow 1 rfl) rfl ?_
  refine a_getR C f_RX9_18 (tk T_cX9_mustShow 2 rfl) lc18 rfl ?_
  refine a_iload_n C (tk T_cX9_mustShow 3 rfl) rfl ?_
  obtain ⟨hb, h⟩ := h
  refine a_iald C (tk T_cX9_mustShow 4 rfl) lc21 hb ?_
  refine a_aload_n C (tk T_cX9_mustShow 5 rfl) rfl ?_
  refine a_getR C f_RX9_21 (tk T_cX9_mustShow 6 rfl) lc18 rfl ?_
  refine a_iload_n C (tk T_cX9_mustShow 7 rfl) rfl ?_
  obtain ⟨hb, h⟩ := h
  refine a_iald C (tk T_cX9_mustShow 8 rfl) lc22 hb ?_
  refine a_nestI C [.int x2, .int (M 21 x1.toNatClampNeg), .int (M 22 x1.toNatClampNeg)] me_yX11_within lk_RX9_56 (ct_R_within h) (by decide) rfl rfl (Nat.le_of_ble_eq_true rfl) (tk T_cX9_mustShow 9 rfl) hr (fun r1 M1 h => ?_)
  refine a_if_eq C 43 (tk T_cX9_mustShow 10 rfl) rfl (fun c => ?_) (fun c => ?_)
  · have h := h.1 c
    exact a_to (k_Shelf_mustShow_43 C hr hR M1 h) rfl
  · have h := h.2 c
    refine a_iload_n C (tk T_cX9_mustShow 11 rfl) rfl ?_
    refine a_aload_n C (tk T_cX9_mustShow 12 rfl) rfl ?_
    refine a_getR C f_RX9_9 (tk T_cX9_mustShow 13 rfl) lc18 rfl ?_
    refine a_iload_n C (tk T_cX9_mustShow 14 rfl) rfl ?_
    obtain ⟨hb, h⟩ := h
    refine a_iald C (tk T_cX9_mustShow 15 rfl) lc19 hb ?_
    refine a_imul C (tk T_cX9_mustShow 16 rfl) ?_
    refine a_aload_n C (tk T_cX9_mustShow 17 rfl) rfl ?_
    refine a_getR C f_RX9_15 (tk T_cX9_mustShow 18 rfl) lc18 rfl ?_
    refine a_iload_n C (tk T_cX9_mustShow 19 rfl) rfl ?_
    obtain ⟨hb, h⟩ := h
    refine a_iald C (tk T_cX9_mustShow 20 rfl) lc20 hb ?_
    refine a_imul C (tk T_cX9_mustShow 21 rfl) ?_
    refine a_bipush C (30 : Int32) (tk T_cX9_mustShow 22 rfl) kB_30 ?_
    refine a_icmp_lt C 43 (tk T_cX9_mustShow 23 rfl) rfl (fun c => ?_) (fun c => ?_)
    · have h := h.1 c
      exact a_to (k_Shelf_mustShow_43 C hr hR M1 h) rfl
    · have h := h.2 c
      refine a_iconst C (1 : Int32) (tk T_cX9_mustShow 24 rfl) kI_1 ?_
      refine a_goto C 44 (tk T_cX9_mustShow 25 rfl) rfl ?_
      exact a_to (k_Shelf_mustShow_44 C hr hR (1 : Int32) M1 h) rfl
theorem ct_Shelf_mustShow {l : Launch} {g : GT} {ext : List CD} {post : Int32 → Mem → Prop} {x1 x2 x3 : Int32} {M : Mem} (h : P_Shelf_mustShow post x1 x2 x3 M) : CI l g (layC ++ ext) yX9_mustShow cX9_mustShow 4 (some .boolean) 1 [.ref (ad g 18), .int x1, .int x2, .int x3] M post :=
  cz_of (plainFor_of_name (by decide +kernel)) (Nat.le_of_ble_eq_true rfl) (fun X A Z hl C hr hR => by subst hl; exact k_Shelf_mustShow C hr hR x1 x2 x3 M h)
def T_cX3_surveyL : List (Nat × Instr × Nat) := [(0, .aload_n 0, 1), (1, .iconst 0, 1), (2, .putfield 117, 3), (5, .aload_n 0, 1), (6, .iconst 0, 1), (7, .putfield 120, 3), (10, .iconst 0, 1), (11, .istore_n 3, 1), (12, .iload_n 3, 1), (13, .aload_n 0, 1), (14, .getfield 38, 3), (17, .getfield 123, 3), (20, .getfield 127, 3), (23, .if_icmp .ge 130, 3), (26, .iconst 0, 1), (27, .istore 4, 2), (29, .iload_n 1, 1), (30, .iload_n 3, 1), (31, .invokestatic 132, 3), (34, .ifCond .eq 113, 3), (37, .iload 4, 2), (39, .aload_n 0, 1), (40, .getfield 38, 3), (43, .getfield 123, 3), (46, .getfield 136, 3), (49, .iload_n 3, 1), (50, .iaload, 1), (51, .if_icmp .ge 96, 3), (54, .aload_n 0, 1), (55, .getfield 38, 3), (58, .getfield 123, 3), (61, .iload_n 3, 1), (62, .iload 4, 2), (64, .iload_n 2, 1), (65, .invokevirtual 139, 3), (68, .istore 5, 2), (70, .aload_n 0, 1), (71, .iload 5, 2), (73, .invokevirtual 143, 3), (76, .istore 6, 2), (78, .aload_n 0, 1), (79, .dup, 1), (80, .getfield 117, 3), (83, .iload 6, 2), (85, .ior, 1), (86, .putfield 117, 3), (89, .iload 6, 2), (91, .ifCond .ne 50, 3), (94, .aload_n 0, 1), (95, .getfield 38, 3), (98, .getfield 61, 3), (101, .aload_n 0, 1), (102, .getfield 51, 3), (105, .iload 5, 2), (107, .aload_n 0, 1), (108, .getfield 38, 3), (111, .getfield 123, 3), (114, .getfield 146, 3), (117, .iload_n 3, 1), (118, .bipush 6, 2), (120, .imul, 1), (121, .iload 4, 2), (123, .iadd, 1), (124, .iaload, 1), (125, .invokevirtual 149, 3), (128, .ifCond .eq 13, 3), (131, .aload_n 0, 1), (132, .dup, 1), (133, .getfield 120, 3), (136, .iconst 1, 1), (137, .iadd, 1), (138, .putfield 120, 3), (141, .iinc 4 1, 3), (144, .goto (-115), 3), (147, .iinc 3 1, 3), (150, .goto (-138), 3), (153, .return_, 1)]
theorem T_cX3_survey : tabOK cX3_survey T_cX3_surveyL = true := by decide +kernel
def P_Judge_survey_147 (post : Mem → Prop) (R12 : Int32 → Int32 → Int32 → Mem → Prop) (x1 x2 x3 : Int32) (M : Mem) : Prop :=
  R12 x1 x2 (x3 + (1 : Int32)) M
theorem k_Judge_survey_147 {X : FX} {g : GT} {ext : List CD} {A : Nat → Prop} {Z : State → Prop} {post : Mem → Prop} {R12 : Int32 → Int32 → Int32 → Mem → Prop} (C : Cx X g (layC ++ ext) A cX3_survey 7 RX3 2) (hr : 0 ≤ X.2.2.2.1.cells ∧ 0 ≤ X.2.2.2.1.slots) (hR : RetV X g (layC ++ ext) A cX3_survey 7 0 0 Z post) (k12 : ∀ (y1 y2 y3 : Int32) (M : Mem), R12 y1 y2 y3 M → At X g (layC ++ ext) A 7 0 0 Z 12 [(0, .ref (ad g 69)), (1, .int y1), (2, .int y2), (3, .int y3)] [] M) (x1 x2 x3 : Int32) (M : Mem) (h : P_Judge_survey_147 post R12 x1 x2 x3 M) : At X g (layC ++ ext) A 7 0 0 Z 147 [(0, .ref (ad g 69)), (1, .int x1), (2, .int x2), (3, .int x3)] [] M := by
  refine a_iinc C (1 : Int32) (tk T_cX3_survey 74 rfl) rfl kI_1 (by decide) rfl ?_
  refine a_goto C 12 (tk T_cX3_survey 75 rfl) rfl ?_
  exact a_to (k12 x1 x2 (x3 + (1 : Int32)) M h) rfl
def P_Judge_survey_141 (post : Mem → Prop) (R12 : Int32 → Int32 → Int32 → Mem → Prop) (R29 : Int32 → Int32 → Int32 → Int32 → Mem → Prop) (x1 x2 x3 x4 : Int32) (M : Mem) : Prop :=
  R29 x1 x2 x3 (x4 + (1 : Int32)) M
theorem k_Judge_survey_141 {X : FX} {g : GT} {ext : List CD} {A : Nat → Prop} {Z : State → Prop} {post : Mem → Prop} {R12 : Int32 → Int32 → Int32 → Mem → Prop} {R29 : Int32 → Int32 → Int32 → Int32 → Mem → Prop} (C : Cx X g (layC ++ ext) A cX3_survey 7 RX3 2) (hr : 0 ≤ X.2.2.2.1.cells ∧ 0 ≤ X.2.2.2.1.slots) (hR : RetV X g (layC ++ ext) A cX3_survey 7 0 0 Z post) (k12 : ∀ (y1 y2 y3 : Int32) (M : Mem), R12 y1 y2 y3 M → At X g (layC ++ ext) A 7 0 0 Z 12 [(0, .ref (ad g 69)), (1, .int y1), (2, .int y2), (3, .int y3)] [] M) (k29 : ∀ (y1 y2 y3 y4 : Int32) (M : Mem), R29 y1 y2 y3 y4 M → At X g (layC ++ ext) A 7 0 0 Z 29 [(0, .ref (ad g 69)), (1, .int y1), (2, .int y2), (3, .int y3), (4, .int y4)] [] M) (x1 x2 x3 x4 : Int32) (M : Mem) (h : P_Judge_survey_141 post R12 R29 x1 x2 x3 x4 M) : At X g (layC ++ ext) A 7 0 0 Z 141 [(0, .ref (ad g 69)), (1, .int x1), (2, .int x2), (3, .int x3), (4, .int x4)] [] M := by
  refine a_iinc C (1 : Int32) (tk T_cX3_survey 72 rfl) rfl kI_1 (by decide) rfl ?_
  refine a_goto C 29 (tk T_cX3_survey 73 rfl) rfl ?_
  exact a_to (k29 x1 x2 x3 (x4 + (1 : Int32)) M h) rfl
def P_Judge_survey_29 (post : Mem → Prop) (R12 : Int32 → Int32 → Int32 → Mem → Prop) : Nat → Int32 → Int32 → Int32 → Int32 → Mem → Prop
  | 0, _, _, _, _, _ => False
  | n + 1, x1, x2, x3, x4, M =>
    P_R_has (fun r1 M1 =>
  (r1 = 0 → (P_Judge_survey_147 post R12 x1 x2 x3 M1)) ∧
  (¬ r1 = 0 → (vp_in x3 6 ∧ ((M1 15 x3.toNatClampNeg) ≤ x4 → (P_Judge_survey_147 post R12 x1 x2 x3 M1)) ∧
  (¬ (M1 15 x3.toNatClampNeg) ≤ x4 → (P_Table_liesAt (fun r2 M2 =>
  P_Judge_holders (fun r3 M3 =>
  ∀ M4, M4 = ms M3 69 13 ((M3 69 13) ||| r3) → (¬ r3 = 0 → (P_Judge_survey_141 post R12 (P_Judge_survey_29 post R12 n) x1 x2 x3 x4 M4)) ∧
  (r3 = 0 → (vp_in ((x3 * (6 : Int32)) + x4) 36 ∧ P_Shelf_mustShow (fun r5 M5 =>
  (r5 = 0 → (P_Judge_survey_141 post R12 (P_Judge_survey_29 post R12 n) x1 x2 x3 x4 M5)) ∧
  (¬ r5 = 0 → (∀ M6, M6 = ms M5 69 14 ((M5 69 14) + (1 : Int32)) → P_Judge_survey_141 post R12 (P_Judge_survey_29 post R12 n) x1 x2 x3 x4 M6))) (M4 69 10) r2 (M4 17 ((x3 * (6 : Int32)) + x4).toNatClampNeg) M4))) r2 M2) x3 x4 x2 M1))))) x1 x3 M
theorem k_Judge_survey_29 {X : FX} {g : GT} {ext : List CD} {A : Nat → Prop} {Z : State → Prop} {post : Mem → Prop} {R12 : Int32 → Int32 → Int32 → Mem → Prop} (C : Cx X g (layC ++ ext) A cX3_survey 7 RX3 2) (hr : 0 ≤ X.2.2.2.1.cells ∧ 0 ≤ X.2.2.2.1.slots) (hR : RetV X g (layC ++ ext) A cX3_survey 7 0 0 Z post) (k12 : ∀ (y1 y2 y3 : Int32) (M : Mem), R12 y1 y2 y3 M → At X g (layC ++ ext) A 7 0 0 Z 12 [(0, .ref (ad g 69)), (1, .int y1), (2, .int y2), (3, .int y3)] [] M) : ∀ (n : Nat) (x1 x2 x3 x4 : Int32) (M : Mem), P_Judge_survey_29 post R12 n x1 x2 x3 x4 M → At X g (layC ++ ext) A 7 0 0 Z 29 [(0, .ref (ad g 69)), (1, .int x1), (2, .int x2), (3, .int x3), (4, .int x4)] [] M := by
  intro n
  induction n with
  | zero =>
    intro x1 x2 x3 x4 M h
    exact h.elim
  | succ n ih =>
    intro x1 x2 x3 x4 M h
    refine a_iload_n C (tk T_cX3_survey 16 rfl) rfl ?_
    refine a_iload_n C (tk T_cX3_survey 17 rfl) rfl ?_
    refine a_nestI C [.int x1, .int x3] me_yX11_has lk_RX3_132 (ct_R_has h) (by decide) rfl rfl (Nat.le_of_ble_eq_true rfl) (tk T_cX3_survey 18 rfl) hr (fun r1 M1 h => ?_)
    refine a_if_eq C 147 (tk T_cX3_survey 19 rfl) rfl (fun c => ?_) (fun c => ?_)
    · have h := h.1 c
      exact a_to (k_Judge_survey_147 C hr hR k12 x1 x2 x3 M1 h) rfl
    · have h := h.2 c
      refine a_iload C (tk T_cX3_survey 20 rfl) rfl ?_
      refine a_aload_n C (tk T_cX3_survey 21 rfl) rfl ?_
      refine a_getR C f_RX3_38 (tk T_cX3_survey 22 rfl) lc69 rfl ?_
      refine a_getR C f_RX3_123 (tk T_cX3_survey 23 rfl) lc1 rfl ?_
      refine a_getR C f_RX3_136 (tk T_cX3_survey 24 rfl) lc13 rfl ?_
      refine a_iload_n C (tk T_cX3_survey 25 rfl) rfl ?_
      obtain ⟨hb, h⟩ := h
      refine a_iald C (tk T_cX3_survey 26 rfl) lc15 hb ?_
      refine a_icmp_ge C 147 (tk T_cX3_survey 27 rfl) rfl (fun c => ?_) (fun c => ?_)
      · have h := h.1 c
        exact a_to (k_Judge_survey_147 C hr hR k12 x1 x2 x3 M1 h) rfl
      · have h := h.2 c
        refine a_aload_n C (tk T_cX3_survey 28 rfl) rfl ?_
        refine a_getR C f_RX3_38 (tk T_cX3_survey 29 rfl) lc69 rfl ?_
        refine a_getR C f_RX3_123 (tk T_cX3_survey 30 rfl) lc1 rfl ?_
        refine a_iload_n C (tk T_cX3_survey 31 rfl) rfl ?_
        refine a_iload C (tk T_cX3_survey 32 rfl) rfl ?_
        refine a_iload_n C (tk T_cX3_survey 33 rfl) rfl ?_
        refine a_callI C [.int x3, .int x4, .int x2] me_yX10_liesAt lk_RX3_139 (ct_Table_liesAt h) (by decide) lc13 rfl rfl rfl (Nat.le_of_ble_eq_true rfl) (tk T_cX3_survey 34 rfl) hr (fun r2 M2 h => ?_)
        refine a_istore C (tk T_cX3_survey 35 rfl) (by decide) rfl ?_
        refine a_aload_n C (tk T_cX3_survey 36 rfl) rfl ?_
        refine a_iload C (tk T_cX3_survey 37 rfl) rfl ?_
        refine a_callI C [.int r2] me_yX3_holders lk_RX3_143 (ct_Judge_holders h) (by decide) lc69 rfl rfl rfl (Nat.le_of_ble_eq_true rfl) (tk T_cX3_survey 38 rfl) hr (fun r3 M3 h => ?_)
        refine a_istore C (tk T_cX3_survey 39 rfl) (by decide) rfl ?_
        refine a_aload_n C (tk T_cX3_survey 40 rfl) rfl ?_
        refine a_dupr C (tk T_cX3_survey 41 rfl) ?_
        refine a_getI C f_RX3_117 (tk T_cX3_survey 42 rfl) lc69 rfl ?_
        refine a_iload C (tk T_cX3_survey 43 rfl) rfl ?_
        refine a_ior C (tk T_cX3_survey 44 rfl) ?_
        refine a_put C f_RX3_117 f_RX3_117p rfl rfl (tk T_cX3_survey 45 rfl) lc69 rfl ?_
        refine a_mem (fun M4 e_M4 => ?_)
        have h := h M4 e_M4
        refine a_iload C (tk T_cX3_survey 46 rfl) rfl ?_
        refine a_if_ne C 141 (tk T_cX3_survey 47 rfl) rfl (fun c => ?_) (fun c => ?_)
        · have h := h.1 c
          exact a_to (k_Judge_survey_141 C hr hR k12 ih x1 x2 x3 x4 M4 h) rfl
        · have h := h.2 c
          refine a_aload_n C (tk T_cX3_survey 48 rfl) rfl ?_
          refine a_getR C f_RX3_38 (tk T_cX3_survey 49 rfl) lc69 rfl ?_
          refine a_getR C f_RX3_61 (tk T_cX3_survey 50 rfl) lc1 rfl ?_
          refine a_aload_n C (tk T_cX3_survey 51 rfl) rfl ?_
          refine a_getI C f_RX3_51 (tk T_cX3_survey 52 rfl) lc69 rfl ?_
          refine a_iload C (tk T_cX3_survey 53 rfl) rfl ?_
          refine a_aload_n C (tk T_cX3_survey 54 rfl) rfl ?_
          refine a_getR C f_RX3_38 (tk T_cX3_survey 55 rfl) lc69 rfl ?_
          refine a_getR C f_RX3_123 (tk T_cX3_survey 56 rfl) lc1 rfl ?_
          refine a_getR C f_RX3_146 (tk T_cX3_survey 57 rfl) lc13 rfl ?_
          refine a_iload_n C (tk T_cX3_survey 58 rfl) rfl ?_
          refine a_bipush C (6 : Int32) (tk T_cX3_survey 59 rfl) kB_6 ?_
          refine a_imul C (tk T_cX3_survey 60 rfl) ?_
          refine a_iload C (tk T_cX3_survey 61 rfl) rfl ?_
          refine a_iadd C (tk T_cX3_survey 62 rfl) ?_
          obtain ⟨hb, h⟩ := h
          refine a_iald C (tk T_cX3_survey 63 rfl) lc17 hb ?_
          refine a_callI C [.int (M4 69 10), .int r2, .int (M4 17 ((x3 * (6 : Int32)) + x4).toNatClampNeg)] me_yX9_mustShow lk_RX3_149 (ct_Shelf_mustShow h) (by decide) lc18 rfl rfl rfl (Nat.le_of_ble_eq_true rfl) (tk T_cX3_survey 64 rfl) hr (fun r5 M5 h => ?_)
          refine a_if_eq C 141 (tk T_cX3_survey 65 rfl) rfl (fun c => ?_) (fun c => ?_)
          · have h := h.1 c
            exact a_to (k_Judge_survey_141 C hr hR k12 ih x1 x2 x3 x4 M5 h) rfl
          · have h := h.2 c
            refine a_aload_n C (tk T_cX3_survey 66 rfl) rfl ?_
            refine a_dupr C (tk T_cX3_survey 67 rfl) ?_
            refine a_getI C f_RX3_120 (tk T_cX3_survey 68 rfl) lc69 rfl ?_
            refine a_iconst C (1 : Int32) (tk T_cX3_survey 69 rfl) kI_1 ?_
            refine a_iadd C (tk T_cX3_survey 70 rfl) ?_
            refine a_put C f_RX3_120 f_RX3_120p rfl rfl (tk T_cX3_survey 71 rfl) lc69 rfl ?_
            refine a_mem (fun M6 e_M6 => ?_)
            have h := h M6 e_M6
            exact a_to (k_Judge_survey_141 C hr hR k12 ih x1 x2 x3 x4 M6 h) rfl
def P_Judge_survey_12 (post : Mem → Prop) : Nat → Int32 → Int32 → Int32 → Mem → Prop
  | 0, _, _, _, _ => False
  | n + 1, x1, x2, x3, M =>
    ((M 13 4) ≤ x3 → (post M)) ∧
  (¬ (M 13 4) ≤ x3 → (∃ j29, P_Judge_survey_29 post (P_Judge_survey_12 post n) j29 x1 x2 x3 (0 : Int32) M))
theorem k_Judge_survey_12 {X : FX} {g : GT} {ext : List CD} {A : Nat → Prop} {Z : State → Prop} {post : Mem → Prop} (C : Cx X g (layC ++ ext) A cX3_survey 7 RX3 2) (hr : 0 ≤ X.2.2.2.1.cells ∧ 0 ≤ X.2.2.2.1.slots) (hR : RetV X g (layC ++ ext) A cX3_survey 7 0 0 Z post) : ∀ (n : Nat) (x1 x2 x3 : Int32) (M : Mem), P_Judge_survey_12 post n x1 x2 x3 M → At X g (layC ++ ext) A 7 0 0 Z 12 [(0, .ref (ad g 69)), (1, .int x1), (2, .int x2), (3, .int x3)] [] M := by
  intro n
  induction n with
  | zero =>
    intro x1 x2 x3 M h
    exact h.elim
  | succ n ih =>
    intro x1 x2 x3 M h
    refine a_iload_n C (tk T_cX3_survey 8 rfl) rfl ?_
    refine a_aload_n C (tk T_cX3_survey 9 rfl) rfl ?_
    refine a_getR C f_RX3_38 (tk T_cX3_survey 10 rfl) lc69 rfl ?_
    refine a_getR C f_RX3_123 (tk T_cX3_survey 11 rfl) lc1 rfl ?_
    refine a_getI C f_RX3_127 (tk T_cX3_survey 12 rfl) lc13 rfl ?_
    refine a_icmp_ge C 153 (tk T_cX3_survey 13 rfl) rfl (fun c => ?_) (fun c => ?_)
    · have h := h.1 c
      exact hR _ _ _ (tk T_cX3_survey 76 rfl) h
    · have h := h.2 c
      refine a_iconst C (0 : Int32) (tk T_cX3_survey 14 rfl) kI_0 ?_
      refine a_istore C (tk T_cX3_survey 15 rfl) (by decide) rfl ?_
      obtain ⟨n1, h⟩ := h
      exact a_to (k_Judge_survey_29 C hr hR ih n1 x1 x2 x3 (0 : Int32) M h) rfl
def P_Judge_survey (post : Mem → Prop) (x1 x2 : Int32) (M : Mem) : Prop :=
  ∀ M1, M1 = ms M 69 13 (0 : Int32) → ∀ M2, M2 = ms M1 69 14 (0 : Int32) → ∃ j12, P_Judge_survey_12 post j12 x1 x2 (0 : Int32) M2
theorem k_Judge_survey {X : FX} {g : GT} {ext : List CD} {A : Nat → Prop} {Z : State → Prop} {post : Mem → Prop} (C : Cx X g (layC ++ ext) A cX3_survey 7 RX3 2) (hr : 0 ≤ X.2.2.2.1.cells ∧ 0 ≤ X.2.2.2.1.slots) (hR : RetV X g (layC ++ ext) A cX3_survey 7 0 0 Z post) (x1 x2 : Int32) (M : Mem) (h : P_Judge_survey post x1 x2 M) : At X g (layC ++ ext) A 7 0 0 Z 0 [(0, .ref (ad g 69)), (1, .int x1), (2, .int x2)] [] M := by
  refine a_aload_n C (tk T_cX3_survey 0 rfl) rfl ?_
  refine a_iconst C (0 : Int32) (tk T_cX3_survey 1 rfl) kI_0 ?_
  refine a_put C f_RX3_117 f_RX3_117p rfl rfl (tk T_cX3_survey 2 rfl) lc69 rfl ?_
  refine a_mem (fun M1 e_M1 => ?_)
  have h := h M1 e_M1
  refine a_aload_n C (tk T_cX3_survey 3 rfl) rfl ?_
  refine a_iconst C (0 : Int32) (tk T_cX3_survey 4 rfl) kI_0 ?_
  refine a_put C f_RX3_120 f_RX3_120p rfl rfl (tk T_cX3_survey 5 rfl) lc69 rfl ?_
  refine a_mem (fun M2 e_M2 => ?_)
  have h := h M2 e_M2
  refine a_iconst C (0 : Int32) (tk T_cX3_survey 6 rfl) kI_0 ?_
  refine a_istore_n C (tk T_cX3_survey 7 rfl) (by decide) rfl ?_
  obtain ⟨n1, h⟩ := h
  exact a_to (k_Judge_survey_12 C hr hR n1 x1 x2 (0 : Int32) M2 h) rfl
theorem ct_Judge_survey {l : Launch} {g : GT} {ext : List CD} {post : Mem → Prop} {x1 x2 : Int32} {M : Mem} (h : P_Judge_survey post x1 x2 M) : CV l g (layC ++ ext) yX3_survey cX3_survey 7 none 2 [.ref (ad g 69), .int x1, .int x2] M post :=
  cv_of (plainFor_of_name (by decide +kernel)) (Nat.le_of_ble_eq_true rfl) (fun X A Z hl C hr hR => by subst hl; exact k_Judge_survey C hr hR x1 x2 M h)
def T_cX3_isExplainedL : List (Nat × Instr × Nat) := [(0, .aload_n 0, 1), (1, .aload_n 0, 1), (2, .getfield 38, 3), (5, .getfield 123, 3), (8, .iload_n 1, 1), (9, .invokevirtual 152, 3), (12, .iload_n 2, 1), (13, .invokevirtual 155, 3), (16, .aload_n 0, 1), (17, .getfield 120, 3), (20, .ifCond .ne 28, 3), (23, .aload_n 0, 1), (24, .getfield 55, 3), (27, .aload_n 0, 1), (28, .getfield 58, 3), (31, .iconst (-1), 1), (32, .ixor, 1), (33, .iand, 1), (34, .aload_n 0, 1), (35, .getfield 117, 3), (38, .iconst (-1), 1), (39, .ixor, 1), (40, .iand, 1), (41, .ifCond .ne 7, 3), (44, .iconst 1, 1), (45, .goto 4, 3), (48, .iconst 0, 1), (49, .ireturn, 1)]
theorem T_cX3_isExplained : tabOK cX3_isExplained T_cX3_isExplainedL = true := by decide +kernel
def P_Judge_isExplained_49 (post : Int32 → Mem → Prop) (s0 : Int32) (M : Mem) : Prop :=
  (s0 = 0 ∨ s0 = 1) ∧ post s0 M
theorem k_Judge_isExplained_49 {X : FX} {g : GT} {ext : List CD} {A : Nat → Prop} {Z : State → Prop} {post : Int32 → Mem → Prop} (C : Cx X g (layC ++ ext) A cX3_isExplained 3 RX3 3) (hr : 0 ≤ X.2.2.2.1.cells ∧ 0 ≤ X.2.2.2.1.slots) (hR : RetZ X g (layC ++ ext) A cX3_isExplained 3 0 0 Z post) (s0 : Int32) (M : Mem) (h : P_Judge_isExplained_49 post s0 M) : At X g (layC ++ ext) A 3 0 0 Z 49 [] [.int s0] M := by
  exact hR _ _ _ _ (tk T_cX3_isExplained 27 rfl) h
def P_Judge_isExplained_48 (post : Int32 → Mem → Prop) (M : Mem) : Prop :=
  P_Judge_isExplained_49 post (0 : Int32) M
theorem k_Judge_isExplained_48 {X : FX} {g : GT} {ext : List CD} {A : Nat → Prop} {Z : State → Prop} {post : Int32 → Mem → Prop} (C : Cx X g (layC ++ ext) A cX3_isExplained 3 RX3 3) (hr : 0 ≤ X.2.2.2.1.cells ∧ 0 ≤ X.2.2.2.1.slots) (hR : RetZ X g (layC ++ ext) A cX3_isExplained 3 0 0 Z post)  (M : Mem) (h : P_Judge_isExplained_48 post M) : At X g (layC ++ ext) A 3 0 0 Z 48 [] [] M := by
  refine a_iconst C (0 : Int32) (tk T_cX3_isExplained 26 rfl) kI_0 ?_
  exact a_to (k_Judge_isExplained_49 C hr hR (0 : Int32) M h) rfl
def P_Judge_isExplained (post : Int32 → Mem → Prop) (x1 x2 : Int32) (M : Mem) : Prop :=
  P_Table_withAir (fun r1 M1 =>
  P_Judge_survey (fun M2 =>
  (¬ (M2 69 14) = 0 → (P_Judge_isExplained_48 post M2)) ∧
  ((M2 69 14) = 0 → (∀ v3, v3 = (((M2 69 11) &&& ((M2 69 12) ^^^ (-1 : Int32))) &&& ((M2 69 13) ^^^ (-1 : Int32))) → (¬ v3 = 0 → (P_Judge_isExplained_48 post M2)) ∧
  (v3 = 0 → (P_Judge_isExplained_49 post (1 : Int32) M2))))) r1 x2 M1) x1 M
theorem k_Judge_isExplained {X : FX} {g : GT} {ext : List CD} {A : Nat → Prop} {Z : State → Prop} {post : Int32 → Mem → Prop} (C : Cx X g (layC ++ ext) A cX3_isExplained 3 RX3 3) (hr : 0 ≤ X.2.2.2.1.cells ∧ 0 ≤ X.2.2.2.1.slots) (hR : RetZ X g (layC ++ ext) A cX3_isExplained 3 0 0 Z post) (x1 x2 : Int32) (M : Mem) (h : P_Judge_isExplained post x1 x2 M) : At X g (layC ++ ext) A 3 0 0 Z 0 [(0, .ref (ad g 69)), (1, .int x1), (2, .int x2)] [] M := by
  refine a_aload_n C (tk T_cX3_isExplained 0 rfl) rfl ?_
  refine a_aload_n C (tk T_cX3_isExplained 1 rfl) rfl ?_
  refine a_getR C f_RX3_38 (tk T_cX3_isExplained 2 rfl) lc69 rfl ?_
  refine a_getR C f_RX3_123 (tk T_cX3_isExplained 3 rfl) lc1 rfl ?_
  refine a_iload_n C (tk T_cX3_isExplained 4 rfl) rfl ?_
  refine a_callI C [.int x1] me_yX10_withAir lk_RX3_152 (ct_Table_withAir h) (by decide) lc13 rfl rfl rfl (Nat.le_of_ble_eq_true rfl) (tk T_cX3_isExplained 5 rfl) hr (fun r1 M1 h => ?_)
  refine a_iload_n C (tk T_cX3_isExplained 6 rfl) rfl ?_
  refine a_callV C [.int r1, .int x2] me_yX3_survey lk_RX3_155 (ct_Judge_survey h) (by decide) lc69 rfl rfl rfl (Nat.le_of_ble_eq_true rfl) (tk T_cX3_isExplained 7 rfl) hr (fun M2 h => ?_)
  refine a_aload_n C (tk T_cX3_isExplained 8 rfl) rfl ?_
  refine a_getI C f_RX3_120 (tk T_cX3_isExplained 9 rfl) lc69 rfl ?_
  refine a_if_ne C 48 (tk T_cX3_isExplained 10 rfl) rfl (fun c => ?_) (fun c => ?_)
  · have h := h.1 c
    exact a_to (k_Judge_isExplained_48 C hr hR M2 h) rfl
  · have h := h.2 c
    refine a_aload_n C (tk T_cX3_isExplained 11 rfl) rfl ?_
    refine a_getI C f_RX3_55 (tk T_cX3_isExplained 12 rfl) lc69 rfl ?_
    refine a_aload_n C (tk T_cX3_isExplained 13 rfl) rfl ?_
    refine a_getI C f_RX3_58 (tk T_cX3_isExplained 14 rfl) lc69 rfl ?_
    refine a_iconst C (-1 : Int32) (tk T_cX3_isExplained 15 rfl) kI_m1 ?_
    refine a_ixor C (tk T_cX3_isExplained 16 rfl) ?_
    refine a_iand C (tk T_cX3_isExplained 17 rfl) ?_
    refine a_aload_n C (tk T_cX3_isExplained 18 rfl) rfl ?_
    refine a_getI C f_RX3_117 (tk T_cX3_isExplained 19 rfl) lc69 rfl ?_
    refine a_iconst C (-1 : Int32) (tk T_cX3_isExplained 20 rfl) kI_m1 ?_
    refine a_ixor C (tk T_cX3_isExplained 21 rfl) ?_
    refine a_iand C (tk T_cX3_isExplained 22 rfl) ?_
    refine a_top (fun v3 e_v3 => ?_)
    have h := h v3 e_v3
    refine a_if_ne C 48 (tk T_cX3_isExplained 23 rfl) rfl (fun c => ?_) (fun c => ?_)
    · have h := h.1 c
      exact a_to (k_Judge_isExplained_48 C hr hR M2 h) rfl
    · have h := h.2 c
      refine a_iconst C (1 : Int32) (tk T_cX3_isExplained 24 rfl) kI_1 ?_
      refine a_goto C 49 (tk T_cX3_isExplained 25 rfl) rfl ?_
      exact a_to (k_Judge_isExplained_49 C hr hR (1 : Int32) M2 h) rfl
theorem ct_Judge_isExplained {l : Launch} {g : GT} {ext : List CD} {post : Int32 → Mem → Prop} {x1 x2 : Int32} {M : Mem} (h : P_Judge_isExplained post x1 x2 M) : CI l g (layC ++ ext) yX3_isExplained cX3_isExplained 3 (some .boolean) 3 [.ref (ad g 69), .int x1, .int x2] M post :=
  cz_of (plainFor_of_name (by decide +kernel)) (Nat.le_of_ble_eq_true rfl) (fun X A Z hl C hr hR => by subst hl; exact k_Judge_isExplained C hr hR x1 x2 M h)
def T_cX10_isFarL : List (Nat × Instr × Nat) := [(0, .iconst 0, 1), (1, .istore 4, 2), (3, .iload 4, 2), (5, .aload_n 0, 1), (6, .getfield 25, 3), (9, .if_icmp .ge 63, 3), (12, .iconst 0, 1), (13, .istore 5, 2), (15, .iload_n 2, 1), (16, .iload 4, 2), (18, .invokestatic 33, 3), (21, .ifCond .eq 45, 3), (24, .iload 5, 2), (26, .aload_n 0, 1), (27, .getfield 15, 3), (30, .iload 4, 2), (32, .iaload, 1), (33, .if_icmp .ge 33, 3), (36, .aload_n 0, 1), (37, .getfield 19, 3), (40, .iload 4, 2), (42, .bipush 6, 2), (44, .imul, 1), (45, .iload 5, 2), (47, .iadd, 1), (48, .iaload, 1), (49, .iload_n 1, 1), (50, .isub, 1), (51, .invokestatic 37, 3), (54, .iload_n 3, 1), (55, .if_icmp .gt 5, 3), (58, .iconst 0, 1), (59, .ireturn, 1), (60, .iinc 5 1, 3), (63, .goto (-48), 3), (66, .iinc 4 1, 3), (69, .goto (-66), 3), (72, .iconst 1, 1), (73, .ireturn, 1)]
theorem T_cX10_isFar : tabOK cX10_isFar T_cX10_isFarL = true := by decide +kernel
def P_Table_isFar_66 (post : Int32 → Mem → Prop) (R3 : Int32 → Int32 → Int32 → Int32 → Mem → Prop) (x1 x2 x3 x4 : Int32) (M : Mem) : Prop :=
  R3 x1 x2 x3 (x4 + (1 : Int32)) M
theorem k_Table_isFar_66 {X : FX} {g : GT} {ext : List CD} {A : Nat → Prop} {Z : State → Prop} {post : Int32 → Mem → Prop} {R3 : Int32 → Int32 → Int32 → Int32 → Mem → Prop} (C : Cx X g (layC ++ ext) A cX10_isFar 6 RX10 1) (hr : 0 ≤ X.2.2.2.1.cells ∧ 0 ≤ X.2.2.2.1.slots) (hR : RetZ X g (layC ++ ext) A cX10_isFar 6 0 0 Z post) (k3 : ∀ (y1 y2 y3 y4 : Int32) (M : Mem), R3 y1 y2 y3 y4 M → At X g (layC ++ ext) A 6 0 0 Z 3 [(0, .ref (ad g 13)), (1, .int y1), (2, .int y2), (3, .int y3), (4, .int y4)] [] M) (x1 x2 x3 x4 : Int32) (M : Mem) (h : P_Table_isFar_66 post R3 x1 x2 x3 x4 M) : At X g (layC ++ ext) A 6 0 0 Z 66 [(0, .ref (ad g 13)), (1, .int x1), (2, .int x2), (3, .int x3), (4, .int x4)] [] M := by
  refine a_iinc C (1 : Int32) (tk T_cX10_isFar 35 rfl) rfl kI_1 (by decide) rfl ?_
  refine a_goto C 3 (tk T_cX10_isFar 36 rfl) rfl ?_
  exact a_to (k3 x1 x2 x3 (x4 + (1 : Int32)) M h) rfl
def P_Table_isFar_15 (post : Int32 → Mem → Prop) (R3 : Int32 → Int32 → Int32 → Int32 → Mem → Prop) : Nat → Int32 → Int32 → Int32 → Int32 → Int32 → Mem → Prop
  | 0, _, _, _, _, _, _ => False
  | n + 1, x1, x2, x3, x4, x5, M =>
    P_R_has (fun r1 M1 =>
  (r1 = 0 → (P_Table_isFar_66 post R3 x1 x2 x3 x4 M1)) ∧
  (¬ r1 = 0 → (vp_in x4 6 ∧ ((M1 15 x4.toNatClampNeg) ≤ x5 → (P_Table_isFar_66 post R3 x1 x2 x3 x4 M1)) ∧
  (¬ (M1 15 x4.toNatClampNeg) ≤ x5 → (vp_in ((x4 * (6 : Int32)) + x5) 36 ∧ P_Math_abs (fun r2 M2 =>
  (x3 < r2 → (P_Table_isFar_15 post R3 n x1 x2 x3 x4 (x5 + (1 : Int32)) M2)) ∧
  (¬ x3 < r2 → (post (0 : Int32) M2))) ((M1 16 ((x4 * (6 : Int32)) + x5).toNatClampNeg) - x1) M1))))) x2 x4 M
theorem k_Table_isFar_15 {X : FX} {g : GT} {ext : List CD} {A : Nat → Prop} {Z : State → Prop} {post : Int32 → Mem → Prop} {R3 : Int32 → Int32 → Int32 → Int32 → Mem → Prop} (C : Cx X g (layC ++ ext) A cX10_isFar 6 RX10 1) (hr : 0 ≤ X.2.2.2.1.cells ∧ 0 ≤ X.2.2.2.1.slots) (hR : RetZ X g (layC ++ ext) A cX10_isFar 6 0 0 Z post) (k3 : ∀ (y1 y2 y3 y4 : Int32) (M : Mem), R3 y1 y2 y3 y4 M → At X g (layC ++ ext) A 6 0 0 Z 3 [(0, .ref (ad g 13)), (1, .int y1), (2, .int y2), (3, .int y3), (4, .int y4)] [] M) : ∀ (n : Nat) (x1 x2 x3 x4 x5 : Int32) (M : Mem), P_Table_isFar_15 post R3 n x1 x2 x3 x4 x5 M → At X g (layC ++ ext) A 6 0 0 Z 15 [(0, .ref (ad g 13)), (1, .int x1), (2, .int x2), (3, .int x3), (4, .int x4), (5, .int x5)] [] M := by
  intro n
  induction n with
  | zero =>
    intro x1 x2 x3 x4 x5 M h
    exact h.elim
  | succ n ih =>
    intro x1 x2 x3 x4 x5 M h
    refine a_iload_n C (tk T_cX10_isFar 8 rfl) rfl ?_
    refine a_iload C (tk T_cX10_isFar 9 rfl) rfl ?_
    refine a_nestI C [.int x2, .int x4] me_yX11_has lk_RX10_33 (ct_R_has h) (by decide) rfl rfl (Nat.le_of_ble_eq_true rfl) (tk T_cX10_isFar 10 rfl) hr (fun r1 M1 h => ?_)
    refine a_if_eq C 66 (tk T_cX10_isFar 11 rfl) rfl (fun c => ?_) (fun c => ?_)
    · have h := h.1 c
      exact a_to (k_Table_isFar_66 C hr hR k3 x1 x2 x3 x4 M1 h) rfl
    · have h := h.2 c
      refine a_iload C (tk T_cX10_isFar 12 rfl) rfl ?_
      refine a_aload_n C (tk T_cX10_isFar 13 rfl) rfl ?_
      refine a_getR C f_RX10_15 (tk T_cX10_isFar 14 rfl) lc13 rfl ?_
      refine a_iload C (tk T_cX10_isFar 15 rfl) rfl ?_
      obtain ⟨hb, h⟩ := h
      refine a_iald C (tk T_cX10_isFar 16 rfl) lc15 hb ?_
      refine a_icmp_ge C 66 (tk T_cX10_isFar 17 rfl) rfl (fun c => ?_) (fun c => ?_)
      · have h := h.1 c
        exact a_to (k_Table_isFar_66 C hr hR k3 x1 x2 x3 x4 M1 h) rfl
      · have h := h.2 c
        refine a_aload_n C (tk T_cX10_isFar 18 rfl) rfl ?_
        refine a_getR C f_RX10_19 (tk T_cX10_isFar 19 rfl) lc13 rfl ?_
        refine a_iload C (tk T_cX10_isFar 20 rfl) rfl ?_
        refine a_bipush C (6 : Int32) (tk T_cX10_isFar 21 rfl) kB_6 ?_
        refine a_imul C (tk T_cX10_isFar 22 rfl) ?_
        refine a_iload C (tk T_cX10_isFar 23 rfl) rfl ?_
        refine a_iadd C (tk T_cX10_isFar 24 rfl) ?_
        obtain ⟨hb, h⟩ := h
        refine a_iald C (tk T_cX10_isFar 25 rfl) lc16 hb ?_
        refine a_iload_n C (tk T_cX10_isFar 26 rfl) rfl ?_
        refine a_isub C (tk T_cX10_isFar 27 rfl) ?_
        refine a_statI C [.int ((M1 16 ((x4 * (6 : Int32)) + x5).toNatClampNeg) - x1)] me_yJ9_abs_0f7a4 lk_RX10_37 (ct_Math_abs h) (by decide) rfl rfl (Nat.le_of_ble_eq_true rfl) (tk T_cX10_isFar 28 rfl) hr (fun r2 M2 h => ?_)
        refine a_iload_n C (tk T_cX10_isFar 29 rfl) rfl ?_
        refine a_icmp_gt C 60 (tk T_cX10_isFar 30 rfl) rfl (fun c => ?_) (fun c => ?_)
        · have h := h.1 c
          refine a_iinc C (1 : Int32) (tk T_cX10_isFar 33 rfl) rfl kI_1 (by decide) rfl ?_
          refine a_goto C 15 (tk T_cX10_isFar 34 rfl) rfl ?_
          exact a_to (ih x1 x2 x3 x4 (x5 + (1 : Int32)) M2 h) rfl
        · have h := h.2 c
          refine a_iconst C (0 : Int32) (tk T_cX10_isFar 31 rfl) kI_0 ?_
          exact hR _ _ _ _ (tk T_cX10_isFar 32 rfl) ⟨Or.inl rfl, h⟩
def P_Table_isFar_3 (post : Int32 → Mem → Prop) : Nat → Int32 → Int32 → Int32 → Int32 → Mem → Prop
  | 0, _, _, _, _, _ => False
  | n + 1, x1, x2, x3, x4, M =>
    ((M 13 4) ≤ x4 → (post (1 : Int32) M)) ∧
  (¬ (M 13 4) ≤ x4 → (∃ j15, P_Table_isFar_15 post (P_Table_isFar_3 post n) j15 x1 x2 x3 x4 (0 : Int32) M))
theorem k_Table_isFar_3 {X : FX} {g : GT} {ext : List CD} {A : Nat → Prop} {Z : State → Prop} {post : Int32 → Mem → Prop} (C : Cx X g (layC ++ ext) A cX10_isFar 6 RX10 1) (hr : 0 ≤ X.2.2.2.1.cells ∧ 0 ≤ X.2.2.2.1.slots) (hR : RetZ X g (layC ++ ext) A cX10_isFar 6 0 0 Z post) : ∀ (n : Nat) (x1 x2 x3 x4 : Int32) (M : Mem), P_Table_isFar_3 post n x1 x2 x3 x4 M → At X g (layC ++ ext) A 6 0 0 Z 3 [(0, .ref (ad g 13)), (1, .int x1), (2, .int x2), (3, .int x3), (4, .int x4)] [] M := by
  intro n
  induction n with
  | zero =>
    intro x1 x2 x3 x4 M h
    exact h.elim
  | succ n ih =>
    intro x1 x2 x3 x4 M h
    refine a_iload C (tk T_cX10_isFar 2 rfl) rfl ?_
    refine a_aload_n C (tk T_cX10_isFar 3 rfl) rfl ?_
    refine a_getI C f_RX10_25 (tk T_cX10_isFar 4 rfl) lc13 rfl ?_
    refine a_icmp_ge C 72 (tk T_cX10_isFar 5 rfl) rfl (fun c => ?_) (fun c => ?_)
    · have h := h.1 c
      refine a_iconst C (1 : Int32) (tk T_cX10_isFar 37 rfl) kI_1 ?_
      exact hR _ _ _ _ (tk T_cX10_isFar 38 rfl) ⟨Or.inr rfl, h⟩
    · have h := h.2 c
      refine a_iconst C (0 : Int32) (tk T_cX10_isFar 6 rfl) kI_0 ?_
      refine a_istore C (tk T_cX10_isFar 7 rfl) (by decide) rfl ?_
      obtain ⟨n1, h⟩ := h
      exact a_to (k_Table_isFar_15 C hr hR ih n1 x1 x2 x3 x4 (0 : Int32) M h) rfl
def P_Table_isFar (post : Int32 → Mem → Prop) (x1 x2 x3 : Int32) (M : Mem) : Prop :=
  ∃ j3, P_Table_isFar_3 post j3 x1 x2 x3 (0 : Int32) M
theorem k_Table_isFar {X : FX} {g : GT} {ext : List CD} {A : Nat → Prop} {Z : State → Prop} {post : Int32 → Mem → Prop} (C : Cx X g (layC ++ ext) A cX10_isFar 6 RX10 1) (hr : 0 ≤ X.2.2.2.1.cells ∧ 0 ≤ X.2.2.2.1.slots) (hR : RetZ X g (layC ++ ext) A cX10_isFar 6 0 0 Z post) (x1 x2 x3 : Int32) (M : Mem) (h : P_Table_isFar post x1 x2 x3 M) : At X g (layC ++ ext) A 6 0 0 Z 0 [(0, .ref (ad g 13)), (1, .int x1), (2, .int x2), (3, .int x3)] [] M := by
  refine a_iconst C (0 : Int32) (tk T_cX10_isFar 0 rfl) kI_0 ?_
  refine a_istore C (tk T_cX10_isFar 1 rfl) (by decide) rfl ?_
  obtain ⟨n1, h⟩ := h
  exact a_to (k_Table_isFar_3 C hr hR n1 x1 x2 x3 (0 : Int32) M h) rfl
theorem ct_Table_isFar {l : Launch} {g : GT} {ext : List CD} {post : Int32 → Mem → Prop} {x1 x2 x3 : Int32} {M : Mem} (h : P_Table_isFar post x1 x2 x3 M) : CI l g (layC ++ ext) yX10_isFar cX10_isFar 6 (some .boolean) 1 [.ref (ad g 13), .int x1, .int x2, .int x3] M post :=
  cz_of (plainFor_of_name (by decide +kernel)) (Nat.le_of_ble_eq_true rfl) (fun X A Z hl C hr hR => by subst hl; exact k_Table_isFar C hr hR x1 x2 x3 M h)
def T_cX10_withoutAirL : List (Nat × Instr × Nat) := [(0, .iload_n 1, 1), (1, .iconst 1, 1), (2, .aload_n 0, 1), (3, .getfield 25, 3), (6, .ishl, 1), (7, .iconst 1, 1), (8, .isub, 1), (9, .iand, 1), (10, .aload_n 0, 1), (11, .invokevirtual 29, 3), (14, .iconst (-1), 1), (15, .ixor, 1), (16, .iand, 1), (17, .ireturn, 1)]
theorem T_cX10_withoutAir : tabOK cX10_withoutAir T_cX10_withoutAirL = true := by decide +kernel
def P_Table_withoutAir (post : Int32 → Mem → Prop) (x1 : Int32) (M : Mem) : Prop :=
  P_Table_airBits (fun r1 M1 =>
  ∀ v2, v2 = ((x1 &&& (((1 : Int32) <<< ((M 13 4) &&& 31)) - (1 : Int32))) &&& (r1 ^^^ (-1 : Int32))) → post v2 M1) M
theorem k_Table_withoutAir {X : FX} {g : GT} {ext : List CD} {A : Nat → Prop} {Z : State → Prop} {post : Int32 → Mem → Prop} (C : Cx X g (layC ++ ext) A cX10_withoutAir 2 RX10 1) (hr : 0 ≤ X.2.2.2.1.cells ∧ 0 ≤ X.2.2.2.1.slots) (hR : RetI X g (layC ++ ext) A cX10_withoutAir 2 0 0 Z post) (x1 : Int32) (M : Mem) (h : P_Table_withoutAir post x1 M) : At X g (layC ++ ext) A 2 0 0 Z 0 [(0, .ref (ad g 13)), (1, .int x1)] [] M := by
  refine a_iload_n C (tk T_cX10_withoutAir 0 rfl) rfl ?_
  refine a_iconst C (1 : Int32) (tk T_cX10_withoutAir 1 rfl) kI_1 ?_
  refine a_aload_n C (tk T_cX10_withoutAir 2 rfl) rfl ?_
  refine a_getI C f_RX10_25 (tk T_cX10_withoutAir 3 rfl) lc13 rfl ?_
  refine a_ishl C (tk T_cX10_withoutAir 4 rfl) ?_
  refine a_iconst C (1 : Int32) (tk T_cX10_withoutAir 5 rfl) kI_1 ?_
  refine a_isub C (tk T_cX10_withoutAir 6 rfl) ?_
  refine a_iand C (tk T_cX10_withoutAir 7 rfl) ?_
  refine a_aload_n C (tk T_cX10_withoutAir 8 rfl) rfl ?_
  refine a_callI C [] me_yX10_airBits lk_RX10_29 (ct_Table_airBits h) (by decide) lc13 rfl rfl rfl (Nat.le_of_ble_eq_true rfl) (tk T_cX10_withoutAir 9 rfl) hr (fun r1 M1 h => ?_)
  refine a_iconst C (-1 : Int32) (tk T_cX10_withoutAir 10 rfl) kI_m1 ?_
  refine a_ixor C (tk T_cX10_withoutAir 11 rfl) ?_
  refine a_iand C (tk T_cX10_withoutAir 12 rfl) ?_
  refine a_top (fun v2 e_v2 => ?_)
  have h := h v2 e_v2
  exact hR _ _ _ _ (tk T_cX10_withoutAir 13 rfl) h
theorem ct_Table_withoutAir {l : Launch} {g : GT} {ext : List CD} {post : Int32 → Mem → Prop} {x1 : Int32} {M : Mem} (h : P_Table_withoutAir post x1 M) : CI l g (layC ++ ext) yX10_withoutAir cX10_withoutAir 2 (some .int) 1 [.ref (ad g 13), .int x1] M post :=
  ci_of (plainFor_of_name (by decide +kernel)) (Nat.le_of_ble_eq_true rfl) (fun X A Z hl C hr hR => by subst hl; exact k_Table_withoutAir C hr hR x1 M h)
def T_cX10_partsL : List (Nat × Instr × Nat) := [(0, .aload_n 0, 1), (1, .iload_n 1, 1), (2, .invokevirtual 43, 3), (5, .istore 7, 2), (7, .iconst 0, 1), (8, .istore 8, 2), (10, .iload 8, 2), (12, .aload_n 0, 1), (13, .getfield 25, 3), (16, .if_icmp .ge 104, 3), (19, .iconst 0, 1), (20, .istore 9, 2), (22, .iload 7, 2), (24, .iload 8, 2), (26, .invokestatic 33, 3), (29, .ifCond .eq 85, 3), (32, .iload 9, 2), (34, .aload_n 0, 1), (35, .getfield 15, 3), (38, .iload 8, 2), (40, .iaload, 1), (41, .if_icmp .ge 73, 3), (44, .iload 8, 2), (46, .bipush 6, 2), (48, .imul, 1), (49, .iload 9, 2), (51, .iadd, 1), (52, .istore 10, 2), (54, .aload_n 0, 1), (55, .getfield 22, 3), (58, .iload 10, 2), (60, .iaload, 1), (61, .iload_n 3, 1), (62, .imul, 1), (63, .bipush 30, 2), (65, .if_icmp .lt 43, 3), (68, .aload_n 0, 1), (69, .getfield 19, 3), (72, .iload 10, 2), (74, .iaload, 1), (75, .iload 5, 2), (77, .iload 6, 2), (79, .invokestatic 46, 3), (82, .ifCond .eq 26, 3), (85, .aload_n 0, 1), (86, .aload_n 0, 1), (87, .getfield 19, 3), (90, .iload 10, 2), (92, .iaload, 1), (93, .aload_n 0, 1), (94, .iload_n 2, 1), (95, .invokevirtual 50, 3), (98, .iload 4, 2), (100, .invokevirtual 53, 3), (103, .ifCond .eq 5, 3), (106, .iconst 1, 1), (107, .ireturn, 1), (108, .iinc 9 1, 3), (111, .goto (-89), 3), (114, .iinc 8 1, 3), (117, .goto (-107), 3), (120, .iconst 0, 1), (121, .ireturn, 1)]
theorem T_cX10_parts : tabOK cX10_parts T_cX10_partsL = true := by decide +kernel
def P_Table_parts_114 (post : Int32 → Mem → Prop) (R10 : Int32 → Int32 → Int32 → Int32 → Int32 → Int32 → Int32 → Mem → Prop) (x2 x3 x4 x5 x6 x7 x8 : Int32) (M : Mem) : Prop :=
  R10 x2 x3 x4 x5 x6 x7 (x8 + (1 : Int32)) M
theorem k_Table_parts_114 {X : FX} {g : GT} {ext : List CD} {A : Nat → Prop} {Z : State → Prop} {post : Int32 → Mem → Prop} {R10 : Int32 → Int32 → Int32 → Int32 → Int32 → Int32 → Int32 → Mem → Prop} (C : Cx X g (layC ++ ext) A cX10_parts 11 RX10 2) (hr : 0 ≤ X.2.2.2.1.cells ∧ 0 ≤ X.2.2.2.1.slots) (hR : RetZ X g (layC ++ ext) A cX10_parts 11 0 0 Z post) (k10 : ∀ (y2 y3 y4 y5 y6 y7 y8 : Int32) (M : Mem), R10 y2 y3 y4 y5 y6 y7 y8 M → At X g (layC ++ ext) A 11 0 0 Z 10 [(0, .ref (ad g 13)), (2, .int y2), (3, .int y3), (4, .int y4), (5, .int y5), (6, .int y6), (7, .int y7), (8, .int y8)] [] M) (x2 x3 x4 x5 x6 x7 x8 : Int32) (M : Mem) (h : P_Table_parts_114 post R10 x2 x3 x4 x5 x6 x7 x8 M) : At X g (layC ++ ext) A 11 0 0 Z 114 [(0, .ref (ad g 13)), (2, .int x2), (3, .int x3), (4, .int x4), (5, .int x5), (6, .int x6), (7, .int x7), (8, .int x8)] [] M := by
  refine a_iinc C (1 : Int32) (tk T_cX10_parts 59 rfl) rfl kI_1 (by decide) rfl ?_
  refine a_goto C 10 (tk T_cX10_parts 60 rfl) rfl ?_
  exact a_to (k10 x2 x3 x4 x5 x6 x7 (x8 + (1 : Int32)) M h) rfl
def P_Table_parts_108 (post : Int32 → Mem → Prop) (R10 : Int32 → Int32 → Int32 → Int32 → Int32 → Int32 → Int32 → Mem → Prop) (R22 : Int32 → Int32 → Int32 → Int32 → Int32 → Int32 → Int32 → Int32 → Mem → Prop) (x2 x3 x4 x5 x6 x7 x8 x9 : Int32) (M : Mem) : Prop :=
  R22 x2 x3 x4 x5 x6 x7 x8 (x9 + (1 : Int32)) M
theorem k_Table_parts_108 {X : FX} {g : GT} {ext : List CD} {A : Nat → Prop} {Z : State → Prop} {post : Int32 → Mem → Prop} {R10 : Int32 → Int32 → Int32 → Int32 → Int32 → Int32 → Int32 → Mem → Prop} {R22 : Int32 → Int32 → Int32 → Int32 → Int32 → Int32 → Int32 → Int32 → Mem → Prop} (C : Cx X g (layC ++ ext) A cX10_parts 11 RX10 2) (hr : 0 ≤ X.2.2.2.1.cells ∧ 0 ≤ X.2.2.2.1.slots) (hR : RetZ X g (layC ++ ext) A cX10_parts 11 0 0 Z post) (k10 : ∀ (y2 y3 y4 y5 y6 y7 y8 : Int32) (M : Mem), R10 y2 y3 y4 y5 y6 y7 y8 M → At X g (layC ++ ext) A 11 0 0 Z 10 [(0, .ref (ad g 13)), (2, .int y2), (3, .int y3), (4, .int y4), (5, .int y5), (6, .int y6), (7, .int y7), (8, .int y8)] [] M) (k22 : ∀ (y2 y3 y4 y5 y6 y7 y8 y9 : Int32) (M : Mem), R22 y2 y3 y4 y5 y6 y7 y8 y9 M → At X g (layC ++ ext) A 11 0 0 Z 22 [(0, .ref (ad g 13)), (2, .int y2), (3, .int y3), (4, .int y4), (5, .int y5), (6, .int y6), (7, .int y7), (8, .int y8), (9, .int y9)] [] M) (x2 x3 x4 x5 x6 x7 x8 x9 : Int32) (M : Mem) (h : P_Table_parts_108 post R10 R22 x2 x3 x4 x5 x6 x7 x8 x9 M) : At X g (layC ++ ext) A 11 0 0 Z 108 [(0, .ref (ad g 13)), (2, .int x2), (3, .int x3), (4, .int x4), (5, .int x5), (6, .int x6), (7, .int x7), (8, .int x8), (9, .int x9)] [] M := by
  refine a_iinc C (1 : Int32) (tk T_cX10_parts 57 rfl) rfl kI_1 (by decide) rfl ?_
  refine a_goto C 22 (tk T_cX10_parts 58 rfl) rfl ?_
  exact a_to (k22 x2 x3 x4 x5 x6 x7 x8 (x9 + (1 : Int32)) M h) rfl
def P_Table_parts_22 (post : Int32 → Mem → Prop) (R10 : Int32 → Int32 → Int32 → Int32 → Int32 → Int32 → Int32 → Mem → Prop) : Nat → Int32 → Int32 → Int32 → Int32 → Int32 → Int32 → Int32 → Int32 → Mem → Prop
  | 0, _, _, _, _, _, _, _, _, _ => False
  | n + 1, x2, x3, x4, x5, x6, x7, x8, x9, M =>
    P_R_has (fun r1 M1 =>
  (r1 = 0 → (P_Table_parts_114 post R10 x2 x3 x4 x5 x6 x7 x8 M1)) ∧
  (¬ r1 = 0 → (vp_in x8 6 ∧ ((M1 15 x8.toNatClampNeg) ≤ x9 → (P_Table_parts_114 post R10 x2 x3 x4 x5 x6 x7 x8 M1)) ∧
  (¬ (M1 15 x8.toNatClampNeg) ≤ x9 → (∀ x10_2, x10_2 = ((x8 * (6 : Int32)) + x9) → vp_in x10_2 36 ∧ (((M1 17 x10_2.toNatClampNeg) * x3) < (30 : Int32) → (P_Table_parts_108 post R10 (P_Table_parts_22 post R10 n) x2 x3 x4 x5 x6 x7 x8 x9 M1)) ∧
  (¬ ((M1 17 x10_2.toNatClampNeg) * x3) < (30 : Int32) → (vp_in x10_2 36 ∧ P_R_within (fun r3 M3 =>
  (r3 = 0 → (P_Table_parts_108 post R10 (P_Table_parts_22 post R10 n) x2 x3 x4 x5 x6 x7 x8 x9 M3)) ∧
  (¬ r3 = 0 → (vp_in x10_2 36 ∧ P_Table_withAir (fun r4 M4 =>
  P_Table_isFar (fun r5 M5 =>
  (r5 = 0 → (P_Table_parts_108 post R10 (P_Table_parts_22 post R10 n) x2 x3 x4 x5 x6 x7 x8 x9 M5)) ∧
  (¬ r5 = 0 → (post (1 : Int32) M5))) (M3 16 x10_2.toNatClampNeg) r4 x4 M4) x2 M3))) (M1 16 x10_2.toNatClampNeg) x5 x6 M1))))))) x7 x8 M
theorem k_Table_parts_22 {X : FX} {g : GT} {ext : List CD} {A : Nat → Prop} {Z : State → Prop} {post : Int32 → Mem → Prop} {R10 : Int32 → Int32 → Int32 → Int32 → Int32 → Int32 → Int32 → Mem → Prop} (C : Cx X g (layC ++ ext) A cX10_parts 11 RX10 2) (hr : 0 ≤ X.2.2.2.1.cells ∧ 0 ≤ X.2.2.2.1.slots) (hR : RetZ X g (layC ++ ext) A cX10_parts 11 0 0 Z post) (k10 : ∀ (y2 y3 y4 y5 y6 y7 y8 : Int32) (M : Mem), R10 y2 y3 y4 y5 y6 y7 y8 M → At X g (layC ++ ext) A 11 0 0 Z 10 [(0, .ref (ad g 13)), (2, .int y2), (3, .int y3), (4, .int y4), (5, .int y5), (6, .int y6), (7, .int y7), (8, .int y8)] [] M) : ∀ (n : Nat) (x2 x3 x4 x5 x6 x7 x8 x9 : Int32) (M : Mem), P_Table_parts_22 post R10 n x2 x3 x4 x5 x6 x7 x8 x9 M → At X g (layC ++ ext) A 11 0 0 Z 22 [(0, .ref (ad g 13)), (2, .int x2), (3, .int x3), (4, .int x4), (5, .int x5), (6, .int x6), (7, .int x7), (8, .int x8), (9, .int x9)] [] M := by
  intro n
  induction n with
  | zero =>
    intro x2 x3 x4 x5 x6 x7 x8 x9 M h
    exact h.elim
  | succ n ih =>
    intro x2 x3 x4 x5 x6 x7 x8 x9 M h
    refine a_iload C (tk T_cX10_parts 12 rfl) rfl ?_
    refine a_iload C (tk T_cX10_parts 13 rfl) rfl ?_
    refine a_nestI C [.int x7, .int x8] me_yX11_has lk_RX10_33 (ct_R_has h) (by decide) rfl rfl (Nat.le_of_ble_eq_true rfl) (tk T_cX10_parts 14 rfl) hr (fun r1 M1 h => ?_)
    refine a_if_eq C 114 (tk T_cX10_parts 15 rfl) rfl (fun c => ?_) (fun c => ?_)
    · have h := h.1 c
      exact a_to (k_Table_parts_114 C hr hR k10 x2 x3 x4 x5 x6 x7 x8 M1 h) rfl
    · have h := h.2 c
      refine a_iload C (tk T_cX10_parts 16 rfl) rfl ?_
      refine a_aload_n C (tk T_cX10_parts 17 rfl) rfl ?_
      refine a_getR C f_RX10_15 (tk T_cX10_parts 18 rfl) lc13 rfl ?_
      refine a_iload C (tk T_cX10_parts 19 rfl) rfl ?_
      obtain ⟨hb, h⟩ := h
      refine a_iald C (tk T_cX10_parts 20 rfl) lc15 hb ?_
      refine a_icmp_ge C 114 (tk T_cX10_parts 21 rfl) rfl (fun c => ?_) (fun c => ?_)
      · have h := h.1 c
        exact a_to (k_Table_parts_114 C hr hR k10 x2 x3 x4 x5 x6 x7 x8 M1 h) rfl
      · have h := h.2 c
        refine a_iload C (tk T_cX10_parts 22 rfl) rfl ?_
        refine a_bipush C (6 : Int32) (tk T_cX10_parts 23 rfl) kB_6 ?_
        refine a_imul C (tk T_cX10_parts 24 rfl) ?_
        refine a_iload C (tk T_cX10_parts 25 rfl) rfl ?_
        refine a_iadd C (tk T_cX10_parts 26 rfl) ?_
        refine a_top (fun x10_2 e_x10_2 => ?_)
        have h := h x10_2 e_x10_2
        refine a_istore C (tk T_cX10_parts 27 rfl) (by decide) rfl ?_
        refine a_aload_n C (tk T_cX10_parts 28 rfl) rfl ?_
        refine a_getR C f_RX10_22 (tk T_cX10_parts 29 rfl) lc13 rfl ?_
        refine a_iload C (tk T_cX10_parts 30 rfl) rfl ?_
        obtain ⟨hb, h⟩ := h
        refine a_iald C (tk T_cX10_parts 31 rfl) lc17 hb ?_
        refine a_iload_n C (tk T_cX10_parts 32 rfl) rfl ?_
        refine a_imul C (tk T_cX10_parts 33 rfl) ?_
        refine a_bipush C (30 : Int32) (tk T_cX10_parts 34 rfl) kB_30 ?_
        refine a_icmp_lt C 108 (tk T_cX10_parts 35 rfl) rfl (fun c => ?_) (fun c => ?_)
        · have h := h.1 c
          exact a_to (k_Table_parts_108 C hr hR k10 ih x2 x3 x4 x5 x6 x7 x8 x9 M1 h) rfl
        · have h := h.2 c
          refine a_aload_n C (tk T_cX10_parts 36 rfl) rfl ?_
          refine a_getR C f_RX10_19 (tk T_cX10_parts 37 rfl) lc13 rfl ?_
          refine a_iload C (tk T_cX10_parts 38 rfl) rfl ?_
          obtain ⟨hb, h⟩ := h
          refine a_iald C (tk T_cX10_parts 39 rfl) lc16 hb ?_
          refine a_iload C (tk T_cX10_parts 40 rfl) rfl ?_
          refine a_iload C (tk T_cX10_parts 41 rfl) rfl ?_
          refine a_nestI C [.int (M1 16 x10_2.toNatClampNeg), .int x5, .int x6] me_yX11_within lk_RX10_46 (ct_R_within h) (by decide) rfl rfl (Nat.le_of_ble_eq_true rfl) (tk T_cX10_parts 42 rfl) hr (fun r3 M3 h => ?_)
          refine a_if_eq C 108 (tk T_cX10_parts 43 rfl) rfl (fun c => ?_) (fun c => ?_)
          · have h := h.1 c
            exact a_to (k_Table_parts_108 C hr hR k10 ih x2 x3 x4 x5 x6 x7 x8 x9 M3 h) rfl
          · have h := h.2 c
            refine a_aload_n C (tk T_cX10_parts 44 rfl) rfl ?_
            refine a_aload_n C (tk T_cX10_parts 45 rfl) rfl ?_
            refine a_getR C f_RX10_19 (tk T_cX10_parts 46 rfl) lc13 rfl ?_
            refine a_iload C (tk T_cX10_parts 47 rfl) rfl ?_
            obtain ⟨hb, h⟩ := h
            refine a_iald C (tk T_cX10_parts 48 rfl) lc16 hb ?_
            refine a_aload_n C (tk T_cX10_parts 49 rfl) rfl ?_
            refine a_iload_n C (tk T_cX10_parts 50 rfl) rfl ?_
            refine a_callI C [.int x2] me_yX10_withAir lk_RX10_50 (ct_Table_withAir h) (by decide) lc13 rfl rfl rfl (Nat.le_of_ble_eq_true rfl) (tk T_cX10_parts 51 rfl) hr (fun r4 M4 h => ?_)
            refine a_iload C (tk T_cX10_parts 52 rfl) rfl ?_
            refine a_callI C [.int (M3 16 x10_2.toNatClampNeg), .int r4, .int x4] me_yX10_isFar lk_RX10_53 (ct_Table_isFar h) (by decide) lc13 rfl rfl rfl (Nat.le_of_ble_eq_true rfl) (tk T_cX10_parts 53 rfl) hr (fun r5 M5 h => ?_)
            refine a_if_eq C 108 (tk T_cX10_parts 54 rfl) rfl (fun c => ?_) (fun c => ?_)
            · have h := h.1 c
              exact a_to (k_Table_parts_108 C hr hR k10 ih x2 x3 x4 x5 x6 x7 x8 x9 M5 h) rfl
            · have h := h.2 c
              refine a_iconst C (1 : Int32) (tk T_cX10_parts 55 rfl) kI_1 ?_
              exact hR _ _ _ _ (tk T_cX10_parts 56 rfl) ⟨Or.inr rfl, h⟩
def P_Table_parts_10 (post : Int32 → Mem → Prop) : Nat → Int32 → Int32 → Int32 → Int32 → Int32 → Int32 → Int32 → Mem → Prop
  | 0, _, _, _, _, _, _, _, _ => False
  | n + 1, x2, x3, x4, x5, x6, x7, x8, M =>
    ((M 13 4) ≤ x8 → (post (0 : Int32) M)) ∧
  (¬ (M 13 4) ≤ x8 → (∃ j22, P_Table_parts_22 post (P_Table_parts_10 post n) j22 x2 x3 x4 x5 x6 x7 x8 (0 : Int32) M))
theorem k_Table_parts_10 {X : FX} {g : GT} {ext : List CD} {A : Nat → Prop} {Z : State → Prop} {post : Int32 → Mem → Prop} (C : Cx X g (layC ++ ext) A cX10_parts 11 RX10 2) (hr : 0 ≤ X.2.2.2.1.cells ∧ 0 ≤ X.2.2.2.1.slots) (hR : RetZ X g (layC ++ ext) A cX10_parts 11 0 0 Z post) : ∀ (n : Nat) (x2 x3 x4 x5 x6 x7 x8 : Int32) (M : Mem), P_Table_parts_10 post n x2 x3 x4 x5 x6 x7 x8 M → At X g (layC ++ ext) A 11 0 0 Z 10 [(0, .ref (ad g 13)), (2, .int x2), (3, .int x3), (4, .int x4), (5, .int x5), (6, .int x6), (7, .int x7), (8, .int x8)] [] M := by
  intro n
  induction n with
  | zero =>
    intro x2 x3 x4 x5 x6 x7 x8 M h
    exact h.elim
  | succ n ih =>
    intro x2 x3 x4 x5 x6 x7 x8 M h
    refine a_iload C (tk T_cX10_parts 6 rfl) rfl ?_
    refine a_aload_n C (tk T_cX10_parts 7 rfl) rfl ?_
    refine a_getI C f_RX10_25 (tk T_cX10_parts 8 rfl) lc13 rfl ?_
    refine a_icmp_ge C 120 (tk T_cX10_parts 9 rfl) rfl (fun c => ?_) (fun c => ?_)
    · have h := h.1 c
      refine a_iconst C (0 : Int32) (tk T_cX10_parts 61 rfl) kI_0 ?_
      exact hR _ _ _ _ (tk T_cX10_parts 62 rfl) ⟨Or.inl rfl, h⟩
    · have h := h.2 c
      refine a_iconst C (0 : Int32) (tk T_cX10_parts 10 rfl) kI_0 ?_
      refine a_istore C (tk T_cX10_parts 11 rfl) (by decide) rfl ?_
      obtain ⟨n1, h⟩ := h
      exact a_to (k_Table_parts_22 C hr hR ih n1 x2 x3 x4 x5 x6 x7 x8 (0 : Int32) M h) rfl
def P_Table_parts (post : Int32 → Mem → Prop) (x1 x2 x3 x4 x5 x6 : Int32) (M : Mem) : Prop :=
  P_Table_withoutAir (fun r1 M1 =>
  ∃ j10, P_Table_parts_10 post j10 x2 x3 x4 x5 x6 r1 (0 : Int32) M1) x1 M
theorem k_Table_parts {X : FX} {g : GT} {ext : List CD} {A : Nat → Prop} {Z : State → Prop} {post : Int32 → Mem → Prop} (C : Cx X g (layC ++ ext) A cX10_parts 11 RX10 2) (hr : 0 ≤ X.2.2.2.1.cells ∧ 0 ≤ X.2.2.2.1.slots) (hR : RetZ X g (layC ++ ext) A cX10_parts 11 0 0 Z post) (x1 x2 x3 x4 x5 x6 : Int32) (M : Mem) (h : P_Table_parts post x1 x2 x3 x4 x5 x6 M) : At X g (layC ++ ext) A 11 0 0 Z 0 [(0, .ref (ad g 13)), (1, .int x1), (2, .int x2), (3, .int x3), (4, .int x4), (5, .int x5), (6, .int x6)] [] M := by
  refine a_aload_n C (tk T_cX10_parts 0 rfl) rfl ?_
  refine a_iload_n C (tk T_cX10_parts 1 rfl) rfl ?_
  refine a_callI C [.int x1] me_yX10_withoutAir lk_RX10_43 (ct_Table_withoutAir h) (by decide) lc13 rfl rfl rfl (Nat.le_of_ble_eq_true rfl) (tk T_cX10_parts 2 rfl) hr (fun r1 M1 h => ?_)
  refine a_istore C (tk T_cX10_parts 3 rfl) (by decide) rfl ?_
  refine a_iconst C (0 : Int32) (tk T_cX10_parts 4 rfl) kI_0 ?_
  refine a_istore C (tk T_cX10_parts 5 rfl) (by decide) rfl ?_
  obtain ⟨n1, h⟩ := h
  exact a_to (k_Table_parts_10 C hr hR n1 x2 x3 x4 x5 x6 r1 (0 : Int32) M1 h) rfl
theorem ct_Table_parts {l : Launch} {g : GT} {ext : List CD} {post : Int32 → Mem → Prop} {x1 x2 x3 x4 x5 x6 : Int32} {M : Mem} (h : P_Table_parts post x1 x2 x3 x4 x5 x6 M) : CI l g (layC ++ ext) yX10_parts cX10_parts 11 (some .boolean) 2 [.ref (ad g 13), .int x1, .int x2, .int x3, .int x4, .int x5, .int x6] M post :=
  cz_of (plainFor_of_name (by decide +kernel)) (Nat.le_of_ble_eq_true rfl) (fun X A Z hl C hr hR => by subst hl; exact k_Table_parts C hr hR x1 x2 x3 x4 x5 x6 M h)
def T_cX3_swappedL : List (Nat × Instr × Nat) := [(0, .iload_n 1, 1), (1, .iconst 1, 1), (2, .if_icmp .ge 5, 3), (5, .iload_n 0, 1), (6, .ireturn, 1), (7, .iload_n 0, 1), (8, .iload_n 1, 1), (9, .idiv, 1), (10, .bipush 10, 2), (12, .irem, 1), (13, .istore_n 2, 1), (14, .iload_n 0, 1), (15, .iload_n 1, 1), (16, .idiv, 1), (17, .bipush 10, 2), (19, .idiv, 1), (20, .bipush 10, 2), (22, .irem, 1), (23, .istore_n 3, 1), (24, .iload_n 0, 1), (25, .bipush 9, 2), (27, .iload_n 1, 1), (28, .imul, 1), (29, .iload_n 2, 1), (30, .iload_n 3, 1), (31, .isub, 1), (32, .imul, 1), (33, .iadd, 1), (34, .ireturn, 1)]
theorem T_cX3_swapped : tabOK cX3_swapped T_cX3_swappedL = true := by decide +kernel
def P_Judge_swapped (post : Int32 → Mem → Prop) (x0 x1 : Int32) (M : Mem) : Prop :=
  ((1 : Int32) ≤ x1 → ((¬ x1 = 0) ∧ ∀ x2_1, x2_1 = (irm (x0 / x1) (10 : Int32)) → (¬ x1 = 0) ∧ ∀ x3_2, x3_2 = (irm ((x0 / x1) / (10 : Int32)) (10 : Int32)) → post (x0 + (((9 : Int32) * x1) * (x2_1 - x3_2))) M)) ∧
  (¬ (1 : Int32) ≤ x1 → (post x0 M))
theorem k_Judge_swapped {X : FX} {g : GT} {ext : List CD} {A : Nat → Prop} {Z : State → Prop} {post : Int32 → Mem → Prop} (C : Cx X g (layC ++ ext) A cX3_swapped 4 RX3 0) (hr : 0 ≤ X.2.2.2.1.cells ∧ 0 ≤ X.2.2.2.1.slots) (hR : RetI X g (layC ++ ext) A cX3_swapped 4 0 0 Z post) (x0 x1 : Int32) (M : Mem) (h : P_Judge_swapped post x0 x1 M) : At X g (layC ++ ext) A 4 0 0 Z 0 [(0, .int x0), (1, .int x1)] [] M := by
  refine a_iload_n C (tk T_cX3_swapped 0 rfl) rfl ?_
  refine a_iconst C (1 : Int32) (tk T_cX3_swapped 1 rfl) kI_1 ?_
  refine a_icmp_ge C 7 (tk T_cX3_swapped 2 rfl) rfl (fun c => ?_) (fun c => ?_)
  · have h := h.1 c
    refine a_iload_n C (tk T_cX3_swapped 5 rfl) rfl ?_
    refine a_iload_n C (tk T_cX3_swapped 6 rfl) rfl ?_
    obtain ⟨hy, h⟩ := h
    refine a_idiv C (tk T_cX3_swapped 7 rfl) hy ?_
    refine a_bipush C (10 : Int32) (tk T_cX3_swapped 8 rfl) kB_10 ?_
    refine a_irem C (tk T_cX3_swapped 9 rfl) (by decide) ?_
    refine a_top (fun x2_1 e_x2_1 => ?_)
    have h := h x2_1 e_x2_1
    refine a_istore_n C (tk T_cX3_swapped 10 rfl) (by decide) rfl ?_
    refine a_iload_n C (tk T_cX3_swapped 11 rfl) rfl ?_
    refine a_iload_n C (tk T_cX3_swapped 12 rfl) rfl ?_
    obtain ⟨hy, h⟩ := h
    refine a_idiv C (tk T_cX3_swapped 13 rfl) hy ?_
    refine a_bipush C (10 : Int32) (tk T_cX3_swapped 14 rfl) kB_10 ?_
    refine a_idiv C (tk T_cX3_swapped 15 rfl) (by decide) ?_
    refine a_bipush C (10 : Int32) (tk T_cX3_swapped 16 rfl) kB_10 ?_
    refine a_irem C (tk T_cX3_swapped 17 rfl) (by decide) ?_
    refine a_top (fun x3_2 e_x3_2 => ?_)
    have h := h x3_2 e_x3_2
    refine a_istore_n C (tk T_cX3_swapped 18 rfl) (by decide) rfl ?_
    refine a_iload_n C (tk T_cX3_swapped 19 rfl) rfl ?_
    refine a_bipush C (9 : Int32) (tk T_cX3_swapped 20 rfl) kB_9 ?_
    refine a_iload_n C (tk T_cX3_swapped 21 rfl) rfl ?_
    refine a_imul C (tk T_cX3_swapped 22 rfl) ?_
    refine a_iload_n C (tk T_cX3_swapped 23 rfl) rfl ?_
    refine a_iload_n C (tk T_cX3_swapped 24 rfl) rfl ?_
    refine a_isub C (tk T_cX3_swapped 25 rfl) ?_
    refine a_imul C (tk T_cX3_swapped 26 rfl) ?_
    refine a_iadd C (tk T_cX3_swapped 27 rfl) ?_
    exact hR _ _ _ _ (tk T_cX3_swapped 28 rfl) h
  · have h := h.2 c
    refine a_iload_n C (tk T_cX3_swapped 3 rfl) rfl ?_
    exact hR _ _ _ _ (tk T_cX3_swapped 4 rfl) h
theorem ct_Judge_swapped {l : Launch} {g : GT} {ext : List CD} {post : Int32 → Mem → Prop} {x0 x1 : Int32} {M : Mem} (h : P_Judge_swapped post x0 x1 M) : CI l g (layC ++ ext) yX3_swapped cX3_swapped 4 (some .int) 0 [.int x0, .int x1] M post :=
  ci_of (plainFor_of_name (by decide +kernel)) (Nat.le_of_ble_eq_true rfl) (fun X A Z hl C hr hR => by subst hl; exact k_Judge_swapped C hr hR x0 x1 M h)
def T_cX3_misprintReadingL : List (Nat × Instr × Nat) := [(0, .iload_n 1, 1), (1, .bipush 6, 2), (3, .imul, 1), (4, .iload_n 2, 1), (5, .iadd, 1), (6, .istore 4, 2), (8, .aload_n 0, 1), (9, .getfield 38, 3), (12, .getfield 123, 3), (15, .getfield 162, 3), (18, .iload 4, 2), (20, .iaload, 1), (21, .istore 5, 2), (23, .aload_n 0, 1), (24, .getfield 38, 3), (27, .getfield 61, 3), (30, .aload_n 0, 1), (31, .getfield 51, 3), (34, .iload 5, 2), (36, .aload_n 0, 1), (37, .getfield 38, 3), (40, .getfield 123, 3), (43, .getfield 146, 3), (46, .iload 4, 2), (48, .iaload, 1), (49, .invokevirtual 149, 3), (52, .ifCond .eq 12, 3), (55, .aload_n 0, 1), (56, .iload 5, 2), (58, .invokevirtual 143, 3), (61, .ifCond .eq 5, 3), (64, .iconst (-1), 1), (65, .ireturn, 1), (66, .aload_n 0, 1), (67, .iload 5, 2), (69, .iconst 1, 1), (70, .invokestatic 215, 3), (73, .invokevirtual 143, 3), (76, .aload_n 0, 1), (77, .iload 5, 2), (79, .bipush 10, 2), (81, .invokestatic 215, 3), (84, .invokevirtual 143, 3), (87, .ior, 1), (88, .aload_n 0, 1), (89, .iload 5, 2), (91, .bipush 100, 2), (93, .invokestatic 215, 3), (96, .invokevirtual 143, 3), (99, .ior, 1), (100, .istore 6, 2), (102, .iconst 0, 1), (103, .istore 7, 2), (105, .iload 7, 2), (107, .aload_n 0, 1), (108, .getfield 38, 3), (111, .getfield 61, 3), (114, .getfield 67, 3), (117, .if_icmp .ge 24, 3), (120, .iload 6, 2), (122, .iload_n 3, 1), (123, .iand, 1), (124, .iload 7, 2), (126, .invokestatic 132, 3), (129, .ifCond .eq 6, 3), (132, .iload 7, 2), (134, .ireturn, 1), (135, .iinc 7 1, 3), (138, .goto (-33), 3), (141, .iconst (-1), 1), (142, .ireturn, 1)]
theorem T_cX3_misprintReading : tabOK cX3_misprintReading T_cX3_misprintReadingL = true := by decide +kernel
def P_Judge_misprintReading_105 (post : Int32 → Mem → Prop) : Nat → Int32 → Int32 → Int32 → Mem → Prop
  | 0, _, _, _, _ => False
  | n + 1, x3, x6, x7, M =>
    ((M 18 11) ≤ x7 → (post (-1 : Int32) M)) ∧
  (¬ (M 18 11) ≤ x7 → (P_R_has (fun r1 M1 =>
  (r1 = 0 → (P_Judge_misprintReading_105 post n x3 x6 (x7 + (1 : Int32)) M1)) ∧
  (¬ r1 = 0 → (post x7 M1))) (x6 &&& x3) x7 M))
theorem k_Judge_misprintReading_105 {X : FX} {g : GT} {ext : List CD} {A : Nat → Prop} {Z : State → Prop} {post : Int32 → Mem → Prop} (C : Cx X g (layC ++ ext) A cX3_misprintReading 8 RX3 2) (hr : 0 ≤ X.2.2.2.1.cells ∧ 0 ≤ X.2.2.2.1.slots) (hR : RetI X g (layC ++ ext) A cX3_misprintReading 8 0 0 Z post) : ∀ (n : Nat) (x3 x6 x7 : Int32) (M : Mem), P_Judge_misprintReading_105 post n x3 x6 x7 M → At X g (layC ++ ext) A 8 0 0 Z 105 [(0, .ref (ad g 69)), (3, .int x3), (6, .int x6), (7, .int x7)] [] M := by
  intro n
  induction n with
  | zero =>
    intro x3 x6 x7 M h
    exact h.elim
  | succ n ih =>
    intro x3 x6 x7 M h
    refine a_iload C (tk T_cX3_misprintReading 53 rfl) rfl ?_
    refine a_aload_n C (tk T_cX3_misprintReading 54 rfl) rfl ?_
    refine a_getR C f_RX3_38 (tk T_cX3_misprintReading 55 rfl) lc69 rfl ?_
    refine a_getR C f_RX3_61 (tk T_cX3_misprintReading 56 rfl) lc1 rfl ?_
    refine a_getI C f_RX3_67 (tk T_cX3_misprintReading 57 rfl) lc18 rfl ?_
    refine a_icmp_ge C 141 (tk T_cX3_misprintReading 58 rfl) rfl (fun c => ?_) (fun c => ?_)
    · have h := h.1 c
      refine a_iconst C (-1 : Int32) (tk T_cX3_misprintReading 69 rfl) kI_m1 ?_
      exact hR _ _ _ _ (tk T_cX3_misprintReading 70 rfl) h
    · have h := h.2 c
      refine a_iload C (tk T_cX3_misprintReading 59 rfl) rfl ?_
      refine a_iload_n C (tk T_cX3_misprintReading 60 rfl) rfl ?_
      refine a_iand C (tk T_cX3_misprintReading 61 rfl) ?_
      refine a_iload C (tk T_cX3_misprintReading 62 rfl) rfl ?_
      refine a_nestI C [.int (x6 &&& x3), .int x7] me_yX11_has lk_RX3_132 (ct_R_has h) (by decide) rfl rfl (Nat.le_of_ble_eq_true rfl) (tk T_cX3_misprintReading 63 rfl) hr (fun r1 M1 h => ?_)
      refine a_if_eq C 135 (tk T_cX3_misprintReading 64 rfl) rfl (fun c => ?_) (fun c => ?_)
      · have h := h.1 c
        refine a_iinc C (1 : Int32) (tk T_cX3_misprintReading 67 rfl) rfl kI_1 (by decide) rfl ?_
        refine a_goto C 105 (tk T_cX3_misprintReading 68 rfl) rfl ?_
        exact a_to (ih x3 x6 (x7 + (1 : Int32)) M1 h) rfl
      · have h := h.2 c
        refine a_iload C (tk T_cX3_misprintReading 65 rfl) rfl ?_
        exact hR _ _ _ _ (tk T_cX3_misprintReading 66 rfl) h
def P_Judge_misprintReading_64 (post : Int32 → Mem → Prop) (M : Mem) : Prop :=
  post (-1 : Int32) M
theorem k_Judge_misprintReading_64 {X : FX} {g : GT} {ext : List CD} {A : Nat → Prop} {Z : State → Prop} {post : Int32 → Mem → Prop} (C : Cx X g (layC ++ ext) A cX3_misprintReading 8 RX3 2) (hr : 0 ≤ X.2.2.2.1.cells ∧ 0 ≤ X.2.2.2.1.slots) (hR : RetI X g (layC ++ ext) A cX3_misprintReading 8 0 0 Z post)  (M : Mem) (h : P_Judge_misprintReading_64 post M) : At X g (layC ++ ext) A 8 0 0 Z 64 [] [] M := by
  refine a_iconst C (-1 : Int32) (tk T_cX3_misprintReading 31 rfl) kI_m1 ?_
  exact hR _ _ _ _ (tk T_cX3_misprintReading 32 rfl) h
def P_Judge_misprintReading (post : Int32 → Mem → Prop) (x1 x2 x3 : Int32) (M : Mem) : Prop :=
  ∀ x4_1, x4_1 = ((x1 * (6 : Int32)) + x2) → vp_in x4_1 36 ∧ vp_in x4_1 36 ∧ P_Shelf_mustShow (fun r2 M2 =>
  (r2 = 0 → (P_Judge_misprintReading_64 post M2)) ∧
  (¬ r2 = 0 → (P_Judge_holders (fun r3 M3 =>
  (r3 = 0 → (P_Judge_swapped (fun r4 M4 =>
  P_Judge_holders (fun r5 M5 =>
  P_Judge_swapped (fun r6 M6 =>
  P_Judge_holders (fun r7 M7 =>
  P_Judge_swapped (fun r8 M8 =>
  P_Judge_holders (fun r9 M9 =>
  ∀ x6_10, x6_10 = ((r5 ||| r7) ||| r9) → ∃ j105, P_Judge_misprintReading_105 post j105 x3 x6_10 (0 : Int32) M9) r8 M8) (M 16 x4_1.toNatClampNeg) (100 : Int32) M7) r6 M6) (M 16 x4_1.toNatClampNeg) (10 : Int32) M5) r4 M4) (M 16 x4_1.toNatClampNeg) (1 : Int32) M3)) ∧
  (¬ r3 = 0 → (P_Judge_misprintReading_64 post M3))) (M 16 x4_1.toNatClampNeg) M2))) (M 69 10) (M 16 x4_1.toNatClampNeg) (M 17 x4_1.toNatClampNeg) M
theorem k_Judge_misprintReading {X : FX} {g : GT} {ext : List CD} {A : Nat → Prop} {Z : State → Prop} {post : Int32 → Mem → Prop} (C : Cx X g (layC ++ ext) A cX3_misprintReading 8 RX3 2) (hr : 0 ≤ X.2.2.2.1.cells ∧ 0 ≤ X.2.2.2.1.slots) (hR : RetI X g (layC ++ ext) A cX3_misprintReading 8 0 0 Z post) (x1 x2 x3 : Int32) (M : Mem) (h : P_Judge_misprintReading post x1 x2 x3 M) : At X g (layC ++ ext) A 8 0 0 Z 0 [(0, .ref (ad g 69)), (1, .int x1), (2, .int x2), (3, .int x3)] [] M := by
  refine a_iload_n C (tk T_cX3_misprintReading 0 rfl) rfl ?_
  refine a_bipush C (6 : Int32) (tk T_cX3_misprintReading 1 rfl) kB_6 ?_
  refine a_imul C (tk T_cX3_misprintReading 2 rfl) ?_
  refine a_iload_n C (tk T_cX3_misprintReading 3 rfl) rfl ?_
  refine a_iadd C (tk T_cX3_misprintReading 4 rfl) ?_
  refine a_top (fun x4_1 e_x4_1 => ?_)
  have h := h x4_1 e_x4_1
  refine a_istore C (tk T_cX3_misprintReading 5 rfl) (by decide) rfl ?_
  refine a_aload_n C (tk T_cX3_misprintReading 6 rfl) rfl ?_
  refine a_getR C f_RX3_38 (tk T_cX3_misprintReading 7 rfl) lc69 rfl ?_
  refine a_getR C f_RX3_123 (tk T_cX3_misprintReading 8 rfl) lc1 rfl ?_
  refine a_getR C f_RX3_162 (tk T_cX3_misprintReading 9 rfl) lc13 rfl ?_
  refine a_iload C (tk T_cX3_misprintReading 10 rfl) rfl ?_
  obtain ⟨hb, h⟩ := h
  refine a_iald C (tk T_cX3_misprintReading 11 rfl) lc16 hb ?_
  refine a_istore C (tk T_cX3_misprintReading 12 rfl) (by decide) rfl ?_
  refine a_aload_n C (tk T_cX3_misprintReading 13 rfl) rfl ?_
  refine a_getR C f_RX3_38 (tk T_cX3_misprintReading 14 rfl) lc69 rfl ?_
  refine a_getR C f_RX3_61 (tk T_cX3_misprintReading 15 rfl) lc1 rfl ?_
  refine a_aload_n C (tk T_cX3_misprintReading 16 rfl) rfl ?_
  refine a_getI C f_RX3_51 (tk T_cX3_misprintReading 17 rfl) lc69 rfl ?_
  refine a_iload C (tk T_cX3_misprintReading 18 rfl) rfl ?_
  refine a_aload_n C (tk T_cX3_misprintReading 19 rfl) rfl ?_
  refine a_getR C f_RX3_38 (tk T_cX3_misprintReading 20 rfl) lc69 rfl ?_
  refine a_getR C f_RX3_123 (tk T_cX3_misprintReading 21 rfl) lc1 rfl ?_
  refine a_getR C f_RX3_146 (tk T_cX3_misprintReading 22 rfl) lc13 rfl ?_
  refine a_iload C (tk T_cX3_misprintReading 23 rfl) rfl ?_
  obtain ⟨hb, h⟩ := h
  refine a_iald C (tk T_cX3_misprintReading 24 rfl) lc17 hb ?_
  refine a_callI C [.int (M 69 10), .int (M 16 x4_1.toNatClampNeg), .int (M 17 x4_1.toNatClampNeg)] me_yX9_mustShow lk_RX3_149 (ct_Shelf_mustShow h) (by decide) lc18 rfl rfl rfl (Nat.le_of_ble_eq_true rfl) (tk T_cX3_misprintReading 25 rfl) hr (fun r2 M2 h => ?_)
  refine a_if_eq C 64 (tk T_cX3_misprintReading 26 rfl) rfl (fun c => ?_) (fun c => ?_)
  · have h := h.1 c
    exact a_to (k_Judge_misprintReading_64 C hr hR M2 h) rfl
  · have h := h.2 c
    refine a_aload_n C (tk T_cX3_misprintReading 27 rfl) rfl ?_
    refine a_iload C (tk T_cX3_misprintReading 28 rfl) rfl ?_
    refine a_callI C [.int (M 16 x4_1.toNatClampNeg)] me_yX3_holders lk_RX3_143 (ct_Judge_holders h) (by decide) lc69 rfl rfl rfl (Nat.le_of_ble_eq_true rfl) (tk T_cX3_misprintReading 29 rfl) hr (fun r3 M3 h => ?_)
    refine a_if_eq C 66 (tk T_cX3_misprintReading 30 rfl) rfl (fun c => ?_) (fun c => ?_)
    · have h := h.1 c
      refine a_aload_n C (tk T_cX3_misprintReading 33 rfl) rfl ?_
      refine a_iload C (tk T_cX3_misprintReading 34 rfl) rfl ?_
      refine a_iconst C (1 : Int32) (tk T_cX3_misprintReading 35 rfl) kI_1 ?_
      refine a_statI C [.int (M 16 x4_1.toNatClampNeg), .int (1 : Int32)] me_yX3_swapped lk_RX3_215 (ct_Judge_swapped h) (by decide) rfl rfl (Nat.le_of_ble_eq_true rfl) (tk T_cX3_misprintReading 36 rfl) hr (fun r4 M4 h => ?_)
      refine a_callI C [.int r4] me_yX3_holders lk_RX3_143 (ct_Judge_holders h) (by decide) lc69 rfl rfl rfl (Nat.le_of_ble_eq_true rfl) (tk T_cX3_misprintReading 37 rfl) hr (fun r5 M5 h => ?_)
      refine a_aload_n C (tk T_cX3_misprintReading 38 rfl) rfl ?_
      refine a_iload C (tk T_cX3_misprintReading 39 rfl) rfl ?_
      refine a_bipush C (10 : Int32) (tk T_cX3_misprintReading 40 rfl) kB_10 ?_
      refine a_statI C [.int (M 16 x4_1.toNatClampNeg), .int (10 : Int32)] me_yX3_swapped lk_RX3_215 (ct_Judge_swapped h) (by decide) rfl rfl (Nat.le_of_ble_eq_true rfl) (tk T_cX3_misprintReading 41 rfl) hr (fun r6 M6 h => ?_)
      refine a_callI C [.int r6] me_yX3_holders lk_RX3_143 (ct_Judge_holders h) (by decide) lc69 rfl rfl rfl (Nat.le_of_ble_eq_true rfl) (tk T_cX3_misprintReading 42 rfl) hr (fun r7 M7 h => ?_)
      refine a_ior C (tk T_cX3_misprintReading 43 rfl) ?_
      refine a_aload_n C (tk T_cX3_misprintReading 44 rfl) rfl ?_
      refine a_iload C (tk T_cX3_misprintReading 45 rfl) rfl ?_
      refine a_bipush C (100 : Int32) (tk T_cX3_misprintReading 46 rfl) kB_100 ?_
      refine a_statI C [.int (M 16 x4_1.toNatClampNeg), .int (100 : Int32)] me_yX3_swapped lk_RX3_215 (ct_Judge_swapped h) (by decide) rfl rfl (Nat.le_of_ble_eq_true rfl) (tk T_cX3_misprintReading 47 rfl) hr (fun r8 M8 h => ?_)
      refine a_callI C [.int r8] me_yX3_holders lk_RX3_143 (ct_Judge_holders h) (by decide) lc69 rfl rfl rfl (Nat.le_of_ble_eq_true rfl) (tk T_cX3_misprintReading 48 rfl) hr (fun r9 M9 h => ?_)
      refine a_ior C (tk T_cX3_misprintReading 49 rfl) ?_
      refine a_top (fun x6_10 e_x6_10 => ?_)
      have h := h x6_10 e_x6_10
      refine a_istore C (tk T_cX3_misprintReading 50 rfl) (by decide) rfl ?_
      refine a_iconst C (0 : Int32) (tk T_cX3_misprintReading 51 rfl) kI_0 ?_
      refine a_istore C (tk T_cX3_misprintReading 52 rfl) (by decide) rfl ?_
      obtain ⟨n1, h⟩ := h
      exact a_to (k_Judge_misprintReading_105 C hr hR n1 x3 x6_10 (0 : Int32) M9 h) rfl
    · have h := h.2 c
      exact a_to (k_Judge_misprintReading_64 C hr hR M3 h) rfl
theorem ct_Judge_misprintReading {l : Launch} {g : GT} {ext : List CD} {post : Int32 → Mem → Prop} {x1 x2 x3 : Int32} {M : Mem} (h : P_Judge_misprintReading post x1 x2 x3 M) : CI l g (layC ++ ext) yX3_misprintReading cX3_misprintReading 8 (some .int) 2 [.ref (ad g 69), .int x1, .int x2, .int x3] M post :=
  ci_of (plainFor_of_name (by decide +kernel)) (Nat.le_of_ble_eq_true rfl) (fun X A Z hl C hr hR => by subst hl; exact k_Judge_misprintReading C hr hR x1 x2 x3 M h)
def T_cX5_cOfL : List (Nat × Instr × Nat) := [(0, .iload_n 0, 1), (1, .bipush 31, 2), (3, .iand, 1), (4, .bipush 9, 2), (6, .isub, 1), (7, .ireturn, 1)]
theorem T_cX5_cOf : tabOK cX5_cOf T_cX5_cOfL = true := by decide +kernel
def P_Laws_cOf (post : Int32 → Mem → Prop) (x0 : Int32) (M : Mem) : Prop :=
  post ((x0 &&& (31 : Int32)) - (9 : Int32)) M
theorem k_Laws_cOf {X : FX} {g : GT} {ext : List CD} {A : Nat → Prop} {Z : State → Prop} {post : Int32 → Mem → Prop} (C : Cx X g (layC ++ ext) A cX5_cOf 1 RX5 0) (hr : 0 ≤ X.2.2.2.1.cells ∧ 0 ≤ X.2.2.2.1.slots) (hR : RetI X g (layC ++ ext) A cX5_cOf 1 0 0 Z post) (x0 : Int32) (M : Mem) (h : P_Laws_cOf post x0 M) : At X g (layC ++ ext) A 1 0 0 Z 0 [(0, .int x0)] [] M := by
  refine a_iload_n C (tk T_cX5_cOf 0 rfl) rfl ?_
  refine a_bipush C (31 : Int32) (tk T_cX5_cOf 1 rfl) kB_31 ?_
  refine a_iand C (tk T_cX5_cOf 2 rfl) ?_
  refine a_bipush C (9 : Int32) (tk T_cX5_cOf 3 rfl) kB_9 ?_
  refine a_isub C (tk T_cX5_cOf 4 rfl) ?_
  exact hR _ _ _ _ (tk T_cX5_cOf 5 rfl) h
theorem ct_Laws_cOf {l : Launch} {g : GT} {ext : List CD} {post : Int32 → Mem → Prop} {x0 : Int32} {M : Mem} (h : P_Laws_cOf post x0 M) : CI l g (layC ++ ext) yX5_cOf cX5_cOf 1 (some .int) 0 [.int x0] M post :=
  ci_of (plainFor_of_name (by decide +kernel)) (Nat.le_of_ble_eq_true rfl) (fun X A Z hl C hr hR => by subst hl; exact k_Laws_cOf C hr hR x0 M h)
def T_cX5_heightL : List (Nat × Instr × Nat) := [(0, .sipush 10000, 3), (3, .iload_n 0, 1), (4, .invokestatic 89, 3), (7, .imul, 1), (8, .sipush 1000, 3), (11, .iload_n 0, 1), (12, .invokestatic 93, 3), (15, .imul, 1), (16, .iload_n 0, 1), (17, .invokestatic 154, 3), (20, .iload_n 1, 1), (21, .imul, 1), (22, .iadd, 1), (23, .iload_n 1, 1), (24, .imul, 1), (25, .iadd, 1), (26, .ireturn, 1)]
theorem T_cX5_height : tabOK cX5_height T_cX5_heightL = true := by decide +kernel
def P_Laws_height (post : Int32 → Mem → Prop) (x0 x1 : Int32) (M : Mem) : Prop :=
  P_Laws_aOf (fun r1 M1 =>
  P_Laws_bOf (fun r2 M2 =>
  P_Laws_cOf (fun r3 M3 =>
  ∀ v4, v4 = (((10000 : Int32) * r1) + ((((1000 : Int32) * r2) + (r3 * x1)) * x1)) → post v4 M3) x0 M2) x0 M1) x0 M
theorem k_Laws_height {X : FX} {g : GT} {ext : List CD} {A : Nat → Prop} {Z : State → Prop} {post : Int32 → Mem → Prop} (C : Cx X g (layC ++ ext) A cX5_height 2 RX5 1) (hr : 0 ≤ X.2.2.2.1.cells ∧ 0 ≤ X.2.2.2.1.slots) (hR : RetI X g (layC ++ ext) A cX5_height 2 0 0 Z post) (x0 x1 : Int32) (M : Mem) (h : P_Laws_height post x0 x1 M) : At X g (layC ++ ext) A 2 0 0 Z 0 [(0, .int x0), (1, .int x1)] [] M := by
  refine a_sipush C (10000 : Int32) (tk T_cX5_height 0 rfl) kS_10000 ?_
  refine a_iload_n C (tk T_cX5_height 1 rfl) rfl ?_
  refine a_statI C [.int x0] me_yX5_aOf lk_RX5_89 (ct_Laws_aOf h) (by decide) rfl rfl (Nat.le_of_ble_eq_true rfl) (tk T_cX5_height 2 rfl) hr (fun r1 M1 h => ?_)
  refine a_imul C (tk T_cX5_height 3 rfl) ?_
  refine a_sipush C (1000 : Int32) (tk T_cX5_height 4 rfl) kS_1000 ?_
  refine a_iload_n C (tk T_cX5_height 5 rfl) rfl ?_
  refine a_statI C [.int x0] me_yX5_bOf lk_RX5_93 (ct_Laws_bOf h) (by decide) rfl rfl (Nat.le_of_ble_eq_true rfl) (tk T_cX5_height 6 rfl) hr (fun r2 M2 h => ?_)
  refine a_imul C (tk T_cX5_height 7 rfl) ?_
  refine a_iload_n C (tk T_cX5_height 8 rfl) rfl ?_
  refine a_statI C [.int x0] me_yX5_cOf lk_RX5_154 (ct_Laws_cOf h) (by decide) rfl rfl (Nat.le_of_ble_eq_true rfl) (tk T_cX5_height 9 rfl) hr (fun r3 M3 h => ?_)
  refine a_iload_n C (tk T_cX5_height 10 rfl) rfl ?_
  refine a_imul C (tk T_cX5_height 11 rfl) ?_
  refine a_iadd C (tk T_cX5_height 12 rfl) ?_
  refine a_iload_n C (tk T_cX5_height 13 rfl) rfl ?_
  refine a_imul C (tk T_cX5_height 14 rfl) ?_
  refine a_iadd C (tk T_cX5_height 15 rfl) ?_
  refine a_top (fun v4 e_v4 => ?_)
  have h := h v4 e_v4
  exact hR _ _ _ _ (tk T_cX5_height 16 rfl) h
theorem ct_Laws_height {l : Launch} {g : GT} {ext : List CD} {post : Int32 → Mem → Prop} {x0 x1 : Int32} {M : Mem} (h : P_Laws_height post x0 x1 M) : CI l g (layC ++ ext) yX5_height cX5_height 2 (some .int) 1 [.int x0, .int x1] M post :=
  ci_of (plainFor_of_name (by decide +kernel)) (Nat.le_of_ble_eq_true rfl) (fun X A Z hl C hr hR => by subst hl; exact k_Laws_height C hr hR x0 x1 M h)
def T_cX5_measureL : List (Nat × Instr × Nat) := [(0, .ldc 149, 2), (2, .istore_n 3, 1), (3, .iconst 0, 1), (4, .istore 4, 2), (6, .iload 4, 2), (8, .aload_n 0, 1), (9, .getfield 50, 3), (12, .if_icmp .ge 25, 3), (15, .iload_n 3, 1), (16, .aload_n 0, 1), (17, .getfield 15, 3), (20, .iload 4, 2), (22, .iaload, 1), (23, .iload_n 1, 1), (24, .invokestatic 150, 3), (27, .invokestatic 142, 3), (30, .istore_n 3, 1), (31, .iinc 4 1, 3), (34, .goto (-28), 3), (37, .ldc 153, 2), (39, .istore 4, 2), (41, .iconst 0, 1), (42, .istore 5, 2), (44, .iload 5, 2), (46, .aload_n 0, 1), (47, .getfield 53, 3), (50, .if_icmp .ge 27, 3), (53, .iload 4, 2), (55, .aload_n 0, 1), (56, .getfield 18, 3), (59, .iload 5, 2), (61, .iaload, 1), (62, .iload_n 1, 1), (63, .invokestatic 150, 3), (66, .invokestatic 139, 3), (69, .istore 4, 2), (71, .iinc 5 1, 3), (74, .goto (-30), 3), (77, .aload_n 0, 1), (78, .getfield 21, 3), (81, .iload_n 2, 1), (82, .iload_n 3, 1), (83, .sipush 10000, 3), (86, .invokestatic 127, 3), (89, .aload_n 0, 1), (90, .getfield 27, 3), (93, .getfield 96, 3), (96, .getfield 136, 3), (99, .isub, 1), (100, .iastore, 1), (101, .aload_n 0, 1), (102, .getfield 24, 3), (105, .iload_n 2, 1), (106, .iload 4, 2), (108, .sipush 10000, 3), (111, .invokestatic 127, 3), (114, .aload_n 0, 1), (115, .getfield 27, 3), (118, .getfield 96, 3), (121, .getfield 136, 3), (124, .iadd, 1), (125, .iastore, 1), (126, .return_, 1)]
theorem T_cX5_measure : tabOK cX5_measure T_cX5_measureL = true := by decide +kernel
def P_Laws_measure_44 (post : Mem → Prop) : Nat → Int32 → Int32 → Int32 → Int32 → Int32 → Mem → Prop
  | 0, _, _, _, _, _, _ => False
  | n + 1, x1, x2, x3, x4, x5, M =>
    ((M 63 7) ≤ x5 → (P_Math_floorDiv (fun r1 M1 =>
  vp_in x2 1087 ∧ ∀ M2, M2 = ms M1 67 x2.toNatClampNeg (r1 - (M1 8 5)) → P_Math_floorDiv (fun r3 M3 =>
  vp_in x2 1087 ∧ ∀ M4, M4 = ms M3 68 x2.toNatClampNeg (r3 + (M3 8 5)) → post M4) x4 (10000 : Int32) M2) x3 (10000 : Int32) M)) ∧
  (¬ (M 63 7) ≤ x5 → (vp_in x5 1710 ∧ P_Laws_height (fun r5 M5 =>
  P_Math_max (fun r6 M6 =>
  P_Laws_measure_44 post n x1 x2 x3 r6 (x5 + (1 : Int32)) M6) x4 r5 M5) (M 66 x5.toNatClampNeg) x1 M))
theorem k_Laws_measure_44 {X : FX} {g : GT} {ext : List CD} {A : Nat → Prop} {Z : State → Prop} {post : Mem → Prop} (C : Cx X g (layC ++ ext) A cX5_measure 6 RX5 2) (hr : 0 ≤ X.2.2.2.1.cells ∧ 0 ≤ X.2.2.2.1.slots) (hR : RetV X g (layC ++ ext) A cX5_measure 6 0 0 Z post) : ∀ (n : Nat) (x1 x2 x3 x4 x5 : Int32) (M : Mem), P_Laws_measure_44 post n x1 x2 x3 x4 x5 M → At X g (layC ++ ext) A 6 0 0 Z 44 [(0, .ref (ad g 63)), (1, .int x1), (2, .int x2), (3, .int x3), (4, .int x4), (5, .int x5)] [] M := by
  intro n
  induction n with
  | zero =>
    intro x1 x2 x3 x4 x5 M h
    exact h.elim
  | succ n ih =>
    intro x1 x2 x3 x4 x5 M h
    refine a_iload C (tk T_cX5_measure 23 rfl) rfl ?_
    refine a_aload_n C (tk T_cX5_measure 24 rfl) rfl ?_
    refine a_getI C f_RX5_53 (tk T_cX5_measure 25 rfl) lc63 rfl ?_
    refine a_icmp_ge C 77 (tk T_cX5_measure 26 rfl) rfl (fun c => ?_) (fun c => ?_)
    · have h := h.1 c
      refine a_aload_n C (tk T_cX5_measure 38 rfl) rfl ?_
      refine a_getR C f_RX5_21 (tk T_cX5_measure 39 rfl) lc63 rfl ?_
      refine a_iload_n C (tk T_cX5_measure 40 rfl) rfl ?_
      refine a_iload_n C (tk T_cX5_measure 41 rfl) rfl ?_
      refine a_sipush C (10000 : Int32) (tk T_cX5_measure 42 rfl) kS_10000 ?_
      refine a_statI C [.int x3, .int (10000 : Int32)] me_yJ9_floorDiv_7cf53 lk_RX5_127 (ct_Math_floorDiv h) (by decide) rfl rfl (Nat.le_of_ble_eq_true rfl) (tk T_cX5_measure 43 rfl) hr (fun r1 M1 h => ?_)
      refine a_aload_n C (tk T_cX5_measure 44 rfl) rfl ?_
      refine a_getR C f_RX5_27 (tk T_cX5_measure 45 rfl) lc63 rfl ?_
      refine a_getR C f_RX5_96 (tk T_cX5_measure 46 rfl) lc1 rfl ?_
      refine a_getI C f_RX5_136 (tk T_cX5_measure 47 rfl) lc8 rfl ?_
      refine a_isub C (tk T_cX5_measure 48 rfl) ?_
      obtain ⟨hb, h⟩ := h
      refine a_iast C (tk T_cX5_measure 49 rfl) lc67 hb ?_
      refine a_mem (fun M2 e_M2 => ?_)
      have h := h M2 e_M2
      refine a_aload_n C (tk T_cX5_measure 50 rfl) rfl ?_
      refine a_getR C f_RX5_24 (tk T_cX5_measure 51 rfl) lc63 rfl ?_
      refine a_iload_n C (tk T_cX5_measure 52 rfl) rfl ?_
      refine a_iload C (tk T_cX5_measure 53 rfl) rfl ?_
      refine a_sipush C (10000 : Int32) (tk T_cX5_measure 54 rfl) kS_10000 ?_
      refine a_statI C [.int x4, .int (10000 : Int32)] me_yJ9_floorDiv_7cf53 lk_RX5_127 (ct_Math_floorDiv h) (by decide) rfl rfl (Nat.le_of_ble_eq_true rfl) (tk T_cX5_measure 55 rfl) hr (fun r3 M3 h => ?_)
      refine a_aload_n C (tk T_cX5_measure 56 rfl) rfl ?_
      refine a_getR C f_RX5_27 (tk T_cX5_measure 57 rfl) lc63 rfl ?_
      refine a_getR C f_RX5_96 (tk T_cX5_measure 58 rfl) lc1 rfl ?_
      refine a_getI C f_RX5_136 (tk T_cX5_measure 59 rfl) lc8 rfl ?_
      refine a_iadd C (tk T_cX5_measure 60 rfl) ?_
      obtain ⟨hb, h⟩ := h
      refine a_iast C (tk T_cX5_measure 61 rfl) lc68 hb ?_
      refine a_mem (fun M4 e_M4 => ?_)
      have h := h M4 e_M4
      exact hR _ _ _ (tk T_cX5_measure 62 rfl) h
    · have h := h.2 c
      refine a_iload C (tk T_cX5_measure 27 rfl) rfl ?_
      refine a_aload_n C (tk T_cX5_measure 28 rfl) rfl ?_
      refine a_getR C f_RX5_18 (tk T_cX5_measure 29 rfl) lc63 rfl ?_
      refine a_iload C (tk T_cX5_measure 30 rfl) rfl ?_
      obtain ⟨hb, h⟩ := h
      refine a_iald C (tk T_cX5_measure 31 rfl) lc66 hb ?_
      refine a_iload_n C (tk T_cX5_measure 32 rfl) rfl ?_
      refine a_statI C [.int (M 66 x5.toNatClampNeg), .int x1] me_yX5_height lk_RX5_150 (ct_Laws_height h) (by decide) rfl rfl (Nat.le_of_ble_eq_true rfl) (tk T_cX5_measure 33 rfl) hr (fun r5 M5 h => ?_)
      refine a_statI C [.int x4, .int r5] me_yJ9_max_7cf53 lk_RX5_139 (ct_Math_max h) (by decide) rfl rfl (Nat.le_of_ble_eq_true rfl) (tk T_cX5_measure 34 rfl) hr (fun r6 M6 h => ?_)
      refine a_istore C (tk T_cX5_measure 35 rfl) (by decide) rfl ?_
      refine a_iinc C (1 : Int32) (tk T_cX5_measure 36 rfl) rfl kI_1 (by decide) rfl ?_
      refine a_goto C 44 (tk T_cX5_measure 37 rfl) rfl ?_
      exact a_to (ih x1 x2 x3 r6 (x5 + (1 : Int32)) M6 h) rfl
def P_Laws_measure_6 (post : Mem → Prop) : Nat → Int32 → Int32 → Int32 → Int32 → Mem → Prop
  | 0, _, _, _, _, _ => False
  | n + 1, x1, x2, x3, x4, M =>
    ((M 63 6) ≤ x4 → (∃ j44, P_Laws_measure_44 post j44 x1 x2 x3 (-1000000000 : Int32) (0 : Int32) M)) ∧
  (¬ (M 63 6) ≤ x4 → (vp_in x4 1710 ∧ P_Laws_height (fun r1 M1 =>
  P_Math_min (fun r2 M2 =>
  P_Laws_measure_6 post n x1 x2 r2 (x4 + (1 : Int32)) M2) x3 r1 M1) (M 65 x4.toNatClampNeg) x1 M))
theorem k_Laws_measure_6 {X : FX} {g : GT} {ext : List CD} {A : Nat → Prop} {Z : State → Prop} {post : Mem → Prop} (C : Cx X g (layC ++ ext) A cX5_measure 6 RX5 2) (hr : 0 ≤ X.2.2.2.1.cells ∧ 0 ≤ X.2.2.2.1.slots) (hR : RetV X g (layC ++ ext) A cX5_measure 6 0 0 Z post) : ∀ (n : Nat) (x1 x2 x3 x4 : Int32) (M : Mem), P_Laws_measure_6 post n x1 x2 x3 x4 M → At X g (layC ++ ext) A 6 0 0 Z 6 [(0, .ref (ad g 63)), (1, .int x1), (2, .int x2), (3, .int x3), (4, .int x4)] [] M := by
  intro n
  induction n with
  | zero =>
    intro x1 x2 x3 x4 M h
    exact h.elim
  | succ n ih =>
    intro x1 x2 x3 x4 M h
    refine a_iload C (tk T_cX5_measure 4 rfl) rfl ?_
    refine a_aload_n C (tk T_cX5_measure 5 rfl) rfl ?_
    refine a_getI C f_RX5_50 (tk T_cX5_measure 6 rfl) lc63 rfl ?_
    refine a_icmp_ge C 37 (tk T_cX5_measure 7 rfl) rfl (fun c => ?_) (fun c => ?_)
    · have h := h.1 c
      refine a_ldc C c_RX5_153 (tk T_cX5_measure 19 rfl) ?_
      refine a_istore C (tk T_cX5_measure 20 rfl) (by decide) rfl ?_
      refine a_iconst C (0 : Int32) (tk T_cX5_measure 21 rfl) kI_0 ?_
      refine a_istore C (tk T_cX5_measure 22 rfl) (by decide) rfl ?_
      obtain ⟨n1, h⟩ := h
      exact a_to (k_Laws_measure_44 C hr hR n1 x1 x2 x3 (-1000000000 : Int32) (0 : Int32) M h) rfl
    · have h := h.2 c
      refine a_iload_n C (tk T_cX5_measure 8 rfl) rfl ?_
      refine a_aload_n C (tk T_cX5_measure 9 rfl) rfl ?_
      refine a_getR C f_RX5_15 (tk T_cX5_measure 10 rfl) lc63 rfl ?_
      refine a_iload C (tk T_cX5_measure 11 rfl) rfl ?_
      obtain ⟨hb, h⟩ := h
      refine a_iald C (tk T_cX5_measure 12 rfl) lc65 hb ?_
      refine a_iload_n C (tk T_cX5_measure 13 rfl) rfl ?_
      refine a_statI C [.int (M 65 x4.toNatClampNeg), .int x1] me_yX5_height lk_RX5_150 (ct_Laws_height h) (by decide) rfl rfl (Nat.le_of_ble_eq_true rfl) (tk T_cX5_measure 14 rfl) hr (fun r1 M1 h => ?_)
      refine a_statI C [.int x3, .int r1] me_yJ9_min_7cf53 lk_RX5_142 (ct_Math_min h) (by decide) rfl rfl (Nat.le_of_ble_eq_true rfl) (tk T_cX5_measure 15 rfl) hr (fun r2 M2 h => ?_)
      refine a_istore_n C (tk T_cX5_measure 16 rfl) (by decide) rfl ?_
      refine a_iinc C (1 : Int32) (tk T_cX5_measure 17 rfl) rfl kI_1 (by decide) rfl ?_
      refine a_goto C 6 (tk T_cX5_measure 18 rfl) rfl ?_
      exact a_to (ih x1 x2 r2 (x4 + (1 : Int32)) M2 h) rfl
def P_Laws_measure (post : Mem → Prop) (x1 x2 : Int32) (M : Mem) : Prop :=
  ∃ j6, P_Laws_measure_6 post j6 x1 x2 (1000000000 : Int32) (0 : Int32) M
theorem k_Laws_measure {X : FX} {g : GT} {ext : List CD} {A : Nat → Prop} {Z : State → Prop} {post : Mem → Prop} (C : Cx X g (layC ++ ext) A cX5_measure 6 RX5 2) (hr : 0 ≤ X.2.2.2.1.cells ∧ 0 ≤ X.2.2.2.1.slots) (hR : RetV X g (layC ++ ext) A cX5_measure 6 0 0 Z post) (x1 x2 : Int32) (M : Mem) (h : P_Laws_measure post x1 x2 M) : At X g (layC ++ ext) A 6 0 0 Z 0 [(0, .ref (ad g 63)), (1, .int x1), (2, .int x2)] [] M := by
  refine a_ldc C c_RX5_149 (tk T_cX5_measure 0 rfl) ?_
  refine a_istore_n C (tk T_cX5_measure 1 rfl) (by decide) rfl ?_
  refine a_iconst C (0 : Int32) (tk T_cX5_measure 2 rfl) kI_0 ?_
  refine a_istore C (tk T_cX5_measure 3 rfl) (by decide) rfl ?_
  obtain ⟨n1, h⟩ := h
  exact a_to (k_Laws_measure_6 C hr hR n1 x1 x2 (1000000000 : Int32) (0 : Int32) M h) rfl
theorem ct_Laws_measure {l : Launch} {g : GT} {ext : List CD} {post : Mem → Prop} {x1 x2 : Int32} {M : Mem} (h : P_Laws_measure post x1 x2 M) : CV l g (layC ++ ext) yX5_measure cX5_measure 6 none 2 [.ref (ad g 63), .int x1, .int x2] M post :=
  cv_of (plainFor_of_name (by decide +kernel)) (Nat.le_of_ble_eq_true rfl) (fun X A Z hl C hr hR => by subst hl; exact k_Laws_measure C hr hR x1 x2 M h)
def T_cX5_slotOfL : List (Nat × Instr × Nat) := [(0, .iload_n 1, 1), (1, .bipush (-39), 2), (3, .isub, 1), (4, .istore_n 2, 1), (5, .aload_n 0, 1), (6, .getfield 46, 3), (9, .ifCond .eq 16, 3), (12, .iload_n 2, 1), (13, .ifCond .lt 12, 3), (16, .iload_n 2, 1), (17, .aload_n 0, 1), (18, .getfield 21, 3), (21, .arraylength, 1), (22, .if_icmp .lt 5, 3), (25, .iconst (-1), 1), (26, .ireturn, 1), (27, .aload_n 0, 1), (28, .getfield 21, 3), (31, .iload_n 2, 1), (32, .iaload, 1), (33, .ldc 35, 2), (35, .if_icmp .ne 9, 3), (38, .aload_n 0, 1), (39, .iload_n 1, 1), (40, .iload_n 2, 1), (41, .invokevirtual 145, 3), (44, .iload_n 2, 1), (45, .ireturn, 1)]
theorem T_cX5_slotOf : tabOK cX5_slotOf T_cX5_slotOfL = true := by decide +kernel
def P_Laws_slotOf_44 (post : Int32 → Mem → Prop) (x2 : Int32) (M : Mem) : Prop :=
  post x2 M
theorem k_Laws_slotOf_44 {X : FX} {g : GT} {ext : List CD} {A : Nat → Prop} {Z : State → Prop} {post : Int32 → Mem → Prop} (C : Cx X g (layC ++ ext) A cX5_slotOf 3 RX5 3) (hr : 0 ≤ X.2.2.2.1.cells ∧ 0 ≤ X.2.2.2.1.slots) (hR : RetI X g (layC ++ ext) A cX5_slotOf 3 0 0 Z post) (x2 : Int32) (M : Mem) (h : P_Laws_slotOf_44 post x2 M) : At X g (layC ++ ext) A 3 0 0 Z 44 [(2, .int x2)] [] M := by
  refine a_iload_n C (tk T_cX5_slotOf 26 rfl) rfl ?_
  exact hR _ _ _ _ (tk T_cX5_slotOf 27 rfl) h
def P_Laws_slotOf_25 (post : Int32 → Mem → Prop) (M : Mem) : Prop :=
  post (-1 : Int32) M
theorem k_Laws_slotOf_25 {X : FX} {g : GT} {ext : List CD} {A : Nat → Prop} {Z : State → Prop} {post : Int32 → Mem → Prop} (C : Cx X g (layC ++ ext) A cX5_slotOf 3 RX5 3) (hr : 0 ≤ X.2.2.2.1.cells ∧ 0 ≤ X.2.2.2.1.slots) (hR : RetI X g (layC ++ ext) A cX5_slotOf 3 0 0 Z post)  (M : Mem) (h : P_Laws_slotOf_25 post M) : At X g (layC ++ ext) A 3 0 0 Z 25 [] [] M := by
  refine a_iconst C (-1 : Int32) (tk T_cX5_slotOf 14 rfl) kI_m1 ?_
  exact hR _ _ _ _ (tk T_cX5_slotOf 15 rfl) h
def P_Laws_slotOf (post : Int32 → Mem → Prop) (x1 : Int32) (M : Mem) : Prop :=
  ∀ x2_1, x2_1 = (x1 - (-39 : Int32)) → ((M 63 8) = 0 → (P_Laws_slotOf_25 post M)) ∧
  (¬ (M 63 8) = 0 → ((x2_1 < 0 → (P_Laws_slotOf_25 post M)) ∧
  (¬ x2_1 < 0 → ((x2_1 < (1087 : Int32) → (vp_in x2_1 1087 ∧ (¬ (M 67 x2_1.toNatClampNeg) = (-1000000 : Int32) → (P_Laws_slotOf_44 post x2_1 M)) ∧
  ((M 67 x2_1.toNatClampNeg) = (-1000000 : Int32) → (P_Laws_measure (fun M2 =>
  P_Laws_slotOf_44 post x2_1 M2) x1 x2_1 M)))) ∧
  (¬ x2_1 < (1087 : Int32) → (P_Laws_slotOf_25 post M))))))
theorem k_Laws_slotOf {X : FX} {g : GT} {ext : List CD} {A : Nat → Prop} {Z : State → Prop} {post : Int32 → Mem → Prop} (C : Cx X g (layC ++ ext) A cX5_slotOf 3 RX5 3) (hr : 0 ≤ X.2.2.2.1.cells ∧ 0 ≤ X.2.2.2.1.slots) (hR : RetI X g (layC ++ ext) A cX5_slotOf 3 0 0 Z post) (x1 : Int32) (M : Mem) (h : P_Laws_slotOf post x1 M) : At X g (layC ++ ext) A 3 0 0 Z 0 [(0, .ref (ad g 63)), (1, .int x1)] [] M := by
  refine a_iload_n C (tk T_cX5_slotOf 0 rfl) rfl ?_
  refine a_bipush C (-39 : Int32) (tk T_cX5_slotOf 1 rfl) kB_m39 ?_
  refine a_isub C (tk T_cX5_slotOf 2 rfl) ?_
  refine a_top (fun x2_1 e_x2_1 => ?_)
  have h := h x2_1 e_x2_1
  refine a_istore_n C (tk T_cX5_slotOf 3 rfl) (by decide) rfl ?_
  refine a_aload_n C (tk T_cX5_slotOf 4 rfl) rfl ?_
  refine a_getI C f_RX5_46 (tk T_cX5_slotOf 5 rfl) lc63 rfl ?_
  refine a_if_eq C 25 (tk T_cX5_slotOf 6 rfl) rfl (fun c => ?_) (fun c => ?_)
  · have h := h.1 c
    exact a_to (k_Laws_slotOf_25 C hr hR M h) rfl
  · have h := h.2 c
    refine a_iload_n C (tk T_cX5_slotOf 7 rfl) rfl ?_
    refine a_if_lt C 25 (tk T_cX5_slotOf 8 rfl) rfl (fun c => ?_) (fun c => ?_)
    · have h := h.1 c
      exact a_to (k_Laws_slotOf_25 C hr hR M h) rfl
    · have h := h.2 c
      refine a_iload_n C (tk T_cX5_slotOf 9 rfl) rfl ?_
      refine a_aload_n C (tk T_cX5_slotOf 10 rfl) rfl ?_
      refine a_getR C f_RX5_21 (tk T_cX5_slotOf 11 rfl) lc63 rfl ?_
      refine a_alen0 C (tk T_cX5_slotOf 12 rfl) lc67 rfl ?_
      refine a_icmp_lt C 27 (tk T_cX5_slotOf 13 rfl) rfl (fun c => ?_) (fun c => ?_)
      · have h := h.1 c
        refine a_aload_n C (tk T_cX5_slotOf 16 rfl) rfl ?_
        refine a_getR C f_RX5_21 (tk T_cX5_slotOf 17 rfl) lc63 rfl ?_
        refine a_iload_n C (tk T_cX5_slotOf 18 rfl) rfl ?_
        obtain ⟨hb, h⟩ := h
        refine a_iald C (tk T_cX5_slotOf 19 rfl) lc67 hb ?_
        refine a_ldc C c_RX5_35 (tk T_cX5_slotOf 20 rfl) ?_
        refine a_icmp_ne C 44 (tk T_cX5_slotOf 21 rfl) rfl (fun c => ?_) (fun c => ?_)
        · have h := h.1 c
          exact a_to (k_Laws_slotOf_44 C hr hR x2_1 M h) rfl
        · have h := h.2 c
          refine a_aload_n C (tk T_cX5_slotOf 22 rfl) rfl ?_
          refine a_iload_n C (tk T_cX5_slotOf 23 rfl) rfl ?_
          refine a_iload_n C (tk T_cX5_slotOf 24 rfl) rfl ?_
          refine a_callV C [.int x1, .int x2_1] me_yX5_measure lk_RX5_145 (ct_Laws_measure h) (by decide) lc63 rfl rfl rfl (Nat.le_of_ble_eq_true rfl) (tk T_cX5_slotOf 25 rfl) hr (fun M2 h => ?_)
          exact a_to (k_Laws_slotOf_44 C hr hR x2_1 M2 h) rfl
      · have h := h.2 c
        exact a_to (k_Laws_slotOf_25 C hr hR M h) rfl
theorem ct_Laws_slotOf {l : Launch} {g : GT} {ext : List CD} {post : Int32 → Mem → Prop} {x1 : Int32} {M : Mem} (h : P_Laws_slotOf post x1 M) : CI l g (layC ++ ext) yX5_slotOf cX5_slotOf 3 (some .int) 3 [.ref (ad g 63), .int x1] M post :=
  ci_of (plainFor_of_name (by decide +kernel)) (Nat.le_of_ble_eq_true rfl) (fun X A Z hl C hr hR => by subst hl; exact k_Laws_slotOf C hr hR x1 M h)
def T_cX3_putNoSpanL : List (Nat × Instr × Nat) := [(0, .aload_n 0, 1), (1, .getfield 9, 3), (4, .iload_n 1, 1), (5, .iconst 1, 1), (6, .iastore, 1), (7, .aload_n 0, 1), (8, .getfield 15, 3), (11, .iload_n 1, 1), (12, .iconst 0, 1), (13, .iastore, 1), (14, .return_, 1)]
theorem T_cX3_putNoSpan : tabOK cX3_putNoSpan T_cX3_putNoSpanL = true := by decide +kernel
def P_Judge_putNoSpan (post : Mem → Prop) (x1 : Int32) (M : Mem) : Prop :=
  vp_in x1 24 ∧ ∀ M1, M1 = ms M 70 x1.toNatClampNeg (1 : Int32) → vp_in x1 24 ∧ ∀ M2, M2 = ms M1 71 x1.toNatClampNeg (0 : Int32) → post M2
theorem k_Judge_putNoSpan {X : FX} {g : GT} {ext : List CD} {A : Nat → Prop} {Z : State → Prop} {post : Mem → Prop} (C : Cx X g (layC ++ ext) A cX3_putNoSpan 2 RX3 0) (hr : 0 ≤ X.2.2.2.1.cells ∧ 0 ≤ X.2.2.2.1.slots) (hR : RetV X g (layC ++ ext) A cX3_putNoSpan 2 0 0 Z post) (x1 : Int32) (M : Mem) (h : P_Judge_putNoSpan post x1 M) : At X g (layC ++ ext) A 2 0 0 Z 0 [(0, .ref (ad g 69)), (1, .int x1)] [] M := by
  refine a_aload_n C (tk T_cX3_putNoSpan 0 rfl) rfl ?_
  refine a_getR C f_RX3_9 (tk T_cX3_putNoSpan 1 rfl) lc69 rfl ?_
  refine a_iload_n C (tk T_cX3_putNoSpan 2 rfl) rfl ?_
  refine a_iconst C (1 : Int32) (tk T_cX3_putNoSpan 3 rfl) kI_1 ?_
  obtain ⟨hb, h⟩ := h
  refine a_iast C (tk T_cX3_putNoSpan 4 rfl) lc70 hb ?_
  refine a_mem (fun M1 e_M1 => ?_)
  have h := h M1 e_M1
  refine a_aload_n C (tk T_cX3_putNoSpan 5 rfl) rfl ?_
  refine a_getR C f_RX3_15 (tk T_cX3_putNoSpan 6 rfl) lc69 rfl ?_
  refine a_iload_n C (tk T_cX3_putNoSpan 7 rfl) rfl ?_
  refine a_iconst C (0 : Int32) (tk T_cX3_putNoSpan 8 rfl) kI_0 ?_
  obtain ⟨hb, h⟩ := h
  refine a_iast C (tk T_cX3_putNoSpan 9 rfl) lc71 hb ?_
  refine a_mem (fun M2 e_M2 => ?_)
  have h := h M2 e_M2
  exact hR _ _ _ (tk T_cX3_putNoSpan 10 rfl) h
theorem ct_Judge_putNoSpan {l : Launch} {g : GT} {ext : List CD} {post : Mem → Prop} {x1 : Int32} {M : Mem} (h : P_Judge_putNoSpan post x1 M) : CV l g (layC ++ ext) yX3_putNoSpan cX3_putNoSpan 2 none 0 [.ref (ad g 69), .int x1] M post :=
  cv_of (plainFor_of_name (by decide +kernel)) (Nat.le_of_ble_eq_true rfl) (fun X A Z hl C hr hR => by subst hl; exact k_Judge_putNoSpan C hr hR x1 M h)
def T_cX3_putSpanL : List (Nat × Instr × Nat) := [(0, .aload_n 0, 1), (1, .getfield 42, 3), (4, .aload_n 0, 1), (5, .getfield 38, 3), (8, .getfield 86, 3), (11, .aload_n 0, 1), (12, .getfield 38, 3), (15, .getfield 61, 3), (18, .getfield 90, 3), (21, .iload_n 1, 1), (22, .iaload, 1), (23, .aload_n 0, 1), (24, .getfield 38, 3), (27, .getfield 61, 3), (30, .getfield 93, 3), (33, .iload_n 1, 1), (34, .baload, 1), (35, .invokevirtual 97, 3), (38, .iload_n 2, 1), (39, .iadd, 1), (40, .invokevirtual 103, 3), (43, .istore_n 3, 1), (44, .iload_n 3, 1), (45, .iconst (-1), 1), (46, .if_icmp .ne 9, 3), (49, .aload_n 0, 1), (50, .iload_n 1, 1), (51, .invokevirtual 72, 3), (54, .return_, 1), (55, .aload_n 0, 1), (56, .getfield 9, 3), (59, .iload_n 1, 1), (60, .aload_n 0, 1), (61, .getfield 42, 3), (64, .getfield 107, 3), (67, .iload_n 3, 1), (68, .iaload, 1), (69, .iastore, 1), (70, .aload_n 0, 1), (71, .getfield 15, 3), (74, .iload_n 1, 1), (75, .aload_n 0, 1), (76, .getfield 42, 3), (79, .getfield 110, 3), (82, .iload_n 3, 1), (83, .iaload, 1), (84, .iastore, 1), (85, .return_, 1)]
theorem T_cX3_putSpan : tabOK cX3_putSpan T_cX3_putSpanL = true := by decide +kernel
def P_Judge_putSpan (post : Mem → Prop) (x1 x2 : Int32) (M : Mem) : Prop :=
  vp_in x1 24 ∧ vp_in x1 24 ∧ P_Screw_truePlace (fun r1 M1 =>
  P_Laws_slotOf (fun r2 M2 =>
  (¬ r2 = (-1 : Int32) → (vp_in r2 1087 ∧ vp_in x1 24 ∧ ∀ M3, M3 = ms M2 70 x1.toNatClampNeg (M2 67 r2.toNatClampNeg) → vp_in r2 1087 ∧ vp_in x1 24 ∧ ∀ M4, M4 = ms M3 71 x1.toNatClampNeg (M3 68 r2.toNatClampNeg) → post M4)) ∧
  (r2 = (-1 : Int32) → (P_Judge_putNoSpan (fun M5 =>
  post M5) x1 M2))) (r1 + x2) M1) (M 25 x1.toNatClampNeg) (M 26 x1.toNatClampNeg) M
theorem k_Judge_putSpan {X : FX} {g : GT} {ext : List CD} {A : Nat → Prop} {Z : State → Prop} {post : Mem → Prop} (C : Cx X g (layC ++ ext) A cX3_putSpan 4 RX3 4) (hr : 0 ≤ X.2.2.2.1.cells ∧ 0 ≤ X.2.2.2.1.slots) (hR : RetV X g (layC ++ ext) A cX3_putSpan 4 0 0 Z post) (x1 x2 : Int32) (M : Mem) (h : P_Judge_putSpan post x1 x2 M) : At X g (layC ++ ext) A 4 0 0 Z 0 [(0, .ref (ad g 69)), (1, .int x1), (2, .int x2)] [] M := by
  refine a_aload_n C (tk T_cX3_putSpan 0 rfl) rfl ?_
  refine a_getR C f_RX3_42 (tk T_cX3_putSpan 1 rfl) lc69 rfl ?_
  refine a_aload_n C (tk T_cX3_putSpan 2 rfl) rfl ?_
  refine a_getR C f_RX3_38 (tk T_cX3_putSpan 3 rfl) lc69 rfl ?_
  refine a_getR C f_RX3_86 (tk T_cX3_putSpan 4 rfl) lc1 rfl ?_
  refine a_aload_n C (tk T_cX3_putSpan 5 rfl) rfl ?_
  refine a_getR C f_RX3_38 (tk T_cX3_putSpan 6 rfl) lc69 rfl ?_
  refine a_getR C f_RX3_61 (tk T_cX3_putSpan 7 rfl) lc1 rfl ?_
  refine a_getR C f_RX3_90 (tk T_cX3_putSpan 8 rfl) lc18 rfl ?_
  refine a_iload_n C (tk T_cX3_putSpan 9 rfl) rfl ?_
  obtain ⟨hb, h⟩ := h
  refine a_iald C (tk T_cX3_putSpan 10 rfl) lc25 hb ?_
  refine a_aload_n C (tk T_cX3_putSpan 11 rfl) rfl ?_
  refine a_getR C f_RX3_38 (tk T_cX3_putSpan 12 rfl) lc69 rfl ?_
  refine a_getR C f_RX3_61 (tk T_cX3_putSpan 13 rfl) lc1 rfl ?_
  refine a_getR C f_RX3_93 (tk T_cX3_putSpan 14 rfl) lc18 rfl ?_
  refine a_iload_n C (tk T_cX3_putSpan 15 rfl) rfl ?_
  obtain ⟨hb, h⟩ := h
  refine a_zald C (tk T_cX3_putSpan 16 rfl) lc26 hb ?_
  refine a_callI C [.int (M 25 x1.toNatClampNeg), .int (M 26 x1.toNatClampNeg)] me_yX8_truePlace lk_RX3_97 (ct_Screw_truePlace h) (by decide) lc2 rfl rfl rfl (Nat.le_of_ble_eq_true rfl) (tk T_cX3_putSpan 17 rfl) hr (fun r1 M1 h => ?_)
  refine a_iload_n C (tk T_cX3_putSpan 18 rfl) rfl ?_
  refine a_iadd C (tk T_cX3_putSpan 19 rfl) ?_
  refine a_callI C [.int (r1 + x2)] me_yX5_slotOf lk_RX3_103 (ct_Laws_slotOf h) (by decide) lc63 rfl rfl rfl (Nat.le_of_ble_eq_true rfl) (tk T_cX3_putSpan 20 rfl) hr (fun r2 M2 h => ?_)
  refine a_istore_n C (tk T_cX3_putSpan 21 rfl) (by decide) rfl ?_
  refine a_iload_n C (tk T_cX3_putSpan 22 rfl) rfl ?_
  refine a_iconst C (-1 : Int32) (tk T_cX3_putSpan 23 rfl) kI_m1 ?_
  refine a_icmp_ne C 55 (tk T_cX3_putSpan 24 rfl) rfl (fun c => ?_) (fun c => ?_)
  · have h := h.1 c
    refine a_aload_n C (tk T_cX3_putSpan 29 rfl) rfl ?_
    refine a_getR C f_RX3_9 (tk T_cX3_putSpan 30 rfl) lc69 rfl ?_
    refine a_iload_n C (tk T_cX3_putSpan 31 rfl) rfl ?_
    refine a_aload_n C (tk T_cX3_putSpan 32 rfl) rfl ?_
    refine a_getR C f_RX3_42 (tk T_cX3_putSpan 33 rfl) lc69 rfl ?_
    refine a_getR C f_RX3_107 (tk T_cX3_putSpan 34 rfl) lc63 rfl ?_
    refine a_iload_n C (tk T_cX3_putSpan 35 rfl) rfl ?_
    obtain ⟨hb, h⟩ := h
    refine a_iald C (tk T_cX3_putSpan 36 rfl) lc67 hb ?_
    obtain ⟨hb, h⟩ := h
    refine a_iast C (tk T_cX3_putSpan 37 rfl) lc70 hb ?_
    refine a_mem (fun M3 e_M3 => ?_)
    have h := h M3 e_M3
    refine a_aload_n C (tk T_cX3_putSpan 38 rfl) rfl ?_
    refine a_getR C f_RX3_15 (tk T_cX3_putSpan 39 rfl) lc69 rfl ?_
    refine a_iload_n C (tk T_cX3_putSpan 40 rfl) rfl ?_
    refine a_aload_n C (tk T_cX3_putSpan 41 rfl) rfl ?_
    refine a_getR C f_RX3_42 (tk T_cX3_putSpan 42 rfl) lc69 rfl ?_
    refine a_getR C f_RX3_110 (tk T_cX3_putSpan 43 rfl) lc63 rfl ?_
    refine a_iload_n C (tk T_cX3_putSpan 44 rfl) rfl ?_
    obtain ⟨hb, h⟩ := h
    refine a_iald C (tk T_cX3_putSpan 45 rfl) lc68 hb ?_
    obtain ⟨hb, h⟩ := h
    refine a_iast C (tk T_cX3_putSpan 46 rfl) lc71 hb ?_
    refine a_mem (fun M4 e_M4 => ?_)
    have h := h M4 e_M4
    exact hR _ _ _ (tk T_cX3_putSpan 47 rfl) h
  · have h := h.2 c
    refine a_aload_n C (tk T_cX3_putSpan 25 rfl) rfl ?_
    refine a_iload_n C (tk T_cX3_putSpan 26 rfl) rfl ?_
    refine a_callV C [.int x1] me_yX3_putNoSpan lk_RX3_72 (ct_Judge_putNoSpan h) (by decide) lc69 rfl rfl rfl (Nat.le_of_ble_eq_true rfl) (tk T_cX3_putSpan 27 rfl) hr (fun M5 h => ?_)
    exact hR _ _ _ (tk T_cX3_putSpan 28 rfl) h
theorem ct_Judge_putSpan {l : Launch} {g : GT} {ext : List CD} {post : Mem → Prop} {x1 x2 : Int32} {M : Mem} (h : P_Judge_putSpan post x1 x2 M) : CV l g (layC ++ ext) yX3_putSpan cX3_putSpan 4 none 4 [.ref (ad g 69), .int x1, .int x2] M post :=
  cv_of (plainFor_of_name (by decide +kernel)) (Nat.le_of_ble_eq_true rfl) (fun X A Z hl C hr hR => by subst hl; exact k_Judge_putSpan C hr hR x1 x2 M h)
def T_cX3_linesInsideL : List (Nat × Instr × Nat) := [(0, .iconst 0, 1), (1, .istore_n 3, 1), (2, .iconst 0, 1), (3, .istore 4, 2), (5, .iload 4, 2), (7, .aload_n 0, 1), (8, .getfield 38, 3), (11, .getfield 123, 3), (14, .getfield 127, 3), (17, .if_icmp .ge 85, 3), (20, .iconst 0, 1), (21, .istore 5, 2), (23, .iload_n 1, 1), (24, .iload 4, 2), (26, .invokestatic 132, 3), (29, .ifCond .eq 67, 3), (32, .iload 5, 2), (34, .aload_n 0, 1), (35, .getfield 38, 3), (38, .getfield 123, 3), (41, .getfield 136, 3), (44, .iload 4, 2), (46, .iaload, 1), (47, .if_icmp .ge 49, 3), (50, .aload_n 0, 1), (51, .getfield 38, 3), (54, .getfield 123, 3), (57, .getfield 162, 3), (60, .iload 4, 2), (62, .bipush 6, 2), (64, .imul, 1), (65, .iload 5, 2), (67, .iadd, 1), (68, .iaload, 1), (69, .aload_n 0, 1), (70, .getfield 9, 3), (73, .iload_n 2, 1), (74, .iaload, 1), (75, .aload_n 0, 1), (76, .getfield 15, 3), (79, .iload_n 2, 1), (80, .iaload, 1), (81, .invokestatic 113, 3), (84, .ifCond .eq 6, 3), (87, .iinc 3 1, 3), (90, .iinc 5 1, 3), (93, .goto (-70), 3), (96, .iinc 4 1, 3), (99, .goto (-94), 3), (102, .iload_n 3, 1), (103, .ireturn, 1)]
theorem T_cX3_linesInside : tabOK cX3_linesInside T_cX3_linesInsideL = true := by decide +kernel
def P_Judge_linesInside_96 (post : Int32 → Mem → Prop) (R5 : Int32 → Int32 → Int32 → Int32 → Mem → Prop) (x1 x2 x3 x4 : Int32) (M : Mem) : Prop :=
  R5 x1 x2 x3 (x4 + (1 : Int32)) M
theorem k_Judge_linesInside_96 {X : FX} {g : GT} {ext : List CD} {A : Nat → Prop} {Z : State → Prop} {post : Int32 → Mem → Prop} {R5 : Int32 → Int32 → Int32 → Int32 → Mem → Prop} (C : Cx X g (layC ++ ext) A cX3_linesInside 6 RX3 1) (hr : 0 ≤ X.2.2.2.1.cells ∧ 0 ≤ X.2.2.2.1.slots) (hR : RetI X g (layC ++ ext) A cX3_linesInside 6 0 0 Z post) (k5 : ∀ (y1 y2 y3 y4 : Int32) (M : Mem), R5 y1 y2 y3 y4 M → At X g (layC ++ ext) A 6 0 0 Z 5 [(0, .ref (ad g 69)), (1, .int y1), (2, .int y2), (3, .int y3), (4, .int y4)] [] M) (x1 x2 x3 x4 : Int32) (M : Mem) (h : P_Judge_linesInside_96 post R5 x1 x2 x3 x4 M) : At X g (layC ++ ext) A 6 0 0 Z 96 [(0, .ref (ad g 69)), (1, .int x1), (2, .int x2), (3, .int x3), (4, .int x4)] [] M := by
  refine a_iinc C (1 : Int32) (tk T_cX3_linesInside 47 rfl) rfl kI_1 (by decide) rfl ?_
  refine a_goto C 5 (tk T_cX3_linesInside 48 rfl) rfl ?_
  exact a_to (k5 x1 x2 x3 (x4 + (1 : Int32)) M h) rfl
def P_Judge_linesInside_90 (post : Int32 → Mem → Prop) (R5 : Int32 → Int32 → Int32 → Int32 → Mem → Prop) (R23 : Int32 → Int32 → Int32 → Int32 → Int32 → Mem → Prop) (x1 x2 x3 x4 x5 : Int32) (M : Mem) : Prop :=
  R23 x1 x2 x3 x4 (x5 + (1 : Int32)) M
theorem k_Judge_linesInside_90 {X : FX} {g : GT} {ext : List CD} {A : Nat → Prop} {Z : State → Prop} {post : Int32 → Mem → Prop} {R5 : Int32 → Int32 → Int32 → Int32 → Mem → Prop} {R23 : Int32 → Int32 → Int32 → Int32 → Int32 → Mem → Prop} (C : Cx X g (layC ++ ext) A cX3_linesInside 6 RX3 1) (hr : 0 ≤ X.2.2.2.1.cells ∧ 0 ≤ X.2.2.2.1.slots) (hR : RetI X g (layC ++ ext) A cX3_linesInside 6 0 0 Z post) (k5 : ∀ (y1 y2 y3 y4 : Int32) (M : Mem), R5 y1 y2 y3 y4 M → At X g (layC ++ ext) A 6 0 0 Z 5 [(0, .ref (ad g 69)), (1, .int y1), (2, .int y2), (3, .int y3), (4, .int y4)] [] M) (k23 : ∀ (y1 y2 y3 y4 y5 : Int32) (M : Mem), R23 y1 y2 y3 y4 y5 M → At X g (layC ++ ext) A 6 0 0 Z 23 [(0, .ref (ad g 69)), (1, .int y1), (2, .int y2), (3, .int y3), (4, .int y4), (5, .int y5)] [] M) (x1 x2 x3 x4 x5 : Int32) (M : Mem) (h : P_Judge_linesInside_90 post R5 R23 x1 x2 x3 x4 x5 M) : At X g (layC ++ ext) A 6 0 0 Z 90 [(0, .ref (ad g 69)), (1, .int x1), (2, .int x2), (3, .int x3), (4, .int x4), (5, .int x5)] [] M := by
  refine a_iinc C (1 : Int32) (tk T_cX3_linesInside 45 rfl) rfl kI_1 (by decide) rfl ?_
  refine a_goto C 23 (tk T_cX3_linesInside 46 rfl) rfl ?_
  exact a_to (k23 x1 x2 x3 x4 (x5 + (1 : Int32)) M h) rfl
def P_Judge_linesInside_23 (post : Int32 → Mem → Prop) (R5 : Int32 → Int32 → Int32 → Int32 → Mem → Prop) : Nat → Int32 → Int32 → Int32 → Int32 → Int32 → Mem → Prop
  | 0, _, _, _, _, _, _ => False
  | n + 1, x1, x2, x3, x4, x5, M =>
    P_R_has (fun r1 M1 =>
  (r1 = 0 → (P_Judge_linesInside_96 post R5 x1 x2 x3 x4 M1)) ∧
  (¬ r1 = 0 → (vp_in x4 6 ∧ ((M1 15 x4.toNatClampNeg) ≤ x5 → (P_Judge_linesInside_96 post R5 x1 x2 x3 x4 M1)) ∧
  (¬ (M1 15 x4.toNatClampNeg) ≤ x5 → (vp_in ((x4 * (6 : Int32)) + x5) 36 ∧ vp_in x2 24 ∧ vp_in x2 24 ∧ P_R_within (fun r2 M2 =>
  (r2 = 0 → (P_Judge_linesInside_90 post R5 (P_Judge_linesInside_23 post R5 n) x1 x2 x3 x4 x5 M2)) ∧
  (¬ r2 = 0 → (P_Judge_linesInside_90 post R5 (P_Judge_linesInside_23 post R5 n) x1 x2 (x3 + (1 : Int32)) x4 x5 M2))) (M1 16 ((x4 * (6 : Int32)) + x5).toNatClampNeg) (M1 70 x2.toNatClampNeg) (M1 71 x2.toNatClampNeg) M1))))) x1 x4 M
theorem k_Judge_linesInside_23 {X : FX} {g : GT} {ext : List CD} {A : Nat → Prop} {Z : State → Prop} {post : Int32 → Mem → Prop} {R5 : Int32 → Int32 → Int32 → Int32 → Mem → Prop} (C : Cx X g (layC ++ ext) A cX3_linesInside 6 RX3 1) (hr : 0 ≤ X.2.2.2.1.cells ∧ 0 ≤ X.2.2.2.1.slots) (hR : RetI X g (layC ++ ext) A cX3_linesInside 6 0 0 Z post) (k5 : ∀ (y1 y2 y3 y4 : Int32) (M : Mem), R5 y1 y2 y3 y4 M → At X g (layC ++ ext) A 6 0 0 Z 5 [(0, .ref (ad g 69)), (1, .int y1), (2, .int y2), (3, .int y3), (4, .int y4)] [] M) : ∀ (n : Nat) (x1 x2 x3 x4 x5 : Int32) (M : Mem), P_Judge_linesInside_23 post R5 n x1 x2 x3 x4 x5 M → At X g (layC ++ ext) A 6 0 0 Z 23 [(0, .ref (ad g 69)), (1, .int x1), (2, .int x2), (3, .int x3), (4, .int x4), (5, .int x5)] [] M := by
  intro n
  induction n with
  | zero =>
    intro x1 x2 x3 x4 x5 M h
    exact h.elim
  | succ n ih =>
    intro x1 x2 x3 x4 x5 M h
    refine a_iload_n C (tk T_cX3_linesInside 12 rfl) rfl ?_
    refine a_iload C (tk T_cX3_linesInside 13 rfl) rfl ?_
    refine a_nestI C [.int x1, .int x4] me_yX11_has lk_RX3_132 (ct_R_has h) (by decide) rfl rfl (Nat.le_of_ble_eq_true rfl) (tk T_cX3_linesInside 14 rfl) hr (fun r1 M1 h => ?_)
    refine a_if_eq C 96 (tk T_cX3_linesInside 15 rfl) rfl (fun c => ?_) (fun c => ?_)
    · have h := h.1 c
      exact a_to (k_Judge_linesInside_96 C hr hR k5 x1 x2 x3 x4 M1 h) rfl
    · have h := h.2 c
      refine a_iload C (tk T_cX3_linesInside 16 rfl) rfl ?_
      refine a_aload_n C (tk T_cX3_linesInside 17 rfl) rfl ?_
      refine a_getR C f_RX3_38 (tk T_cX3_linesInside 18 rfl) lc69 rfl ?_
      refine a_getR C f_RX3_123 (tk T_cX3_linesInside 19 rfl) lc1 rfl ?_
      refine a_getR C f_RX3_136 (tk T_cX3_linesInside 20 rfl) lc13 rfl ?_
      refine a_iload C (tk T_cX3_linesInside 21 rfl) rfl ?_
      obtain ⟨hb, h⟩ := h
      refine a_iald C (tk T_cX3_linesInside 22 rfl) lc15 hb ?_
      refine a_icmp_ge C 96 (tk T_cX3_linesInside 23 rfl) rfl (fun c => ?_) (fun c => ?_)
      · have h := h.1 c
        exact a_to (k_Judge_linesInside_96 C hr hR k5 x1 x2 x3 x4 M1 h) rfl
      · have h := h.2 c
        refine a_aload_n C (tk T_cX3_linesInside 24 rfl) rfl ?_
        refine a_getR C f_RX3_38 (tk T_cX3_linesInside 25 rfl) lc69 rfl ?_
        refine a_getR C f_RX3_123 (tk T_cX3_linesInside 26 rfl) lc1 rfl ?_
        refine a_getR C f_RX3_162 (tk T_cX3_linesInside 27 rfl) lc13 rfl ?_
        refine a_iload C (tk T_cX3_linesInside 28 rfl) rfl ?_
        refine a_bipush C (6 : Int32) (tk T_cX3_linesInside 29 rfl) kB_6 ?_
        refine a_imul C (tk T_cX3_linesInside 30 rfl) ?_
        refine a_iload C (tk T_cX3_linesInside 31 rfl) rfl ?_
        refine a_iadd C (tk T_cX3_linesInside 32 rfl) ?_
        obtain ⟨hb, h⟩ := h
        refine a_iald C (tk T_cX3_linesInside 33 rfl) lc16 hb ?_
        refine a_aload_n C (tk T_cX3_linesInside 34 rfl) rfl ?_
        refine a_getR C f_RX3_9 (tk T_cX3_linesInside 35 rfl) lc69 rfl ?_
        refine a_iload_n C (tk T_cX3_linesInside 36 rfl) rfl ?_
        obtain ⟨hb, h⟩ := h
        refine a_iald C (tk T_cX3_linesInside 37 rfl) lc70 hb ?_
        refine a_aload_n C (tk T_cX3_linesInside 38 rfl) rfl ?_
        refine a_getR C f_RX3_15 (tk T_cX3_linesInside 39 rfl) lc69 rfl ?_
        refine a_iload_n C (tk T_cX3_linesInside 40 rfl) rfl ?_
        obtain ⟨hb, h⟩ := h
        refine a_iald C (tk T_cX3_linesInside 41 rfl) lc71 hb ?_
        refine a_nestI C [.int (M1 16 ((x4 * (6 : Int32)) + x5).toNatClampNeg), .int (M1 70 x2.toNatClampNeg), .int (M1 71 x2.toNatClampNeg)] me_yX11_within lk_RX3_113 (ct_R_within h) (by decide) rfl rfl (Nat.le_of_ble_eq_true rfl) (tk T_cX3_linesInside 42 rfl) hr (fun r2 M2 h => ?_)
        refine a_if_eq C 90 (tk T_cX3_linesInside 43 rfl) rfl (fun c => ?_) (fun c => ?_)
        · have h := h.1 c
          exact a_to (k_Judge_linesInside_90 C hr hR k5 ih x1 x2 x3 x4 x5 M2 h) rfl
        · have h := h.2 c
          refine a_iinc C (1 : Int32) (tk T_cX3_linesInside 44 rfl) rfl kI_1 (by decide) rfl ?_
          exact a_to (k_Judge_linesInside_90 C hr hR k5 ih x1 x2 (x3 + (1 : Int32)) x4 x5 M2 h) rfl
def P_Judge_linesInside_5 (post : Int32 → Mem → Prop) : Nat → Int32 → Int32 → Int32 → Int32 → Mem → Prop
  | 0, _, _, _, _, _ => False
  | n + 1, x1, x2, x3, x4, M =>
    ((M 13 4) ≤ x4 → (post x3 M)) ∧
  (¬ (M 13 4) ≤ x4 → (∃ j23, P_Judge_linesInside_23 post (P_Judge_linesInside_5 post n) j23 x1 x2 x3 x4 (0 : Int32) M))
theorem k_Judge_linesInside_5 {X : FX} {g : GT} {ext : List CD} {A : Nat → Prop} {Z : State → Prop} {post : Int32 → Mem → Prop} (C : Cx X g (layC ++ ext) A cX3_linesInside 6 RX3 1) (hr : 0 ≤ X.2.2.2.1.cells ∧ 0 ≤ X.2.2.2.1.slots) (hR : RetI X g (layC ++ ext) A cX3_linesInside 6 0 0 Z post) : ∀ (n : Nat) (x1 x2 x3 x4 : Int32) (M : Mem), P_Judge_linesInside_5 post n x1 x2 x3 x4 M → At X g (layC ++ ext) A 6 0 0 Z 5 [(0, .ref (ad g 69)), (1, .int x1), (2, .int x2), (3, .int x3), (4, .int x4)] [] M := by
  intro n
  induction n with
  | zero =>
    intro x1 x2 x3 x4 M h
    exact h.elim
  | succ n ih =>
    intro x1 x2 x3 x4 M h
    refine a_iload C (tk T_cX3_linesInside 4 rfl) rfl ?_
    refine a_aload_n C (tk T_cX3_linesInside 5 rfl) rfl ?_
    refine a_getR C f_RX3_38 (tk T_cX3_linesInside 6 rfl) lc69 rfl ?_
    refine a_getR C f_RX3_123 (tk T_cX3_linesInside 7 rfl) lc1 rfl ?_
    refine a_getI C f_RX3_127 (tk T_cX3_linesInside 8 rfl) lc13 rfl ?_
    refine a_icmp_ge C 102 (tk T_cX3_linesInside 9 rfl) rfl (fun c => ?_) (fun c => ?_)
    · have h := h.1 c
      refine a_iload_n C (tk T_cX3_linesInside 49 rfl) rfl ?_
      exact hR _ _ _ _ (tk T_cX3_linesInside 50 rfl) h
    · have h := h.2 c
      refine a_iconst C (0 : Int32) (tk T_cX3_linesInside 10 rfl) kI_0 ?_
      refine a_istore C (tk T_cX3_linesInside 11 rfl) (by decide) rfl ?_
      obtain ⟨n1, h⟩ := h
      exact a_to (k_Judge_linesInside_23 C hr hR ih n1 x1 x2 x3 x4 (0 : Int32) M h) rfl
def P_Judge_linesInside (post : Int32 → Mem → Prop) (x1 x2 : Int32) (M : Mem) : Prop :=
  ∃ j5, P_Judge_linesInside_5 post j5 x1 x2 (0 : Int32) (0 : Int32) M
theorem k_Judge_linesInside {X : FX} {g : GT} {ext : List CD} {A : Nat → Prop} {Z : State → Prop} {post : Int32 → Mem → Prop} (C : Cx X g (layC ++ ext) A cX3_linesInside 6 RX3 1) (hr : 0 ≤ X.2.2.2.1.cells ∧ 0 ≤ X.2.2.2.1.slots) (hR : RetI X g (layC ++ ext) A cX3_linesInside 6 0 0 Z post) (x1 x2 : Int32) (M : Mem) (h : P_Judge_linesInside post x1 x2 M) : At X g (layC ++ ext) A 6 0 0 Z 0 [(0, .ref (ad g 69)), (1, .int x1), (2, .int x2)] [] M := by
  refine a_iconst C (0 : Int32) (tk T_cX3_linesInside 0 rfl) kI_0 ?_
  refine a_istore_n C (tk T_cX3_linesInside 1 rfl) (by decide) rfl ?_
  refine a_iconst C (0 : Int32) (tk T_cX3_linesInside 2 rfl) kI_0 ?_
  refine a_istore C (tk T_cX3_linesInside 3 rfl) (by decide) rfl ?_
  obtain ⟨n1, h⟩ := h
  exact a_to (k_Judge_linesInside_5 C hr hR n1 x1 x2 (0 : Int32) (0 : Int32) M h) rfl
theorem ct_Judge_linesInside {l : Launch} {g : GT} {ext : List CD} {post : Int32 → Mem → Prop} {x1 x2 : Int32} {M : Mem} (h : P_Judge_linesInside post x1 x2 M) : CI l g (layC ++ ext) yX3_linesInside cX3_linesInside 6 (some .int) 1 [.ref (ad g 69), .int x1, .int x2] M post :=
  ci_of (plainFor_of_name (by decide +kernel)) (Nat.le_of_ble_eq_true rfl) (fun X A Z hl C hr hR => by subst hl; exact k_Judge_linesInside C hr hR x1 x2 M h)
def T_cX3_isExplainedAdriftL : List (Nat × Instr × Nat) := [(0, .aload_n 0, 1), (1, .getfield 38, 3), (4, .getfield 123, 3), (7, .iload_n 1, 1), (8, .invokevirtual 152, 3), (11, .istore_n 3, 1), (12, .iconst 0, 1), (13, .istore 4, 2), (15, .iload 4, 2), (17, .aload_n 0, 1), (18, .getfield 38, 3), (21, .getfield 61, 3), (24, .getfield 67, 3), (27, .if_icmp .ge 52, 3), (30, .aload_n 0, 1), (31, .getfield 55, 3), (34, .iload 4, 2), (36, .invokestatic 132, 3), (39, .ifCond .eq 34, 3), (42, .aload_n 0, 1), (43, .iload 4, 2), (45, .iload_n 2, 1), (46, .invokevirtual 82, 3), (49, .aload_n 0, 1), (50, .getfield 58, 3), (53, .iload 4, 2), (55, .invokestatic 132, 3), (58, .ifCond .ne 15, 3), (61, .aload_n 0, 1), (62, .iload_n 3, 1), (63, .iload 4, 2), (65, .invokevirtual 158, 3), (68, .ifCond .ne 5, 3), (71, .iconst 0, 1), (72, .ireturn, 1), (73, .iinc 4 1, 3), (76, .goto (-61), 3), (79, .aload_n 0, 1), (80, .iload_n 3, 1), (81, .iconst 0, 1), (82, .invokevirtual 155, 3), (85, .aload_n 0, 1), (86, .getfield 120, 3), (89, .ifCond .ne 7, 3), (92, .iconst 1, 1), (93, .goto 4, 3), (96, .iconst 0, 1), (97, .ireturn, 1)]
theorem T_cX3_isExplainedAdrift : tabOK cX3_isExplainedAdrift T_cX3_isExplainedAdriftL = true := by decide +kernel
def P_Judge_isExplainedAdrift_97 (post : Int32 → Mem → Prop) (s0 : Int32) (M : Mem) : Prop :=
  (s0 = 0 ∨ s0 = 1) ∧ post s0 M
theorem k_Judge_isExplainedAdrift_97 {X : FX} {g : GT} {ext : List CD} {A : Nat → Prop} {Z : State → Prop} {post : Int32 → Mem → Prop} (C : Cx X g (layC ++ ext) A cX3_isExplainedAdrift 5 RX3 5) (hr : 0 ≤ X.2.2.2.1.cells ∧ 0 ≤ X.2.2.2.1.slots) (hR : RetZ X g (layC ++ ext) A cX3_isExplainedAdrift 5 0 0 Z post) (s0 : Int32) (M : Mem) (h : P_Judge_isExplainedAdrift_97 post s0 M) : At X g (layC ++ ext) A 5 0 0 Z 97 [] [.int s0] M := by
  exact hR _ _ _ _ (tk T_cX3_isExplainedAdrift 47 rfl) h
def P_Judge_isExplainedAdrift_73 (post : Int32 → Mem → Prop) (R15 : Int32 → Int32 → Int32 → Mem → Prop) (x2 x3 x4 : Int32) (M : Mem) : Prop :=
  R15 x2 x3 (x4 + (1 : Int32)) M
theorem k_Judge_isExplainedAdrift_73 {X : FX} {g : GT} {ext : List CD} {A : Nat → Prop} {Z : State → Prop} {post : Int32 → Mem → Prop} {R15 : Int32 → Int32 → Int32 → Mem → Prop} (C : Cx X g (layC ++ ext) A cX3_isExplainedAdrift 5 RX3 5) (hr : 0 ≤ X.2.2.2.1.cells ∧ 0 ≤ X.2.2.2.1.slots) (hR : RetZ X g (layC ++ ext) A cX3_isExplainedAdrift 5 0 0 Z post) (k15 : ∀ (y2 y3 y4 : Int32) (M : Mem), R15 y2 y3 y4 M → At X g (layC ++ ext) A 5 0 0 Z 15 [(0, .ref (ad g 69)), (2, .int y2), (3, .int y3), (4, .int y4)] [] M) (x2 x3 x4 : Int32) (M : Mem) (h : P_Judge_isExplainedAdrift_73 post R15 x2 x3 x4 M) : At X g (layC ++ ext) A 5 0 0 Z 73 [(0, .ref (ad g 69)), (2, .int x2), (3, .int x3), (4, .int x4)] [] M := by
  refine a_iinc C (1 : Int32) (tk T_cX3_isExplainedAdrift 35 rfl) rfl kI_1 (by decide) rfl ?_
  refine a_goto C 15 (tk T_cX3_isExplainedAdrift 36 rfl) rfl ?_
  exact a_to (k15 x2 x3 (x4 + (1 : Int32)) M h) rfl
def P_Judge_isExplainedAdrift_15 (post : Int32 → Mem → Prop) : Nat → Int32 → Int32 → Int32 → Mem → Prop
  | 0, _, _, _, _ => False
  | n + 1, x2, x3, x4, M =>
    ((M 18 11) ≤ x4 → (P_Judge_survey (fun M1 =>
  (¬ (M1 69 14) = 0 → (P_Judge_isExplainedAdrift_97 post (0 : Int32) M1)) ∧
  ((M1 69 14) = 0 → (P_Judge_isExplainedAdrift_97 post (1 : Int32) M1))) x3 (0 : Int32) M)) ∧
  (¬ (M 18 11) ≤ x4 → (P_R_has (fun r2 M2 =>
  (r2 = 0 → (P_Judge_isExplainedAdrift_73 post (P_Judge_isExplainedAdrift_15 post n) x2 x3 x4 M2)) ∧
  (¬ r2 = 0 → (P_Judge_putSpan (fun M3 =>
  P_R_has (fun r4 M4 =>
  (¬ r4 = 0 → (P_Judge_isExplainedAdrift_73 post (P_Judge_isExplainedAdrift_15 post n) x2 x3 x4 M4)) ∧
  (r4 = 0 → (P_Judge_linesInside (fun r5 M5 =>
  (¬ r5 = 0 → (P_Judge_isExplainedAdrift_73 post (P_Judge_isExplainedAdrift_15 post n) x2 x3 x4 M5)) ∧
  (r5 = 0 → (post (0 : Int32) M5))) x3 x4 M4))) (M3 69 12) x4 M3) x4 x2 M2))) (M 69 11) x4 M))
theorem k_Judge_isExplainedAdrift_15 {X : FX} {g : GT} {ext : List CD} {A : Nat → Prop} {Z : State → Prop} {post : Int32 → Mem → Prop} (C : Cx X g (layC ++ ext) A cX3_isExplainedAdrift 5 RX3 5) (hr : 0 ≤ X.2.2.2.1.cells ∧ 0 ≤ X.2.2.2.1.slots) (hR : RetZ X g (layC ++ ext) A cX3_isExplainedAdrift 5 0 0 Z post) : ∀ (n : Nat) (x2 x3 x4 : Int32) (M : Mem), P_Judge_isExplainedAdrift_15 post n x2 x3 x4 M → At X g (layC ++ ext) A 5 0 0 Z 15 [(0, .ref (ad g 69)), (2, .int x2), (3, .int x3), (4, .int x4)] [] M := by
  intro n
  induction n with
  | zero =>
    intro x2 x3 x4 M h
    exact h.elim
  | succ n ih =>
    intro x2 x3 x4 M h
    refine a_iload C (tk T_cX3_isExplainedAdrift 8 rfl) rfl ?_
    refine a_aload_n C (tk T_cX3_isExplainedAdrift 9 rfl) rfl ?_
    refine a_getR C f_RX3_38 (tk T_cX3_isExplainedAdrift 10 rfl) lc69 rfl ?_
    refine a_getR C f_RX3_61 (tk T_cX3_isExplainedAdrift 11 rfl) lc1 rfl ?_
    refine a_getI C f_RX3_67 (tk T_cX3_isExplainedAdrift 12 rfl) lc18 rfl ?_
    refine a_icmp_ge C 79 (tk T_cX3_isExplainedAdrift 13 rfl) rfl (fun c => ?_) (fun c => ?_)
    · have h := h.1 c
      refine a_aload_n C (tk T_cX3_isExplainedAdrift 37 rfl) rfl ?_
      refine a_iload_n C (tk T_cX3_isExplainedAdrift 38 rfl) rfl ?_
      refine a_iconst C (0 : Int32) (tk T_cX3_isExplainedAdrift 39 rfl) kI_0 ?_
      refine a_callV C [.int x3, .int (0 : Int32)] me_yX3_survey lk_RX3_155 (ct_Judge_survey h) (by decide) lc69 rfl rfl rfl (Nat.le_of_ble_eq_true rfl) (tk T_cX3_isExplainedAdrift 40 rfl) hr (fun M1 h => ?_)
      refine a_aload_n C (tk T_cX3_isExplainedAdrift 41 rfl) rfl ?_
      refine a_getI C f_RX3_120 (tk T_cX3_isExplainedAdrift 42 rfl) lc69 rfl ?_
      refine a_if_ne C 96 (tk T_cX3_isExplainedAdrift 43 rfl) rfl (fun c => ?_) (fun c => ?_)
      · have h := h.1 c
        refine a_iconst C (0 : Int32) (tk T_cX3_isExplainedAdrift 46 rfl) kI_0 ?_
        exact a_to (k_Judge_isExplainedAdrift_97 C hr hR (0 : Int32) M1 h) rfl
      · have h := h.2 c
        refine a_iconst C (1 : Int32) (tk T_cX3_isExplainedAdrift 44 rfl) kI_1 ?_
        refine a_goto C 97 (tk T_cX3_isExplainedAdrift 45 rfl) rfl ?_
        exact a_to (k_Judge_isExplainedAdrift_97 C hr hR (1 : Int32) M1 h) rfl
    · have h := h.2 c
      refine a_aload_n C (tk T_cX3_isExplainedAdrift 14 rfl) rfl ?_
      refine a_getI C f_RX3_55 (tk T_cX3_isExplainedAdrift 15 rfl) lc69 rfl ?_
      refine a_iload C (tk T_cX3_isExplainedAdrift 16 rfl) rfl ?_
      refine a_nestI C [.int (M 69 11), .int x4] me_yX11_has lk_RX3_132 (ct_R_has h) (by decide) rfl rfl (Nat.le_of_ble_eq_true rfl) (tk T_cX3_isExplainedAdrift 17 rfl) hr (fun r2 M2 h => ?_)
      refine a_if_eq C 73 (tk T_cX3_isExplainedAdrift 18 rfl) rfl (fun c => ?_) (fun c => ?_)
      · have h := h.1 c
        exact a_to (k_Judge_isExplainedAdrift_73 C hr hR ih x2 x3 x4 M2 h) rfl
      · have h := h.2 c
        refine a_aload_n C (tk T_cX3_isExplainedAdrift 19 rfl) rfl ?_
        refine a_iload C (tk T_cX3_isExplainedAdrift 20 rfl) rfl ?_
        refine a_iload_n C (tk T_cX3_isExplainedAdrift 21 rfl) rfl ?_
        refine a_callV C [.int x4, .int x2] me_yX3_putSpan lk_RX3_82 (ct_Judge_putSpan h) (by decide) lc69 rfl rfl rfl (Nat.le_of_ble_eq_true rfl) (tk T_cX3_isExplainedAdrift 22 rfl) hr (fun M3 h => ?_)
        refine a_aload_n C (tk T_cX3_isExplainedAdrift 23 rfl) rfl ?_
        refine a_getI C f_RX3_58 (tk T_cX3_isExplainedAdrift 24 rfl) lc69 rfl ?_
        refine a_iload C (tk T_cX3_isExplainedAdrift 25 rfl) rfl ?_
        refine a_nestI C [.int (M3 69 12), .int x4] me_yX11_has lk_RX3_132 (ct_R_has h) (by decide) rfl rfl (Nat.le_of_ble_eq_true rfl) (tk T_cX3_isExplainedAdrift 26 rfl) hr (fun r4 M4 h => ?_)
        refine a_if_ne C 73 (tk T_cX3_isExplainedAdrift 27 rfl) rfl (fun c => ?_) (fun c => ?_)
        · have h := h.1 c
          exact a_to (k_Judge_isExplainedAdrift_73 C hr hR ih x2 x3 x4 M4 h) rfl
        · have h := h.2 c
          refine a_aload_n C (tk T_cX3_isExplainedAdrift 28 rfl) rfl ?_
          refine a_iload_n C (tk T_cX3_isExplainedAdrift 29 rfl) rfl ?_
          refine a_iload C (tk T_cX3_isExplainedAdrift 30 rfl) rfl ?_
          refine a_callI C [.int x3, .int x4] me_yX3_linesInside lk_RX3_158 (ct_Judge_linesInside h) (by decide) lc69 rfl rfl rfl (Nat.le_of_ble_eq_true rfl) (tk T_cX3_isExplainedAdrift 31 rfl) hr (fun r5 M5 h => ?_)
          refine a_if_ne C 73 (tk T_cX3_isExplainedAdrift 32 rfl) rfl (fun c => ?_) (fun c => ?_)
          · have h := h.1 c
            exact a_to (k_Judge_isExplainedAdrift_73 C hr hR ih x2 x3 x4 M5 h) rfl
          · have h := h.2 c
            refine a_iconst C (0 : Int32) (tk T_cX3_isExplainedAdrift 33 rfl) kI_0 ?_
            exact hR _ _ _ _ (tk T_cX3_isExplainedAdrift 34 rfl) ⟨Or.inl rfl, h⟩
def P_Judge_isExplainedAdrift (post : Int32 → Mem → Prop) (x1 x2 : Int32) (M : Mem) : Prop :=
  P_Table_withAir (fun r1 M1 =>
  ∃ j15, P_Judge_isExplainedAdrift_15 post j15 x2 r1 (0 : Int32) M1) x1 M
theorem k_Judge_isExplainedAdrift {X : FX} {g : GT} {ext : List CD} {A : Nat → Prop} {Z : State → Prop} {post : Int32 → Mem → Prop} (C : Cx X g (layC ++ ext) A cX3_isExplainedAdrift 5 RX3 5) (hr : 0 ≤ X.2.2.2.1.cells ∧ 0 ≤ X.2.2.2.1.slots) (hR : RetZ X g (layC ++ ext) A cX3_isExplainedAdrift 5 0 0 Z post) (x1 x2 : Int32) (M : Mem) (h : P_Judge_isExplainedAdrift post x1 x2 M) : At X g (layC ++ ext) A 5 0 0 Z 0 [(0, .ref (ad g 69)), (1, .int x1), (2, .int x2)] [] M := by
  refine a_aload_n C (tk T_cX3_isExplainedAdrift 0 rfl) rfl ?_
  refine a_getR C f_RX3_38 (tk T_cX3_isExplainedAdrift 1 rfl) lc69 rfl ?_
  refine a_getR C f_RX3_123 (tk T_cX3_isExplainedAdrift 2 rfl) lc1 rfl ?_
  refine a_iload_n C (tk T_cX3_isExplainedAdrift 3 rfl) rfl ?_
  refine a_callI C [.int x1] me_yX10_withAir lk_RX3_152 (ct_Table_withAir h) (by decide) lc13 rfl rfl rfl (Nat.le_of_ble_eq_true rfl) (tk T_cX3_isExplainedAdrift 4 rfl) hr (fun r1 M1 h => ?_)
  refine a_istore_n C (tk T_cX3_isExplainedAdrift 5 rfl) (by decide) rfl ?_
  refine a_iconst C (0 : Int32) (tk T_cX3_isExplainedAdrift 6 rfl) kI_0 ?_
  refine a_istore C (tk T_cX3_isExplainedAdrift 7 rfl) (by decide) rfl ?_
  obtain ⟨n1, h⟩ := h
  exact a_to (k_Judge_isExplainedAdrift_15 C hr hR n1 x2 r1 (0 : Int32) M1 h) rfl
theorem ct_Judge_isExplainedAdrift {l : Launch} {g : GT} {ext : List CD} {post : Int32 → Mem → Prop} {x1 x2 : Int32} {M : Mem} (h : P_Judge_isExplainedAdrift post x1 x2 M) : CI l g (layC ++ ext) yX3_isExplainedAdrift cX3_isExplainedAdrift 5 (some .boolean) 5 [.ref (ad g 69), .int x1, .int x2] M post :=
  cz_of (plainFor_of_name (by decide +kernel)) (Nat.le_of_ble_eq_true rfl) (fun X A Z hl C hr hR => by subst hl; exact k_Judge_isExplainedAdrift C hr hR x1 x2 M h)
def T_cX11_faultL : List (Nat × Instr × Nat) := [(0, .aload_n 0, 1), (1, .getfield 56, 3), (4, .getfield 398, 3), (7, .ireturn, 1)]
theorem T_cX11_fault : tabOK cX11_fault T_cX11_faultL = true := by decide +kernel
def P_R_fault (post : Int32 → Mem → Prop) (M : Mem) : Prop :=
  post (M 84 8) M
theorem k_R_fault {X : FX} {g : GT} {ext : List CD} {A : Nat → Prop} {Z : State → Prop} {post : Int32 → Mem → Prop} (C : Cx X g (layC ++ ext) A cX11_fault 1 RX11 0) (hr : 0 ≤ X.2.2.2.1.cells ∧ 0 ≤ X.2.2.2.1.slots) (hR : RetI X g (layC ++ ext) A cX11_fault 1 0 0 Z post) (M : Mem) (h : P_R_fault post M) : At X g (layC ++ ext) A 1 0 0 Z 0 [(0, .ref (ad g 0))] [] M := by
  refine a_aload_n C (tk T_cX11_fault 0 rfl) rfl ?_
  refine a_getR C f_RX11_56 (tk T_cX11_fault 1 rfl) lc0 rfl ?_
  refine a_getI C f_RX11_398 (tk T_cX11_fault 2 rfl) lc84 rfl ?_
  exact hR _ _ _ _ (tk T_cX11_fault 3 rfl) h
theorem ct_R_fault {l : Launch} {g : GT} {ext : List CD} {post : Int32 → Mem → Prop} {M : Mem} (h : P_R_fault post M) : CI l g (layC ++ ext) yX11_fault cX11_fault 1 (some .int) 0 [.ref (ad g 0)] M post :=
  ci_of (plainFor_of_name (by decide +kernel)) (Nat.le_of_ble_eq_true rfl) (fun X A Z hl C hr hR => by subst hl; exact k_R_fault C hr hR  M h)
def T_cX10_allLinesL : List (Nat × Instr × Nat) := [(0, .iconst 0, 1), (1, .istore_n 1, 1), (2, .iconst 0, 1), (3, .istore_n 2, 1), (4, .iload_n 2, 1), (5, .aload_n 0, 1), (6, .getfield 25, 3), (9, .if_icmp .ge 18, 3), (12, .iload_n 1, 1), (13, .aload_n 0, 1), (14, .getfield 15, 3), (17, .iload_n 2, 1), (18, .iaload, 1), (19, .iadd, 1), (20, .istore_n 1, 1), (21, .iinc 2 1, 3), (24, .goto (-20), 3), (27, .iload_n 1, 1), (28, .ireturn, 1)]
theorem T_cX10_allLines : tabOK cX10_allLines T_cX10_allLinesL = true := by decide +kernel
def P_Table_allLines_4 (post : Int32 → Mem → Prop) : Nat → Int32 → Int32 → Mem → Prop
  | 0, _, _, _ => False
  | n + 1, x1, x2, M =>
    ((M 13 4) ≤ x2 → (post x1 M)) ∧
  (¬ (M 13 4) ≤ x2 → (vp_in x2 6 ∧ ∀ x1_1, x1_1 = (x1 + (M 15 x2.toNatClampNeg)) → P_Table_allLines_4 post n x1_1 (x2 + (1 : Int32)) M))
theorem k_Table_allLines_4 {X : FX} {g : GT} {ext : List CD} {A : Nat → Prop} {Z : State → Prop} {post : Int32 → Mem → Prop} (C : Cx X g (layC ++ ext) A cX10_allLines 3 RX10 0) (hr : 0 ≤ X.2.2.2.1.cells ∧ 0 ≤ X.2.2.2.1.slots) (hR : RetI X g (layC ++ ext) A cX10_allLines 3 0 0 Z post) : ∀ (n : Nat) (x1 x2 : Int32) (M : Mem), P_Table_allLines_4 post n x1 x2 M → At X g (layC ++ ext) A 3 0 0 Z 4 [(0, .ref (ad g 13)), (1, .int x1), (2, .int x2)] [] M := by
  intro n
  induction n with
  | zero =>
    intro x1 x2 M h
    exact h.elim
  | succ n ih =>
    intro x1 x2 M h
    refine a_iload_n C (tk T_cX10_allLines 4 rfl) rfl ?_
    refine a_aload_n C (tk T_cX10_allLines 5 rfl) rfl ?_
    refine a_getI C f_RX10_25 (tk T_cX10_allLines 6 rfl) lc13 rfl ?_
    refine a_icmp_ge C 27 (tk T_cX10_allLines 7 rfl) rfl (fun c => ?_) (fun c => ?_)
    · have h := h.1 c
      refine a_iload_n C (tk T_cX10_allLines 17 rfl) rfl ?_
      exact hR _ _ _ _ (tk T_cX10_allLines 18 rfl) h
    · have h := h.2 c
      refine a_iload_n C (tk T_cX10_allLines 8 rfl) rfl ?_
      refine a_aload_n C (tk T_cX10_allLines 9 rfl) rfl ?_
      refine a_getR C f_RX10_15 (tk T_cX10_allLines 10 rfl) lc13 rfl ?_
      refine a_iload_n C (tk T_cX10_allLines 11 rfl) rfl ?_
      obtain ⟨hb, h⟩ := h
      refine a_iald C (tk T_cX10_allLines 12 rfl) lc15 hb ?_
      refine a_iadd C (tk T_cX10_allLines 13 rfl) ?_
      refine a_top (fun x1_1 e_x1_1 => ?_)
      have h := h x1_1 e_x1_1
      refine a_istore_n C (tk T_cX10_allLines 14 rfl) (by decide) rfl ?_
      refine a_iinc C (1 : Int32) (tk T_cX10_allLines 15 rfl) rfl kI_1 (by decide) rfl ?_
      refine a_goto C 4 (tk T_cX10_allLines 16 rfl) rfl ?_
      exact a_to (ih x1_1 (x2 + (1 : Int32)) M h) rfl
def P_Table_allLines (post : Int32 → Mem → Prop) (M : Mem) : Prop :=
  ∃ j4, P_Table_allLines_4 post j4 (0 : Int32) (0 : Int32) M
theorem k_Table_allLines {X : FX} {g : GT} {ext : List CD} {A : Nat → Prop} {Z : State → Prop} {post : Int32 → Mem → Prop} (C : Cx X g (layC ++ ext) A cX10_allLines 3 RX10 0) (hr : 0 ≤ X.2.2.2.1.cells ∧ 0 ≤ X.2.2.2.1.slots) (hR : RetI X g (layC ++ ext) A cX10_allLines 3 0 0 Z post) (M : Mem) (h : P_Table_allLines post M) : At X g (layC ++ ext) A 3 0 0 Z 0 [(0, .ref (ad g 13))] [] M := by
  refine a_iconst C (0 : Int32) (tk T_cX10_allLines 0 rfl) kI_0 ?_
  refine a_istore_n C (tk T_cX10_allLines 1 rfl) (by decide) rfl ?_
  refine a_iconst C (0 : Int32) (tk T_cX10_allLines 2 rfl) kI_0 ?_
  refine a_istore_n C (tk T_cX10_allLines 3 rfl) (by decide) rfl ?_
  obtain ⟨n1, h⟩ := h
  exact a_to (k_Table_allLines_4 C hr hR n1 (0 : Int32) (0 : Int32) M h) rfl
theorem ct_Table_allLines {l : Launch} {g : GT} {ext : List CD} {post : Int32 → Mem → Prop} {M : Mem} (h : P_Table_allLines post M) : CI l g (layC ++ ext) yX10_allLines cX10_allLines 3 (some .int) 0 [.ref (ad g 13)] M post :=
  ci_of (plainFor_of_name (by decide +kernel)) (Nat.le_of_ble_eq_true rfl) (fun X A Z hl C hr hR => by subst hl; exact k_Table_allLines C hr hR  M h)
def T_cX9_mayBeGhostL : List (Nat × Instr × Nat) := [(0, .aload_n 0, 1), (1, .getfield 27, 3), (4, .iload_n 1, 1), (5, .iaload, 1), (6, .istore_n 2, 1), (7, .aload_n 0, 1), (8, .getfield 24, 3), (11, .iload_n 2, 1), (12, .iaload, 1), (13, .ifCond .ne 5, 3), (16, .iconst 0, 1), (17, .ireturn, 1), (18, .iconst 0, 1), (19, .istore_n 3, 1), (20, .iload_n 3, 1), (21, .aload_n 0, 1), (22, .getfield 47, 3), (25, .if_icmp .ge 68, 3), (28, .iload_n 3, 1), (29, .iload_n 1, 1), (30, .if_icmp .eq 57, 3), (33, .aload_n 0, 1), (34, .getfield 27, 3), (37, .iload_n 3, 1), (38, .iaload, 1), (39, .iload_n 2, 1), (40, .if_icmp .ne 47, 3), (43, .aload_n 0, 1), (44, .getfield 37, 3), (47, .iload_n 3, 1), (48, .iaload, 1), (49, .bipush 7, 2), (51, .if_icmp .lt 36, 3), (54, .aload_n 0, 1), (55, .getfield 30, 3), (58, .iload_n 3, 1), (59, .iaload, 1), (60, .aload_n 0, 1), (61, .getfield 30, 3), (64, .iload_n 1, 1), (65, .iaload, 1), (66, .isub, 1), (67, .invokestatic 50, 3), (70, .aload_n 0, 1), (71, .getfield 24, 3), (74, .iload_n 2, 1), (75, .iaload, 1), (76, .isub, 1), (77, .iconst (-1), 1), (78, .iconst 1, 1), (79, .invokestatic 56, 3), (82, .ifCond .eq 5, 3), (85, .iconst 1, 1), (86, .ireturn, 1), (87, .iinc 3 1, 3), (90, .goto (-70), 3), (93, .iconst 0, 1), (94, .ireturn, 1)]
theorem T_cX9_mayBeGhost : tabOK cX9_mayBeGhost T_cX9_mayBeGhostL = true := by decide +kernel
def P_Shelf_mayBeGhost_87 (post : Int32 → Mem → Prop) (R20 : Int32 → Int32 → Int32 → Mem → Prop) (x1 x2 x3 : Int32) (M : Mem) : Prop :=
  R20 x1 x2 (x3 + (1 : Int32)) M
theorem k_Shelf_mayBeGhost_87 {X : FX} {g : GT} {ext : List CD} {A : Nat → Prop} {Z : State → Prop} {post : Int32 → Mem → Prop} {R20 : Int32 → Int32 → Int32 → Mem → Prop} (C : Cx X g (layC ++ ext) A cX9_mayBeGhost 4 RX9 1) (hr : 0 ≤ X.2.2.2.1.cells ∧ 0 ≤ X.2.2.2.1.slots) (hR : RetZ X g (layC ++ ext) A cX9_mayBeGhost 4 0 0 Z post) (k20 : ∀ (y1 y2 y3 : Int32) (M : Mem), R20 y1 y2 y3 M → At X g (layC ++ ext) A 4 0 0 Z 20 [(0, .ref (ad g 18)), (1, .int y1), (2, .int y2), (3, .int y3)] [] M) (x1 x2 x3 : Int32) (M : Mem) (h : P_Shelf_mayBeGhost_87 post R20 x1 x2 x3 M) : At X g (layC ++ ext) A 4 0 0 Z 87 [(0, .ref (ad g 18)), (1, .int x1), (2, .int x2), (3, .int x3)] [] M := by
  refine a_iinc C (1 : Int32) (tk T_cX9_mayBeGhost 54 rfl) rfl kI_1 (by decide) rfl ?_
  refine a_goto C 20 (tk T_cX9_mayBeGhost 55 rfl) rfl ?_
  exact a_to (k20 x1 x2 (x3 + (1 : Int32)) M h) rfl
def P_Shelf_mayBeGhost_20 (post : Int32 → Mem → Prop) : Nat → Int32 → Int32 → Int32 → Mem → Prop
  | 0, _, _, _, _ => False
  | n + 1, x1, x2, x3, M =>
    ((M 18 11) ≤ x3 → (post (0 : Int32) M)) ∧
  (¬ (M 18 11) ≤ x3 → ((x3 = x1 → (P_Shelf_mayBeGhost_87 post (P_Shelf_mayBeGhost_20 post n) x1 x2 x3 M)) ∧
  (¬ x3 = x1 → (vp_in x3 24 ∧ (¬ (M 24 x3.toNatClampNeg) = x2 → (P_Shelf_mayBeGhost_87 post (P_Shelf_mayBeGhost_20 post n) x1 x2 x3 M)) ∧
  ((M 24 x3.toNatClampNeg) = x2 → (vp_in x3 24 ∧ ((M 27 x3.toNatClampNeg) < (7 : Int32) → (P_Shelf_mayBeGhost_87 post (P_Shelf_mayBeGhost_20 post n) x1 x2 x3 M)) ∧
  (¬ (M 27 x3.toNatClampNeg) < (7 : Int32) → (vp_in x3 24 ∧ vp_in x1 24 ∧ P_Math_abs (fun r1 M1 =>
  vp_in x2 3 ∧ P_R_within (fun r2 M2 =>
  (r2 = 0 → (P_Shelf_mayBeGhost_87 post (P_Shelf_mayBeGhost_20 post n) x1 x2 x3 M2)) ∧
  (¬ r2 = 0 → (post (1 : Int32) M2))) (r1 - (M1 23 x2.toNatClampNeg)) (-1 : Int32) (1 : Int32) M1) ((M 25 x3.toNatClampNeg) - (M 25 x1.toNatClampNeg)) M))))))))
theorem k_Shelf_mayBeGhost_20 {X : FX} {g : GT} {ext : List CD} {A : Nat → Prop} {Z : State → Prop} {post : Int32 → Mem → Prop} (C : Cx X g (layC ++ ext) A cX9_mayBeGhost 4 RX9 1) (hr : 0 ≤ X.2.2.2.1.cells ∧ 0 ≤ X.2.2.2.1.slots) (hR : RetZ X g (layC ++ ext) A cX9_mayBeGhost 4 0 0 Z post) : ∀ (n : Nat) (x1 x2 x3 : Int32) (M : Mem), P_Shelf_mayBeGhost_20 post n x1 x2 x3 M → At X g (layC ++ ext) A 4 0 0 Z 20 [(0, .ref (ad g 18)), (1, .int x1), (2, .int x2), (3, .int x3)] [] M := by
  intro n
  induction n with
  | zero =>
    intro x1 x2 x3 M h
    exact h.elim
  | succ n ih =>
    intro x1 x2 x3 M h
    refine a_iload_n C (tk T_cX9_mayBeGhost 14 rfl) rfl ?_
    refine a_aload_n C (tk T_cX9_mayBeGhost 15 rfl) rfl ?_
    refine a_getI C f_RX9_47 (tk T_cX9_mayBeGhost 16 rfl) lc18 rfl ?_
    refine a_icmp_ge C 93 (tk T_cX9_mayBeGhost 17 rfl) rfl (fun c => ?_) (fun c => ?_)
    · have h := h.1 c
      refine a_iconst C (0 : Int32) (tk T_cX9_mayBeGhost 56 rfl) kI_0 ?_
      exact hR _ _ _ _ (tk T_cX9_mayBeGhost 57 rfl) ⟨Or.inl rfl, h⟩
    · have h := h.2 c
      refine a_iload_n C (tk T_cX9_mayBeGhost 18 rfl) rfl ?_
      refine a_iload_n C (tk T_cX9_mayBeGhost 19 rfl) rfl ?_
      refine a_icmp_eq C 87 (tk T_cX9_mayBeGhost 20 rfl) rfl (fun c => ?_) (fun c => ?_)
      · have h := h.1 c
        exact a_to (k_Shelf_mayBeGhost_87 C hr hR ih x1 x2 x3 M h) rfl
      · have h := h.2 c
        refine a_aload_n C (tk T_cX9_mayBeGhost 21 rfl) rfl ?_
        refine a_getR C f_RX9_27 (tk T_cX9_mayBeGhost 22 rfl) lc18 rfl ?_
        refine a_iload_n C (tk T_cX9_mayBeGhost 23 rfl) rfl ?_
        obtain ⟨hb, h⟩ := h
        refine a_iald C (tk T_cX9_mayBeGhost 24 rfl) lc24 hb ?_
        refine a_iload_n C (tk T_cX9_mayBeGhost 25 rfl) rfl ?_
        refine a_icmp_ne C 87 (tk T_cX9_mayBeGhost 26 rfl) rfl (fun c => ?_) (fun c => ?_)
        · have h := h.1 c
          exact a_to (k_Shelf_mayBeGhost_87 C hr hR ih x1 x2 x3 M h) rfl
        · have h := h.2 c
          refine a_aload_n C (tk T_cX9_mayBeGhost 27 rfl) rfl ?_
          refine a_getR C f_RX9_37 (tk T_cX9_mayBeGhost 28 rfl) lc18 rfl ?_
          refine a_iload_n C (tk T_cX9_mayBeGhost 29 rfl) rfl ?_
          obtain ⟨hb, h⟩ := h
          refine a_iald C (tk T_cX9_mayBeGhost 30 rfl) lc27 hb ?_
          refine a_bipush C (7 : Int32) (tk T_cX9_mayBeGhost 31 rfl) kB_7 ?_
          refine a_icmp_lt C 87 (tk T_cX9_mayBeGhost 32 rfl) rfl (fun c => ?_) (fun c => ?_)
          · have h := h.1 c
            exact a_to (k_Shelf_mayBeGhost_87 C hr hR ih x1 x2 x3 M h) rfl
          · have h := h.2 c
            refine a_aload_n C (tk T_cX9_mayBeGhost 33 rfl) rfl ?_
            refine a_getR C f_RX9_30 (tk T_cX9_mayBeGhost 34 rfl) lc18 rfl ?_
            refine a_iload_n C (tk T_cX9_mayBeGhost 35 rfl) rfl ?_
            obtain ⟨hb, h⟩ := h
            refine a_iald C (tk T_cX9_mayBeGhost 36 rfl) lc25 hb ?_
            refine a_aload_n C (tk T_cX9_mayBeGhost 37 rfl) rfl ?_
            refine a_getR C f_RX9_30 (tk T_cX9_mayBeGhost 38 rfl) lc18 rfl ?_
            refine a_iload_n C (tk T_cX9_mayBeGhost 39 rfl) rfl ?_
            obtain ⟨hb, h⟩ := h
            refine a_iald C (tk T_cX9_mayBeGhost 40 rfl) lc25 hb ?_
            refine a_isub C (tk T_cX9_mayBeGhost 41 rfl) ?_
            refine a_statI C [.int ((M 25 x3.toNatClampNeg) - (M 25 x1.toNatClampNeg))] me_yJ9_abs_0f7a4 lk_RX9_50 (ct_Math_abs h) (by decide) rfl rfl (Nat.le_of_ble_eq_true rfl) (tk T_cX9_mayBeGhost 42 rfl) hr (fun r1 M1 h => ?_)
            refine a_aload_n C (tk T_cX9_mayBeGhost 43 rfl) rfl ?_
            refine a_getR C f_RX9_24 (tk T_cX9_mayBeGhost 44 rfl) lc18 rfl ?_
            refine a_iload_n C (tk T_cX9_mayBeGhost 45 rfl) rfl ?_
            obtain ⟨hb, h⟩ := h
            refine a_iald C (tk T_cX9_mayBeGhost 46 rfl) lc23 hb ?_
            refine a_isub C (tk T_cX9_mayBeGhost 47 rfl) ?_
            refine a_iconst C (-1 : Int32) (tk T_cX9_mayBeGhost 48 rfl) kI_m1 ?_
            refine a_iconst C (1 : Int32) (tk T_cX9_mayBeGhost 49 rfl) kI_1 ?_
            refine a_nestI C [.int (r1 - (M1 23 x2.toNatClampNeg)), .int (-1 : Int32), .int (1 : Int32)] me_yX11_within lk_RX9_56 (ct_R_within h) (by decide) rfl rfl (Nat.le_of_ble_eq_true rfl) (tk T_cX9_mayBeGhost 50 rfl) hr (fun r2 M2 h => ?_)
            refine a_if_eq C 87 (tk T_cX9_mayBeGhost 51 rfl) rfl (fun c => ?_) (fun c => ?_)
            · have h := h.1 c
              exact a_to (k_Shelf_mayBeGhost_87 C hr hR ih x1 x2 x3 M2 h) rfl
            · have h := h.2 c
              refine a_iconst C (1 : Int32) (tk T_cX9_mayBeGhost 52 rfl) kI_1 ?_
              exact hR _ _ _ _ (tk T_cX9_mayBeGhost 53 rfl) ⟨Or.inr rfl, h⟩
def P_Shelf_mayBeGhost (post : Int32 → Mem → Prop) (x1 : Int32) (M : Mem) : Prop :=
  vp_in x1 24 ∧ vp_in (M 24 x1.toNatClampNeg) 3 ∧ (¬ (M 23 (M 24 x1.toNatClampNeg).toNatClampNeg) = 0 → (∃ j20, P_Shelf_mayBeGhost_20 post j20 x1 (M 24 x1.toNatClampNeg) (0 : Int32) M)) ∧
  ((M 23 (M 24 x1.toNatClampNeg).toNatClampNeg) = 0 → (post (0 : Int32) M))
theorem k_Shelf_mayBeGhost {X : FX} {g : GT} {ext : List CD} {A : Nat → Prop} {Z : State → Prop} {post : Int32 → Mem → Prop} (C : Cx X g (layC ++ ext) A cX9_mayBeGhost 4 RX9 1) (hr : 0 ≤ X.2.2.2.1.cells ∧ 0 ≤ X.2.2.2.1.slots) (hR : RetZ X g (layC ++ ext) A cX9_mayBeGhost 4 0 0 Z post) (x1 : Int32) (M : Mem) (h : P_Shelf_mayBeGhost post x1 M) : At X g (layC ++ ext) A 4 0 0 Z 0 [(0, .ref (ad g 18)), (1, .int x1)] [] M := by
  refine a_aload_n C (tk T_cX9_mayBeGhost 0 rfl) rfl ?_
  refine a_getR C f_RX9_27 (tk T_cX9_mayBeGhost 1 rfl) lc18 rfl ?_
  refine a_iload_n C (tk T_cX9_mayBeGhost 2 rfl) rfl ?_
  obtain ⟨hb, h⟩ := h
  refine a_iald C (tk T_cX9_mayBeGhost 3 rfl) lc24 hb ?_
  refine a_istore_n C (tk T_cX9_mayBeGhost 4 rfl) (by decide) rfl ?_
  refine a_aload_n C (tk T_cX9_mayBeGhost 5 rfl) rfl ?_
  refine a_getR C f_RX9_24 (tk T_cX9_mayBeGhost 6 rfl) lc18 rfl ?_
  refine a_iload_n C (tk T_cX9_mayBeGhost 7 rfl) rfl ?_
  obtain ⟨hb, h⟩ := h
  refine a_iald C (tk T_cX9_mayBeGhost 8 rfl) lc23 hb ?_
  refine a_if_ne C 18 (tk T_cX9_mayBeGhost 9 rfl) rfl (fun c => ?_) (fun c => ?_)
  · have h := h.1 c
    refine a_iconst C (0 : Int32) (tk T_cX9_mayBeGhost 12 rfl) kI_0 ?_
    refine a_istore_n C (tk T_cX9_mayBeGhost 13 rfl) (by decide) rfl ?_
    obtain ⟨n1, h⟩ := h
    exact a_to (k_Shelf_mayBeGhost_20 C hr hR n1 x1 (M 24 x1.toNatClampNeg) (0 : Int32) M h) rfl
  · have h := h.2 c
    refine a_iconst C (0 : Int32) (tk T_cX9_mayBeGhost 10 rfl) kI_0 ?_
    exact hR _ _ _ _ (tk T_cX9_mayBeGhost 11 rfl) ⟨Or.inl rfl, h⟩
theorem ct_Shelf_mayBeGhost {l : Launch} {g : GT} {ext : List CD} {post : Int32 → Mem → Prop} {x1 : Int32} {M : Mem} (h : P_Shelf_mayBeGhost post x1 M) : CI l g (layC ++ ext) yX9_mayBeGhost cX9_mayBeGhost 4 (some .boolean) 1 [.ref (ad g 18), .int x1] M post :=
  cz_of (plainFor_of_name (by decide +kernel)) (Nat.le_of_ble_eq_true rfl) (fun X A Z hl C hr hR => by subst hl; exact k_Shelf_mayBeGhost C hr hR x1 M h)
def T_cX9_allGhostsL : List (Nat × Instr × Nat) := [(0, .iconst 0, 1), (1, .istore_n 1, 1), (2, .iconst 0, 1), (3, .istore_n 2, 1), (4, .iload_n 2, 1), (5, .aload_n 0, 1), (6, .getfield 47, 3), (9, .if_icmp .ge 20, 3), (12, .aload_n 0, 1), (13, .iload_n 2, 1), (14, .invokevirtual 60, 3), (17, .ifCond .eq 6, 3), (20, .iinc 1 1, 3), (23, .iinc 2 1, 3), (26, .goto (-22), 3), (29, .iload_n 1, 1), (30, .ireturn, 1)]
theorem T_cX9_allGhosts : tabOK cX9_allGhosts T_cX9_allGhostsL = true := by decide +kernel
def P_Shelf_allGhosts_23 (post : Int32 → Mem → Prop) (R4 : Int32 → Int32 → Mem → Prop) (x1 x2 : Int32) (M : Mem) : Prop :=
  R4 x1 (x2 + (1 : Int32)) M
theorem k_Shelf_allGhosts_23 {X : FX} {g : GT} {ext : List CD} {A : Nat → Prop} {Z : State → Prop} {post : Int32 → Mem → Prop} {R4 : Int32 → Int32 → Mem → Prop} (C : Cx X g (layC ++ ext) A cX9_allGhosts 3 RX9 2) (hr : 0 ≤ X.2.2.2.1.cells ∧ 0 ≤ X.2.2.2.1.slots) (hR : RetI X g (layC ++ ext) A cX9_allGhosts 3 0 0 Z post) (k4 : ∀ (y1 y2 : Int32) (M : Mem), R4 y1 y2 M → At X g (layC ++ ext) A 3 0 0 Z 4 [(0, .ref (ad g 18)), (1, .int y1), (2, .int y2)] [] M) (x1 x2 : Int32) (M : Mem) (h : P_Shelf_allGhosts_23 post R4 x1 x2 M) : At X g (layC ++ ext) A 3 0 0 Z 23 [(0, .ref (ad g 18)), (1, .int x1), (2, .int x2)] [] M := by
  refine a_iinc C (1 : Int32) (tk T_cX9_allGhosts 13 rfl) rfl kI_1 (by decide) rfl ?_
  refine a_goto C 4 (tk T_cX9_allGhosts 14 rfl) rfl ?_
  exact a_to (k4 x1 (x2 + (1 : Int32)) M h) rfl
def P_Shelf_allGhosts_4 (post : Int32 → Mem → Prop) : Nat → Int32 → Int32 → Mem → Prop
  | 0, _, _, _ => False
  | n + 1, x1, x2, M =>
    ((M 18 11) ≤ x2 → (post x1 M)) ∧
  (¬ (M 18 11) ≤ x2 → (P_Shelf_mayBeGhost (fun r1 M1 =>
  (r1 = 0 → (P_Shelf_allGhosts_23 post (P_Shelf_allGhosts_4 post n) x1 x2 M1)) ∧
  (¬ r1 = 0 → (P_Shelf_allGhosts_23 post (P_Shelf_allGhosts_4 post n) (x1 + (1 : Int32)) x2 M1))) x2 M))
theorem k_Shelf_allGhosts_4 {X : FX} {g : GT} {ext : List CD} {A : Nat → Prop} {Z : State → Prop} {post : Int32 → Mem → Prop} (C : Cx X g (layC ++ ext) A cX9_allGhosts 3 RX9 2) (hr : 0 ≤ X.2.2.2.1.cells ∧ 0 ≤ X.2.2.2.1.slots) (hR : RetI X g (layC ++ ext) A cX9_allGhosts 3 0 0 Z post) : ∀ (n : Nat) (x1 x2 : Int32) (M : Mem), P_Shelf_allGhosts_4 post n x1 x2 M → At X g (layC ++ ext) A 3 0 0 Z 4 [(0, .ref (ad g 18)), (1, .int x1), (2, .int x2)] [] M := by
  intro n
  induction n with
  | zero =>
    intro x1 x2 M h
    exact h.elim
  | succ n ih =>
    intro x1 x2 M h
    refine a_iload_n C (tk T_cX9_allGhosts 4 rfl) rfl ?_
    refine a_aload_n C (tk T_cX9_allGhosts 5 rfl) rfl ?_
    refine a_getI C f_RX9_47 (tk T_cX9_allGhosts 6 rfl) lc18 rfl ?_
    refine a_icmp_ge C 29 (tk T_cX9_allGhosts 7 rfl) rfl (fun c => ?_) (fun c => ?_)
    · have h := h.1 c
      refine a_iload_n C (tk T_cX9_allGhosts 15 rfl) rfl ?_
      exact hR _ _ _ _ (tk T_cX9_allGhosts 16 rfl) h
    · have h := h.2 c
      refine a_aload_n C (tk T_cX9_allGhosts 8 rfl) rfl ?_
      refine a_iload_n C (tk T_cX9_allGhosts 9 rfl) rfl ?_
      refine a_callI C [.int x2] me_yX9_mayBeGhost lk_RX9_60 (ct_Shelf_mayBeGhost h) (by decide) lc18 rfl rfl rfl (Nat.le_of_ble_eq_true rfl) (tk T_cX9_allGhosts 10 rfl) hr (fun r1 M1 h => ?_)
      refine a_if_eq C 23 (tk T_cX9_allGhosts 11 rfl) rfl (fun c => ?_) (fun c => ?_)
      · have h := h.1 c
        exact a_to (k_Shelf_allGhosts_23 C hr hR ih x1 x2 M1 h) rfl
      · have h := h.2 c
        refine a_iinc C (1 : Int32) (tk T_cX9_allGhosts 12 rfl) rfl kI_1 (by decide) rfl ?_
        exact a_to (k_Shelf_allGhosts_23 C hr hR ih (x1 + (1 : Int32)) x2 M1 h) rfl
def P_Shelf_allGhosts (post : Int32 → Mem → Prop) (M : Mem) : Prop :=
  ∃ j4, P_Shelf_allGhosts_4 post j4 (0 : Int32) (0 : Int32) M
theorem k_Shelf_allGhosts {X : FX} {g : GT} {ext : List CD} {A : Nat → Prop} {Z : State → Prop} {post : Int32 → Mem → Prop} (C : Cx X g (layC ++ ext) A cX9_allGhosts 3 RX9 2) (hr : 0 ≤ X.2.2.2.1.cells ∧ 0 ≤ X.2.2.2.1.slots) (hR : RetI X g (layC ++ ext) A cX9_allGhosts 3 0 0 Z post) (M : Mem) (h : P_Shelf_allGhosts post M) : At X g (layC ++ ext) A 3 0 0 Z 0 [(0, .ref (ad g 18))] [] M := by
  refine a_iconst C (0 : Int32) (tk T_cX9_allGhosts 0 rfl) kI_0 ?_
  refine a_istore_n C (tk T_cX9_allGhosts 1 rfl) (by decide) rfl ?_
  refine a_iconst C (0 : Int32) (tk T_cX9_allGhosts 2 rfl) kI_0 ?_
  refine a_istore_n C (tk T_cX9_allGhosts 3 rfl) (by decide) rfl ?_
  obtain ⟨n1, h⟩ := h
  exact a_to (k_Shelf_allGhosts_4 C hr hR n1 (0 : Int32) (0 : Int32) M h) rfl
theorem ct_Shelf_allGhosts {l : Launch} {g : GT} {ext : List CD} {post : Int32 → Mem → Prop} {M : Mem} (h : P_Shelf_allGhosts post M) : CI l g (layC ++ ext) yX9_allGhosts cX9_allGhosts 3 (some .int) 2 [.ref (ad g 18)] M post :=
  ci_of (plainFor_of_name (by decide +kernel)) (Nat.le_of_ble_eq_true rfl) (fun X A Z hl C hr hR => by subst hl; exact k_Shelf_allGhosts C hr hR  M h)
