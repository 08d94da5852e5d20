def T_cX10_liesAtL : List (Nat × Instr × Nat) := [(0, .iload_n 1, 1), (1, .bipush 6, 2), (3, .imul, 1), (4, .iload_n 2, 1), (5, .iadd, 1), (6, .istore 4, 2), (8, .aload_n 0, 1), (9, .getfield 9, 3), (12, .iload_n 1, 1), (13, .baload, 1), (14, .ifCond .eq 13, 3), (17, .aload_n 0, 1), (18, .getfield 19, 3), (21, .iload 4, 2), (23, .iaload, 1), (24, .goto 20, 3), (27, .aload_n 0, 1), (28, .getfield 19, 3), (31, .iload 4, 2), (33, .iaload, 1), (34, .sipush 1000, 3), (37, .iload_n 3, 1), (38, .iadd, 1), (39, .imul, 1), (40, .sipush 1000, 3), (43, .idiv, 1), (44, .ireturn, 1)]
theorem T_cX10_liesAt : tabOK cX10_liesAt T_cX10_liesAtL = true := by decide +kernel
def P_Table_liesAt_44 (post : Int32 → Mem → Prop) (s0 : Int32) (M : Mem) : Prop :=
  post s0 M
theorem k_Table_liesAt_44 {X : FX} {g : GT} {ext : List CD} {A : Nat → Prop} {Z : State → Prop} {post : Int32 → Mem → Prop} (C : Cx X g (layC ++ ext) A cX10_liesAt 5 RX10 0) (hr : 0 ≤ X.2.2.2.1.cells ∧ 0 ≤ X.2.2.2.1.slots) (hR : RetI X g (layC ++ ext) A cX10_liesAt 5 0 0 Z post) (s0 : Int32) (M : Mem) (h : P_Table_liesAt_44 post s0 M) : AtX X g (layC ++ ext) A 5 0 0 Z 44 [] [.int s0] M := by
  exact hR _ _ _ _ (tk T_cX10_liesAt 26 rfl) h
def P_Table_liesAt (post : Int32 → Mem → Prop) (x1 x2 x3 : Int32) (M : Mem) : Prop :=
  ∀ x4_1, x4_1 = ((x1 * (6 : Int32)) + x2) → vp_in x1 6 ∧ ((M 14 x1.toNatClampNeg) = 0 → (vp_in x4_1 36 ∧ ∀ v2, v2 = (((M 16 x4_1.toNatClampNeg) * ((1000 : Int32) + x3)) / (1000 : Int32)) → P_Table_liesAt_44 post v2 M)) ∧
  (¬ (M 14 x1.toNatClampNeg) = 0 → (vp_in x4_1 36 ∧ P_Table_liesAt_44 post (M 16 x4_1.toNatClampNeg) M))
theorem k_Table_liesAt {X : FX} {g : GT} {ext : List CD} {A : Nat → Prop} {Z : State → Prop} {post : Int32 → Mem → Prop} (C : Cx X g (layC ++ ext) A cX10_liesAt 5 RX10 0) (hr : 0 ≤ X.2.2.2.1.cells ∧ 0 ≤ X.2.2.2.1.slots) (hR : RetI X g (layC ++ ext) A cX10_liesAt 5 0 0 Z post) (x1 x2 x3 : Int32) (M : Mem) (h : P_Table_liesAt post x1 x2 x3 M) : AtX X g (layC ++ ext) A 5 0 0 Z 0 [(0, .ref (ad g 13)), (1, .int x1), (2, .int x2), (3, .int x3)] [] M := by
  refine a_iload_n C (tk T_cX10_liesAt 0 rfl) rfl ?_
  refine a_bipush C (6 : Int32) (tk T_cX10_liesAt 1 rfl) kB_6 ?_
  refine a_imul C (tk T_cX10_liesAt 2 rfl) ?_
  refine a_iload_n C (tk T_cX10_liesAt 3 rfl) rfl ?_
  refine a_iadd C (tk T_cX10_liesAt 4 rfl) ?_
  refine a_top (fun x4_1 e_x4_1 => ?_)
  have h := h x4_1 e_x4_1
  refine a_istore C (tk T_cX10_liesAt 5 rfl) (by decide) rfl ?_
  refine a_aload_n C (tk T_cX10_liesAt 6 rfl) rfl ?_
  refine a_getR C f_RX10_9 (tk T_cX10_liesAt 7 rfl) lc13 rfl ?_
  refine a_iload_n C (tk T_cX10_liesAt 8 rfl) rfl ?_
  obtain ⟨hb, h⟩ := h
  refine a_zald C (tk T_cX10_liesAt 9 rfl) lc14 hb ?_
  refine a_if_eq C 27 (tk T_cX10_liesAt 10 rfl) rfl (fun c => ?_) (fun c => ?_)
  · have h := h.1 c
    refine a_aload_n C (tk T_cX10_liesAt 16 rfl) rfl ?_
    refine a_getR C f_RX10_19 (tk T_cX10_liesAt 17 rfl) lc13 rfl ?_
    refine a_iload C (tk T_cX10_liesAt 18 rfl) rfl ?_
    obtain ⟨hb, h⟩ := h
    refine a_iald C (tk T_cX10_liesAt 19 rfl) lc16 hb ?_
    refine a_sipush C (1000 : Int32) (tk T_cX10_liesAt 20 rfl) kS_1000 ?_
    refine a_iload_n C (tk T_cX10_liesAt 21 rfl) rfl ?_
    refine a_iadd C (tk T_cX10_liesAt 22 rfl) ?_
    refine a_imul C (tk T_cX10_liesAt 23 rfl) ?_
    refine a_sipush C (1000 : Int32) (tk T_cX10_liesAt 24 rfl) kS_1000 ?_
    refine a_idiv C (tk T_cX10_liesAt 25 rfl) (by decide) ?_
    refine a_top (fun v2 e_v2 => ?_)
    have h := h v2 e_v2
    exact a_to (k_Table_liesAt_44 C hr hR v2 M h) rfl
  · have h := h.2 c
    refine a_aload_n C (tk T_cX10_liesAt 11 rfl) rfl ?_
    refine a_getR C f_RX10_19 (tk T_cX10_liesAt 12 rfl) lc13 rfl ?_
    refine a_iload C (tk T_cX10_liesAt 13 rfl) rfl ?_
    obtain ⟨hb, h⟩ := h
    refine a_iald C (tk T_cX10_liesAt 14 rfl) lc16 hb ?_
    refine a_goto C 44 (tk T_cX10_liesAt 15 rfl) rfl ?_
    exact a_to (k_Table_liesAt_44 C hr hR (M 16 x4_1.toNatClampNeg) M h) rfl
theorem ct_Table_liesAt {l : Launch} {g : GT} {ext : List CD} {post : Int32 → Mem → Prop} {x1 x2 x3 : Int32} {M : Mem} (h : P_Table_liesAt post x1 x2 x3 M) : CI l g (layC ++ ext) yX10_liesAt cX10_liesAt 5 (some .int) 0 [.ref (ad g 13), .int x1, .int x2, .int x3] M post :=
  ci_of (plainFor_of_name (by decide +kernel)) (Nat.le_of_ble_eq_true rfl) (fun X A Z hl C hr hR => by subst hl; exact k_Table_liesAt C hr hR x1 x2 x3 M h)
def T_cX11_liesL : List (Nat × Instr × Nat) := [(0, .aload_n 0, 1), (1, .iload_n 1, 1), (2, .iload_n 2, 1), (3, .invokevirtual 250, 3), (6, .iload_n 3, 1), (7, .invokestatic 254, 3), (10, .aload_n 0, 1), (11, .getfield 10, 3), (14, .getfield 188, 3), (17, .iload_n 1, 1), (18, .iload_n 2, 1), (19, .iload_n 3, 1), (20, .invokevirtual 257, 3), (23, .ireturn, 1)]
theorem T_cX11_lies : tabOK cX11_lies T_cX11_liesL = true := by decide +kernel
def P_R_lies (post : Int32 → Mem → Prop) (ex : String → Mem → Prop) (x1 x2 x3 : Int32) (M : Mem) : Prop :=
  P_R_wantLine (fun M1 =>
  P_R_wantSpeed (fun M2 =>
  P_Table_liesAt (fun r3 M3 =>
  post r3 M3) x1 x2 x3 M2) ex x3 M1) ex x1 x2 M
theorem k_R_lies {X : FX} {g : GT} {ext : List CD} {A : Nat → Prop} {Z : State → Prop} {post : Int32 → Mem → Prop} {ex : String → Mem → Prop} {sk : Nat → Nat} (C : CxX X g (layC ++ ext) A cX11_lies 4 RX11 9 3 sk) (hT : ThX X g (layC ++ ext) A 3 Z ex) (hR : RetI X g (layC ++ ext) A cX11_lies 4 3 (6 * 3) Z post) (x1 x2 x3 : Int32) (M : Mem) (h : P_R_lies post ex x1 x2 x3 M) : AtX X g (layC ++ ext) A 4 0 0 Z 0 [(0, .ref (ad g 0)), (1, .int x1), (2, .int x2), (3, .int x3)] [] M := by
  refine a_aload_n C.1 (tk T_cX11_lies 0 rfl) rfl ?_
  refine a_iload_n C.1 (tk T_cX11_lies 1 rfl) rfl ?_
  refine a_iload_n C.1 (tk T_cX11_lies 2 rfl) rfl ?_
  refine x_callV C hT [.int x1, .int x2] me_yX11_wantLine lk_RX11_250 (ct_R_wantLine h) (by decide) lc0 rfl rfl rfl (Nat.le_of_ble_eq_true rfl) (tk T_cX11_lies 3 rfl) (by decide) (fun M1 h => ?_)
  refine a_iload_n C.1 (tk T_cX11_lies 4 rfl) rfl ?_
  refine x_statV C hT [.int x3] me_yX11_wantSpeed lk_RX11_254 (ct_R_wantSpeed h) (by decide) rfl rfl (Nat.le_of_ble_eq_true rfl) (tk T_cX11_lies 5 rfl) (by decide) (fun M2 h => ?_)
  refine a_aload_n C.1 (tk T_cX11_lies 6 rfl) rfl ?_
  refine a_getR C.1 f_RX11_10 (tk T_cX11_lies 7 rfl) lc0 rfl ?_
  refine a_getR C.1 f_RX11_188 (tk T_cX11_lies 8 rfl) lc1 rfl ?_
  refine a_iload_n C.1 (tk T_cX11_lies 9 rfl) rfl ?_
  refine a_iload_n C.1 (tk T_cX11_lies 10 rfl) rfl ?_
  refine a_iload_n C.1 (tk T_cX11_lies 11 rfl) rfl ?_
  refine a_callI C.1 [.int x1, .int x2, .int x3] me_yX10_liesAt lk_RX11_257 (ct_Table_liesAt h) (by decide) lc13 rfl rfl rfl (Nat.le_of_ble_eq_true rfl) (tk T_cX11_lies 12 rfl) ⟨Nat.le_trans (by decide) C.2.2.1, Nat.le_trans (by decide) C.2.2.2⟩ (fun r3 M3 h => ?_)
  exact x_widen (by decide) (by decide) (hR _ _ _ _ (tk T_cX11_lies 13 rfl) h)
theorem ct_R_lies {l : Launch} {g : GT} {ext : List CD} {sk : Nat → Nat} {post : Int32 → Mem → Prop} {ex : String → Mem → Prop} {x1 x2 x3 : Int32} {M : Mem} (h : P_R_lies post ex x1 x2 x3 M) : XI l g (layC ++ ext) sk yX11_lies cX11_lies 4 (some .int) 9 3 [.ref (ad g 0), .int x1, .int x2, .int x3] M post ex :=
  xi_of (by decide +kernel) (Nat.le_of_ble_eq_true rfl) (fun X A Z hl C hR hT _ => by subst hl; exact k_R_lies C hT hR x1 x2 x3 M h)
def T_cX9_mustShowL : List (Nat × Instr × Nat) := [(0, .iload_n 2, 1), (1, .aload_n 0, 1), (2, .getfield 18, 3), (5, .iload_n 1, 1), (6, .iaload, 1), (7, .aload_n 0, 1), (8, .getfield 21, 3), (11, .iload_n 1, 1), (12, .iaload, 1), (13, .invokestatic 56, 3), (16, .ifCond .eq 27, 3), (19, .iload_n 3, 1), (20, .aload_n 0, 1), (21, .getfield 9, 3), (24, .iload_n 1, 1), (25, .iaload, 1), (26, .imul, 1), (27, .aload_n 0, 1), (28, .getfield 15, 3), (31, .iload_n 1, 1), (32, .iaload, 1), (33, .imul, 1), (34, .bipush 30, 2), (36, .if_icmp .lt 7, 3), (39, .iconst 1, 1), (40, .goto 4, 3), (43, .iconst 0, 1), (44, .ireturn, 1)]
theorem T_cX9_mustShow : tabOK cX9_mustShow T_cX9_mustShowL = true := by decide +kernel
def P_Shelf_mustShow_44 (post : Int32 → Mem → Prop) (s0 : Int32) (M : Mem) : Prop :=
  (s0 = 0 ∨ s0 = 1) ∧ post s0 M
theorem k_Shelf_mustShow_44 {X : FX} {g : GT} {ext : List CD} {A : Nat → Prop} {Z : State → Prop} {post : Int32 → Mem → Prop} (C : Cx X g (layC ++ ext) A cX9_mustShow 4 RX9 1) (hr : 0 ≤ X.2.2.2.1.cells ∧ 0 ≤ X.2.2.2.1.slots) (hR : RetZ X g (layC ++ ext) A cX9_mustShow 4 0 0 Z post) (s0 : Int32) (M : Mem) (h : P_Shelf_mustShow_44 post s0 M) : AtX X g (layC ++ ext) A 4 0 0 Z 44 [] [.int s0] M := by
  exact hR _ _ _ _ (tk T_cX9_mustShow 27 rfl) h
def P_Shelf_mustShow_43 (post : Int32 → Mem → Prop) (M : Mem) : Prop :=
  P_Shelf_mustShow_44 post (0 : Int32) M
theorem k_Shelf_mustShow_43 {X : FX} {g : GT} {ext : List CD} {A : Nat → Prop} {Z : State → Prop} {post : Int32 → Mem → Prop} (C : Cx X g (layC ++ ext) A cX9_mustShow 4 RX9 1) (hr : 0 ≤ X.2.2.2.1.cells ∧ 0 ≤ X.2.2.2.1.slots) (hR : RetZ X g (layC ++ ext) A cX9_mustShow 4 0 0 Z post)  (M : Mem) (h : P_Shelf_mustShow_43 post M) : AtX X g (layC ++ ext) A 4 0 0 Z 43 [] [] M := by
  refine a_iconst C (0 : Int32) (tk T_cX9_mustShow 26 rfl) kI_0 ?_
  exact a_to (k_Shelf_mustShow_44 C hr hR (0 : Int32) M h) rfl
def P_Shelf_mustShow (post : Int32 → Mem → Prop) (x1 x2 x3 : Int32) (M : Mem) : Prop :=
  vp_in x1 3 ∧ vp_in x1 3 ∧ P_R_within (fun r1 M1 =>
  (r1 = 0 → (P_Shelf_mustShow_43 post M1)) ∧
  (¬ r1 = 0 → (vp_in x1 3 ∧ vp_in x1 3 ∧ (((x3 * (M1 19 x1.toNatClampNeg)) * (M1 20 x1.toNatClampNeg)) < (30 : Int32) → (P_Shelf_mustShow_43 post M1)) ∧
  (¬ ((x3 * (M1 19 x1.toNatClampNeg)) * (M1 20 x1.toNatClampNeg)) < (30 : Int32) → (P_Shelf_mustShow_44 post (1 : Int32) M1))))) x2 (M 21 x1.toNatClampNeg) (M 22 x1.toNatClampNeg) M
theorem k_Shelf_mustShow {X : FX} {g : GT} {ext : List CD} {A : Nat → Prop} {Z : State → Prop} {post : Int32 → Mem → Prop} (C : Cx X g (layC ++ ext) A cX9_mustShow 4 RX9 1) (hr : 0 ≤ X.2.2.2.1.cells ∧ 0 ≤ X.2.2.2.1.slots) (hR : RetZ X g (layC ++ ext) A cX9_mustShow 4 0 0 Z post) (x1 x2 x3 : Int32) (M : Mem) (h : P_Shelf_mustShow post x1 x2 x3 M) : AtX X g (layC ++ ext) A 4 0 0 Z 0 [(0, .ref (ad g 18)), (1, .int x1), (2, .int x2), (3, .int x3)] [] M := by
  refine a_iload_n C (tk T_cX9_mustShow 0 rfl) rfl ?_
  refine a_aload_n C (tk T_cX9_mustShow 1 rfl) rfl ?_
  refine a_getR C f_RX9_18 (tk T_cX9_mustShow 2 rfl) lc18 rfl ?_
  refine a_iload_n C (tk T_cX9_mustShow 3 rfl) rfl ?_
  obtain ⟨hb, h⟩ := h
  refine a_iald C (tk T_cX9_mustShow 4 rfl) lc21 hb ?_
  refine a_aload_n C (tk T_cX9_mustShow 5 rfl) rfl ?_
  refine a_getR C f_RX9_21 (tk T_cX9_mustShow 6 rfl) lc18 rfl ?_
  refine a_iload_n C (tk T_cX9_mustShow 7 rfl) rfl ?_
  obtain ⟨hb, h⟩ := h
  refine a_iald C (tk T_cX9_mustShow 8 rfl) lc22 hb ?_
  refine a_nestI C [.int x2, .int (M 21 x1.toNatClampNeg), .int (M 22 x1.toNatClampNeg)] me_yX11_within lk_RX9_56 (ct_R_within h) (by decide) rfl rfl (Nat.le_of_ble_eq_true rfl) (tk T_cX9_mustShow 9 rfl) hr (fun r1 M1 h => ?_)
  refine a_if_eq C 43 (tk T_cX9_mustShow 10 rfl) rfl (fun c => ?_) (fun c => ?_)
  · have h := h.1 c
    exact a_to (k_Shelf_mustShow_43 C hr hR M1 h) rfl
  · have h := h.2 c
    refine a_iload_n C (tk T_cX9_mustShow 11 rfl) rfl ?_
    refine a_aload_n C (tk T_cX9_mustShow 12 rfl) rfl ?_
    refine a_getR C f_RX9_9 (tk T_cX9_mustShow 13 rfl) lc18 rfl ?_
    refine a_iload_n C (tk T_cX9_mustShow 14 rfl) rfl ?_
    obtain ⟨hb, h⟩ := h
    refine a_iald C (tk T_cX9_mustShow 15 rfl) lc19 hb ?_
    refine a_imul C (tk T_cX9_mustShow 16 rfl) ?_
    refine a_aload_n C (tk T_cX9_mustShow 17 rfl) rfl ?_
    refine a_getR C f_RX9_15 (tk T_cX9_mustShow 18 rfl) lc18 rfl ?_
    refine a_iload_n C (tk T_cX9_mustShow 19 rfl) rfl ?_
    obtain ⟨hb, h⟩ := h
    refine a_iald C (tk T_cX9_mustShow 20 rfl) lc20 hb ?_
    refine a_imul C (tk T_cX9_mustShow 21 rfl) ?_
    refine a_bipush C (30 : Int32) (tk T_cX9_mustShow 22 rfl) kB_30 ?_
    refine a_icmp_lt C 43 (tk T_cX9_mustShow 23 rfl) rfl (fun c => ?_) (fun c => ?_)
    · have h := h.1 c
      exact a_to (k_Shelf_mustShow_43 C hr hR M1 h) rfl
    · have h := h.2 c
      refine a_iconst C (1 : Int32) (tk T_cX9_mustShow 24 rfl) kI_1 ?_
      refine a_goto C 44 (tk T_cX9_mustShow 25 rfl) rfl ?_
      exact a_to (k_Shelf_mustShow_44 C hr hR (1 : Int32) M1 h) rfl
theorem ct_Shelf_mustShow {l : Launch} {g : GT} {ext : List CD} {post : Int32 → Mem → Prop} {x1 x2 x3 : Int32} {M : Mem} (h : P_Shelf_mustShow post x1 x2 x3 M) : CI l g (layC ++ ext) yX9_mustShow cX9_mustShow 4 (some .boolean) 1 [.ref (ad g 18), .int x1, .int x2, .int x3] M post :=
  cz_of (plainFor_of_name (by decide +kernel)) (Nat.le_of_ble_eq_true rfl) (fun X A Z hl C hr hR => by subst hl; exact k_Shelf_mustShow C hr hR x1 x2 x3 M h)
def T_cX11_mustL : List (Nat × Instr × Nat) := [(0, .aload_n 0, 1), (1, .iload_n 1, 1), (2, .invokevirtual 232, 3), (5, .aload_n 0, 1), (6, .iload_n 2, 1), (7, .iload_n 3, 1), (8, .invokevirtual 250, 3), (11, .iload_n 2, 1), (12, .bipush 6, 2), (14, .imul, 1), (15, .iload_n 3, 1), (16, .iadd, 1), (17, .istore 4, 2), (19, .aload_n 0, 1), (20, .getfield 10, 3), (23, .getfield 208, 3), (26, .iload_n 1, 1), (27, .aload_n 0, 1), (28, .getfield 10, 3), (31, .getfield 188, 3), (34, .getfield 204, 3), (37, .iload 4, 2), (39, .iaload, 1), (40, .aload_n 0, 1), (41, .getfield 10, 3), (44, .getfield 188, 3), (47, .getfield 205, 3), (50, .iload 4, 2), (52, .iaload, 1), (53, .invokevirtual 261, 3), (56, .ireturn, 1)]
theorem T_cX11_must : tabOK cX11_must T_cX11_mustL = true := by decide +kernel
def P_R_must (post : Int32 → Mem → Prop) (ex : String → Mem → Prop) (x1 x2 x3 : Int32) (M : Mem) : Prop :=
  P_R_wantPlate (fun M1 =>
  P_R_wantLine (fun M2 =>
  ∀ x4_3, x4_3 = ((x2 * (6 : Int32)) + x3) → vp_in x4_3 36 ∧ vp_in x4_3 36 ∧ P_Shelf_mustShow (fun r4 M4 =>
  (r4 = 0 ∨ r4 = 1) ∧ post r4 M4) x1 (M2 16 x4_3.toNatClampNeg) (M2 17 x4_3.toNatClampNeg) M2) ex x2 x3 M1) ex x1 M
theorem k_R_must {X : FX} {g : GT} {ext : List CD} {A : Nat → Prop} {Z : State → Prop} {post : Int32 → Mem → Prop} {ex : String → Mem → Prop} {sk : Nat → Nat} (C : CxX X g (layC ++ ext) A cX11_must 5 RX11 9 3 sk) (hT : ThX X g (layC ++ ext) A 3 Z ex) (hR : RetZ X g (layC ++ ext) A cX11_must 5 3 (6 * 3) Z post) (x1 x2 x3 : Int32) (M : Mem) (h : P_R_must post ex x1 x2 x3 M) : AtX X g (layC ++ ext) A 5 0 0 Z 0 [(0, .ref (ad g 0)), (1, .int x1), (2, .int x2), (3, .int x3)] [] M := by
  refine a_aload_n C.1 (tk T_cX11_must 0 rfl) rfl ?_
  refine a_iload_n C.1 (tk T_cX11_must 1 rfl) rfl ?_
  refine x_callV C hT [.int x1] me_yX11_wantPlate lk_RX11_232 (ct_R_wantPlate h) (by decide) lc0 rfl rfl rfl (Nat.le_of_ble_eq_true rfl) (tk T_cX11_must 2 rfl) (by decide) (fun M1 h => ?_)
  refine a_aload_n C.1 (tk T_cX11_must 3 rfl) rfl ?_
  refine a_iload_n C.1 (tk T_cX11_must 4 rfl) rfl ?_
  refine a_iload_n C.1 (tk T_cX11_must 5 rfl) rfl ?_
  refine x_callV C hT [.int x2, .int x3] me_yX11_wantLine lk_RX11_250 (ct_R_wantLine h) (by decide) lc0 rfl rfl rfl (Nat.le_of_ble_eq_true rfl) (tk T_cX11_must 6 rfl) (by decide) (fun M2 h => ?_)
  refine a_iload_n C.1 (tk T_cX11_must 7 rfl) rfl ?_
  refine a_bipush C.1 (6 : Int32) (tk T_cX11_must 8 rfl) kB_6 ?_
  refine a_imul C.1 (tk T_cX11_must 9 rfl) ?_
  refine a_iload_n C.1 (tk T_cX11_must 10 rfl) rfl ?_
  refine a_iadd C.1 (tk T_cX11_must 11 rfl) ?_
  refine a_top (fun x4_3 e_x4_3 => ?_)
  have h := h x4_3 e_x4_3
  refine a_istore C.1 (tk T_cX11_must 12 rfl) (by decide) rfl ?_
  refine a_aload_n C.1 (tk T_cX11_must 13 rfl) rfl ?_
  refine a_getR C.1 f_RX11_10 (tk T_cX11_must 14 rfl) lc0 rfl ?_
  refine a_getR C.1 f_RX11_208 (tk T_cX11_must 15 rfl) lc1 rfl ?_
  refine a_iload_n C.1 (tk T_cX11_must 16 rfl) rfl ?_
  refine a_aload_n C.1 (tk T_cX11_must 17 rfl) rfl ?_
  refine a_getR C.1 f_RX11_10 (tk T_cX11_must 18 rfl) lc0 rfl ?_
  refine a_getR C.1 f_RX11_188 (tk T_cX11_must 19 rfl) lc1 rfl ?_
  refine a_getR C.1 f_RX11_204 (tk T_cX11_must 20 rfl) lc13 rfl ?_
  refine a_iload C.1 (tk T_cX11_must 21 rfl) rfl ?_
  obtain ⟨hb, h⟩ := h
  refine a_iald C.1 (tk T_cX11_must 22 rfl) lc16 hb ?_
  refine a_aload_n C.1 (tk T_cX11_must 23 rfl) rfl ?_
  refine a_getR C.1 f_RX11_10 (tk T_cX11_must 24 rfl) lc0 rfl ?_
  refine a_getR C.1 f_RX11_188 (tk T_cX11_must 25 rfl) lc1 rfl ?_
  refine a_getR C.1 f_RX11_205 (tk T_cX11_must 26 rfl) lc13 rfl ?_
  refine a_iload C.1 (tk T_cX11_must 27 rfl) rfl ?_
  obtain ⟨hb, h⟩ := h
  refine a_iald C.1 (tk T_cX11_must 28 rfl) lc17 hb ?_
  refine a_callI C.1 [.int x1, .int (M2 16 x4_3.toNatClampNeg), .int (M2 17 x4_3.toNatClampNeg)] me_yX9_mustShow lk_RX11_261 (ct_Shelf_mustShow h) (by decide) lc18 rfl rfl rfl (Nat.le_of_ble_eq_true rfl) (tk T_cX11_must 29 rfl) ⟨Nat.le_trans (by decide) C.2.2.1, Nat.le_trans (by decide) C.2.2.2⟩ (fun r4 M4 h => ?_)
  exact x_widen (by decide) (by decide) (hR _ _ _ _ (tk T_cX11_must 30 rfl) h)
theorem ct_R_must {l : Launch} {g : GT} {ext : List CD} {sk : Nat → Nat} {post : Int32 → Mem → Prop} {ex : String → Mem → Prop} {x1 x2 x3 : Int32} {M : Mem} (h : P_R_must post ex x1 x2 x3 M) : XI l g (layC ++ ext) sk yX11_must cX11_must 5 (some .boolean) 9 3 [.ref (ad g 0), .int x1, .int x2, .int x3] M post ex :=
  xz_of (by decide +kernel) (Nat.le_of_ble_eq_true rfl) (fun X A Z hl C hR hT _ => by subst hl; exact k_R_must C hT hR x1 x2 x3 M h)
def T_cX3_putNoSpanL : List (Nat × Instr × Nat) := [(0, .aload_n 0, 1), (1, .getfield 9, 3), (4, .iload_n 1, 1), (5, .iconst 1, 1), (6, .iastore, 1), (7, .aload_n 0, 1), (8, .getfield 15, 3), (11, .iload_n 1, 1), (12, .iconst 0, 1), (13, .iastore, 1), (14, .return_, 1)]
theorem T_cX3_putNoSpan : tabOK cX3_putNoSpan T_cX3_putNoSpanL = true := by decide +kernel
def P_Judge_putNoSpan (post : Mem → Prop) (x1 : Int32) (M : Mem) : Prop :=
  vp_in x1 24 ∧ ∀ M1, M1 = ms M 70 x1.toNatClampNeg (1 : Int32) → vp_in x1 24 ∧ ∀ M2, M2 = ms M1 71 x1.toNatClampNeg (0 : Int32) → post M2
theorem k_Judge_putNoSpan {X : FX} {g : GT} {ext : List CD} {A : Nat → Prop} {Z : State → Prop} {post : Mem → Prop} (C : Cx X g (layC ++ ext) A cX3_putNoSpan 2 RX3 0) (hr : 0 ≤ X.2.2.2.1.cells ∧ 0 ≤ X.2.2.2.1.slots) (hR : RetV X g (layC ++ ext) A cX3_putNoSpan 2 0 0 Z post) (x1 : Int32) (M : Mem) (h : P_Judge_putNoSpan post x1 M) : AtX X g (layC ++ ext) A 2 0 0 Z 0 [(0, .ref (ad g 69)), (1, .int x1)] [] M := by
  refine a_aload_n C (tk T_cX3_putNoSpan 0 rfl) rfl ?_
  refine a_getR C f_RX3_9 (tk T_cX3_putNoSpan 1 rfl) lc69 rfl ?_
  refine a_iload_n C (tk T_cX3_putNoSpan 2 rfl) rfl ?_
  refine a_iconst C (1 : Int32) (tk T_cX3_putNoSpan 3 rfl) kI_1 ?_
  obtain ⟨hb, h⟩ := h
  refine a_iast C (tk T_cX3_putNoSpan 4 rfl) lc70 hb ?_
  refine a_mem (fun M1 e_M1 => ?_)
  have h := h M1 e_M1
  refine a_aload_n C (tk T_cX3_putNoSpan 5 rfl) rfl ?_
  refine a_getR C f_RX3_15 (tk T_cX3_putNoSpan 6 rfl) lc69 rfl ?_
  refine a_iload_n C (tk T_cX3_putNoSpan 7 rfl) rfl ?_
  refine a_iconst C (0 : Int32) (tk T_cX3_putNoSpan 8 rfl) kI_0 ?_
  obtain ⟨hb, h⟩ := h
  refine a_iast C (tk T_cX3_putNoSpan 9 rfl) lc71 hb ?_
  refine a_mem (fun M2 e_M2 => ?_)
  have h := h M2 e_M2
  exact hR _ _ _ (tk T_cX3_putNoSpan 10 rfl) h
theorem ct_Judge_putNoSpan {l : Launch} {g : GT} {ext : List CD} {post : Mem → Prop} {x1 : Int32} {M : Mem} (h : P_Judge_putNoSpan post x1 M) : CV l g (layC ++ ext) yX3_putNoSpan cX3_putNoSpan 2 none 0 [.ref (ad g 69), .int x1] M post :=
  cv_of (plainFor_of_name (by decide +kernel)) (Nat.le_of_ble_eq_true rfl) (fun X A Z hl C hr hR => by subst hl; exact k_Judge_putNoSpan C hr hR x1 M h)
def T_cX3_putSpanL : List (Nat × Instr × Nat) := [(0, .aload_n 0, 1), (1, .getfield 42, 3), (4, .aload_n 0, 1), (5, .getfield 38, 3), (8, .getfield 86, 3), (11, .aload_n 0, 1), (12, .getfield 38, 3), (15, .getfield 61, 3), (18, .getfield 90, 3), (21, .iload_n 1, 1), (22, .iaload, 1), (23, .aload_n 0, 1), (24, .getfield 38, 3), (27, .getfield 61, 3), (30, .getfield 93, 3), (33, .iload_n 1, 1), (34, .baload, 1), (35, .invokevirtual 97, 3), (38, .iload_n 2, 1), (39, .iadd, 1), (40, .invokevirtual 103, 3), (43, .istore_n 3, 1), (44, .iload_n 3, 1), (45, .iconst (-1), 1), (46, .if_icmp .ne 9, 3), (49, .aload_n 0, 1), (50, .iload_n 1, 1), (51, .invokevirtual 72, 3), (54, .return_, 1), (55, .aload_n 0, 1), (56, .getfield 9, 3), (59, .iload_n 1, 1), (60, .aload_n 0, 1), (61, .getfield 42, 3), (64, .getfield 107, 3), (67, .iload_n 3, 1), (68, .iaload, 1), (69, .iastore, 1), (70, .aload_n 0, 1), (71, .getfield 15, 3), (74, .iload_n 1, 1), (75, .aload_n 0, 1), (76, .getfield 42, 3), (79, .getfield 110, 3), (82, .iload_n 3, 1), (83, .iaload, 1), (84, .iastore, 1), (85, .return_, 1)]
theorem T_cX3_putSpan : tabOK cX3_putSpan T_cX3_putSpanL = true := by decide +kernel
def P_Judge_putSpan (post : Mem → Prop) (x1 x2 : Int32) (M : Mem) : Prop :=
  vp_in x1 24 ∧ vp_in x1 24 ∧ P_Screw_truePlace (fun r1 M1 =>
  P_Laws_slotOf (fun r2 M2 =>
  (¬ r2 = (-1 : Int32) → (vp_in r2 1087 ∧ vp_in x1 24 ∧ ∀ M3, M3 = ms M2 70 x1.toNatClampNeg (M2 67 r2.toNatClampNeg) → vp_in r2 1087 ∧ vp_in x1 24 ∧ ∀ M4, M4 = ms M3 71 x1.toNatClampNeg (M3 68 r2.toNatClampNeg) → post M4)) ∧
  (r2 = (-1 : Int32) → (P_Judge_putNoSpan (fun M5 =>
  post M5) x1 M2))) (r1 + x2) M1) (M 25 x1.toNatClampNeg) (M 26 x1.toNatClampNeg) M
theorem k_Judge_putSpan {X : FX} {g : GT} {ext : List CD} {A : Nat → Prop} {Z : State → Prop} {post : Mem → Prop} (C : Cx X g (layC ++ ext) A cX3_putSpan 4 RX3 4) (hr : 0 ≤ X.2.2.2.1.cells ∧ 0 ≤ X.2.2.2.1.slots) (hR : RetV X g (layC ++ ext) A cX3_putSpan 4 0 0 Z post) (x1 x2 : Int32) (M : Mem) (h : P_Judge_putSpan post x1 x2 M) : AtX X g (layC ++ ext) A 4 0 0 Z 0 [(0, .ref (ad g 69)), (1, .int x1), (2, .int x2)] [] M := by
  refine a_aload_n C (tk T_cX3_putSpan 0 rfl) rfl ?_
  refine a_getR C f_RX3_42 (tk T_cX3_putSpan 1 rfl) lc69 rfl ?_
  refine a_aload_n C (tk T_cX3_putSpan 2 rfl) rfl ?_
  refine a_getR C f_RX3_38 (tk T_cX3_putSpan 3 rfl) lc69 rfl ?_
  refine a_getR C f_RX3_86 (tk T_cX3_putSpan 4 rfl) lc1 rfl ?_
  refine a_aload_n C (tk T_cX3_putSpan 5 rfl) rfl ?_
  refine a_getR C f_RX3_38 (tk T_cX3_putSpan 6 rfl) lc69 rfl ?_
  refine a_getR C f_RX3_61 (tk T_cX3_putSpan 7 rfl) lc1 rfl ?_
  refine a_getR C f_RX3_90 (tk T_cX3_putSpan 8 rfl) lc18 rfl ?_
  refine a_iload_n C (tk T_cX3_putSpan 9 rfl) rfl ?_
  obtain ⟨hb, h⟩ := h
  refine a_iald C (tk T_cX3_putSpan 10 rfl) lc25 hb ?_
  refine a_aload_n C (tk T_cX3_putSpan 11 rfl) rfl ?_
  refine a_getR C f_RX3_38 (tk T_cX3_putSpan 12 rfl) lc69 rfl ?_
  refine a_getR C f_RX3_61 (tk T_cX3_putSpan 13 rfl) lc1 rfl ?_
  refine a_getR C f_RX3_93 (tk T_cX3_putSpan 14 rfl) lc18 rfl ?_
  refine a_iload_n C (tk T_cX3_putSpan 15 rfl) rfl ?_
  obtain ⟨hb, h⟩ := h
  refine a_zald C (tk T_cX3_putSpan 16 rfl) lc26 hb ?_
  refine a_callI C [.int (M 25 x1.toNatClampNeg), .int (M 26 x1.toNatClampNeg)] me_yX8_truePlace lk_RX3_97 (ct_Screw_truePlace h) (by decide) lc2 rfl rfl rfl (Nat.le_of_ble_eq_true rfl) (tk T_cX3_putSpan 17 rfl) hr (fun r1 M1 h => ?_)
  refine a_iload_n C (tk T_cX3_putSpan 18 rfl) rfl ?_
  refine a_iadd C (tk T_cX3_putSpan 19 rfl) ?_
  refine a_callI C [.int (r1 + x2)] me_yX5_slotOf lk_RX3_103 (ct_Laws_slotOf h) (by decide) lc63 rfl rfl rfl (Nat.le_of_ble_eq_true rfl) (tk T_cX3_putSpan 20 rfl) hr (fun r2 M2 h => ?_)
  refine a_istore_n C (tk T_cX3_putSpan 21 rfl) (by decide) rfl ?_
  refine a_iload_n C (tk T_cX3_putSpan 22 rfl) rfl ?_
  refine a_iconst C (-1 : Int32) (tk T_cX3_putSpan 23 rfl) kI_m1 ?_
  refine a_icmp_ne C 55 (tk T_cX3_putSpan 24 rfl) rfl (fun c => ?_) (fun c => ?_)
  · have h := h.1 c
    refine a_aload_n C (tk T_cX3_putSpan 29 rfl) rfl ?_
    refine a_getR C f_RX3_9 (tk T_cX3_putSpan 30 rfl) lc69 rfl ?_
    refine a_iload_n C (tk T_cX3_putSpan 31 rfl) rfl ?_
    refine a_aload_n C (tk T_cX3_putSpan 32 rfl) rfl ?_
    refine a_getR C f_RX3_42 (tk T_cX3_putSpan 33 rfl) lc69 rfl ?_
    refine a_getR C f_RX3_107 (tk T_cX3_putSpan 34 rfl) lc63 rfl ?_
    refine a_iload_n C (tk T_cX3_putSpan 35 rfl) rfl ?_
    obtain ⟨hb, h⟩ := h
    refine a_iald C (tk T_cX3_putSpan 36 rfl) lc67 hb ?_
    obtain ⟨hb, h⟩ := h
    refine a_iast C (tk T_cX3_putSpan 37 rfl) lc70 hb ?_
    refine a_mem (fun M3 e_M3 => ?_)
    have h := h M3 e_M3
    refine a_aload_n C (tk T_cX3_putSpan 38 rfl) rfl ?_
    refine a_getR C f_RX3_15 (tk T_cX3_putSpan 39 rfl) lc69 rfl ?_
    refine a_iload_n C (tk T_cX3_putSpan 40 rfl) rfl ?_
    refine a_aload_n C (tk T_cX3_putSpan 41 rfl) rfl ?_
    refine a_getR C f_RX3_42 (tk T_cX3_putSpan 42 rfl) lc69 rfl ?_
    refine a_getR C f_RX3_110 (tk T_cX3_putSpan 43 rfl) lc63 rfl ?_
    refine a_iload_n C (tk T_cX3_putSpan 44 rfl) rfl ?_
    obtain ⟨hb, h⟩ := h
    refine a_iald C (tk T_cX3_putSpan 45 rfl) lc68 hb ?_
    obtain ⟨hb, h⟩ := h
    refine a_iast C (tk T_cX3_putSpan 46 rfl) lc71 hb ?_
    refine a_mem (fun M4 e_M4 => ?_)
    have h := h M4 e_M4
    exact hR _ _ _ (tk T_cX3_putSpan 47 rfl) h
  · have h := h.2 c
    refine a_aload_n C (tk T_cX3_putSpan 25 rfl) rfl ?_
    refine a_iload_n C (tk T_cX3_putSpan 26 rfl) rfl ?_
    refine a_callV C [.int x1] me_yX3_putNoSpan lk_RX3_72 (ct_Judge_putNoSpan h) (by decide) lc69 rfl rfl rfl (Nat.le_of_ble_eq_true rfl) (tk T_cX3_putSpan 27 rfl) hr (fun M5 h => ?_)
    exact hR _ _ _ (tk T_cX3_putSpan 28 rfl) h
theorem ct_Judge_putSpan {l : Launch} {g : GT} {ext : List CD} {post : Mem → Prop} {x1 x2 : Int32} {M : Mem} (h : P_Judge_putSpan post x1 x2 M) : CV l g (layC ++ ext) yX3_putSpan cX3_putSpan 4 none 4 [.ref (ad g 69), .int x1, .int x2] M post :=
  cv_of (plainFor_of_name (by decide +kernel)) (Nat.le_of_ble_eq_true rfl) (fun X A Z hl C hr hR => by subst hl; exact k_Judge_putSpan C hr hR x1 x2 M h)
def T_cX3_openL : List (Nat × Instr × Nat) := [(0, .aload_n 0, 1), (1, .getfield 42, 3), (4, .invokevirtual 46, 3), (7, .aload_n 0, 1), (8, .iload_n 1, 1), (9, .putfield 51, 3), (12, .aload_n 0, 1), (13, .iconst 0, 1), (14, .putfield 55, 3), (17, .aload_n 0, 1), (18, .iconst 0, 1), (19, .putfield 58, 3), (22, .iconst 0, 1), (23, .istore_n 2, 1), (24, .iload_n 2, 1), (25, .aload_n 0, 1), (26, .getfield 38, 3), (29, .getfield 61, 3), (32, .getfield 67, 3), (35, .if_icmp .ge 81, 3), (38, .aload_n 0, 1), (39, .iload_n 2, 1), (40, .invokevirtual 72, 3), (43, .aload_n 0, 1), (44, .getfield 38, 3), (47, .getfield 61, 3), (50, .getfield 76, 3), (53, .iload_n 2, 1), (54, .iaload, 1), (55, .aload_n 0, 1), (56, .getfield 51, 3), (59, .if_icmp .ne 51, 3), (62, .aload_n 0, 1), (63, .dup, 1), (64, .getfield 55, 3), (67, .iconst 1, 1), (68, .iload_n 2, 1), (69, .ishl, 1), (70, .ior, 1), (71, .putfield 55, 3), (74, .aload_n 0, 1), (75, .dup, 1), (76, .getfield 58, 3), (79, .aload_n 0, 1), (80, .getfield 38, 3), (83, .getfield 61, 3), (86, .iload_n 2, 1), (87, .invokevirtual 78, 3), (90, .ifCond .eq 9, 3), (93, .iconst 1, 1), (94, .iload_n 2, 1), (95, .ishl, 1), (96, .goto 4, 3), (99, .iconst 0, 1), (100, .ior, 1), (101, .putfield 58, 3), (104, .aload_n 0, 1), (105, .iload_n 2, 1), (106, .iconst 0, 1), (107, .invokevirtual 82, 3), (110, .iinc 2 1, 3), (113, .goto (-89), 3), (116, .return_, 1)]
theorem T_cX3_open : tabOK cX3_open T_cX3_openL = true := by decide +kernel
def P_Judge_open_110 (post : Mem → Prop) (R24 : Int32 → Mem → Prop) (x2 : Int32) (M : Mem) : Prop :=
  R24 (x2 + (1 : Int32)) M
theorem k_Judge_open_110 {X : FX} {g : GT} {ext : List CD} {A : Nat → Prop} {Z : State → Prop} {post : Mem → Prop} {R24 : Int32 → Mem → Prop} (C : Cx X g (layC ++ ext) A cX3_open 3 RX3 5) (hr : 0 ≤ X.2.2.2.1.cells ∧ 0 ≤ X.2.2.2.1.slots) (hR : RetV X g (layC ++ ext) A cX3_open 3 0 0 Z post) (k24 : ∀ (y2 : Int32) (M : Mem), R24 y2 M → AtX X g (layC ++ ext) A 3 0 0 Z 24 [(0, .ref (ad g 69)), (2, .int y2)] [] M) (x2 : Int32) (M : Mem) (h : P_Judge_open_110 post R24 x2 M) : AtX X g (layC ++ ext) A 3 0 0 Z 110 [(0, .ref (ad g 69)), (2, .int x2)] [] M := by
  refine a_iinc C (1 : Int32) (tk T_cX3_open 60 rfl) rfl kI_1 (by decide) rfl ?_
  refine a_goto C 24 (tk T_cX3_open 61 rfl) rfl ?_
  exact a_to (k24 (x2 + (1 : Int32)) M h) rfl
def P_Judge_open_100 (post : Mem → Prop) (R24 : Int32 → Mem → Prop) (x2 s1 s2 : Int32) (M : Mem) : Prop :=
  ∀ M1, M1 = ms M 69 12 (s1 ||| s2) → P_Judge_putSpan (fun M2 =>
  P_Judge_open_110 post R24 x2 M2) x2 (0 : Int32) M1
theorem k_Judge_open_100 {X : FX} {g : GT} {ext : List CD} {A : Nat → Prop} {Z : State → Prop} {post : Mem → Prop} {R24 : Int32 → Mem → Prop} (C : Cx X g (layC ++ ext) A cX3_open 3 RX3 5) (hr : 0 ≤ X.2.2.2.1.cells ∧ 0 ≤ X.2.2.2.1.slots) (hR : RetV X g (layC ++ ext) A cX3_open 3 0 0 Z post) (k24 : ∀ (y2 : Int32) (M : Mem), R24 y2 M → AtX X g (layC ++ ext) A 3 0 0 Z 24 [(0, .ref (ad g 69)), (2, .int y2)] [] M) (x2 s1 s2 : Int32) (M : Mem) (h : P_Judge_open_100 post R24 x2 s1 s2 M) : AtX X g (layC ++ ext) A 3 0 0 Z 100 [(0, .ref (ad g 69)), (2, .int x2)] [.int s2, .int s1, .ref (ad g 69)] M := by
  refine a_ior C (tk T_cX3_open 54 rfl) ?_
  refine a_put C f_RX3_58 f_RX3_58p rfl rfl (tk T_cX3_open 55 rfl) lc69 rfl ?_
  refine a_mem (fun M1 e_M1 => ?_)
  have h := h M1 e_M1
  refine a_aload_n C (tk T_cX3_open 56 rfl) rfl ?_
  refine a_iload_n C (tk T_cX3_open 57 rfl) rfl ?_
  refine a_iconst C (0 : Int32) (tk T_cX3_open 58 rfl) kI_0 ?_
  refine a_callV C [.int x2, .int (0 : Int32)] me_yX3_putSpan lk_RX3_82 (ct_Judge_putSpan h) (by decide) lc69 rfl rfl rfl (Nat.le_of_ble_eq_true rfl) (tk T_cX3_open 59 rfl) hr (fun M2 h => ?_)
  exact a_to (k_Judge_open_110 C hr hR k24 x2 M2 h) rfl
def P_Judge_open_24 (post : Mem → Prop) : Nat → Int32 → Mem → Prop
  | 0, _, _ => False
  | n + 1, x2, M =>
    ((M 18 11) ≤ x2 → (post M)) ∧
  (¬ (M 18 11) ≤ x2 → (P_Judge_putNoSpan (fun M1 =>
  vp_in x2 24 ∧ (¬ (M1 24 x2.toNatClampNeg) = (M1 69 10) → (P_Judge_open_110 post (P_Judge_open_24 post n) x2 M1)) ∧
  ((M1 24 x2.toNatClampNeg) = (M1 69 10) → (∀ M2, M2 = ms M1 69 11 ((M1 69 11) ||| ((1 : Int32) <<< (x2 &&& 31))) → P_Shelf_mayBeGhost (fun r3 M3 =>
  (r3 = 0 → (P_Judge_open_100 post (P_Judge_open_24 post n) x2 (M2 69 12) (0 : Int32) M3)) ∧
  (¬ r3 = 0 → (P_Judge_open_100 post (P_Judge_open_24 post n) x2 (M2 69 12) ((1 : Int32) <<< (x2 &&& 31)) M3))) x2 M2))) x2 M))
theorem k_Judge_open_24 {X : FX} {g : GT} {ext : List CD} {A : Nat → Prop} {Z : State → Prop} {post : Mem → Prop} (C : Cx X g (layC ++ ext) A cX3_open 3 RX3 5) (hr : 0 ≤ X.2.2.2.1.cells ∧ 0 ≤ X.2.2.2.1.slots) (hR : RetV X g (layC ++ ext) A cX3_open 3 0 0 Z post) : ∀ (n : Nat) (x2 : Int32) (M : Mem), P_Judge_open_24 post n x2 M → AtX X g (layC ++ ext) A 3 0 0 Z 24 [(0, .ref (ad g 69)), (2, .int x2)] [] M := by
  intro n
  induction n with
  | zero =>
    intro x2 M h
    exact h.elim
  | succ n ih =>
    intro x2 M h
    refine a_iload_n C (tk T_cX3_open 14 rfl) rfl ?_
    refine a_aload_n C (tk T_cX3_open 15 rfl) rfl ?_
    refine a_getR C f_RX3_38 (tk T_cX3_open 16 rfl) lc69 rfl ?_
    refine a_getR C f_RX3_61 (tk T_cX3_open 17 rfl) lc1 rfl ?_
    refine a_getI C f_RX3_67 (tk T_cX3_open 18 rfl) lc18 rfl ?_
    refine a_icmp_ge C 116 (tk T_cX3_open 19 rfl) rfl (fun c => ?_) (fun c => ?_)
    · have h := h.1 c
      exact hR _ _ _ (tk T_cX3_open 62 rfl) h
    · have h := h.2 c
      refine a_aload_n C (tk T_cX3_open 20 rfl) rfl ?_
      refine a_iload_n C (tk T_cX3_open 21 rfl) rfl ?_
      refine a_callV C [.int x2] me_yX3_putNoSpan lk_RX3_72 (ct_Judge_putNoSpan h) (by decide) lc69 rfl rfl rfl (Nat.le_of_ble_eq_true rfl) (tk T_cX3_open 22 rfl) hr (fun M1 h => ?_)
      refine a_aload_n C (tk T_cX3_open 23 rfl) rfl ?_
      refine a_getR C f_RX3_38 (tk T_cX3_open 24 rfl) lc69 rfl ?_
      refine a_getR C f_RX3_61 (tk T_cX3_open 25 rfl) lc1 rfl ?_
      refine a_getR C f_RX3_76 (tk T_cX3_open 26 rfl) lc18 rfl ?_
      refine a_iload_n C (tk T_cX3_open 27 rfl) rfl ?_
      obtain ⟨hb, h⟩ := h
      refine a_iald C (tk T_cX3_open 28 rfl) lc24 hb ?_
      refine a_aload_n C (tk T_cX3_open 29 rfl) rfl ?_
      refine a_getI C f_RX3_51 (tk T_cX3_open 30 rfl) lc69 rfl ?_
      refine a_icmp_ne C 110 (tk T_cX3_open 31 rfl) rfl (fun c => ?_) (fun c => ?_)
      · have h := h.1 c
        exact a_to (k_Judge_open_110 C hr hR ih x2 M1 h) rfl
      · have h := h.2 c
        refine a_aload_n C (tk T_cX3_open 32 rfl) rfl ?_
        refine a_dupr C (tk T_cX3_open 33 rfl) ?_
        refine a_getI C f_RX3_55 (tk T_cX3_open 34 rfl) lc69 rfl ?_
        refine a_iconst C (1 : Int32) (tk T_cX3_open 35 rfl) kI_1 ?_
        refine a_iload_n C (tk T_cX3_open 36 rfl) rfl ?_
        refine a_ishl C (tk T_cX3_open 37 rfl) ?_
        refine a_ior C (tk T_cX3_open 38 rfl) ?_
        refine a_put C f_RX3_55 f_RX3_55p rfl rfl (tk T_cX3_open 39 rfl) lc69 rfl ?_
        refine a_mem (fun M2 e_M2 => ?_)
        have h := h M2 e_M2
        refine a_aload_n C (tk T_cX3_open 40 rfl) rfl ?_
        refine a_dupr C (tk T_cX3_open 41 rfl) ?_
        refine a_getI C f_RX3_58 (tk T_cX3_open 42 rfl) lc69 rfl ?_
        refine a_aload_n C (tk T_cX3_open 43 rfl) rfl ?_
        refine a_getR C f_RX3_38 (tk T_cX3_open 44 rfl) lc69 rfl ?_
        refine a_getR C f_RX3_61 (tk T_cX3_open 45 rfl) lc1 rfl ?_
        refine a_iload_n C (tk T_cX3_open 46 rfl) rfl ?_
        refine a_callI C [.int x2] me_yX9_mayBeGhost lk_RX3_78 (ct_Shelf_mayBeGhost h) (by decide) lc18 rfl rfl rfl (Nat.le_of_ble_eq_true rfl) (tk T_cX3_open 47 rfl) hr (fun r3 M3 h => ?_)
        refine a_if_eq C 99 (tk T_cX3_open 48 rfl) rfl (fun c => ?_) (fun c => ?_)
        · have h := h.1 c
          refine a_iconst C (0 : Int32) (tk T_cX3_open 53 rfl) kI_0 ?_
          exact a_to (k_Judge_open_100 C hr hR ih x2 (M2 69 12) (0 : Int32) M3 h) rfl
        · have h := h.2 c
          refine a_iconst C (1 : Int32) (tk T_cX3_open 49 rfl) kI_1 ?_
          refine a_iload_n C (tk T_cX3_open 50 rfl) rfl ?_
          refine a_ishl C (tk T_cX3_open 51 rfl) ?_
          refine a_goto C 100 (tk T_cX3_open 52 rfl) rfl ?_
          exact a_to (k_Judge_open_100 C hr hR ih x2 (M2 69 12) ((1 : Int32) <<< (x2 &&& 31)) M3 h) rfl
def P_Judge_open (post : Mem → Prop) (x1 : Int32) (M : Mem) : Prop :=
  P_Laws_solve (fun M1 =>
  ∀ M2, M2 = ms M1 69 10 x1 → ∀ M3, M3 = ms M2 69 11 (0 : Int32) → ∀ M4, M4 = ms M3 69 12 (0 : Int32) → ∃ j24, P_Judge_open_24 post j24 (0 : Int32) M4) M
theorem k_Judge_open {X : FX} {g : GT} {ext : List CD} {A : Nat → Prop} {Z : State → Prop} {post : Mem → Prop} (C : Cx X g (layC ++ ext) A cX3_open 3 RX3 5) (hr : 0 ≤ X.2.2.2.1.cells ∧ 0 ≤ X.2.2.2.1.slots) (hR : RetV X g (layC ++ ext) A cX3_open 3 0 0 Z post) (x1 : Int32) (M : Mem) (h : P_Judge_open post x1 M) : AtX X g (layC ++ ext) A 3 0 0 Z 0 [(0, .ref (ad g 69)), (1, .int x1)] [] M := by
  refine a_aload_n C (tk T_cX3_open 0 rfl) rfl ?_
  refine a_getR C f_RX3_42 (tk T_cX3_open 1 rfl) lc69 rfl ?_
  refine a_callV C [] me_yX5_solve lk_RX3_46 (ct_Laws_solve h) (by decide) lc63 rfl rfl rfl (Nat.le_of_ble_eq_true rfl) (tk T_cX3_open 2 rfl) hr (fun M1 h => ?_)
  refine a_aload_n C (tk T_cX3_open 3 rfl) rfl ?_
  refine a_iload_n C (tk T_cX3_open 4 rfl) rfl ?_
  refine a_put C f_RX3_51 f_RX3_51p rfl rfl (tk T_cX3_open 5 rfl) lc69 rfl ?_
  refine a_mem (fun M2 e_M2 => ?_)
  have h := h M2 e_M2
  refine a_aload_n C (tk T_cX3_open 6 rfl) rfl ?_
  refine a_iconst C (0 : Int32) (tk T_cX3_open 7 rfl) kI_0 ?_
  refine a_put C f_RX3_55 f_RX3_55p rfl rfl (tk T_cX3_open 8 rfl) lc69 rfl ?_
  refine a_mem (fun M3 e_M3 => ?_)
  have h := h M3 e_M3
  refine a_aload_n C (tk T_cX3_open 9 rfl) rfl ?_
  refine a_iconst C (0 : Int32) (tk T_cX3_open 10 rfl) kI_0 ?_
  refine a_put C f_RX3_58 f_RX3_58p rfl rfl (tk T_cX3_open 11 rfl) lc69 rfl ?_
  refine a_mem (fun M4 e_M4 => ?_)
  have h := h M4 e_M4
  refine a_iconst C (0 : Int32) (tk T_cX3_open 12 rfl) kI_0 ?_
  refine a_istore_n C (tk T_cX3_open 13 rfl) (by decide) rfl ?_
  obtain ⟨n1, h⟩ := h
  exact a_to (k_Judge_open_24 C hr hR n1 (0 : Int32) M4 h) rfl
theorem ct_Judge_open {l : Launch} {g : GT} {ext : List CD} {post : Mem → Prop} {x1 : Int32} {M : Mem} (h : P_Judge_open post x1 M) : CV l g (layC ++ ext) yX3_open cX3_open 3 none 5 [.ref (ad g 69), .int x1] M post :=
  cv_of (plainFor_of_name (by decide +kernel)) (Nat.le_of_ble_eq_true rfl) (fun X A Z hl C hr hR => by subst hl; exact k_Judge_open C hr hR x1 M h)
def T_cX10_airBitsL : List (Nat × Instr × Nat) := [(0, .iconst 0, 1), (1, .istore_n 1, 1), (2, .iconst 0, 1), (3, .istore_n 2, 1), (4, .iload_n 2, 1), (5, .aload_n 0, 1), (6, .getfield 25, 3), (9, .if_icmp .ge 24, 3), (12, .aload_n 0, 1), (13, .getfield 9, 3), (16, .iload_n 2, 1), (17, .baload, 1), (18, .ifCond .eq 9, 3), (21, .iload_n 1, 1), (22, .iconst 1, 1), (23, .iload_n 2, 1), (24, .ishl, 1), (25, .ior, 1), (26, .istore_n 1, 1), (27, .iinc 2 1, 3), (30, .goto (-26), 3), (33, .iload_n 1, 1), (34, .ireturn, 1)]
theorem T_cX10_airBits : tabOK cX10_airBits T_cX10_airBitsL = true := by decide +kernel
def P_Table_airBits_27 (post : Int32 → Mem → Prop) (R4 : Int32 → Int32 → Mem → Prop) (x1 x2 : Int32) (M : Mem) : Prop :=
  R4 x1 (x2 + (1 : Int32)) M
theorem k_Table_airBits_27 {X : FX} {g : GT} {ext : List CD} {A : Nat → Prop} {Z : State → Prop} {post : Int32 → Mem → Prop} {R4 : Int32 → Int32 → Mem → Prop} (C : Cx X g (layC ++ ext) A cX10_airBits 3 RX10 0) (hr : 0 ≤ X.2.2.2.1.cells ∧ 0 ≤ X.2.2.2.1.slots) (hR : RetI X g (layC ++ ext) A cX10_airBits 3 0 0 Z post) (k4 : ∀ (y1 y2 : Int32) (M : Mem), R4 y1 y2 M → AtX X g (layC ++ ext) A 3 0 0 Z 4 [(0, .ref (ad g 13)), (1, .int y1), (2, .int y2)] [] M) (x1 x2 : Int32) (M : Mem) (h : P_Table_airBits_27 post R4 x1 x2 M) : AtX X g (layC ++ ext) A 3 0 0 Z 27 [(0, .ref (ad g 13)), (1, .int x1), (2, .int x2)] [] M := by
  refine a_iinc C (1 : Int32) (tk T_cX10_airBits 19 rfl) rfl kI_1 (by decide) rfl ?_
  refine a_goto C 4 (tk T_cX10_airBits 20 rfl) rfl ?_
  exact a_to (k4 x1 (x2 + (1 : Int32)) M h) rfl
def P_Table_airBits_4 (post : Int32 → Mem → Prop) : Nat → Int32 → Int32 → Mem → Prop
  | 0, _, _, _ => False
  | n + 1, x1, x2, M =>
    ((M 13 4) ≤ x2 → (post x1 M)) ∧
  (¬ (M 13 4) ≤ x2 → (vp_in x2 6 ∧ ((M 14 x2.toNatClampNeg) = 0 → (P_Table_airBits_27 post (P_Table_airBits_4 post n) x1 x2 M)) ∧
  (¬ (M 14 x2.toNatClampNeg) = 0 → (∀ x1_1, x1_1 = (x1 ||| ((1 : Int32) <<< (x2 &&& 31))) → P_Table_airBits_27 post (P_Table_airBits_4 post n) x1_1 x2 M))))
theorem k_Table_airBits_4 {X : FX} {g : GT} {ext : List CD} {A : Nat → Prop} {Z : State → Prop} {post : Int32 → Mem → Prop} (C : Cx X g (layC ++ ext) A cX10_airBits 3 RX10 0) (hr : 0 ≤ X.2.2.2.1.cells ∧ 0 ≤ X.2.2.2.1.slots) (hR : RetI X g (layC ++ ext) A cX10_airBits 3 0 0 Z post) : ∀ (n : Nat) (x1 x2 : Int32) (M : Mem), P_Table_airBits_4 post n x1 x2 M → AtX X g (layC ++ ext) A 3 0 0 Z 4 [(0, .ref (ad g 13)), (1, .int x1), (2, .int x2)] [] M := by
  intro n
  induction n with
  | zero =>
    intro x1 x2 M h
    exact h.elim
  | succ n ih =>
    intro x1 x2 M h
    refine a_iload_n C (tk T_cX10_airBits 4 rfl) rfl ?_
    refine a_aload_n C (tk T_cX10_airBits 5 rfl) rfl ?_
    refine a_getI C f_RX10_25 (tk T_cX10_airBits 6 rfl) lc13 rfl ?_
    refine a_icmp_ge C 33 (tk T_cX10_airBits 7 rfl) rfl (fun c => ?_) (fun c => ?_)
    · have h := h.1 c
      refine a_iload_n C (tk T_cX10_airBits 21 rfl) rfl ?_
      exact hR _ _ _ _ (tk T_cX10_airBits 22 rfl) h
    · have h := h.2 c
      refine a_aload_n C (tk T_cX10_airBits 8 rfl) rfl ?_
      refine a_getR C f_RX10_9 (tk T_cX10_airBits 9 rfl) lc13 rfl ?_
      refine a_iload_n C (tk T_cX10_airBits 10 rfl) rfl ?_
      obtain ⟨hb, h⟩ := h
      refine a_zald C (tk T_cX10_airBits 11 rfl) lc14 hb ?_
      refine a_if_eq C 27 (tk T_cX10_airBits 12 rfl) rfl (fun c => ?_) (fun c => ?_)
      · have h := h.1 c
        exact a_to (k_Table_airBits_27 C hr hR ih x1 x2 M h) rfl
      · have h := h.2 c
        refine a_iload_n C (tk T_cX10_airBits 13 rfl) rfl ?_
        refine a_iconst C (1 : Int32) (tk T_cX10_airBits 14 rfl) kI_1 ?_
        refine a_iload_n C (tk T_cX10_airBits 15 rfl) rfl ?_
        refine a_ishl C (tk T_cX10_airBits 16 rfl) ?_
        refine a_ior C (tk T_cX10_airBits 17 rfl) ?_
        refine a_top (fun x1_1 e_x1_1 => ?_)
        have h := h x1_1 e_x1_1
        refine a_istore_n C (tk T_cX10_airBits 18 rfl) (by decide) rfl ?_
        exact a_to (k_Table_airBits_27 C hr hR ih x1_1 x2 M h) rfl
def P_Table_airBits (post : Int32 → Mem → Prop) (M : Mem) : Prop :=
  ∃ j4, P_Table_airBits_4 post j4 (0 : Int32) (0 : Int32) M
theorem k_Table_airBits {X : FX} {g : GT} {ext : List CD} {A : Nat → Prop} {Z : State → Prop} {post : Int32 → Mem → Prop} (C : Cx X g (layC ++ ext) A cX10_airBits 3 RX10 0) (hr : 0 ≤ X.2.2.2.1.cells ∧ 0 ≤ X.2.2.2.1.slots) (hR : RetI X g (layC ++ ext) A cX10_airBits 3 0 0 Z post) (M : Mem) (h : P_Table_airBits post M) : AtX X g (layC ++ ext) A 3 0 0 Z 0 [(0, .ref (ad g 13))] [] M := by
  refine a_iconst C (0 : Int32) (tk T_cX10_airBits 0 rfl) kI_0 ?_
  refine a_istore_n C (tk T_cX10_airBits 1 rfl) (by decide) rfl ?_
  refine a_iconst C (0 : Int32) (tk T_cX10_airBits 2 rfl) kI_0 ?_
  refine a_istore_n C (tk T_cX10_airBits 3 rfl) (by decide) rfl ?_
  obtain ⟨n1, h⟩ := h
  exact a_to (k_Table_airBits_4 C hr hR n1 (0 : Int32) (0 : Int32) M h) rfl
theorem ct_Table_airBits {l : Launch} {g : GT} {ext : List CD} {post : Int32 → Mem → Prop} {M : Mem} (h : P_Table_airBits post M) : CI l g (layC ++ ext) yX10_airBits cX10_airBits 3 (some .int) 0 [.ref (ad g 13)] M post :=
  ci_of (plainFor_of_name (by decide +kernel)) (Nat.le_of_ble_eq_true rfl) (fun X A Z hl C hr hR => by subst hl; exact k_Table_airBits C hr hR  M h)
def T_cX10_withAirL : List (Nat × Instr × Nat) := [(0, .iload_n 1, 1), (1, .iconst 1, 1), (2, .aload_n 0, 1), (3, .getfield 25, 3), (6, .ishl, 1), (7, .iconst 1, 1), (8, .isub, 1), (9, .iand, 1), (10, .aload_n 0, 1), (11, .invokevirtual 29, 3), (14, .ior, 1), (15, .ireturn, 1)]
theorem T_cX10_withAir : tabOK cX10_withAir T_cX10_withAirL = true := by decide +kernel
def P_Table_withAir (post : Int32 → Mem → Prop) (x1 : Int32) (M : Mem) : Prop :=
  P_Table_airBits (fun r1 M1 =>
  ∀ v2, v2 = ((x1 &&& (((1 : Int32) <<< ((M 13 4) &&& 31)) - (1 : Int32))) ||| r1) → post v2 M1) M
theorem k_Table_withAir {X : FX} {g : GT} {ext : List CD} {A : Nat → Prop} {Z : State → Prop} {post : Int32 → Mem → Prop} (C : Cx X g (layC ++ ext) A cX10_withAir 2 RX10 1) (hr : 0 ≤ X.2.2.2.1.cells ∧ 0 ≤ X.2.2.2.1.slots) (hR : RetI X g (layC ++ ext) A cX10_withAir 2 0 0 Z post) (x1 : Int32) (M : Mem) (h : P_Table_withAir post x1 M) : AtX X g (layC ++ ext) A 2 0 0 Z 0 [(0, .ref (ad g 13)), (1, .int x1)] [] M := by
  refine a_iload_n C (tk T_cX10_withAir 0 rfl) rfl ?_
  refine a_iconst C (1 : Int32) (tk T_cX10_withAir 1 rfl) kI_1 ?_
  refine a_aload_n C (tk T_cX10_withAir 2 rfl) rfl ?_
  refine a_getI C f_RX10_25 (tk T_cX10_withAir 3 rfl) lc13 rfl ?_
  refine a_ishl C (tk T_cX10_withAir 4 rfl) ?_
  refine a_iconst C (1 : Int32) (tk T_cX10_withAir 5 rfl) kI_1 ?_
  refine a_isub C (tk T_cX10_withAir 6 rfl) ?_
  refine a_iand C (tk T_cX10_withAir 7 rfl) ?_
  refine a_aload_n C (tk T_cX10_withAir 8 rfl) rfl ?_
  refine a_callI C [] me_yX10_airBits lk_RX10_29 (ct_Table_airBits h) (by decide) lc13 rfl rfl rfl (Nat.le_of_ble_eq_true rfl) (tk T_cX10_withAir 9 rfl) hr (fun r1 M1 h => ?_)
  refine a_ior C (tk T_cX10_withAir 10 rfl) ?_
  refine a_top (fun v2 e_v2 => ?_)
  have h := h v2 e_v2
  exact hR _ _ _ _ (tk T_cX10_withAir 11 rfl) h
theorem ct_Table_withAir {l : Launch} {g : GT} {ext : List CD} {post : Int32 → Mem → Prop} {x1 : Int32} {M : Mem} (h : P_Table_withAir post x1 M) : CI l g (layC ++ ext) yX10_withAir cX10_withAir 2 (some .int) 1 [.ref (ad g 13), .int x1] M post :=
  ci_of (plainFor_of_name (by decide +kernel)) (Nat.le_of_ble_eq_true rfl) (fun X A Z hl C hr hR => by subst hl; exact k_Table_withAir C hr hR x1 M h)
def T_cX11_hasL : List (Nat × Instr × Nat) := [(0, .iload_n 0, 1), (1, .iload_n 1, 1), (2, .ishr, 1), (3, .iconst 1, 1), (4, .iand, 1), (5, .iconst 1, 1), (6, .if_icmp .ne 7, 3), (9, .iconst 1, 1), (10, .goto 4, 3), (13, .iconst 0, 1), (14, .ireturn, 1)]
theorem T_cX11_has : tabOK cX11_has T_cX11_hasL = true := by decide +kernel
def P_R_has_14 (post : Int32 → Mem → Prop) (s0 : Int32) (M : Mem) : Prop :=
  (s0 = 0 ∨ s0 = 1) ∧ post s0 M
theorem k_R_has_14 {X : FX} {g : GT} {ext : List CD} {A : Nat → Prop} {Z : State → Prop} {post : Int32 → Mem → Prop} (C : Cx X g (layC ++ ext) A cX11_has 2 RX11 0) (hr : 0 ≤ X.2.2.2.1.cells ∧ 0 ≤ X.2.2.2.1.slots) (hR : RetZ X g (layC ++ ext) A cX11_has 2 0 0 Z post) (s0 : Int32) (M : Mem) (h : P_R_has_14 post s0 M) : AtX X g (layC ++ ext) A 2 0 0 Z 14 [] [.int s0] M := by
  exact hR _ _ _ _ (tk T_cX11_has 10 rfl) h
def P_R_has (post : Int32 → Mem → Prop) (x0 x1 : Int32) (M : Mem) : Prop :=
  (¬ ((x0 >>> (x1 &&& 31)) &&& (1 : Int32)) = (1 : Int32) → (P_R_has_14 post (0 : Int32) M)) ∧
  (((x0 >>> (x1 &&& 31)) &&& (1 : Int32)) = (1 : Int32) → (P_R_has_14 post (1 : Int32) M))
theorem k_R_has {X : FX} {g : GT} {ext : List CD} {A : Nat → Prop} {Z : State → Prop} {post : Int32 → Mem → Prop} (C : Cx X g (layC ++ ext) A cX11_has 2 RX11 0) (hr : 0 ≤ X.2.2.2.1.cells ∧ 0 ≤ X.2.2.2.1.slots) (hR : RetZ X g (layC ++ ext) A cX11_has 2 0 0 Z post) (x0 x1 : Int32) (M : Mem) (h : P_R_has post x0 x1 M) : AtX X g (layC ++ ext) A 2 0 0 Z 0 [(0, .int x0), (1, .int x1)] [] M := by
  refine a_iload_n C (tk T_cX11_has 0 rfl) rfl ?_
  refine a_iload_n C (tk T_cX11_has 1 rfl) rfl ?_
  refine a_ishr C (tk T_cX11_has 2 rfl) ?_
  refine a_iconst C (1 : Int32) (tk T_cX11_has 3 rfl) kI_1 ?_
  refine a_iand C (tk T_cX11_has 4 rfl) ?_
  refine a_iconst C (1 : Int32) (tk T_cX11_has 5 rfl) kI_1 ?_
  refine a_icmp_ne C 13 (tk T_cX11_has 6 rfl) rfl (fun c => ?_) (fun c => ?_)
  · have h := h.1 c
    refine a_iconst C (0 : Int32) (tk T_cX11_has 9 rfl) kI_0 ?_
    exact a_to (k_R_has_14 C hr hR (0 : Int32) M h) rfl
  · have h := h.2 c
    refine a_iconst C (1 : Int32) (tk T_cX11_has 7 rfl) kI_1 ?_
    refine a_goto C 14 (tk T_cX11_has 8 rfl) rfl ?_
    exact a_to (k_R_has_14 C hr hR (1 : Int32) M h) rfl
theorem ct_R_has {l : Launch} {g : GT} {ext : List CD} {post : Int32 → Mem → Prop} {x0 x1 : Int32} {M : Mem} (h : P_R_has post x0 x1 M) : CI l g (layC ++ ext) yX11_has cX11_has 2 (some .boolean) 0 [.int x0, .int x1] M post :=
  cz_of (plainFor_of_name (by decide +kernel)) (Nat.le_of_ble_eq_true rfl) (fun X A Z hl C hr hR => by subst hl; exact k_R_has C hr hR x0 x1 M h)
def T_cX3_holdersL : List (Nat × Instr × Nat) := [(0, .iconst 0, 1), (1, .istore_n 2, 1), (2, .iconst 0, 1), (3, .istore_n 3, 1), (4, .iload_n 3, 1), (5, .aload_n 0, 1), (6, .getfield 38, 3), (9, .getfield 61, 3), (12, .getfield 67, 3), (15, .if_icmp .ge 34, 3), (18, .iload_n 1, 1), (19, .aload_n 0, 1), (20, .getfield 9, 3), (23, .iload_n 3, 1), (24, .iaload, 1), (25, .aload_n 0, 1), (26, .getfield 15, 3), (29, .iload_n 3, 1), (30, .iaload, 1), (31, .invokestatic 113, 3), (34, .ifCond .eq 9, 3), (37, .iload_n 2, 1), (38, .iconst 1, 1), (39, .iload_n 3, 1), (40, .ishl, 1), (41, .ior, 1), (42, .istore_n 2, 1), (43, .iinc 3 1, 3), (46, .goto (-42), 3), (49, .iload_n 2, 1), (50, .ireturn, 1)]
theorem T_cX3_holders : tabOK cX3_holders T_cX3_holdersL = true := by decide +kernel
def P_Judge_holders_43 (post : Int32 → Mem → Prop) (R4 : Int32 → Int32 → Int32 → Mem → Prop) (x1 x2 x3 : Int32) (M : Mem) : Prop :=
  R4 x1 x2 (x3 + (1 : Int32)) M
theorem k_Judge_holders_43 {X : FX} {g : GT} {ext : List CD} {A : Nat → Prop} {Z : State → Prop} {post : Int32 → Mem → Prop} {R4 : Int32 → Int32 → Int32 → Mem → Prop} (C : Cx X g (layC ++ ext) A cX3_holders 4 RX3 1) (hr : 0 ≤ X.2.2.2.1.cells ∧ 0 ≤ X.2.2.2.1.slots) (hR : RetI X g (layC ++ ext) A cX3_holders 4 0 0 Z post) (k4 : ∀ (y1 y2 y3 : Int32) (M : Mem), R4 y1 y2 y3 M → AtX X g (layC ++ ext) A 4 0 0 Z 4 [(0, .ref (ad g 69)), (1, .int y1), (2, .int y2), (3, .int y3)] [] M) (x1 x2 x3 : Int32) (M : Mem) (h : P_Judge_holders_43 post R4 x1 x2 x3 M) : AtX X g (layC ++ ext) A 4 0 0 Z 43 [(0, .ref (ad g 69)), (1, .int x1), (2, .int x2), (3, .int x3)] [] M := by
  refine a_iinc C (1 : Int32) (tk T_cX3_holders 27 rfl) rfl kI_1 (by decide) rfl ?_
  refine a_goto C 4 (tk T_cX3_holders 28 rfl) rfl ?_
  exact a_to (k4 x1 x2 (x3 + (1 : Int32)) M h) rfl
def P_Judge_holders_4 (post : Int32 → Mem → Prop) : Nat → Int32 → Int32 → Int32 → Mem → Prop
  | 0, _, _, _, _ => False
  | n + 1, x1, x2, x3, M =>
    ((M 18 11) ≤ x3 → (post x2 M)) ∧
  (¬ (M 18 11) ≤ x3 → (vp_in x3 24 ∧ vp_in x3 24 ∧ P_R_within (fun r1 M1 =>
  (r1 = 0 → (P_Judge_holders_43 post (P_Judge_holders_4 post n) x1 x2 x3 M1)) ∧
  (¬ r1 = 0 → (∀ x2_2, x2_2 = (x2 ||| ((1 : Int32) <<< (x3 &&& 31))) → P_Judge_holders_43 post (P_Judge_holders_4 post n) x1 x2_2 x3 M1))) x1 (M 70 x3.toNatClampNeg) (M 71 x3.toNatClampNeg) M))
theorem k_Judge_holders_4 {X : FX} {g : GT} {ext : List CD} {A : Nat → Prop} {Z : State → Prop} {post : Int32 → Mem → Prop} (C : Cx X g (layC ++ ext) A cX3_holders 4 RX3 1) (hr : 0 ≤ X.2.2.2.1.cells ∧ 0 ≤ X.2.2.2.1.slots) (hR : RetI X g (layC ++ ext) A cX3_holders 4 0 0 Z post) : ∀ (n : Nat) (x1 x2 x3 : Int32) (M : Mem), P_Judge_holders_4 post n x1 x2 x3 M → AtX X g (layC ++ ext) A 4 0 0 Z 4 [(0, .ref (ad g 69)), (1, .int x1), (2, .int x2), (3, .int x3)] [] M := by
  intro n
  induction n with
  | zero =>
    intro x1 x2 x3 M h
    exact h.elim
  | succ n ih =>
    intro x1 x2 x3 M h
    refine a_iload_n C (tk T_cX3_holders 4 rfl) rfl ?_
    refine a_aload_n C (tk T_cX3_holders 5 rfl) rfl ?_
    refine a_getR C f_RX3_38 (tk T_cX3_holders 6 rfl) lc69 rfl ?_
    refine a_getR C f_RX3_61 (tk T_cX3_holders 7 rfl) lc1 rfl ?_
    refine a_getI C f_RX3_67 (tk T_cX3_holders 8 rfl) lc18 rfl ?_
    refine a_icmp_ge C 49 (tk T_cX3_holders 9 rfl) rfl (fun c => ?_) (fun c => ?_)
    · have h := h.1 c
      refine a_iload_n C (tk T_cX3_holders 29 rfl) rfl ?_
      exact hR _ _ _ _ (tk T_cX3_holders 30 rfl) h
    · have h := h.2 c
      refine a_iload_n C (tk T_cX3_holders 10 rfl) rfl ?_
      refine a_aload_n C (tk T_cX3_holders 11 rfl) rfl ?_
      refine a_getR C f_RX3_9 (tk T_cX3_holders 12 rfl) lc69 rfl ?_
      refine a_iload_n C (tk T_cX3_holders 13 rfl) rfl ?_
      obtain ⟨hb, h⟩ := h
      refine a_iald C (tk T_cX3_holders 14 rfl) lc70 hb ?_
      refine a_aload_n C (tk T_cX3_holders 15 rfl) rfl ?_
      refine a_getR C f_RX3_15 (tk T_cX3_holders 16 rfl) lc69 rfl ?_
      refine a_iload_n C (tk T_cX3_holders 17 rfl) rfl ?_
      obtain ⟨hb, h⟩ := h
      refine a_iald C (tk T_cX3_holders 18 rfl) lc71 hb ?_
      refine a_nestI C [.int x1, .int (M 70 x3.toNatClampNeg), .int (M 71 x3.toNatClampNeg)] me_yX11_within lk_RX3_113 (ct_R_within h) (by decide) rfl rfl (Nat.le_of_ble_eq_true rfl) (tk T_cX3_holders 19 rfl) hr (fun r1 M1 h => ?_)
      refine a_if_eq C 43 (tk T_cX3_holders 20 rfl) rfl (fun c => ?_) (fun c => ?_)
      · have h := h.1 c
        exact a_to (k_Judge_holders_43 C hr hR ih x1 x2 x3 M1 h) rfl
      · have h := h.2 c
        refine a_iload_n C (tk T_cX3_holders 21 rfl) rfl ?_
        refine a_iconst C (1 : Int32) (tk T_cX3_holders 22 rfl) kI_1 ?_
        refine a_iload_n C (tk T_cX3_holders 23 rfl) rfl ?_
        refine a_ishl C (tk T_cX3_holders 24 rfl) ?_
        refine a_ior C (tk T_cX3_holders 25 rfl) ?_
        refine a_top (fun x2_2 e_x2_2 => ?_)
        have h := h x2_2 e_x2_2
        refine a_istore_n C (tk T_cX3_holders 26 rfl) (by decide) rfl ?_
        exact a_to (k_Judge_holders_43 C hr hR ih x1 x2_2 x3 M1 h) rfl
def P_Judge_holders (post : Int32 → Mem → Prop) (x1 : Int32) (M : Mem) : Prop :=
  ∃ j4, P_Judge_holders_4 post j4 x1 (0 : Int32) (0 : Int32) M
theorem k_Judge_holders {X : FX} {g : GT} {ext : List CD} {A : Nat → Prop} {Z : State → Prop} {post : Int32 → Mem → Prop} (C : Cx X g (layC ++ ext) A cX3_holders 4 RX3 1) (hr : 0 ≤ X.2.2.2.1.cells ∧ 0 ≤ X.2.2.2.1.slots) (hR : RetI X g (layC ++ ext) A cX3_holders 4 0 0 Z post) (x1 : Int32) (M : Mem) (h : P_Judge_holders post x1 M) : AtX X g (layC ++ ext) A 4 0 0 Z 0 [(0, .ref (ad g 69)), (1, .int x1)] [] M := by
  refine a_iconst C (0 : Int32) (tk T_cX3_holders 0 rfl) kI_0 ?_
  refine a_istore_n C (tk T_cX3_holders 1 rfl) (by decide) rfl ?_
  refine a_iconst C (0 : Int32) (tk T_cX3_holders 2 rfl) kI_0 ?_
  refine a_istore_n C (tk T_cX3_holders 3 rfl) (by decide) rfl ?_
  obtain ⟨n1, h⟩ := h
  exact a_to (k_Judge_holders_4 C hr hR n1 x1 (0 : Int32) (0 : Int32) M h) rfl
theorem ct_Judge_holders {l : Launch} {g : GT} {ext : List CD} {post : Int32 → Mem → Prop} {x1 : Int32} {M : Mem} (h : P_Judge_holders post x1 M) : CI l g (layC ++ ext) yX3_holders cX3_holders 4 (some .int) 1 [.ref (ad g 69), .int x1] M post :=
  ci_of (plainFor_of_name (by decide +kernel)) (Nat.le_of_ble_eq_true rfl) (fun X A Z hl C hr hR => by subst hl; exact k_Judge_holders C hr hR x1 M h)
def T_cX3_surveyL : List (Nat × Instr × Nat) := [(0, .aload_n 0, 1), (1, .iconst 0, 1), (2, .putfield 117, 3), (5, .aload_n 0, 1), (6, .iconst 0, 1), (7, .putfield 120, 3), (10, .iconst 0, 1), (11, .istore_n 3, 1), (12, .iload_n 3, 1), (13, .aload_n 0, 1), (14, .getfield 38, 3), (17, .getfield 123, 3), (20, .getfield 127, 3), (23, .if_icmp .ge 130, 3), (26, .iconst 0, 1), (27, .istore 4, 2), (29, .iload_n 1, 1), (30, .iload_n 3, 1), (31, .invokestatic 132, 3), (34, .ifCond .eq 113, 3), (37, .iload 4, 2), (39, .aload_n 0, 1), (40, .getfield 38, 3), (43, .getfield 123, 3), (46, .getfield 136, 3), (49, .iload_n 3, 1), (50, .iaload, 1), (51, .if_icmp .ge 96, 3), (54, .aload_n 0, 1), (55, .getfield 38, 3), (58, .getfield 123, 3), (61, .iload_n 3, 1), (62, .iload 4, 2), (64, .iload_n 2, 1), (65, .invokevirtual 139, 3), (68, .istore 5, 2), (70, .aload_n 0, 1), (71, .iload 5, 2), (73, .invokevirtual 143, 3), (76, .istore 6, 2), (78, .aload_n 0, 1), (79, .dup, 1), (80, .getfield 117, 3), (83, .iload 6, 2), (85, .ior, 1), (86, .putfield 117, 3), (89, .iload 6, 2), (91, .ifCond .ne 50, 3), (94, .aload_n 0, 1), (95, .getfield 38, 3), (98, .getfield 61, 3), (101, .aload_n 0, 1), (102, .getfield 51, 3), (105, .iload 5, 2), (107, .aload_n 0, 1), (108, .getfield 38, 3), (111, .getfield 123, 3), (114, .getfield 146, 3), (117, .iload_n 3, 1), (118, .bipush 6, 2), (120, .imul, 1), (121, .iload 4, 2), (123, .iadd, 1), (124, .iaload, 1), (125, .invokevirtual 149, 3), (128, .ifCond .eq 13, 3), (131, .aload_n 0, 1), (132, .dup, 1), (133, .getfield 120, 3), (136, .iconst 1, 1), (137, .iadd, 1), (138, .putfield 120, 3), (141, .iinc 4 1, 3), (144, .goto (-115), 3), (147, .iinc 3 1, 3), (150, .goto (-138), 3), (153, .return_, 1)]
theorem T_cX3_survey : tabOK cX3_survey T_cX3_surveyL = true := by decide +kernel
def P_Judge_survey_147 (post : Mem → Prop) (R12 : Int32 → Int32 → Int32 → Mem → Prop) (x1 x2 x3 : Int32) (M : Mem) : Prop :=
  R12 x1 x2 (x3 + (1 : Int32)) M
theorem k_Judge_survey_147 {X : FX} {g : GT} {ext : List CD} {A : Nat → Prop} {Z : State → Prop} {post : Mem → Prop} {R12 : Int32 → Int32 → Int32 → Mem → Prop} (C : Cx X g (layC ++ ext) A cX3_survey 7 RX3 2) (hr : 0 ≤ X.2.2.2.1.cells ∧ 0 ≤ X.2.2.2.1.slots) (hR : RetV X g (layC ++ ext) A cX3_survey 7 0 0 Z post) (k12 : ∀ (y1 y2 y3 : Int32) (M : Mem), R12 y1 y2 y3 M → AtX X g (layC ++ ext) A 7 0 0 Z 12 [(0, .ref (ad g 69)), (1, .int y1), (2, .int y2), (3, .int y3)] [] M) (x1 x2 x3 : Int32) (M : Mem) (h : P_Judge_survey_147 post R12 x1 x2 x3 M) : AtX X g (layC ++ ext) A 7 0 0 Z 147 [(0, .ref (ad g 69)), (1, .int x1), (2, .int x2), (3, .int x3)] [] M := by
  refine a_iinc C (1 : Int32) (tk T_cX3_survey 74 rfl) rfl kI_1 (by decide) rfl ?_
  refine a_goto C 12 (tk T_cX3_survey 75 rfl) rfl ?_
  exact a_to (k12 x1 x2 (x3 + (1 : Int32)) M h) rfl
def P_Judge_survey_141 (post : Mem → Prop) (R12 : Int32 → Int32 → Int32 → Mem → Prop) (R29 : Int32 → Int32 → Int32 → Int32 → Mem → Prop) (x1 x2 x3 x4 : Int32) (M : Mem) : Prop :=
  R29 x1 x2 x3 (x4 + (1 : Int32)) M
theorem k_Judge_survey_141 {X : FX} {g : GT} {ext : List CD} {A : Nat → Prop} {Z : State → Prop} {post : Mem → Prop} {R12 : Int32 → Int32 → Int32 → Mem → Prop} {R29 : Int32 → Int32 → Int32 → Int32 → Mem → Prop} (C : Cx X g (layC ++ ext) A cX3_survey 7 RX3 2) (hr : 0 ≤ X.2.2.2.1.cells ∧ 0 ≤ X.2.2.2.1.slots) (hR : RetV X g (layC ++ ext) A cX3_survey 7 0 0 Z post) (k12 : ∀ (y1 y2 y3 : Int32) (M : Mem), R12 y1 y2 y3 M → AtX X g (layC ++ ext) A 7 0 0 Z 12 [(0, .ref (ad g 69)), (1, .int y1), (2, .int y2), (3, .int y3)] [] M) (k29 : ∀ (y1 y2 y3 y4 : Int32) (M : Mem), R29 y1 y2 y3 y4 M → AtX X g (layC ++ ext) A 7 0 0 Z 29 [(0, .ref (ad g 69)), (1, .int y1), (2, .int y2), (3, .int y3), (4, .int y4)] [] M) (x1 x2 x3 x4 : Int32) (M : Mem) (h : P_Judge_survey_141 post R12 R29 x1 x2 x3 x4 M) : AtX X g (layC ++ ext) A 7 0 0 Z 141 [(0, .ref (ad g 69)), (1, .int x1), (2, .int x2), (3, .int x3), (4, .int x4)] [] M := by
  refine a_iinc C (1 : Int32) (tk T_cX3_survey 72 rfl) rfl kI_1 (by decide) rfl ?_
  refine a_goto C 29 (tk T_cX3_survey 73 rfl) rfl ?_
  exact a_to (k29 x1 x2 x3 (x4 + (1 : Int32)) M h) rfl
def P_Judge_survey_29 (post : Mem → Prop) (R12 : Int32 → Int32 → Int32 → Mem → Prop) : Nat → Int32 → Int32 → Int32 → Int32 → Mem → Prop
  | 0, _, _, _, _, _ => False
  | n + 1, x1, x2, x3, x4, M =>
    P_R_has (fun r1 M1 =>
  (r1 = 0 → (P_Judge_survey_147 post R12 x1 x2 x3 M1)) ∧
  (¬ r1 = 0 → (vp_in x3 6 ∧ ((M1 15 x3.toNatClampNeg) ≤ x4 → (P_Judge_survey_147 post R12 x1 x2 x3 M1)) ∧
  (¬ (M1 15 x3.toNatClampNeg) ≤ x4 → (P_Table_liesAt (fun r2 M2 =>
  P_Judge_holders (fun r3 M3 =>
  ∀ M4, M4 = ms M3 69 13 ((M3 69 13) ||| r3) → (¬ r3 = 0 → (P_Judge_survey_141 post R12 (P_Judge_survey_29 post R12 n) x1 x2 x3 x4 M4)) ∧
  (r3 = 0 → (vp_in ((x3 * (6 : Int32)) + x4) 36 ∧ P_Shelf_mustShow (fun r5 M5 =>
  (r5 = 0 → (P_Judge_survey_141 post R12 (P_Judge_survey_29 post R12 n) x1 x2 x3 x4 M5)) ∧
  (¬ r5 = 0 → (∀ M6, M6 = ms M5 69 14 ((M5 69 14) + (1 : Int32)) → P_Judge_survey_141 post R12 (P_Judge_survey_29 post R12 n) x1 x2 x3 x4 M6))) (M4 69 10) r2 (M4 17 ((x3 * (6 : Int32)) + x4).toNatClampNeg) M4))) r2 M2) x3 x4 x2 M1))))) x1 x3 M
theorem k_Judge_survey_29 {X : FX} {g : GT} {ext : List CD} {A : Nat → Prop} {Z : State → Prop} {post : Mem → Prop} {R12 : Int32 → Int32 → Int32 → Mem → Prop} (C : Cx X g (layC ++ ext) A cX3_survey 7 RX3 2) (hr : 0 ≤ X.2.2.2.1.cells ∧ 0 ≤ X.2.2.2.1.slots) (hR : RetV X g (layC ++ ext) A cX3_survey 7 0 0 Z post) (k12 : ∀ (y1 y2 y3 : Int32) (M : Mem), R12 y1 y2 y3 M → AtX X g (layC ++ ext) A 7 0 0 Z 12 [(0, .ref (ad g 69)), (1, .int y1), (2, .int y2), (3, .int y3)] [] M) : ∀ (n : Nat) (x1 x2 x3 x4 : Int32) (M : Mem), P_Judge_survey_29 post R12 n x1 x2 x3 x4 M → AtX X g (layC ++ ext) A 7 0 0 Z 29 [(0, .ref (ad g 69)), (1, .int x1), (2, .int x2), (3, .int x3), (4, .int x4)] [] M := by
  intro n
  induction n with
  | zero =>
    intro x1 x2 x3 x4 M h
    exact h.elim
  | succ n ih =>
    intro x1 x2 x3 x4 M h
    refine a_iload_n C (tk T_cX3_survey 16 rfl) rfl ?_
    refine a_iload_n C (tk T_cX3_survey 17 rfl) rfl ?_
    refine a_nestI C [.int x1, .int x3] me_yX11_has lk_RX3_132 (ct_R_has h) (by decide) rfl rfl (Nat.le_of_ble_eq_true rfl) (tk T_cX3_survey 18 rfl) hr (fun r1 M1 h => ?_)
    refine a_if_eq C 147 (tk T_cX3_survey 19 rfl) rfl (fun c => ?_) (fun c => ?_)
    · have h := h.1 c
      exact a_to (k_Judge_survey_147 C hr hR k12 x1 x2 x3 M1 h) rfl
    · have h := h.2 c
      refine a_iload C (tk T_cX3_survey 20 rfl) rfl ?_
      refine a_aload_n C (tk T_cX3_survey 21 rfl) rfl ?_
      refine a_getR C f_RX3_38 (tk T_cX3_survey 22 rfl) lc69 rfl ?_
      refine a_getR C f_RX3_123 (tk T_cX3_survey 23 rfl) lc1 rfl ?_
      refine a_getR C f_RX3_136 (tk T_cX3_survey 24 rfl) lc13 rfl ?_
      refine a_iload_n C (tk T_cX3_survey 25 rfl) rfl ?_
      obtain ⟨hb, h⟩ := h
      refine a_iald C (tk T_cX3_survey 26 rfl) lc15 hb ?_
      refine a_icmp_ge C 147 (tk T_cX3_survey 27 rfl) rfl (fun c => ?_) (fun c => ?_)
      · have h := h.1 c
        exact a_to (k_Judge_survey_147 C hr hR k12 x1 x2 x3 M1 h) rfl
      · have h := h.2 c
        refine a_aload_n C (tk T_cX3_survey 28 rfl) rfl ?_
        refine a_getR C f_RX3_38 (tk T_cX3_survey 29 rfl) lc69 rfl ?_
        refine a_getR C f_RX3_123 (tk T_cX3_survey 30 rfl) lc1 rfl ?_
        refine a_iload_n C (tk T_cX3_survey 31 rfl) rfl ?_
        refine a_iload C (tk T_cX3_survey 32 rfl) rfl ?_
        refine a_iload_n C (tk T_cX3_survey 33 rfl) rfl ?_
        refine a_callI C [.int x3, .int x4, .int x2] me_yX10_liesAt lk_RX3_139 (ct_Table_liesAt h) (by decide) lc13 rfl rfl rfl (Nat.le_of_ble_eq_true rfl) (tk T_cX3_survey 34 rfl) hr (fun r2 M2 h => ?_)
        refine a_istore C (tk T_cX3_survey 35 rfl) (by decide) rfl ?_
        refine a_aload_n C (tk T_cX3_survey 36 rfl) rfl ?_
        refine a_iload C (tk T_cX3_survey 37 rfl) rfl ?_
        refine a_callI C [.int r2] me_yX3_holders lk_RX3_143 (ct_Judge_holders h) (by decide) lc69 rfl rfl rfl (Nat.le_of_ble_eq_true rfl) (tk T_cX3_survey 38 rfl) hr (fun r3 M3 h => ?_)
        refine a_istore C (tk T_cX3_survey 39 rfl) (by decide) rfl ?_
        refine a_aload_n C (tk T_cX3_survey 40 rfl) rfl ?_
        refine a_dupr C (tk T_cX3_survey 41 rfl) ?_
        refine a_getI C f_RX3_117 (tk T_cX3_survey 42 rfl) lc69 rfl ?_
        refine a_iload C (tk T_cX3_survey 43 rfl) rfl ?_
        refine a_ior C (tk T_cX3_survey 44 rfl) ?_
        refine a_put C f_RX3_117 f_RX3_117p rfl rfl (tk T_cX3_survey 45 rfl) lc69 rfl ?_
        refine a_mem (fun M4 e_M4 => ?_)
        have h := h M4 e_M4
        refine a_iload C (tk T_cX3_survey 46 rfl) rfl ?_
        refine a_if_ne C 141 (tk T_cX3_survey 47 rfl) rfl (fun c => ?_) (fun c => ?_)
        · have h := h.1 c
          exact a_to (k_Judge_survey_141 C hr hR k12 ih x1 x2 x3 x4 M4 h) rfl
        · have h := h.2 c
          refine a_aload_n C (tk T_cX3_survey 48 rfl) rfl ?_
          refine a_getR C f_RX3_38 (tk T_cX3_survey 49 rfl) lc69 rfl ?_
          refine a_getR C f_RX3_61 (tk T_cX3_survey 50 rfl) lc1 rfl ?_
          refine a_aload_n C (tk T_cX3_survey 51 rfl) rfl ?_
          refine a_getI C f_RX3_51 (tk T_cX3_survey 52 rfl) lc69 rfl ?_
          refine a_iload C (tk T_cX3_survey 53 rfl) rfl ?_
          refine a_aload_n C (tk T_cX3_survey 54 rfl) rfl ?_
          refine a_getR C f_RX3_38 (tk T_cX3_survey 55 rfl) lc69 rfl ?_
          refine a_getR C f_RX3_123 (tk T_cX3_survey 56 rfl) lc1 rfl ?_
          refine a_getR C f_RX3_146 (tk T_cX3_survey 57 rfl) lc13 rfl ?_
          refine a_iload_n C (tk T_cX3_survey 58 rfl) rfl ?_
          refine a_bipush C (6 : Int32) (tk T_cX3_survey 59 rfl) kB_6 ?_
          refine a_imul C (tk T_cX3_survey 60 rfl) ?_
          refine a_iload C (tk T_cX3_survey 61 rfl) rfl ?_
          refine a_iadd C (tk T_cX3_survey 62 rfl) ?_
          obtain ⟨hb, h⟩ := h
          refine a_iald C (tk T_cX3_survey 63 rfl) lc17 hb ?_
          refine a_callI C [.int (M4 69 10), .int r2, .int (M4 17 ((x3 * (6 : Int32)) + x4).toNatClampNeg)] me_yX9_mustShow lk_RX3_149 (ct_Shelf_mustShow h) (by decide) lc18 rfl rfl rfl (Nat.le_of_ble_eq_true rfl) (tk T_cX3_survey 64 rfl) hr (fun r5 M5 h => ?_)
          refine a_if_eq C 141 (tk T_cX3_survey 65 rfl) rfl (fun c => ?_) (fun c => ?_)
          · have h := h.1 c
            exact a_to (k_Judge_survey_141 C hr hR k12 ih x1 x2 x3 x4 M5 h) rfl
          · have h := h.2 c
            refine a_aload_n C (tk T_cX3_survey 66 rfl) rfl ?_
            refine a_dupr C (tk T_cX3_survey 67 rfl) ?_
            refine a_getI C f_RX3_120 (tk T_cX3_survey 68 rfl) lc69 rfl ?_
            refine a_iconst C (1 : Int32) (tk T_cX3_survey 69 rfl) kI_1 ?_
            refine a_iadd C (tk T_cX3_survey 70 rfl) ?_
            refine a_put C f_RX3_120 f_RX3_120p rfl rfl (tk T_cX3_survey 71 rfl) lc69 rfl ?_
            refine a_mem (fun M6 e_M6 => ?_)
            have h := h M6 e_M6
            exact a_to (k_Judge_survey_141 C hr hR k12 ih x1 x2 x3 x4 M6 h) rfl
def P_Judge_survey_12 (post : Mem → Prop) : Nat → Int32 → Int32 → Int32 → Mem → Prop
  | 0, _, _, _, _ => False
  | n + 1, x1, x2, x3, M =>
    ((M 13 4) ≤ x3 → (post M)) ∧
  (¬ (M 13 4) ≤ x3 → (∃ j29, P_Judge_survey_29 post (P_Judge_survey_12 post n) j29 x1 x2 x3 (0 : Int32) M))
theorem k_Judge_survey_12 {X : FX} {g : GT} {ext : List CD} {A : Nat → Prop} {Z : State → Prop} {post : Mem → Prop} (C : Cx X g (layC ++ ext) A cX3_survey 7 RX3 2) (hr : 0 ≤ X.2.2.2.1.cells ∧ 0 ≤ X.2.2.2.1.slots) (hR : RetV X g (layC ++ ext) A cX3_survey 7 0 0 Z post) : ∀ (n : Nat) (x1 x2 x3 : Int32) (M : Mem), P_Judge_survey_12 post n x1 x2 x3 M → AtX X g (layC ++ ext) A 7 0 0 Z 12 [(0, .ref (ad g 69)), (1, .int x1), (2, .int x2), (3, .int x3)] [] M := by
  intro n
  induction n with
  | zero =>
    intro x1 x2 x3 M h
    exact h.elim
  | succ n ih =>
    intro x1 x2 x3 M h
    refine a_iload_n C (tk T_cX3_survey 8 rfl) rfl ?_
    refine a_aload_n C (tk T_cX3_survey 9 rfl) rfl ?_
    refine a_getR C f_RX3_38 (tk T_cX3_survey 10 rfl) lc69 rfl ?_
    refine a_getR C f_RX3_123 (tk T_cX3_survey 11 rfl) lc1 rfl ?_
    refine a_getI C f_RX3_127 (tk T_cX3_survey 12 rfl) lc13 rfl ?_
    refine a_icmp_ge C 153 (tk T_cX3_survey 13 rfl) rfl (fun c => ?_) (fun c => ?_)
    · have h := h.1 c
      exact hR _ _ _ (tk T_cX3_survey 76 rfl) h
    · have h := h.2 c
      refine a_iconst C (0 : Int32) (tk T_cX3_survey 14 rfl) kI_0 ?_
      refine a_istore C (tk T_cX3_survey 15 rfl) (by decide) rfl ?_
      obtain ⟨n1, h⟩ := h
      exact a_to (k_Judge_survey_29 C hr hR ih n1 x1 x2 x3 (0 : Int32) M h) rfl
def P_Judge_survey (post : Mem → Prop) (x1 x2 : Int32) (M : Mem) : Prop :=
  ∀ M1, M1 = ms M 69 13 (0 : Int32) → ∀ M2, M2 = ms M1 69 14 (0 : Int32) → ∃ j12, P_Judge_survey_12 post j12 x1 x2 (0 : Int32) M2
theorem k_Judge_survey {X : FX} {g : GT} {ext : List CD} {A : Nat → Prop} {Z : State → Prop} {post : Mem → Prop} (C : Cx X g (layC ++ ext) A cX3_survey 7 RX3 2) (hr : 0 ≤ X.2.2.2.1.cells ∧ 0 ≤ X.2.2.2.1.slots) (hR : RetV X g (layC ++ ext) A cX3_survey 7 0 0 Z post) (x1 x2 : Int32) (M : Mem) (h : P_Judge_survey post x1 x2 M) : AtX X g (layC ++ ext) A 7 0 0 Z 0 [(0, .ref (ad g 69)), (1, .int x1), (2, .int x2)] [] M := by
  refine a_aload_n C (tk T_cX3_survey 0 rfl) rfl ?_
  refine a_iconst C (0 : Int32) (tk T_cX3_survey 1 rfl) kI_0 ?_
  refine a_put C f_RX3_117 f_RX3_117p rfl rfl (tk T_cX3_survey 2 rfl) lc69 rfl ?_
  refine a_mem (fun M1 e_M1 => ?_)
  have h := h M1 e_M1
  refine a_aload_n C (tk T_cX3_survey 3 rfl) rfl ?_
  refine a_iconst C (0 : Int32) (tk T_cX3_survey 4 rfl) kI_0 ?_
  refine a_put C f_RX3_120 f_RX3_120p rfl rfl (tk T_cX3_survey 5 rfl) lc69 rfl ?_
  refine a_mem (fun M2 e_M2 => ?_)
  have h := h M2 e_M2
  refine a_iconst C (0 : Int32) (tk T_cX3_survey 6 rfl) kI_0 ?_
  refine a_istore_n C (tk T_cX3_survey 7 rfl) (by decide) rfl ?_
  obtain ⟨n1, h⟩ := h
  exact a_to (k_Judge_survey_12 C hr hR n1 x1 x2 (0 : Int32) M2 h) rfl
theorem ct_Judge_survey {l : Launch} {g : GT} {ext : List CD} {post : Mem → Prop} {x1 x2 : Int32} {M : Mem} (h : P_Judge_survey post x1 x2 M) : CV l g (layC ++ ext) yX3_survey cX3_survey 7 none 2 [.ref (ad g 69), .int x1, .int x2] M post :=
  cv_of (plainFor_of_name (by decide +kernel)) (Nat.le_of_ble_eq_true rfl) (fun X A Z hl C hr hR => by subst hl; exact k_Judge_survey C hr hR x1 x2 M h)
def T_cX3_isExplainedL : List (Nat × Instr × Nat) := [(0, .aload_n 0, 1), (1, .aload_n 0, 1), (2, .getfield 38, 3), (5, .getfield 123, 3), (8, .iload_n 1, 1), (9, .invokevirtual 152, 3), (12, .iload_n 2, 1), (13, .invokevirtual 155, 3), (16, .aload_n 0, 1), (17, .getfield 120, 3), (20, .ifCond .ne 28, 3), (23, .aload_n 0, 1), (24, .getfield 55, 3), (27, .aload_n 0, 1), (28, .getfield 58, 3), (31, .iconst (-1), 1), (32, .ixor, 1), (33, .iand, 1), (34, .aload_n 0, 1), (35, .getfield 117, 3), (38, .iconst (-1), 1), (39, .ixor, 1), (40, .iand, 1), (41, .ifCond .ne 7, 3), (44, .iconst 1, 1), (45, .goto 4, 3), (48, .iconst 0, 1), (49, .ireturn, 1)]
theorem T_cX3_isExplained : tabOK cX3_isExplained T_cX3_isExplainedL = true := by decide +kernel
def P_Judge_isExplained_49 (post : Int32 → Mem → Prop) (s0 : Int32) (M : Mem) : Prop :=
  (s0 = 0 ∨ s0 = 1) ∧ post s0 M
theorem k_Judge_isExplained_49 {X : FX} {g : GT} {ext : List CD} {A : Nat → Prop} {Z : State → Prop} {post : Int32 → Mem → Prop} (C : Cx X g (layC ++ ext) A cX3_isExplained 3 RX3 3) (hr : 0 ≤ X.2.2.2.1.cells ∧ 0 ≤ X.2.2.2.1.slots) (hR : RetZ X g (layC ++ ext) A cX3_isExplained 3 0 0 Z post) (s0 : Int32) (M : Mem) (h : P_Judge_isExplained_49 post s0 M) : AtX X g (layC ++ ext) A 3 0 0 Z 49 [] [.int s0] M := by
  exact hR _ _ _ _ (tk T_cX3_isExplained 27 rfl) h
def P_Judge_isExplained_48 (post : Int32 → Mem → Prop) (M : Mem) : Prop :=
  P_Judge_isExplained_49 post (0 : Int32) M
theorem k_Judge_isExplained_48 {X : FX} {g : GT} {ext : List CD} {A : Nat → Prop} {Z : State → Prop} {post : Int32 → Mem → Prop} (C : Cx X g (layC ++ ext) A cX3_isExplained 3 RX3 3) (hr : 0 ≤ X.2.2.2.1.cells ∧ 0 ≤ X.2.2.2.1.slots) (hR : RetZ X g (layC ++ ext) A cX3_isExplained 3 0 0 Z post)  (M : Mem) (h : P_Judge_isExplained_48 post M) : AtX X g (layC ++ ext) A 3 0 0 Z 48 [] [] M := by
  refine a_iconst C (0 : Int32) (tk T_cX3_isExplained 26 rfl) kI_0 ?_
  exact a_to (k_Judge_isExplained_49 C hr hR (0 : Int32) M h) rfl
def P_Judge_isExplained (post : Int32 → Mem → Prop) (x1 x2 : Int32) (M : Mem) : Prop :=
  P_Table_withAir (fun r1 M1 =>
  P_Judge_survey (fun M2 =>
  (¬ (M2 69 14) = 0 → (P_Judge_isExplained_48 post M2)) ∧
  ((M2 69 14) = 0 → (∀ v3, v3 = (((M2 69 11) &&& ((M2 69 12) ^^^ (-1 : Int32))) &&& ((M2 69 13) ^^^ (-1 : Int32))) → (¬ v3 = 0 → (P_Judge_isExplained_48 post M2)) ∧
  (v3 = 0 → (P_Judge_isExplained_49 post (1 : Int32) M2))))) r1 x2 M1) x1 M
theorem k_Judge_isExplained {X : FX} {g : GT} {ext : List CD} {A : Nat → Prop} {Z : State → Prop} {post : Int32 → Mem → Prop} (C : Cx X g (layC ++ ext) A cX3_isExplained 3 RX3 3) (hr : 0 ≤ X.2.2.2.1.cells ∧ 0 ≤ X.2.2.2.1.slots) (hR : RetZ X g (layC ++ ext) A cX3_isExplained 3 0 0 Z post) (x1 x2 : Int32) (M : Mem) (h : P_Judge_isExplained post x1 x2 M) : AtX X g (layC ++ ext) A 3 0 0 Z 0 [(0, .ref (ad g 69)), (1, .int x1), (2, .int x2)] [] M := by
  refine a_aload_n C (tk T_cX3_isExplained 0 rfl) rfl ?_
  refine a_aload_n C (tk T_cX3_isExplained 1 rfl) rfl ?_
  refine a_getR C f_RX3_38 (tk T_cX3_isExplained 2 rfl) lc69 rfl ?_
  refine a_getR C f_RX3_123 (tk T_cX3_isExplained 3 rfl) lc1 rfl ?_
  refine a_iload_n C (tk T_cX3_isExplained 4 rfl) rfl ?_
  refine a_callI C [.int x1] me_yX10_withAir lk_RX3_152 (ct_Table_withAir h) (by decide) lc13 rfl rfl rfl (Nat.le_of_ble_eq_true rfl) (tk T_cX3_isExplained 5 rfl) hr (fun r1 M1 h => ?_)
  refine a_iload_n C (tk T_cX3_isExplained 6 rfl) rfl ?_
  refine a_callV C [.int r1, .int x2] me_yX3_survey lk_RX3_155 (ct_Judge_survey h) (by decide) lc69 rfl rfl rfl (Nat.le_of_ble_eq_true rfl) (tk T_cX3_isExplained 7 rfl) hr (fun M2 h => ?_)
  refine a_aload_n C (tk T_cX3_isExplained 8 rfl) rfl ?_
  refine a_getI C f_RX3_120 (tk T_cX3_isExplained 9 rfl) lc69 rfl ?_
  refine a_if_ne C 48 (tk T_cX3_isExplained 10 rfl) rfl (fun c => ?_) (fun c => ?_)
  · have h := h.1 c
    exact a_to (k_Judge_isExplained_48 C hr hR M2 h) rfl
  · have h := h.2 c
    refine a_aload_n C (tk T_cX3_isExplained 11 rfl) rfl ?_
    refine a_getI C f_RX3_55 (tk T_cX3_isExplained 12 rfl) lc69 rfl ?_
    refine a_aload_n C (tk T_cX3_isExplained 13 rfl) rfl ?_
    refine a_getI C f_RX3_58 (tk T_cX3_isExplained 14 rfl) lc69 rfl ?_
    refine a_iconst C (-1 : Int32) (tk T_cX3_isExplained 15 rfl) kI_m1 ?_
    refine a_ixor C (tk T_cX3_isExplained 16 rfl) ?_
    refine a_iand C (tk T_cX3_isExplained 17 rfl) ?_
    refine a_aload_n C (tk T_cX3_isExplained 18 rfl) rfl ?_
    refine a_getI C f_RX3_117 (tk T_cX3_isExplained 19 rfl) lc69 rfl ?_
    refine a_iconst C (-1 : Int32) (tk T_cX3_isExplained 20 rfl) kI_m1 ?_
    refine a_ixor C (tk T_cX3_isExplained 21 rfl) ?_
    refine a_iand C (tk T_cX3_isExplained 22 rfl) ?_
    refine a_top (fun v3 e_v3 => ?_)
    have h := h v3 e_v3
    refine a_if_ne C 48 (tk T_cX3_isExplained 23 rfl) rfl (fun c => ?_) (fun c => ?_)
    · have h := h.1 c
      exact a_to (k_Judge_isExplained_48 C hr hR M2 h) rfl
    · have h := h.2 c
      refine a_iconst C (1 : Int32) (tk T_cX3_isExplained 24 rfl) kI_1 ?_
      refine a_goto C 49 (tk T_cX3_isExplained 25 rfl) rfl ?_
      exact a_to (k_Judge_isExplained_49 C hr hR (1 : Int32) M2 h) rfl
theorem ct_Judge_isExplained {l : Launch} {g : GT} {ext : List CD} {post : Int32 → Mem → Prop} {x1 x2 : Int32} {M : Mem} (h : P_Judge_isExplained post x1 x2 M) : CI l g (layC ++ ext) yX3_isExplained cX3_isExplained 3 (some .boolean) 3 [.ref (ad g 69), .int x1, .int x2] M post :=
  cz_of (plainFor_of_name (by decide +kernel)) (Nat.le_of_ble_eq_true rfl) (fun X A Z hl C hr hR => by subst hl; exact k_Judge_isExplained C hr hR x1 x2 M h)
def T_cX11_explainsL : List (Nat × Instr × Nat) := [(0, .aload_n 0, 1), (1, .iload_n 1, 1), (2, .invokevirtual 232, 3), (5, .iload_n 3, 1), (6, .invokestatic 254, 3), (9, .aload_n 0, 1), (10, .getfield 33, 3), (13, .iload_n 1, 1), (14, .invokevirtual 264, 3), (17, .aload_n 0, 1), (18, .getfield 33, 3), (21, .iload_n 2, 1), (22, .iload_n 3, 1), (23, .invokevirtual 267, 3), (26, .ireturn, 1)]
theorem T_cX11_explains : tabOK cX11_explains T_cX11_explainsL = true := by decide +kernel
def P_R_explains (post : Int32 → Mem → Prop) (ex : String → Mem → Prop) (x1 x2 x3 : Int32) (M : Mem) : Prop :=
  P_R_wantPlate (fun M1 =>
  P_R_wantSpeed (fun M2 =>
  P_Judge_open (fun M3 =>
  P_Judge_isExplained (fun r4 M4 =>
  (r4 = 0 ∨ r4 = 1) ∧ post r4 M4) x2 x3 M3) x1 M2) ex x3 M1) ex x1 M
theorem k_R_explains {X : FX} {g : GT} {ext : List CD} {A : Nat → Prop} {Z : State → Prop} {post : Int32 → Mem → Prop} {ex : String → Mem → Prop} {sk : Nat → Nat} (C : CxX X g (layC ++ ext) A cX11_explains 4 RX11 8 2 sk) (hT : ThX X g (layC ++ ext) A 2 Z ex) (hR : RetZ X g (layC ++ ext) A cX11_explains 4 2 (6 * 2) Z post) (x1 x2 x3 : Int32) (M : Mem) (h : P_R_explains post ex x1 x2 x3 M) : AtX X g (layC ++ ext) A 4 0 0 Z 0 [(0, .ref (ad g 0)), (1, .int x1), (2, .int x2), (3, .int x3)] [] M := by
  refine a_aload_n C.1 (tk T_cX11_explains 0 rfl) rfl ?_
  refine a_iload_n C.1 (tk T_cX11_explains 1 rfl) rfl ?_
  refine x_callV C hT [.int x1] me_yX11_wantPlate lk_RX11_232 (ct_R_wantPlate h) (by decide) lc0 rfl rfl rfl (Nat.le_of_ble_eq_true rfl) (tk T_cX11_explains 2 rfl) (by decide) (fun M1 h => ?_)
  refine a_iload_n C.1 (tk T_cX11_explains 3 rfl) rfl ?_
  refine x_statV C hT [.int x3] me_yX11_wantSpeed lk_RX11_254 (ct_R_wantSpeed h) (by decide) rfl rfl (Nat.le_of_ble_eq_true rfl) (tk T_cX11_explains 4 rfl) (by decide) (fun M2 h => ?_)
  refine a_aload_n C.1 (tk T_cX11_explains 5 rfl) rfl ?_
  refine a_getR C.1 f_RX11_33 (tk T_cX11_explains 6 rfl) lc0 rfl ?_
  refine a_iload_n C.1 (tk T_cX11_explains 7 rfl) rfl ?_
  refine a_callV C.1 [.int x1] me_yX3_open lk_RX11_264 (ct_Judge_open h) (by decide) lc69 rfl rfl rfl (Nat.le_of_ble_eq_true rfl) (tk T_cX11_explains 8 rfl) ⟨Nat.le_trans (by decide) C.2.2.1, Nat.le_trans (by decide) C.2.2.2⟩ (fun M3 h => ?_)
  refine a_aload_n C.1 (tk T_cX11_explains 9 rfl) rfl ?_
  refine a_getR C.1 f_RX11_33 (tk T_cX11_explains 10 rfl) lc0 rfl ?_
  refine a_iload_n C.1 (tk T_cX11_explains 11 rfl) rfl ?_
  refine a_iload_n C.1 (tk T_cX11_explains 12 rfl) rfl ?_
  refine a_callI C.1 [.int x2, .int x3] me_yX3_isExplained lk_RX11_267 (ct_Judge_isExplained h) (by decide) lc69 rfl rfl rfl (Nat.le_of_ble_eq_true rfl) (tk T_cX11_explains 13 rfl) ⟨Nat.le_trans (by decide) C.2.2.1, Nat.le_trans (by decide) C.2.2.2⟩ (fun r4 M4 h => ?_)
  exact x_widen (by decide) (by decide) (hR _ _ _ _ (tk T_cX11_explains 14 rfl) h)
theorem ct_R_explains {l : Launch} {g : GT} {ext : List CD} {sk : Nat → Nat} {post : Int32 → Mem → Prop} {ex : String → Mem → Prop} {x1 x2 x3 : Int32} {M : Mem} (h : P_R_explains post ex x1 x2 x3 M) : XI l g (layC ++ ext) sk yX11_explains cX11_explains 4 (some .boolean) 8 2 [.ref (ad g 0), .int x1, .int x2, .int x3] M post ex :=
  xz_of (by decide +kernel) (Nat.le_of_ble_eq_true rfl) (fun X A Z hl C hR hT _ => by subst hl; exact k_R_explains C hT hR x1 x2 x3 M h)
def T_cX3_isTalliedAsExplainedL : List (Nat × Instr × Nat) := [(0, .aload_n 0, 1), (1, .getfield 55, 3), (4, .aload_n 0, 1), (5, .getfield 58, 3), (8, .iconst (-1), 1), (9, .ixor, 1), (10, .iand, 1), (11, .istore_n 2, 1), (12, .iconst 0, 1), (13, .istore_n 3, 1), (14, .iload_n 3, 1), (15, .aload_n 0, 1), (16, .getfield 38, 3), (19, .getfield 123, 3), (22, .getfield 127, 3), (25, .if_icmp .ge 39, 3), (28, .iload_n 1, 1), (29, .iload_n 3, 1), (30, .invokestatic 132, 3), (33, .ifCond .eq 25, 3), (36, .aload_n 0, 1), (37, .getfield 24, 3), (40, .iload_n 3, 1), (41, .iaload, 1), (42, .ifCond .le 5, 3), (45, .iconst 0, 1), (46, .ireturn, 1), (47, .iload_n 2, 1), (48, .aload_n 0, 1), (49, .getfield 21, 3), (52, .iload_n 3, 1), (53, .iaload, 1), (54, .iconst (-1), 1), (55, .ixor, 1), (56, .iand, 1), (57, .istore_n 2, 1), (58, .iinc 3 1, 3), (61, .goto (-47), 3), (64, .iload_n 2, 1), (65, .ifCond .ne 7, 3), (68, .iconst 1, 1), (69, .goto 4, 3), (72, .iconst 0, 1), (73, .ireturn, 1)]
theorem T_cX3_isTalliedAsExplained : tabOK cX3_isTalliedAsExplained T_cX3_isTalliedAsExplainedL = true := by decide +kernel
def P_Judge_isTalliedAsExplained_73 (post : Int32 → Mem → Prop) (s0 : Int32) (M : Mem) : Prop :=
  (s0 = 0 ∨ s0 = 1) ∧ post s0 M
theorem k_Judge_isTalliedAsExplained_73 {X : FX} {g : GT} {ext : List CD} {A : Nat → Prop} {Z : State → Prop} {post : Int32 → Mem → Prop} (C : Cx X g (layC ++ ext) A cX3_isTalliedAsExplained 4 RX3 1) (hr : 0 ≤ X.2.2.2.1.cells ∧ 0 ≤ X.2.2.2.1.slots) (hR : RetZ X g (layC ++ ext) A cX3_isTalliedAsExplained 4 0 0 Z post) (s0 : Int32) (M : Mem) (h : P_Judge_isTalliedAsExplained_73 post s0 M) : AtX X g (layC ++ ext) A 4 0 0 Z 73 [] [.int s0] M := by
  exact hR _ _ _ _ (tk T_cX3_isTalliedAsExplained 43 rfl) h
def P_Judge_isTalliedAsExplained_58 (post : Int32 → Mem → Prop) (R14 : Int32 → Int32 → Int32 → Mem → Prop) (x1 x2 x3 : Int32) (M : Mem) : Prop :=
  R14 x1 x2 (x3 + (1 : Int32)) M
theorem k_Judge_isTalliedAsExplained_58 {X : FX} {g : GT} {ext : List CD} {A : Nat → Prop} {Z : State → Prop} {post : Int32 → Mem → Prop} {R14 : Int32 → Int32 → Int32 → Mem → Prop} (C : Cx X g (layC ++ ext) A cX3_isTalliedAsExplained 4 RX3 1) (hr : 0 ≤ X.2.2.2.1.cells ∧ 0 ≤ X.2.2.2.1.slots) (hR : RetZ X g (layC ++ ext) A cX3_isTalliedAsExplained 4 0 0 Z post) (k14 : ∀ (y1 y2 y3 : Int32) (M : Mem), R14 y1 y2 y3 M → AtX X g (layC ++ ext) A 4 0 0 Z 14 [(0, .ref (ad g 69)), (1, .int y1), (2, .int y2), (3, .int y3)] [] M) (x1 x2 x3 : Int32) (M : Mem) (h : P_Judge_isTalliedAsExplained_58 post R14 x1 x2 x3 M) : AtX X g (layC ++ ext) A 4 0 0 Z 58 [(0, .ref (ad g 69)), (1, .int x1), (2, .int x2), (3, .int x3)] [] M := by
  refine a_iinc C (1 : Int32) (tk T_cX3_isTalliedAsExplained 36 rfl) rfl kI_1 (by decide) rfl ?_
  refine a_goto C 14 (tk T_cX3_isTalliedAsExplained 37 rfl) rfl ?_
  exact a_to (k14 x1 x2 (x3 + (1 : Int32)) M h) rfl
def P_Judge_isTalliedAsExplained_14 (post : Int32 → Mem → Prop) : Nat → Int32 → Int32 → Int32 → Mem → Prop
  | 0, _, _, _, _ => False
  | n + 1, x1, x2, x3, M =>
    ((M 13 4) ≤ x3 → ((¬ x2 = 0 → (P_Judge_isTalliedAsExplained_73 post (0 : Int32) M)) ∧
  (x2 = 0 → (P_Judge_isTalliedAsExplained_73 post (1 : Int32) M)))) ∧
  (¬ (M 13 4) ≤ x3 → (P_R_has (fun r1 M1 =>
  (r1 = 0 → (P_Judge_isTalliedAsExplained_58 post (P_Judge_isTalliedAsExplained_14 post n) x1 x2 x3 M1)) ∧
  (¬ r1 = 0 → (vp_in x3 6 ∧ ((M1 74 x3.toNatClampNeg) ≤ 0 → (vp_in x3 6 ∧ ∀ x2_2, x2_2 = (x2 &&& ((M1 73 x3.toNatClampNeg) ^^^ (-1 : Int32))) → P_Judge_isTalliedAsExplained_58 post (P_Judge_isTalliedAsExplained_14 post n) x1 x2_2 x3 M1)) ∧
  (¬ (M1 74 x3.toNatClampNeg) ≤ 0 → (post (0 : Int32) M1))))) x1 x3 M))
theorem k_Judge_isTalliedAsExplained_14 {X : FX} {g : GT} {ext : List CD} {A : Nat → Prop} {Z : State → Prop} {post : Int32 → Mem → Prop} (C : Cx X g (layC ++ ext) A cX3_isTalliedAsExplained 4 RX3 1) (hr : 0 ≤ X.2.2.2.1.cells ∧ 0 ≤ X.2.2.2.1.slots) (hR : RetZ X g (layC ++ ext) A cX3_isTalliedAsExplained 4 0 0 Z post) : ∀ (n : Nat) (x1 x2 x3 : Int32) (M : Mem), P_Judge_isTalliedAsExplained_14 post n x1 x2 x3 M → AtX X g (layC ++ ext) A 4 0 0 Z 14 [(0, .ref (ad g 69)), (1, .int x1), (2, .int x2), (3, .int x3)] [] M := by
  intro n
  induction n with
  | zero =>
    intro x1 x2 x3 M h
    exact h.elim
  | succ n ih =>
    intro x1 x2 x3 M h
    refine a_iload_n C (tk T_cX3_isTalliedAsExplained 10 rfl) rfl ?_
    refine a_aload_n C (tk T_cX3_isTalliedAsExplained 11 rfl) rfl ?_
    refine a_getR C f_RX3_38 (tk T_cX3_isTalliedAsExplained 12 rfl) lc69 rfl ?_
    refine a_getR C f_RX3_123 (tk T_cX3_isTalliedAsExplained 13 rfl) lc1 rfl ?_
    refine a_getI C f_RX3_127 (tk T_cX3_isTalliedAsExplained 14 rfl) lc13 rfl ?_
    refine a_icmp_ge C 64 (tk T_cX3_isTalliedAsExplained 15 rfl) rfl (fun c => ?_) (fun c => ?_)
    · have h := h.1 c
      refine a_iload_n C (tk T_cX3_isTalliedAsExplained 38 rfl) rfl ?_
      refine a_if_ne C 72 (tk T_cX3_isTalliedAsExplained 39 rfl) rfl (fun c => ?_) (fun c => ?_)
      · have h := h.1 c
        refine a_iconst C (0 : Int32) (tk T_cX3_isTalliedAsExplained 42 rfl) kI_0 ?_
        exact a_to (k_Judge_isTalliedAsExplained_73 C hr hR (0 : Int32) M h) rfl
      · have h := h.2 c
        refine a_iconst C (1 : Int32) (tk T_cX3_isTalliedAsExplained 40 rfl) kI_1 ?_
        refine a_goto C 73 (tk T_cX3_isTalliedAsExplained 41 rfl) rfl ?_
        exact a_to (k_Judge_isTalliedAsExplained_73 C hr hR (1 : Int32) M h) rfl
    · have h := h.2 c
      refine a_iload_n C (tk T_cX3_isTalliedAsExplained 16 rfl) rfl ?_
      refine a_iload_n C (tk T_cX3_isTalliedAsExplained 17 rfl) rfl ?_
      refine a_nestI C [.int x1, .int x3] me_yX11_has lk_RX3_132 (ct_R_has h) (by decide) rfl rfl (Nat.le_of_ble_eq_true rfl) (tk T_cX3_isTalliedAsExplained 18 rfl) hr (fun r1 M1 h => ?_)
      refine a_if_eq C 58 (tk T_cX3_isTalliedAsExplained 19 rfl) rfl (fun c => ?_) (fun c => ?_)
      · have h := h.1 c
        exact a_to (k_Judge_isTalliedAsExplained_58 C hr hR ih x1 x2 x3 M1 h) rfl
      · have h := h.2 c
        refine a_aload_n C (tk T_cX3_isTalliedAsExplained 20 rfl) rfl ?_
        refine a_getR C f_RX3_24 (tk T_cX3_isTalliedAsExplained 21 rfl) lc69 rfl ?_
        refine a_iload_n C (tk T_cX3_isTalliedAsExplained 22 rfl) rfl ?_
        obtain ⟨hb, h⟩ := h
        refine a_iald C (tk T_cX3_isTalliedAsExplained 23 rfl) lc74 hb ?_
        refine a_if_le C 47 (tk T_cX3_isTalliedAsExplained 24 rfl) rfl (fun c => ?_) (fun c => ?_)
        · have h := h.1 c
          refine a_iload_n C (tk T_cX3_isTalliedAsExplained 27 rfl) rfl ?_
          refine a_aload_n C (tk T_cX3_isTalliedAsExplained 28 rfl) rfl ?_
          refine a_getR C f_RX3_21 (tk T_cX3_isTalliedAsExplained 29 rfl) lc69 rfl ?_
          refine a_iload_n C (tk T_cX3_isTalliedAsExplained 30 rfl) rfl ?_
          obtain ⟨hb, h⟩ := h
          refine a_iald C (tk T_cX3_isTalliedAsExplained 31 rfl) lc73 hb ?_
          refine a_iconst C (-1 : Int32) (tk T_cX3_isTalliedAsExplained 32 rfl) kI_m1 ?_
          refine a_ixor C (tk T_cX3_isTalliedAsExplained 33 rfl) ?_
          refine a_iand C (tk T_cX3_isTalliedAsExplained 34 rfl) ?_
          refine a_top (fun x2_2 e_x2_2 => ?_)
          have h := h x2_2 e_x2_2
          refine a_istore_n C (tk T_cX3_isTalliedAsExplained 35 rfl) (by decide) rfl ?_
          exact a_to (k_Judge_isTalliedAsExplained_58 C hr hR ih x1 x2_2 x3 M1 h) rfl
        · have h := h.2 c
          refine a_iconst C (0 : Int32) (tk T_cX3_isTalliedAsExplained 25 rfl) kI_0 ?_
          exact hR _ _ _ _ (tk T_cX3_isTalliedAsExplained 26 rfl) ⟨Or.inl rfl, h⟩
def P_Judge_isTalliedAsExplained (post : Int32 → Mem → Prop) (x1 : Int32) (M : Mem) : Prop :=
  ∀ x2_1, x2_1 = ((M 69 11) &&& ((M 69 12) ^^^ (-1 : Int32))) → ∃ j14, P_Judge_isTalliedAsExplained_14 post j14 x1 x2_1 (0 : Int32) M
theorem k_Judge_isTalliedAsExplained {X : FX} {g : GT} {ext : List CD} {A : Nat → Prop} {Z : State → Prop} {post : Int32 → Mem → Prop} (C : Cx X g (layC ++ ext) A cX3_isTalliedAsExplained 4 RX3 1) (hr : 0 ≤ X.2.2.2.1.cells ∧ 0 ≤ X.2.2.2.1.slots) (hR : RetZ X g (layC ++ ext) A cX3_isTalliedAsExplained 4 0 0 Z post) (x1 : Int32) (M : Mem) (h : P_Judge_isTalliedAsExplained post x1 M) : AtX X g (layC ++ ext) A 4 0 0 Z 0 [(0, .ref (ad g 69)), (1, .int x1)] [] M := by
  refine a_aload_n C (tk T_cX3_isTalliedAsExplained 0 rfl) rfl ?_
  refine a_getI C f_RX3_55 (tk T_cX3_isTalliedAsExplained 1 rfl) lc69 rfl ?_
  refine a_aload_n C (tk T_cX3_isTalliedAsExplained 2 rfl) rfl ?_
  refine a_getI C f_RX3_58 (tk T_cX3_isTalliedAsExplained 3 rfl) lc69 rfl ?_
  refine a_iconst C (-1 : Int32) (tk T_cX3_isTalliedAsExplained 4 rfl) kI_m1 ?_
  refine a_ixor C (tk T_cX3_isTalliedAsExplained 5 rfl) ?_
  refine a_iand C (tk T_cX3_isTalliedAsExplained 6 rfl) ?_
  refine a_top (fun x2_1 e_x2_1 => ?_)
  have h := h x2_1 e_x2_1
  refine a_istore_n C (tk T_cX3_isTalliedAsExplained 7 rfl) (by decide) rfl ?_
  refine a_iconst C (0 : Int32) (tk T_cX3_isTalliedAsExplained 8 rfl) kI_0 ?_
  refine a_istore_n C (tk T_cX3_isTalliedAsExplained 9 rfl) (by decide) rfl ?_
  obtain ⟨n1, h⟩ := h
  exact a_to (k_Judge_isTalliedAsExplained_14 C hr hR n1 x1 x2_1 (0 : Int32) M h) rfl
theorem ct_Judge_isTalliedAsExplained {l : Launch} {g : GT} {ext : List CD} {post : Int32 → Mem → Prop} {x1 : Int32} {M : Mem} (h : P_Judge_isTalliedAsExplained post x1 M) : CI l g (layC ++ ext) yX3_isTalliedAsExplained cX3_isTalliedAsExplained 4 (some .boolean) 1 [.ref (ad g 69), .int x1] M post :=
  cz_of (plainFor_of_name (by decide +kernel)) (Nat.le_of_ble_eq_true rfl) (fun X A Z hl C hr hR => by subst hl; exact k_Judge_isTalliedAsExplained C hr hR x1 M h)
def T_cX10_withoutAirL : List (Nat × Instr × Nat) := [(0, .iload_n 1, 1), (1, .iconst 1, 1), (2, .aload_n 0, 1), (3, .getfield 25, 3), (6, .ishl, 1), (7, .iconst 1, 1), (8, .isub, 1), (9, .iand, 1), (10, .aload_n 0, 1), (11, .invokevirtual 29, 3), (14, .iconst (-1), 1), (15, .ixor, 1), (16, .iand, 1), (17, .ireturn, 1)]
theorem T_cX10_withoutAir : tabOK cX10_withoutAir T_cX10_withoutAirL = true := by decide +kernel
def P_Table_withoutAir (post : Int32 → Mem → Prop) (x1 : Int32) (M : Mem) : Prop :=
  P_Table_airBits (fun r1 M1 =>
  ∀ v2, v2 = ((x1 &&& (((1 : Int32) <<< ((M 13 4) &&& 31)) - (1 : Int32))) &&& (r1 ^^^ (-1 : Int32))) → post v2 M1) M
theorem k_Table_withoutAir {X : FX} {g : GT} {ext : List CD} {A : Nat → Prop} {Z : State → Prop} {post : Int32 → Mem → Prop} (C : Cx X g (layC ++ ext) A cX10_withoutAir 2 RX10 1) (hr : 0 ≤ X.2.2.2.1.cells ∧ 0 ≤ X.2.2.2.1.slots) (hR : RetI X g (layC ++ ext) A cX10_withoutAir 2 0 0 Z post) (x1 : Int32) (M : Mem) (h : P_Table_withoutAir post x1 M) : AtX X g (layC ++ ext) A 2 0 0 Z 0 [(0, .ref (ad g 13)), (1, .int x1)] [] M := by
  refine a_iload_n C (tk T_cX10_withoutAir 0 rfl) rfl ?_
  refine a_iconst C (1 : Int32) (tk T_cX10_withoutAir 1 rfl) kI_1 ?_
  refine a_aload_n C (tk T_cX10_withoutAir 2 rfl) rfl ?_
  refine a_getI C f_RX10_25 (tk T_cX10_withoutAir 3 rfl) lc13 rfl ?_
  refine a_ishl C (tk T_cX10_withoutAir 4 rfl) ?_
  refine a_iconst C (1 : Int32) (tk T_cX10_withoutAir 5 rfl) kI_1 ?_
  refine a_isub C (tk T_cX10_withoutAir 6 rfl) ?_
  refine a_iand C (tk T_cX10_withoutAir 7 rfl) ?_
  refine a_aload_n C (tk T_cX10_withoutAir 8 rfl) rfl ?_
  refine a_callI C [] me_yX10_airBits lk_RX10_29 (ct_Table_airBits h) (by decide) lc13 rfl rfl rfl (Nat.le_of_ble_eq_true rfl) (tk T_cX10_withoutAir 9 rfl) hr (fun r1 M1 h => ?_)
  refine a_iconst C (-1 : Int32) (tk T_cX10_withoutAir 10 rfl) kI_m1 ?_
  refine a_ixor C (tk T_cX10_withoutAir 11 rfl) ?_
  refine a_iand C (tk T_cX10_withoutAir 12 rfl) ?_
  refine a_top (fun v2 e_v2 => ?_)
  have h := h v2 e_v2
  exact hR _ _ _ _ (tk T_cX10_withoutAir 13 rfl) h
theorem ct_Table_withoutAir {l : Launch} {g : GT} {ext : List CD} {post : Int32 → Mem → Prop} {x1 : Int32} {M : Mem} (h : P_Table_withoutAir post x1 M) : CI l g (layC ++ ext) yX10_withoutAir cX10_withoutAir 2 (some .int) 1 [.ref (ad g 13), .int x1] M post :=
  ci_of (plainFor_of_name (by decide +kernel)) (Nat.le_of_ble_eq_true rfl) (fun X A Z hl C hr hR => by subst hl; exact k_Table_withoutAir C hr hR x1 M h)
def T_cX3_tallySetsL : List (Nat × Instr × Nat) := [(0, .iconst 0, 1), (1, .istore_n 1, 1), (2, .iload_n 1, 1), (3, .aload_n 0, 1), (4, .getfield 38, 3), (7, .getfield 123, 3), (10, .getfield 127, 3), (13, .if_icmp .ge 37, 3), (16, .aload_n 0, 1), (17, .iconst 1, 1), (18, .iload_n 1, 1), (19, .ishl, 1), (20, .iconst 0, 1), (21, .invokevirtual 155, 3), (24, .aload_n 0, 1), (25, .getfield 21, 3), (28, .iload_n 1, 1), (29, .aload_n 0, 1), (30, .getfield 117, 3), (33, .iastore, 1), (34, .aload_n 0, 1), (35, .getfield 24, 3), (38, .iload_n 1, 1), (39, .aload_n 0, 1), (40, .getfield 120, 3), (43, .iastore, 1), (44, .iinc 1 1, 3), (47, .goto (-45), 3), (50, .aload_n 0, 1), (51, .getfield 38, 3), (54, .getfield 123, 3), (57, .iconst (-1), 1), (58, .invokevirtual 165, 3), (61, .istore_n 1, 1), (62, .aload_n 0, 1), (63, .iconst 0, 1), (64, .putfield 168, 3), (67, .aload_n 0, 1), (68, .iconst (-1), 1), (69, .putfield 171, 3), (72, .aload_n 0, 1), (73, .iload_n 1, 1), (74, .putfield 174, 3), (77, .aload_n 0, 1), (78, .iconst 0, 1), (79, .putfield 177, 3), (82, .iconst 0, 1), (83, .istore_n 2, 1), (84, .iload_n 2, 1), (85, .iload_n 1, 1), (86, .if_icmp .gt 92, 3), (89, .iload_n 2, 1), (90, .iload_n 1, 1), (91, .iconst (-1), 1), (92, .ixor, 1), (93, .iand, 1), (94, .ifCond .ne 78, 3), (97, .aload_n 0, 1), (98, .aload_n 0, 1), (99, .getfield 38, 3), (102, .getfield 123, 3), (105, .iload_n 2, 1), (106, .invokevirtual 152, 3), (109, .invokevirtual 180, 3), (112, .ifCond .eq 60, 3), (115, .aload_n 0, 1), (116, .dup, 1), (117, .getfield 168, 3), (120, .iconst 1, 1), (121, .iadd, 1), (122, .putfield 168, 3), (125, .aload_n 0, 1), (126, .dup, 1), (127, .getfield 174, 3), (130, .iload_n 2, 1), (131, .iand, 1), (132, .putfield 174, 3), (135, .aload_n 0, 1), (136, .dup, 1), (137, .getfield 177, 3), (140, .iload_n 2, 1), (141, .ior, 1), (142, .putfield 177, 3), (145, .aload_n 0, 1), (146, .getfield 171, 3), (149, .iconst (-1), 1), (150, .if_icmp .eq 17, 3), (153, .iload_n 2, 1), (154, .invokestatic 183, 3), (157, .aload_n 0, 1), (158, .getfield 171, 3), (161, .invokestatic 183, 3), (164, .if_icmp .ge 8, 3), (167, .aload_n 0, 1), (168, .iload_n 2, 1), (169, .putfield 171, 3), (172, .iinc 2 1, 3), (175, .goto (-91), 3), (178, .aload_n 0, 1), (179, .getfield 168, 3), (182, .ifCond .ne 8, 3), (185, .aload_n 0, 1), (186, .iconst 0, 1), (187, .putfield 174, 3), (190, .return_, 1)]
theorem T_cX3_tallySets : tabOK cX3_tallySets T_cX3_tallySetsL = true := by decide +kernel
def P_Judge_tallySets_190 (post : Mem → Prop) (M : Mem) : Prop :=
  post M
theorem k_Judge_tallySets_190 {X : FX} {g : GT} {ext : List CD} {A : Nat → Prop} {Z : State → Prop} {post : Mem → Prop} (C : Cx X g (layC ++ ext) A cX3_tallySets 3 RX3 3) (hr : 0 ≤ X.2.2.2.1.cells ∧ 0 ≤ X.2.2.2.1.slots) (hR : RetV X g (layC ++ ext) A cX3_tallySets 3 0 0 Z post)  (M : Mem) (h : P_Judge_tallySets_190 post M) : AtX X g (layC ++ ext) A 3 0 0 Z 190 [] [] M := by
  exact hR _ _ _ (tk T_cX3_tallySets 104 rfl) h
def P_Judge_tallySets_172 (post : Mem → Prop) (R84 : Int32 → Int32 → Mem → Prop) (x1 x2 : Int32) (M : Mem) : Prop :=
  R84 x1 (x2 + (1 : Int32)) M
theorem k_Judge_tallySets_172 {X : FX} {g : GT} {ext : List CD} {A : Nat → Prop} {Z : State → Prop} {post : Mem → Prop} {R84 : Int32 → Int32 → Mem → Prop} (C : Cx X g (layC ++ ext) A cX3_tallySets 3 RX3 3) (hr : 0 ≤ X.2.2.2.1.cells ∧ 0 ≤ X.2.2.2.1.slots) (hR : RetV X g (layC ++ ext) A cX3_tallySets 3 0 0 Z post) (k84 : ∀ (y1 y2 : Int32) (M : Mem), R84 y1 y2 M → AtX X g (layC ++ ext) A 3 0 0 Z 84 [(0, .ref (ad g 69)), (1, .int y1), (2, .int y2)] [] M) (x1 x2 : Int32) (M : Mem) (h : P_Judge_tallySets_172 post R84 x1 x2 M) : AtX X g (layC ++ ext) A 3 0 0 Z 172 [(0, .ref (ad g 69)), (1, .int x1), (2, .int x2)] [] M := by
  refine a_iinc C (1 : Int32) (tk T_cX3_tallySets 96 rfl) rfl kI_1 (by decide) rfl ?_
  refine a_goto C 84 (tk T_cX3_tallySets 97 rfl) rfl ?_
  exact a_to (k84 x1 (x2 + (1 : Int32)) M h) rfl
def P_Judge_tallySets_167 (post : Mem → Prop) (R84 : Int32 → Int32 → Mem → Prop) (x1 x2 : Int32) (M : Mem) : Prop :=
  ∀ M1, M1 = ms M 69 16 x2 → P_Judge_tallySets_172 post R84 x1 x2 M1
theorem k_Judge_tallySets_167 {X : FX} {g : GT} {ext : List CD} {A : Nat → Prop} {Z : State → Prop} {post : Mem → Prop} {R84 : Int32 → Int32 → Mem → Prop} (C : Cx X g (layC ++ ext) A cX3_tallySets 3 RX3 3) (hr : 0 ≤ X.2.2.2.1.cells ∧ 0 ≤ X.2.2.2.1.slots) (hR : RetV X g (layC ++ ext) A cX3_tallySets 3 0 0 Z post) (k84 : ∀ (y1 y2 : Int32) (M : Mem), R84 y1 y2 M → AtX X g (layC ++ ext) A 3 0 0 Z 84 [(0, .ref (ad g 69)), (1, .int y1), (2, .int y2)] [] M) (x1 x2 : Int32) (M : Mem) (h : P_Judge_tallySets_167 post R84 x1 x2 M) : AtX X g (layC ++ ext) A 3 0 0 Z 167 [(0, .ref (ad g 69)), (1, .int x1), (2, .int x2)] [] M := by
  refine a_aload_n C (tk T_cX3_tallySets 93 rfl) rfl ?_
  refine a_iload_n C (tk T_cX3_tallySets 94 rfl) rfl ?_
  refine a_put C f_RX3_171 f_RX3_171p rfl rfl (tk T_cX3_tallySets 95 rfl) lc69 rfl ?_
  refine a_mem (fun M1 e_M1 => ?_)
  have h := h M1 e_M1
  exact a_to (k_Judge_tallySets_172 C hr hR k84 x1 x2 M1 h) rfl
def P_Judge_tallySets_84 (post : Mem → Prop) : Nat → Int32 → Int32 → Mem → Prop
  | 0, _, _, _ => False
  | n + 1, x1, x2, M =>
    (x1 < x2 → ((¬ (M 69 15) = 0 → (P_Judge_tallySets_190 post M)) ∧
  ((M 69 15) = 0 → (∀ M1, M1 = ms M 69 17 (0 : Int32) → P_Judge_tallySets_190 post M1)))) ∧
  (¬ x1 < x2 → ((¬ (x2 &&& (x1 ^^^ (-1 : Int32))) = 0 → (P_Judge_tallySets_172 post (P_Judge_tallySets_84 post n) x1 x2 M)) ∧
  ((x2 &&& (x1 ^^^ (-1 : Int32))) = 0 → (P_Table_withAir (fun r2 M2 =>
  P_Judge_isTalliedAsExplained (fun r3 M3 =>
  (r3 = 0 → (P_Judge_tallySets_172 post (P_Judge_tallySets_84 post n) x1 x2 M3)) ∧
  (¬ r3 = 0 → (∀ M4, M4 = ms M3 69 15 ((M3 69 15) + (1 : Int32)) → ∀ M5, M5 = ms M4 69 17 ((M4 69 17) &&& x2) → ∀ M6, M6 = ms M5 69 18 ((M5 69 18) ||| x2) → ((M6 69 16) = (-1 : Int32) → (P_Judge_tallySets_167 post (P_Judge_tallySets_84 post n) x1 x2 M6)) ∧
  (¬ (M6 69 16) = (-1 : Int32) → (P_Integer_bitCount (fun r7 M7 =>
  P_Integer_bitCount (fun r8 M8 =>
  (r8 ≤ r7 → (P_Judge_tallySets_172 post (P_Judge_tallySets_84 post n) x1 x2 M8)) ∧
  (¬ r8 ≤ r7 → (P_Judge_tallySets_167 post (P_Judge_tallySets_84 post n) x1 x2 M8))) (M7 69 16) M7) x2 M6))))) r2 M2) x2 M))))
theorem k_Judge_tallySets_84 {X : FX} {g : GT} {ext : List CD} {A : Nat → Prop} {Z : State → Prop} {post : Mem → Prop} (C : Cx X g (layC ++ ext) A cX3_tallySets 3 RX3 3) (hr : 0 ≤ X.2.2.2.1.cells ∧ 0 ≤ X.2.2.2.1.slots) (hR : RetV X g (layC ++ ext) A cX3_tallySets 3 0 0 Z post) : ∀ (n : Nat) (x1 x2 : Int32) (M : Mem), P_Judge_tallySets_84 post n x1 x2 M → AtX X g (layC ++ ext) A 3 0 0 Z 84 [(0, .ref (ad g 69)), (1, .int x1), (2, .int x2)] [] M := by
  intro n
  induction n with
  | zero =>
    intro x1 x2 M h
    exact h.elim
  | succ n ih =>
    intro x1 x2 M h
    refine a_iload_n C (tk T_cX3_tallySets 48 rfl) rfl ?_
    refine a_iload_n C (tk T_cX3_tallySets 49 rfl) rfl ?_
    refine a_icmp_gt C 178 (tk T_cX3_tallySets 50 rfl) rfl (fun c => ?_) (fun c => ?_)
    · have h := h.1 c
      refine a_aload_n C (tk T_cX3_tallySets 98 rfl) rfl ?_
      refine a_getI C f_RX3_168 (tk T_cX3_tallySets 99 rfl) lc69 rfl ?_
      refine a_if_ne C 190 (tk T_cX3_tallySets 100 rfl) rfl (fun c => ?_) (fun c => ?_)
      · have h := h.1 c
        exact a_to (k_Judge_tallySets_190 C hr hR M h) rfl
      · have h := h.2 c
        refine a_aload_n C (tk T_cX3_tallySets 101 rfl) rfl ?_
        refine a_iconst C (0 : Int32) (tk T_cX3_tallySets 102 rfl) kI_0 ?_
        refine a_put C f_RX3_174 f_RX3_174p rfl rfl (tk T_cX3_tallySets 103 rfl) lc69 rfl ?_
        refine a_mem (fun M1 e_M1 => ?_)
        have h := h M1 e_M1
        exact a_to (k_Judge_tallySets_190 C hr hR M1 h) rfl
    · have h := h.2 c
      refine a_iload_n C (tk T_cX3_tallySets 51 rfl) rfl ?_
      refine a_iload_n C (tk T_cX3_tallySets 52 rfl) rfl ?_
      refine a_iconst C (-1 : Int32) (tk T_cX3_tallySets 53 rfl) kI_m1 ?_
      refine a_ixor C (tk T_cX3_tallySets 54 rfl) ?_
      refine a_iand C (tk T_cX3_tallySets 55 rfl) ?_
      refine a_if_ne C 172 (tk T_cX3_tallySets 56 rfl) rfl (fun c => ?_) (fun c => ?_)
      · have h := h.1 c
        exact a_to (k_Judge_tallySets_172 C hr hR ih x1 x2 M h) rfl
      · have h := h.2 c
        refine a_aload_n C (tk T_cX3_tallySets 57 rfl) rfl ?_
        refine a_aload_n C (tk T_cX3_tallySets 58 rfl) rfl ?_
        refine a_getR C f_RX3_38 (tk T_cX3_tallySets 59 rfl) lc69 rfl ?_
        refine a_getR C f_RX3_123 (tk T_cX3_tallySets 60 rfl) lc1 rfl ?_
        refine a_iload_n C (tk T_cX3_tallySets 61 rfl) rfl ?_
        refine a_callI C [.int x2] me_yX10_withAir lk_RX3_152 (ct_Table_withAir h) (by decide) lc13 rfl rfl rfl (Nat.le_of_ble_eq_true rfl) (tk T_cX3_tallySets 62 rfl) hr (fun r2 M2 h => ?_)
        refine a_callI C [.int r2] me_yX3_isTalliedAsExplained lk_RX3_180 (ct_Judge_isTalliedAsExplained h) (by decide) lc69 rfl rfl rfl (Nat.le_of_ble_eq_true rfl) (tk T_cX3_tallySets 63 rfl) hr (fun r3 M3 h => ?_)
        refine a_if_eq C 172 (tk T_cX3_tallySets 64 rfl) rfl (fun c => ?_) (fun c => ?_)
        · have h := h.1 c
          exact a_to (k_Judge_tallySets_172 C hr hR ih x1 x2 M3 h) rfl
        · have h := h.2 c
          refine a_aload_n C (tk T_cX3_tallySets 65 rfl) rfl ?_
          refine a_dupr C (tk T_cX3_tallySets 66 rfl) ?_
          refine a_getI C f_RX3_168 (tk T_cX3_tallySets 67 rfl) lc69 rfl ?_
          refine a_iconst C (1 : Int32) (tk T_cX3_tallySets 68 rfl) kI_1 ?_
          refine a_iadd C (tk T_cX3_tallySets 69 rfl) ?_
          refine a_put C f_RX3_168 f_RX3_168p rfl rfl (tk T_cX3_tallySets 70 rfl) lc69 rfl ?_
          refine a_mem (fun M4 e_M4 => ?_)
          have h := h M4 e_M4
          refine a_aload_n C (tk T_cX3_tallySets 71 rfl) rfl ?_
          refine a_dupr C (tk T_cX3_tallySets 72 rfl) ?_
          refine a_getI C f_RX3_174 (tk T_cX3_tallySets 73 rfl) lc69 rfl ?_
          refine a_iload_n C (tk T_cX3_tallySets 74 rfl) rfl ?_
          refine a_iand C (tk T_cX3_tallySets 75 rfl) ?_
          refine a_put C f_RX3_174 f_RX3_174p rfl rfl (tk T_cX3_tallySets 76 rfl) lc69 rfl ?_
          refine a_mem (fun M5 e_M5 => ?_)
          have h := h M5 e_M5
          refine a_aload_n C (tk T_cX3_tallySets 77 rfl) rfl ?_
          refine a_dupr C (tk T_cX3_tallySets 78 rfl) ?_
          refine a_getI C f_RX3_177 (tk T_cX3_tallySets 79 rfl) lc69 rfl ?_
          refine a_iload_n C (tk T_cX3_tallySets 80 rfl) rfl ?_
          refine a_ior C (tk T_cX3_tallySets 81 rfl) ?_
          refine a_put C f_RX3_177 f_RX3_177p rfl rfl (tk T_cX3_tallySets 82 rfl) lc69 rfl ?_
          refine a_mem (fun M6 e_M6 => ?_)
          have h := h M6 e_M6
          refine a_aload_n C (tk T_cX3_tallySets 83 rfl) rfl ?_
          refine a_getI C f_RX3_171 (tk T_cX3_tallySets 84 rfl) lc69 rfl ?_
          refine a_iconst C (-1 : Int32) (tk T_cX3_tallySets 85 rfl) kI_m1 ?_
          refine a_icmp_eq C 167 (tk T_cX3_tallySets 86 rfl) rfl (fun c => ?_) (fun c => ?_)
          · have h := h.1 c
            exact a_to (k_Judge_tallySets_167 C hr hR ih x1 x2 M6 h) rfl
          · have h := h.2 c
            refine a_iload_n C (tk T_cX3_tallySets 87 rfl) rfl ?_
            refine a_statI C [.int x2] me_yJ6_bitCount_0f7a4 lk_RX3_183 (ct_Integer_bitCount h) (by decide) rfl rfl (Nat.le_of_ble_eq_true rfl) (tk T_cX3_tallySets 88 rfl) hr (fun r7 M7 h => ?_)
            refine a_aload_n C (tk T_cX3_tallySets 89 rfl) rfl ?_
            refine a_getI C f_RX3_171 (tk T_cX3_tallySets 90 rfl) lc69 rfl ?_
            refine a_statI C [.int (M7 69 16)] me_yJ6_bitCount_0f7a4 lk_RX3_183 (ct_Integer_bitCount h) (by decide) rfl rfl (Nat.le_of_ble_eq_true rfl) (tk T_cX3_tallySets 91 rfl) hr (fun r8 M8 h => ?_)
            refine a_icmp_ge C 172 (tk T_cX3_tallySets 92 rfl) rfl (fun c => ?_) (fun c => ?_)
            · have h := h.1 c
              exact a_to (k_Judge_tallySets_172 C hr hR ih x1 x2 M8 h) rfl
            · have h := h.2 c
              exact a_to (k_Judge_tallySets_167 C hr hR ih x1 x2 M8 h) rfl
def P_Judge_tallySets_2 (post : Mem → Prop) : Nat → Int32 → Mem → Prop
  | 0, _, _ => False
  | n + 1, x1, M =>
    ((M 13 4) ≤ x1 → (P_Table_withoutAir (fun r1 M1 =>
  ∀ M2, M2 = ms M1 69 15 (0 : Int32) → ∀ M3, M3 = ms M2 69 16 (-1 : Int32) → ∀ M4, M4 = ms M3 69 17 r1 → ∀ M5, M5 = ms M4 69 18 (0 : Int32) → ∃ j84, P_Judge_tallySets_84 post j84 r1 (0 : Int32) M5) (-1 : Int32) M)) ∧
  (¬ (M 13 4) ≤ x1 → (P_Judge_survey (fun M6 =>
  vp_in x1 6 ∧ ∀ M7, M7 = ms M6 73 x1.toNatClampNeg (M6 69 13) → vp_in x1 6 ∧ ∀ M8, M8 = ms M7 74 x1.toNatClampNeg (M7 69 14) → P_Judge_tallySets_2 post n (x1 + (1 : Int32)) M8) ((1 : Int32) <<< (x1 &&& 31)) (0 : Int32) M))
theorem k_Judge_tallySets_2 {X : FX} {g : GT} {ext : List CD} {A : Nat → Prop} {Z : State → Prop} {post : Mem → Prop} (C : Cx X g (layC ++ ext) A cX3_tallySets 3 RX3 3) (hr : 0 ≤ X.2.2.2.1.cells ∧ 0 ≤ X.2.2.2.1.slots) (hR : RetV X g (layC ++ ext) A cX3_tallySets 3 0 0 Z post) : ∀ (n : Nat) (x1 : Int32) (M : Mem), P_Judge_tallySets_2 post n x1 M → AtX X g (layC ++ ext) A 3 0 0 Z 2 [(0, .ref (ad g 69)), (1, .int x1)] [] M := by
  intro n
  induction n with
  | zero =>
    intro x1 M h
    exact h.elim
  | succ n ih =>
    intro x1 M h
    refine a_iload_n C (tk T_cX3_tallySets 2 rfl) rfl ?_
    refine a_aload_n C (tk T_cX3_tallySets 3 rfl) rfl ?_
    refine a_getR C f_RX3_38 (tk T_cX3_tallySets 4 rfl) lc69 rfl ?_
    refine a_getR C f_RX3_123 (tk T_cX3_tallySets 5 rfl) lc1 rfl ?_
    refine a_getI C f_RX3_127 (tk T_cX3_tallySets 6 rfl) lc13 rfl ?_
    refine a_icmp_ge C 50 (tk T_cX3_tallySets 7 rfl) rfl (fun c => ?_) (fun c => ?_)
    · have h := h.1 c
      refine a_aload_n C (tk T_cX3_tallySets 28 rfl) rfl ?_
      refine a_getR C f_RX3_38 (tk T_cX3_tallySets 29 rfl) lc69 rfl ?_
      refine a_getR C f_RX3_123 (tk T_cX3_tallySets 30 rfl) lc1 rfl ?_
      refine a_iconst C (-1 : Int32) (tk T_cX3_tallySets 31 rfl) kI_m1 ?_
      refine a_callI C [.int (-1 : Int32)] me_yX10_withoutAir lk_RX3_165 (ct_Table_withoutAir h) (by decide) lc13 rfl rfl rfl (Nat.le_of_ble_eq_true rfl) (tk T_cX3_tallySets 32 rfl) hr (fun r1 M1 h => ?_)
      refine a_istore_n C (tk T_cX3_tallySets 33 rfl) (by decide) rfl ?_
      refine a_aload_n C (tk T_cX3_tallySets 34 rfl) rfl ?_
      refine a_iconst C (0 : Int32) (tk T_cX3_tallySets 35 rfl) kI_0 ?_
      refine a_put C f_RX3_168 f_RX3_168p rfl rfl (tk T_cX3_tallySets 36 rfl) lc69 rfl ?_
      refine a_mem (fun M2 e_M2 => ?_)
      have h := h M2 e_M2
      refine a_aload_n C (tk T_cX3_tallySets 37 rfl) rfl ?_
      refine a_iconst C (-1 : Int32) (tk T_cX3_tallySets 38 rfl) kI_m1 ?_
      refine a_put C f_RX3_171 f_RX3_171p rfl rfl (tk T_cX3_tallySets 39 rfl) lc69 rfl ?_
      refine a_mem (fun M3 e_M3 => ?_)
      have h := h M3 e_M3
      refine a_aload_n C (tk T_cX3_tallySets 40 rfl) rfl ?_
      refine a_iload_n C (tk T_cX3_tallySets 41 rfl) rfl ?_
      refine a_put C f_RX3_174 f_RX3_174p rfl rfl (tk T_cX3_tallySets 42 rfl) lc69 rfl ?_
      refine a_mem (fun M4 e_M4 => ?_)
      have h := h M4 e_M4
      refine a_aload_n C (tk T_cX3_tallySets 43 rfl) rfl ?_
      refine a_iconst C (0 : Int32) (tk T_cX3_tallySets 44 rfl) kI_0 ?_
      refine a_put C f_RX3_177 f_RX3_177p rfl rfl (tk T_cX3_tallySets 45 rfl) lc69 rfl ?_
      refine a_mem (fun M5 e_M5 => ?_)
      have h := h M5 e_M5
      refine a_iconst C (0 : Int32) (tk T_cX3_tallySets 46 rfl) kI_0 ?_
      refine a_istore_n C (tk T_cX3_tallySets 47 rfl) (by decide) rfl ?_
      obtain ⟨n1, h⟩ := h
      exact a_to (k_Judge_tallySets_84 C hr hR n1 r1 (0 : Int32) M5 h) rfl
    · have h := h.2 c
      refine a_aload_n C (tk T_cX3_tallySets 8 rfl) rfl ?_
      refine a_iconst C (1 : Int32) (tk T_cX3_tallySets 9 rfl) kI_1 ?_
      refine a_iload_n C (tk T_cX3_tallySets 10 rfl) rfl ?_
      refine a_ishl C (tk T_cX3_tallySets 11 rfl) ?_
      refine a_iconst C (0 : Int32) (tk T_cX3_tallySets 12 rfl) kI_0 ?_
      refine a_callV C [.int ((1 : Int32) <<< (x1 &&& 31)), .int (0 : Int32)] me_yX3_survey lk_RX3_155 (ct_Judge_survey h) (by decide) lc69 rfl rfl rfl (Nat.le_of_ble_eq_true rfl) (tk T_cX3_tallySets 13 rfl) hr (fun M6 h => ?_)
      refine a_aload_n C (tk T_cX3_tallySets 14 rfl) rfl ?_
      refine a_getR C f_RX3_21 (tk T_cX3_tallySets 15 rfl) lc69 rfl ?_
      refine a_iload_n C (tk T_cX3_tallySets 16 rfl) rfl ?_
      refine a_aload_n C (tk T_cX3_tallySets 17 rfl) rfl ?_
      refine a_getI C f_RX3_117 (tk T_cX3_tallySets 18 rfl) lc69 rfl ?_
      obtain ⟨hb, h⟩ := h
      refine a_iast C (tk T_cX3_tallySets 19 rfl) lc73 hb ?_
      refine a_mem (fun M7 e_M7 => ?_)
      have h := h M7 e_M7
      refine a_aload_n C (tk T_cX3_tallySets 20 rfl) rfl ?_
      refine a_getR C f_RX3_24 (tk T_cX3_tallySets 21 rfl) lc69 rfl ?_
      refine a_iload_n C (tk T_cX3_tallySets 22 rfl) rfl ?_
      refine a_aload_n C (tk T_cX3_tallySets 23 rfl) rfl ?_
      refine a_getI C f_RX3_120 (tk T_cX3_tallySets 24 rfl) lc69 rfl ?_
      obtain ⟨hb, h⟩ := h
      refine a_iast C (tk T_cX3_tallySets 25 rfl) lc74 hb ?_
      refine a_mem (fun M8 e_M8 => ?_)
      have h := h M8 e_M8
      refine a_iinc C (1 : Int32) (tk T_cX3_tallySets 26 rfl) rfl kI_1 (by decide) rfl ?_
      refine a_goto C 2 (tk T_cX3_tallySets 27 rfl) rfl ?_
      exact a_to (ih (x1 + (1 : Int32)) M8 h) rfl
def P_Judge_tallySets (post : Mem → Prop) (M : Mem) : Prop :=
  ∃ j2, P_Judge_tallySets_2 post j2 (0 : Int32) M
theorem k_Judge_tallySets {X : FX} {g : GT} {ext : List CD} {A : Nat → Prop} {Z : State → Prop} {post : Mem → Prop} (C : Cx X g (layC ++ ext) A cX3_tallySets 3 RX3 3) (hr : 0 ≤ X.2.2.2.1.cells ∧ 0 ≤ X.2.2.2.1.slots) (hR : RetV X g (layC ++ ext) A cX3_tallySets 3 0 0 Z post) (M : Mem) (h : P_Judge_tallySets post M) : AtX X g (layC ++ ext) A 3 0 0 Z 0 [(0, .ref (ad g 69))] [] M := by
  refine a_iconst C (0 : Int32) (tk T_cX3_tallySets 0 rfl) kI_0 ?_
  refine a_istore_n C (tk T_cX3_tallySets 1 rfl) (by decide) rfl ?_
  obtain ⟨n1, h⟩ := h
  exact a_to (k_Judge_tallySets_2 C hr hR n1 (0 : Int32) M h) rfl
theorem ct_Judge_tallySets {l : Launch} {g : GT} {ext : List CD} {post : Mem → Prop} {M : Mem} (h : P_Judge_tallySets post M) : CV l g (layC ++ ext) yX3_tallySets cX3_tallySets 3 none 3 [.ref (ad g 69)] M post :=
  cv_of (plainFor_of_name (by decide +kernel)) (Nat.le_of_ble_eq_true rfl) (fun X A Z hl C hr hR => by subst hl; exact k_Judge_tallySets C hr hR  M h)
def T_cX11_setsL : List (Nat × Instr × Nat) := [(0, .aload_n 0, 1), (1, .iload_n 1, 1), (2, .invokevirtual 232, 3), (5, .iload_n 2, 1), (6, .iconst 0, 1), (7, .iconst 3, 1), (8, .invokestatic 68, 3), (11, .invokestatic 166, 3), (14, .aload_n 0, 1), (15, .getfield 33, 3), (18, .iload_n 1, 1), (19, .invokevirtual 264, 3), (22, .aload_n 0, 1), (23, .getfield 33, 3), (26, .invokevirtual 271, 3), (29, .iload_n 2, 1), (30, .tableswitch 50 0 2 #[26, 34, 42], 26), (56, .aload_n 0, 1), (57, .getfield 33, 3), (60, .getfield 274, 3), (63, .ireturn, 1), (64, .aload_n 0, 1), (65, .getfield 33, 3), (68, .getfield 277, 3), (71, .ireturn, 1), (72, .aload_n 0, 1), (73, .getfield 33, 3), (76, .getfield 280, 3), (79, .ireturn, 1), (80, .aload_n 0, 1), (81, .getfield 33, 3), (84, .getfield 283, 3), (87, .ireturn, 1)]
theorem T_cX11_sets : tabOK cX11_sets T_cX11_setsL = true := by decide +kernel
def P_R_sets (post : Int32 → Mem → Prop) (ex : String → Mem → Prop) (x1 x2 : Int32) (M : Mem) : Prop :=
  P_R_wantPlate (fun M1 =>
  P_R_within (fun r2 M2 =>
  P_R_wantWhat (fun M3 =>
  P_Judge_open (fun M4 =>
  P_Judge_tallySets (fun M5 =>
  (x2 = (0 : Int32) → (post (M5 69 15) M5)) ∧
  (¬ x2 = (0 : Int32) → (x2 = (1 : Int32) → (post (M5 69 16) M5)) ∧
  (¬ x2 = (1 : Int32) → (x2 = (2 : Int32) → (post (M5 69 17) M5)) ∧
  (¬ x2 = (2 : Int32) → (post (M5 69 18) M5))))) M4) x1 M3) ex r2 M2) x2 (0 : Int32) (3 : Int32) M1) ex x1 M
theorem k_R_sets {X : FX} {g : GT} {ext : List CD} {A : Nat → Prop} {Z : State → Prop} {post : Int32 → Mem → Prop} {ex : String → Mem → Prop} {sk : Nat → Nat} (C : CxX X g (layC ++ ext) A cX11_sets 3 RX11 8 2 sk) (hT : ThX X g (layC ++ ext) A 2 Z ex) (hR : RetI X g (layC ++ ext) A cX11_sets 3 2 (6 * 2) Z post) (x1 x2 : Int32) (M : Mem) (h : P_R_sets post ex x1 x2 M) : AtX X g (layC ++ ext) A 3 0 0 Z 0 [(0, .ref (ad g 0)), (1, .int x1), (2, .int x2)] [] M := by
  refine a_aload_n C.1 (tk T_cX11_sets 0 rfl) rfl ?_
  refine a_iload_n C.1 (tk T_cX11_sets 1 rfl) rfl ?_
  refine x_callV C hT [.int x1] me_yX11_wantPlate lk_RX11_232 (ct_R_wantPlate h) (by decide) lc0 rfl rfl rfl (Nat.le_of_ble_eq_true rfl) (tk T_cX11_sets 2 rfl) (by decide) (fun M1 h => ?_)
  refine a_iload_n C.1 (tk T_cX11_sets 3 rfl) rfl ?_
  refine a_iconst C.1 (0 : Int32) (tk T_cX11_sets 4 rfl) kI_0 ?_
  refine a_iconst C.1 (3 : Int32) (tk T_cX11_sets 5 rfl) kI_3 ?_
  refine a_statI C.1 [.int x2, .int (0 : Int32), .int (3 : Int32)] me_yX11_within lk_RX11_68 (ct_R_within h) (by decide) rfl rfl (Nat.le_of_ble_eq_true rfl) (tk T_cX11_sets 6 rfl) ⟨Nat.le_trans (by decide) C.2.2.1, Nat.le_trans (by decide) C.2.2.2⟩ (fun r2 M2 h => ?_)
  refine x_statV C hT [.int r2] me_yX11_wantWhat lk_RX11_166 (ct_R_wantWhat h) (by decide) rfl rfl (Nat.le_of_ble_eq_true rfl) (tk T_cX11_sets 7 rfl) (by decide) (fun M3 h => ?_)
  refine a_aload_n C.1 (tk T_cX11_sets 8 rfl) rfl ?_
  refine a_getR C.1 f_RX11_33 (tk T_cX11_sets 9 rfl) lc0 rfl ?_
  refine a_iload_n C.1 (tk T_cX11_sets 10 rfl) rfl ?_
  refine a_callV C.1 [.int x1] me_yX3_open lk_RX11_264 (ct_Judge_open h) (by decide) lc69 rfl rfl rfl (Nat.le_of_ble_eq_true rfl) (tk T_cX11_sets 11 rfl) ⟨Nat.le_trans (by decide) C.2.2.1, Nat.le_trans (by decide) C.2.2.2⟩ (fun M4 h => ?_)
  refine a_aload_n C.1 (tk T_cX11_sets 12 rfl) rfl ?_
  refine a_getR C.1 f_RX11_33 (tk T_cX11_sets 13 rfl) lc0 rfl ?_
  refine a_callV C.1 [] me_yX3_tallySets lk_RX11_271 (ct_Judge_tallySets h) (by decide) lc69 rfl rfl rfl (Nat.le_of_ble_eq_true rfl) (tk T_cX11_sets 14 rfl) ⟨Nat.le_trans (by decide) C.2.2.1, Nat.le_trans (by decide) C.2.2.2⟩ (fun M5 h => ?_)
  refine a_iload_n C.1 (tk T_cX11_sets 15 rfl) rfl ?_
  refine a_case (0 : Int32) (fun c => ?_) (fun c0 => ?_)
  · have h := h.1 c
    refine a_tswI C.1 (26) 56 (tk T_cX11_sets 16 rfl) (by decide) rfl ?_
    refine a_aload_n C.1 (tk T_cX11_sets 17 rfl) rfl ?_
    refine a_getR C.1 f_RX11_33 (tk T_cX11_sets 18 rfl) lc0 rfl ?_
    refine a_getI C.1 f_RX11_274 (tk T_cX11_sets 19 rfl) lc69 rfl ?_
    exact x_widen (by decide) (by decide) (hR _ _ _ _ (tk T_cX11_sets 20 rfl) h)
  · have h := h.2 c0
    refine a_case (1 : Int32) (fun c => ?_) (fun c1 => ?_)
    · have h := h.1 c
      refine a_tswI C.1 (34) 64 (tk T_cX11_sets 16 rfl) (by decide) rfl ?_
      refine a_aload_n C.1 (tk T_cX11_sets 21 rfl) rfl ?_
      refine a_getR C.1 f_RX11_33 (tk T_cX11_sets 22 rfl) lc0 rfl ?_
      refine a_getI C.1 f_RX11_277 (tk T_cX11_sets 23 rfl) lc69 rfl ?_
      exact x_widen (by decide) (by decide) (hR _ _ _ _ (tk T_cX11_sets 24 rfl) h)
    · have h := h.2 c1
      refine a_case (2 : Int32) (fun c => ?_) (fun c2 => ?_)
      · have h := h.1 c
        refine a_tswI C.1 (42) 72 (tk T_cX11_sets 16 rfl) (by decide) rfl ?_
        refine a_aload_n C.1 (tk T_cX11_sets 25 rfl) rfl ?_
        refine a_getR C.1 f_RX11_33 (tk T_cX11_sets 26 rfl) lc0 rfl ?_
        refine a_getI C.1 f_RX11_280 (tk T_cX11_sets 27 rfl) lc69 rfl ?_
        exact x_widen (by decide) (by decide) (hR _ _ _ _ (tk T_cX11_sets 28 rfl) h)
      · have h := h.2 c2
        have d0 := ne_toInt (z := 0) c0 (by decide)
        have d1 := ne_toInt (z := 1) c1 (by decide)
        have d2 := ne_toInt (z := 2) c2 (by decide)
        refine a_tswO C.1 80 (tk T_cX11_sets 16 rfl) (by omega) rfl ?_
        refine a_aload_n C.1 (tk T_cX11_sets 29 rfl) rfl ?_
        refine a_getR C.1 f_RX11_33 (tk T_cX11_sets 30 rfl) lc0 rfl ?_
        refine a_getI C.1 f_RX11_283 (tk T_cX11_sets 31 rfl) lc69 rfl ?_
        exact x_widen (by decide) (by decide) (hR _ _ _ _ (tk T_cX11_sets 32 rfl) h)
theorem ct_R_sets {l : Launch} {g : GT} {ext : List CD} {sk : Nat → Nat} {post : Int32 → Mem → Prop} {ex : String → Mem → Prop} {x1 x2 : Int32} {M : Mem} (h : P_R_sets post ex x1 x2 M) : XI l g (layC ++ ext) sk yX11_sets cX11_sets 3 (some .int) 8 2 [.ref (ad g 0), .int x1, .int x2] M post ex :=
  xi_of (by decide +kernel) (Nat.le_of_ble_eq_true rfl) (fun X A Z hl C hR hT _ => by subst hl; exact k_R_sets C hT hR x1 x2 M h)
def T_cX3_leftBitsL : List (Nat × Instr × Nat) := [(0, .aload_n 0, 1), (1, .aload_n 0, 1), (2, .getfield 38, 3), (5, .getfield 123, 3), (8, .iload_n 1, 1), (9, .invokevirtual 152, 3), (12, .iload_n 2, 1), (13, .invokevirtual 155, 3), (16, .aload_n 0, 1), (17, .getfield 55, 3), (20, .aload_n 0, 1), (21, .getfield 58, 3), (24, .iconst (-1), 1), (25, .ixor, 1), (26, .iand, 1), (27, .aload_n 0, 1), (28, .getfield 117, 3), (31, .iconst (-1), 1), (32, .ixor, 1), (33, .iand, 1), (34, .ireturn, 1)]
theorem T_cX3_leftBits : tabOK cX3_leftBits T_cX3_leftBitsL = true := by decide +kernel
def P_Judge_leftBits (post : Int32 → Mem → Prop) (x1 x2 : Int32) (M : Mem) : Prop :=
  P_Table_withAir (fun r1 M1 =>
  P_Judge_survey (fun M2 =>
  ∀ v3, v3 = (((M2 69 11) &&& ((M2 69 12) ^^^ (-1 : Int32))) &&& ((M2 69 13) ^^^ (-1 : Int32))) → post v3 M2) r1 x2 M1) x1 M
theorem k_Judge_leftBits {X : FX} {g : GT} {ext : List CD} {A : Nat → Prop} {Z : State → Prop} {post : Int32 → Mem → Prop} (C : Cx X g (layC ++ ext) A cX3_leftBits 3 RX3 3) (hr : 0 ≤ X.2.2.2.1.cells ∧ 0 ≤ X.2.2.2.1.slots) (hR : RetI X g (layC ++ ext) A cX3_leftBits 3 0 0 Z post) (x1 x2 : Int32) (M : Mem) (h : P_Judge_leftBits post x1 x2 M) : AtX X g (layC ++ ext) A 3 0 0 Z 0 [(0, .ref (ad g 69)), (1, .int x1), (2, .int x2)] [] M := by
  refine a_aload_n C (tk T_cX3_leftBits 0 rfl) rfl ?_
  refine a_aload_n C (tk T_cX3_leftBits 1 rfl) rfl ?_
  refine a_getR C f_RX3_38 (tk T_cX3_leftBits 2 rfl) lc69 rfl ?_
  refine a_getR C f_RX3_123 (tk T_cX3_leftBits 3 rfl) lc1 rfl ?_
  refine a_iload_n C (tk T_cX3_leftBits 4 rfl) rfl ?_
  refine a_callI C [.int x1] me_yX10_withAir lk_RX3_152 (ct_Table_withAir h) (by decide) lc13 rfl rfl rfl (Nat.le_of_ble_eq_true rfl) (tk T_cX3_leftBits 5 rfl) hr (fun r1 M1 h => ?_)
  refine a_iload_n C (tk T_cX3_leftBits 6 rfl) rfl ?_
  refine a_callV C [.int r1, .int x2] me_yX3_survey lk_RX3_155 (ct_Judge_survey h) (by decide) lc69 rfl rfl rfl (Nat.le_of_ble_eq_true rfl) (tk T_cX3_leftBits 7 rfl) hr (fun M2 h => ?_)
  refine a_aload_n C (tk T_cX3_leftBits 8 rfl) rfl ?_
  refine a_getI C f_RX3_55 (tk T_cX3_leftBits 9 rfl) lc69 rfl ?_
  refine a_aload_n C (tk T_cX3_leftBits 10 rfl) rfl ?_
  refine a_getI C f_RX3_58 (tk T_cX3_leftBits 11 rfl) lc69 rfl ?_
  refine a_iconst C (-1 : Int32) (tk T_cX3_leftBits 12 rfl) kI_m1 ?_
  refine a_ixor C (tk T_cX3_leftBits 13 rfl) ?_
  refine a_iand C (tk T_cX3_leftBits 14 rfl) ?_
  refine a_aload_n C (tk T_cX3_leftBits 15 rfl) rfl ?_
  refine a_getI C f_RX3_117 (tk T_cX3_leftBits 16 rfl) lc69 rfl ?_
  refine a_iconst C (-1 : Int32) (tk T_cX3_leftBits 17 rfl) kI_m1 ?_
  refine a_ixor C (tk T_cX3_leftBits 18 rfl) ?_
  refine a_iand C (tk T_cX3_leftBits 19 rfl) ?_
  refine a_top (fun v3 e_v3 => ?_)
  have h := h v3 e_v3
  exact hR _ _ _ _ (tk T_cX3_leftBits 20 rfl) h
theorem ct_Judge_leftBits {l : Launch} {g : GT} {ext : List CD} {post : Int32 → Mem → Prop} {x1 x2 : Int32} {M : Mem} (h : P_Judge_leftBits post x1 x2 M) : CI l g (layC ++ ext) yX3_leftBits cX3_leftBits 3 (some .int) 3 [.ref (ad g 69), .int x1, .int x2] M post :=
  ci_of (plainFor_of_name (by decide +kernel)) (Nat.le_of_ble_eq_true rfl) (fun X A Z hl C hr hR => by subst hl; exact k_Judge_leftBits C hr hR x1 x2 M h)
def T_cX11_leftL : List (Nat × Instr × Nat) := [(0, .aload_n 0, 1), (1, .iload_n 1, 1), (2, .invokevirtual 232, 3), (5, .iload_n 3, 1), (6, .invokestatic 254, 3), (9, .aload_n 0, 1), (10, .getfield 33, 3), (13, .iload_n 1, 1), (14, .invokevirtual 264, 3), (17, .aload_n 0, 1), (18, .getfield 33, 3), (21, .iload_n 2, 1), (22, .iload_n 3, 1), (23, .invokevirtual 286, 3), (26, .ireturn, 1)]
theorem T_cX11_left : tabOK cX11_left T_cX11_leftL = true := by decide +kernel
def P_R_left (post : Int32 → Mem → Prop) (ex : String → Mem → Prop) (x1 x2 x3 : Int32) (M : Mem) : Prop :=
  P_R_wantPlate (fun M1 =>
  P_R_wantSpeed (fun M2 =>
  P_Judge_open (fun M3 =>
  P_Judge_leftBits (fun r4 M4 =>
  post r4 M4) x2 x3 M3) x1 M2) ex x3 M1) ex x1 M
theorem k_R_left {X : FX} {g : GT} {ext : List CD} {A : Nat → Prop} {Z : State → Prop} {post : Int32 → Mem → Prop} {ex : String → Mem → Prop} {sk : Nat → Nat} (C : CxX X g (layC ++ ext) A cX11_left 4 RX11 8 2 sk) (hT : ThX X g (layC ++ ext) A 2 Z ex) (hR : RetI X g (layC ++ ext) A cX11_left 4 2 (6 * 2) Z post) (x1 x2 x3 : Int32) (M : Mem) (h : P_R_left post ex x1 x2 x3 M) : AtX X g (layC ++ ext) A 4 0 0 Z 0 [(0, .ref (ad g 0)), (1, .int x1), (2, .int x2), (3, .int x3)] [] M := by
  refine a_aload_n C.1 (tk T_cX11_left 0 rfl) rfl ?_
  refine a_iload_n C.1 (tk T_cX11_left 1 rfl) rfl ?_
  refine x_callV C hT [.int x1] me_yX11_wantPlate lk_RX11_232 (ct_R_wantPlate h) (by decide) lc0 rfl rfl rfl (Nat.le_of_ble_eq_true rfl) (tk T_cX11_left 2 rfl) (by decide) (fun M1 h => ?_)
  refine a_iload_n C.1 (tk T_cX11_left 3 rfl) rfl ?_
  refine x_statV C hT [.int x3] me_yX11_wantSpeed lk_RX11_254 (ct_R_wantSpeed h) (by decide) rfl rfl (Nat.le_of_ble_eq_true rfl) (tk T_cX11_left 4 rfl) (by decide) (fun M2 h => ?_)
  refine a_aload_n C.1 (tk T_cX11_left 5 rfl) rfl ?_
  refine a_getR C.1 f_RX11_33 (tk T_cX11_left 6 rfl) lc0 rfl ?_
  refine a_iload_n C.1 (tk T_cX11_left 7 rfl) rfl ?_
  refine a_callV C.1 [.int x1] me_yX3_open lk_RX11_264 (ct_Judge_open h) (by decide) lc69 rfl rfl rfl (Nat.le_of_ble_eq_true rfl) (tk T_cX11_left 8 rfl) ⟨Nat.le_trans (by decide) C.2.2.1, Nat.le_trans (by decide) C.2.2.2⟩ (fun M3 h => ?_)
  refine a_aload_n C.1 (tk T_cX11_left 9 rfl) rfl ?_
  refine a_getR C.1 f_RX11_33 (tk T_cX11_left 10 rfl) lc0 rfl ?_
  refine a_iload_n C.1 (tk T_cX11_left 11 rfl) rfl ?_
  refine a_iload_n C.1 (tk T_cX11_left 12 rfl) rfl ?_
  refine a_callI C.1 [.int x2, .int x3] me_yX3_leftBits lk_RX11_286 (ct_Judge_leftBits h) (by decide) lc69 rfl rfl rfl (Nat.le_of_ble_eq_true rfl) (tk T_cX11_left 13 rfl) ⟨Nat.le_trans (by decide) C.2.2.1, Nat.le_trans (by decide) C.2.2.2⟩ (fun r4 M4 h => ?_)
  exact x_widen (by decide) (by decide) (hR _ _ _ _ (tk T_cX11_left 14 rfl) h)
theorem ct_R_left {l : Launch} {g : GT} {ext : List CD} {sk : Nat → Nat} {post : Int32 → Mem → Prop} {ex : String → Mem → Prop} {x1 x2 x3 : Int32} {M : Mem} (h : P_R_left post ex x1 x2 x3 M) : XI l g (layC ++ ext) sk yX11_left cX11_left 4 (some .int) 8 2 [.ref (ad g 0), .int x1, .int x2, .int x3] M post ex :=
  xi_of (by decide +kernel) (Nat.le_of_ble_eq_true rfl) (fun X A Z hl C hR hT _ => by subst hl; exact k_R_left C hT hR x1 x2 x3 M h)
def T_cX11_missedL : List (Nat × Instr × Nat) := [(0, .aload_n 0, 1), (1, .iload_n 1, 1), (2, .invokevirtual 232, 3), (5, .iload_n 3, 1), (6, .invokestatic 254, 3), (9, .aload_n 0, 1), (10, .getfield 33, 3), (13, .iload_n 1, 1), (14, .invokevirtual 264, 3), (17, .aload_n 0, 1), (18, .getfield 33, 3), (21, .aload_n 0, 1), (22, .getfield 10, 3), (25, .getfield 188, 3), (28, .iload_n 2, 1), (29, .invokevirtual 290, 3), (32, .iload_n 3, 1), (33, .invokevirtual 293, 3), (36, .aload_n 0, 1), (37, .getfield 33, 3), (40, .getfield 296, 3), (43, .ireturn, 1)]
theorem T_cX11_missed : tabOK cX11_missed T_cX11_missedL = true := by decide +kernel
def P_R_missed (post : Int32 → Mem → Prop) (ex : String → Mem → Prop) (x1 x2 x3 : Int32) (M : Mem) : Prop :=
  P_R_wantPlate (fun M1 =>
  P_R_wantSpeed (fun M2 =>
  P_Judge_open (fun M3 =>
  P_Table_withAir (fun r4 M4 =>
  P_Judge_survey (fun M5 =>
  post (M5 69 14) M5) r4 x3 M4) x2 M3) x1 M2) ex x3 M1) ex x1 M
theorem k_R_missed {X : FX} {g : GT} {ext : List CD} {A : Nat → Prop} {Z : State → Prop} {post : Int32 → Mem → Prop} {ex : String → Mem → Prop} {sk : Nat → Nat} (C : CxX X g (layC ++ ext) A cX11_missed 4 RX11 8 2 sk) (hT : ThX X g (layC ++ ext) A 2 Z ex) (hR : RetI X g (layC ++ ext) A cX11_missed 4 2 (6 * 2) Z post) (x1 x2 x3 : Int32) (M : Mem) (h : P_R_missed post ex x1 x2 x3 M) : AtX X g (layC ++ ext) A 4 0 0 Z 0 [(0, .ref (ad g 0)), (1, .int x1), (2, .int x2), (3, .int x3)] [] M := by
  refine a_aload_n C.1 (tk T_cX11_missed 0 rfl) rfl ?_
  refine a_iload_n C.1 (tk T_cX11_missed 1 rfl) rfl ?_
  refine x_callV C hT [.int x1] me_yX11_wantPlate lk_RX11_232 (ct_R_wantPlate h) (by decide) lc0 rfl rfl rfl (Nat.le_of_ble_eq_true rfl) (tk T_cX11_missed 2 rfl) (by decide) (fun M1 h => ?_)
  refine a_iload_n C.1 (tk T_cX11_missed 3 rfl) rfl ?_
  refine x_statV C hT [.int x3] me_yX11_wantSpeed lk_RX11_254 (ct_R_wantSpeed h) (by decide) rfl rfl (Nat.le_of_ble_eq_true rfl) (tk T_cX11_missed 4 rfl) (by decide) (fun M2 h => ?_)
  refine a_aload_n C.1 (tk T_cX11_missed 5 rfl) rfl ?_
  refine a_getR C.1 f_RX11_33 (tk T_cX11_missed 6 rfl) lc0 rfl ?_
  refine a_iload_n C.1 (tk T_cX11_missed 7 rfl) rfl ?_
  refine a_callV C.1 [.int x1] me_yX3_open lk_RX11_264 (ct_Judge_open h) (by decide) lc69 rfl rfl rfl (Nat.le_of_ble_eq_true rfl) (tk T_cX11_missed 8 rfl) ⟨Nat.le_trans (by decide) C.2.2.1, Nat.le_trans (by decide) C.2.2.2⟩ (fun M3 h => ?_)
  refine a_aload_n C.1 (tk T_cX11_missed 9 rfl) rfl ?_
  refine a_getR C.1 f_RX11_33 (tk T_cX11_missed 10 rfl) lc0 rfl ?_
  refine a_aload_n C.1 (tk T_cX11_missed 11 rfl) rfl ?_
  refine a_getR C.1 f_RX11_10 (tk T_cX11_missed 12 rfl) lc0 rfl ?_
  refine a_getR C.1 f_RX11_188 (tk T_cX11_missed 13 rfl) lc1 rfl ?_
  refine a_iload_n C.1 (tk T_cX11_missed 14 rfl) rfl ?_
  refine a_callI C.1 [.int x2] me_yX10_withAir lk_RX11_290 (ct_Table_withAir h) (by decide) lc13 rfl rfl rfl (Nat.le_of_ble_eq_true rfl) (tk T_cX11_missed 15 rfl) ⟨Nat.le_trans (by decide) C.2.2.1, Nat.le_trans (by decide) C.2.2.2⟩ (fun r4 M4 h => ?_)
  refine a_iload_n C.1 (tk T_cX11_missed 16 rfl) rfl ?_
  refine a_callV C.1 [.int r4, .int x3] me_yX3_survey lk_RX11_293 (ct_Judge_survey h) (by decide) lc69 rfl rfl rfl (Nat.le_of_ble_eq_true rfl) (tk T_cX11_missed 17 rfl) ⟨Nat.le_trans (by decide) C.2.2.1, Nat.le_trans (by decide) C.2.2.2⟩ (fun M5 h => ?_)
  refine a_aload_n C.1 (tk T_cX11_missed 18 rfl) rfl ?_
  refine a_getR C.1 f_RX11_33 (tk T_cX11_missed 19 rfl) lc0 rfl ?_
  refine a_getI C.1 f_RX11_296 (tk T_cX11_missed 20 rfl) lc69 rfl ?_
  exact x_widen (by decide) (by decide) (hR _ _ _ _ (tk T_cX11_missed 21 rfl) h)
theorem ct_R_missed {l : Launch} {g : GT} {ext : List CD} {sk : Nat → Nat} {post : Int32 → Mem → Prop} {ex : String → Mem → Prop} {x1 x2 x3 : Int32} {M : Mem} (h : P_R_missed post ex x1 x2 x3 M) : XI l g (layC ++ ext) sk yX11_missed cX11_missed 4 (some .int) 8 2 [.ref (ad g 0), .int x1, .int x2, .int x3] M post ex :=
  xi_of (by decide +kernel) (Nat.le_of_ble_eq_true rfl) (fun X A Z hl C hR hT _ => by subst hl; exact k_R_missed C hT hR x1 x2 x3 M h)
def T_cX11_speedsL : List (Nat × Instr × Nat) := [(0, .aload_n 0, 1), (1, .iload_n 1, 1), (2, .invokevirtual 232, 3), (5, .iload_n 3, 1), (6, .iconst 0, 1), (7, .iconst 2, 1), (8, .invokestatic 68, 3), (11, .invokestatic 166, 3), (14, .aload_n 0, 1), (15, .getfield 33, 3), (18, .iload_n 1, 1), (19, .invokevirtual 264, 3), (22, .iconst 0, 1), (23, .istore 4, 2), (25, .bipush 99, 2), (27, .istore 5, 2), (29, .bipush 99, 2), (31, .istore 6, 2), (33, .bipush (-50), 2), (35, .istore 7, 2), (37, .iload 7, 2), (39, .bipush 50, 2), (41, .if_icmp .gt 43, 3), (44, .aload_n 0, 1), (45, .getfield 33, 3), (48, .iload_n 2, 1), (49, .iload 7, 2), (51, .invokevirtual 267, 3), (54, .ifCond .eq 24, 3), (57, .iload 4, 2), (59, .ifCond .ne 8, 3), (62, .iload 7, 2), (64, .goto 5, 3), (67, .iload 5, 2), (69, .istore 5, 2), (71, .iload 7, 2), (73, .istore 6, 2), (75, .iinc 4 1, 3), (78, .iinc 7 1, 3), (81, .goto (-44), 3), (84, .iload_n 3, 1), (85, .ifCond .ne 6, 3), (88, .iload 4, 2), (90, .ireturn, 1), (91, .iload_n 3, 1), (92, .iconst 1, 1), (93, .if_icmp .ne 8, 3), (96, .iload 5, 2), (98, .goto 5, 3), (101, .iload 6, 2), (103, .ireturn, 1)]
theorem T_cX11_speeds : tabOK cX11_speeds T_cX11_speedsL = true := by decide +kernel
def P_R_speeds_103 (post : Int32 → Mem → Prop) (ex : String → Mem → Prop) (s0 : Int32) (M : Mem) : Prop :=
  post s0 M
theorem k_R_speeds_103 {X : FX} {g : GT} {ext : List CD} {A : Nat → Prop} {Z : State → Prop} {post : Int32 → Mem → Prop} {ex : String → Mem → Prop} {sk : Nat → Nat} (C : CxX X g (layC ++ ext) A cX11_speeds 8 RX11 8 2 sk) (hT : ThX X g (layC ++ ext) A 2 Z ex) (hR : RetI X g (layC ++ ext) A cX11_speeds 8 2 (6 * 2) Z post) (s0 : Int32) (M : Mem) (h : P_R_speeds_103 post ex s0 M) : AtX X g (layC ++ ext) A 8 2 (6 * 2) Z 103 [] [.int s0] M := by
  exact x_widen (by decide) (by decide) (hR _ _ _ _ (tk T_cX11_speeds 50 rfl) h)
def P_R_speeds_78 (post : Int32 → Mem → Prop) (ex : String → Mem → Prop) (R37 : Int32 → Int32 → Int32 → Int32 → Int32 → Int32 → Mem → Prop) (x2 x3 x4 x5 x6 x7 : Int32) (M : Mem) : Prop :=
  R37 x2 x3 x4 x5 x6 (x7 + (1 : Int32)) M
theorem k_R_speeds_78 {X : FX} {g : GT} {ext : List CD} {A : Nat → Prop} {Z : State → Prop} {post : Int32 → Mem → Prop} {R37 : Int32 → Int32 → Int32 → Int32 → Int32 → Int32 → Mem → Prop} {ex : String → Mem → Prop} {sk : Nat → Nat} (C : CxX X g (layC ++ ext) A cX11_speeds 8 RX11 8 2 sk) (hT : ThX X g (layC ++ ext) A 2 Z ex) (hR : RetI X g (layC ++ ext) A cX11_speeds 8 2 (6 * 2) Z post) (k37 : ∀ (y2 y3 y4 y5 y6 y7 : Int32) (M : Mem), R37 y2 y3 y4 y5 y6 y7 M → AtX X g (layC ++ ext) A 8 2 (6 * 2) Z 37 [(0, .ref (ad g 0)), (2, .int y2), (3, .int y3), (4, .int y4), (5, .int y5), (6, .int y6), (7, .int y7)] [] M) (x2 x3 x4 x5 x6 x7 : Int32) (M : Mem) (h : P_R_speeds_78 post ex R37 x2 x3 x4 x5 x6 x7 M) : AtX X g (layC ++ ext) A 8 2 (6 * 2) Z 78 [(0, .ref (ad g 0)), (2, .int x2), (3, .int x3), (4, .int x4), (5, .int x5), (6, .int x6), (7, .int x7)] [] M := by
  refine a_iinc C.1 (1 : Int32) (tk T_cX11_speeds 38 rfl) rfl kI_1 (by decide) rfl ?_
  refine a_goto C.1 37 (tk T_cX11_speeds 39 rfl) rfl ?_
  exact x_widen (by decide) (by decide) (a_to (k37 x2 x3 x4 x5 x6 (x7 + (1 : Int32)) M h) rfl)
def P_R_speeds_69 (post : Int32 → Mem → Prop) (ex : String → Mem → Prop) (R37 : Int32 → Int32 → Int32 → Int32 → Int32 → Int32 → Mem → Prop) (x2 x3 x4 x7 s0 : Int32) (M : Mem) : Prop :=
  P_R_speeds_78 post ex R37 x2 x3 (x4 + (1 : Int32)) s0 x7 x7 M
theorem k_R_speeds_69 {X : FX} {g : GT} {ext : List CD} {A : Nat → Prop} {Z : State → Prop} {post : Int32 → Mem → Prop} {R37 : Int32 → Int32 → Int32 → Int32 → Int32 → Int32 → Mem → Prop} {ex : String → Mem → Prop} {sk : Nat → Nat} (C : CxX X g (layC ++ ext) A cX11_speeds 8 RX11 8 2 sk) (hT : ThX X g (layC ++ ext) A 2 Z ex) (hR : RetI X g (layC ++ ext) A cX11_speeds 8 2 (6 * 2) Z post) (k37 : ∀ (y2 y3 y4 y5 y6 y7 : Int32) (M : Mem), R37 y2 y3 y4 y5 y6 y7 M → AtX X g (layC ++ ext) A 8 2 (6 * 2) Z 37 [(0, .ref (ad g 0)), (2, .int y2), (3, .int y3), (4, .int y4), (5, .int y5), (6, .int y6), (7, .int y7)] [] M) (x2 x3 x4 x7 s0 : Int32) (M : Mem) (h : P_R_speeds_69 post ex R37 x2 x3 x4 x7 s0 M) : AtX X g (layC ++ ext) A 8 2 (6 * 2) Z 69 [(0, .ref (ad g 0)), (2, .int x2), (3, .int x3), (4, .int x4), (7, .int x7)] [.int s0] M := by
  refine a_istore C.1 (tk T_cX11_speeds 34 rfl) (by decide) rfl ?_
  refine a_iload C.1 (tk T_cX11_speeds 35 rfl) rfl ?_
  refine a_istore C.1 (tk T_cX11_speeds 36 rfl) (by decide) rfl ?_
  refine a_iinc C.1 (1 : Int32) (tk T_cX11_speeds 37 rfl) rfl kI_1 (by decide) rfl ?_
  exact x_widen (by decide) (by decide) (a_to (k_R_speeds_78 C hT hR k37 x2 x3 (x4 + (1 : Int32)) s0 x7 x7 M h) rfl)
def P_R_speeds_37 (post : Int32 → Mem → Prop) (ex : String → Mem → Prop) : Nat → Int32 → Int32 → Int32 → Int32 → Int32 → Int32 → Mem → Prop
  | 0, _, _, _, _, _, _, _ => False
  | n + 1, x2, x3, x4, x5, x6, x7, M =>
    ((50 : Int32) < x7 → ((¬ x3 = 0 → ((¬ x3 = (1 : Int32) → (P_R_speeds_103 post ex x6 M)) ∧
  (x3 = (1 : Int32) → (P_R_speeds_103 post ex x5 M)))) ∧
  (x3 = 0 → (post x4 M)))) ∧
  (¬ (50 : Int32) < x7 → (P_Judge_isExplained (fun r1 M1 =>
  (r1 = 0 → (P_R_speeds_78 post ex (P_R_speeds_37 post ex n) x2 x3 x4 x5 x6 x7 M1)) ∧
  (¬ r1 = 0 → ((¬ x4 = 0 → (P_R_speeds_69 post ex (P_R_speeds_37 post ex n) x2 x3 x4 x7 x5 M1)) ∧
  (x4 = 0 → (P_R_speeds_69 post ex (P_R_speeds_37 post ex n) x2 x3 x4 x7 x7 M1))))) x2 x7 M))
theorem k_R_speeds_37 {X : FX} {g : GT} {ext : List CD} {A : Nat → Prop} {Z : State → Prop} {post : Int32 → Mem → Prop} {ex : String → Mem → Prop} {sk : Nat → Nat} (C : CxX X g (layC ++ ext) A cX11_speeds 8 RX11 8 2 sk) (hT : ThX X g (layC ++ ext) A 2 Z ex) (hR : RetI X g (layC ++ ext) A cX11_speeds 8 2 (6 * 2) Z post) : ∀ (n : Nat) (x2 x3 x4 x5 x6 x7 : Int32) (M : Mem), P_R_speeds_37 post ex n x2 x3 x4 x5 x6 x7 M → AtX X g (layC ++ ext) A 8 2 (6 * 2) Z 37 [(0, .ref (ad g 0)), (2, .int x2), (3, .int x3), (4, .int x4), (5, .int x5), (6, .int x6), (7, .int x7)] [] M := by
  intro n
  induction n with
  | zero =>
    intro x2 x3 x4 x5 x6 x7 M h
    exact h.elim
  | succ n ih =>
    intro x2 x3 x4 x5 x6 x7 M h
    refine a_iload C.1 (tk T_cX11_speeds 20 rfl) rfl ?_
    refine a_bipush C.1 (50 : Int32) (tk T_cX11_speeds 21 rfl) kB_50 ?_
    refine a_icmp_gt C.1 84 (tk T_cX11_speeds 22 rfl) rfl (fun c => ?_) (fun c => ?_)
    · have h := h.1 c
      refine a_iload_n C.1 (tk T_cX11_speeds 40 rfl) rfl ?_
      refine a_if_ne C.1 91 (tk T_cX11_speeds 41 rfl) rfl (fun c => ?_) (fun c => ?_)
      · have h := h.1 c
        refine a_iload_n C.1 (tk T_cX11_speeds 44 rfl) rfl ?_
        refine a_iconst C.1 (1 : Int32) (tk T_cX11_speeds 45 rfl) kI_1 ?_
        refine a_icmp_ne C.1 101 (tk T_cX11_speeds 46 rfl) rfl (fun c => ?_) (fun c => ?_)
        · have h := h.1 c
          refine a_iload C.1 (tk T_cX11_speeds 49 rfl) rfl ?_
          exact x_widen (by decide) (by decide) (a_to (k_R_speeds_103 C hT hR x6 M h) rfl)
        · have h := h.2 c
          refine a_iload C.1 (tk T_cX11_speeds 47 rfl) rfl ?_
          refine a_goto C.1 103 (tk T_cX11_speeds 48 rfl) rfl ?_
          exact x_widen (by decide) (by decide) (a_to (k_R_speeds_103 C hT hR x5 M h) rfl)
      · have h := h.2 c
        refine a_iload C.1 (tk T_cX11_speeds 42 rfl) rfl ?_
        exact x_widen (by decide) (by decide) (hR _ _ _ _ (tk T_cX11_speeds 43 rfl) h)
    · have h := h.2 c
      refine a_aload_n C.1 (tk T_cX11_speeds 23 rfl) rfl ?_
      refine a_getR C.1 f_RX11_33 (tk T_cX11_speeds 24 rfl) lc0 rfl ?_
      refine a_iload_n C.1 (tk T_cX11_speeds 25 rfl) rfl ?_
      refine a_iload C.1 (tk T_cX11_speeds 26 rfl) rfl ?_
      refine a_callI C.1 [.int x2, .int x7] me_yX3_isExplained lk_RX11_267 (ct_Judge_isExplained h) (by decide) lc69 rfl rfl rfl (Nat.le_of_ble_eq_true rfl) (tk T_cX11_speeds 27 rfl) ⟨Nat.le_trans (by decide) C.2.2.1, Nat.le_trans (by decide) C.2.2.2⟩ (fun r1 M1 h => ?_)
      refine a_if_eq C.1 78 (tk T_cX11_speeds 28 rfl) rfl (fun c => ?_) (fun c => ?_)
      · have h := h.1 c
        exact x_widen (by decide) (by decide) (a_to (k_R_speeds_78 C hT hR ih x2 x3 x4 x5 x6 x7 M1 h) rfl)
      · have h := h.2 c
        refine a_iload C.1 (tk T_cX11_speeds 29 rfl) rfl ?_
        refine a_if_ne C.1 67 (tk T_cX11_speeds 30 rfl) rfl (fun c => ?_) (fun c => ?_)
        · have h := h.1 c
          refine a_iload C.1 (tk T_cX11_speeds 33 rfl) rfl ?_
          exact x_widen (by decide) (by decide) (a_to (k_R_speeds_69 C hT hR ih x2 x3 x4 x7 x5 M1 h) rfl)
        · have h := h.2 c
          refine a_iload C.1 (tk T_cX11_speeds 31 rfl) rfl ?_
          refine a_goto C.1 69 (tk T_cX11_speeds 32 rfl) rfl ?_
          exact x_widen (by decide) (by decide) (a_to (k_R_speeds_69 C hT hR ih x2 x3 x4 x7 x7 M1 h) rfl)
def P_R_speeds (post : Int32 → Mem → Prop) (ex : String → Mem → Prop) (x1 x2 x3 : Int32) (M : Mem) : Prop :=
  P_R_wantPlate (fun M1 =>
  P_R_within (fun r2 M2 =>
  P_R_wantWhat (fun M3 =>
  P_Judge_open (fun M4 =>
  ∃ j37, P_R_speeds_37 post ex j37 x2 x3 (0 : Int32) (99 : Int32) (99 : Int32) (-50 : Int32) M4) x1 M3) ex r2 M2) x3 (0 : Int32) (2 : Int32) M1) ex x1 M
theorem k_R_speeds {X : FX} {g : GT} {ext : List CD} {A : Nat → Prop} {Z : State → Prop} {post : Int32 → Mem → Prop} {ex : String → Mem → Prop} {sk : Nat → Nat} (C : CxX X g (layC ++ ext) A cX11_speeds 8 RX11 8 2 sk) (hT : ThX X g (layC ++ ext) A 2 Z ex) (hR : RetI X g (layC ++ ext) A cX11_speeds 8 2 (6 * 2) Z post) (x1 x2 x3 : Int32) (M : Mem) (h : P_R_speeds post ex x1 x2 x3 M) : AtX X g (layC ++ ext) A 8 0 0 Z 0 [(0, .ref (ad g 0)), (1, .int x1), (2, .int x2), (3, .int x3)] [] M := by
  refine a_aload_n C.1 (tk T_cX11_speeds 0 rfl) rfl ?_
  refine a_iload_n C.1 (tk T_cX11_speeds 1 rfl) rfl ?_
  refine x_callV C hT [.int x1] me_yX11_wantPlate lk_RX11_232 (ct_R_wantPlate h) (by decide) lc0 rfl rfl rfl (Nat.le_of_ble_eq_true rfl) (tk T_cX11_speeds 2 rfl) (by decide) (fun M1 h => ?_)
  refine a_iload_n C.1 (tk T_cX11_speeds 3 rfl) rfl ?_
  refine a_iconst C.1 (0 : Int32) (tk T_cX11_speeds 4 rfl) kI_0 ?_
  refine a_iconst C.1 (2 : Int32) (tk T_cX11_speeds 5 rfl) kI_2 ?_
  refine a_statI C.1 [.int x3, .int (0 : Int32), .int (2 : Int32)] me_yX11_within lk_RX11_68 (ct_R_within h) (by decide) rfl rfl (Nat.le_of_ble_eq_true rfl) (tk T_cX11_speeds 6 rfl) ⟨Nat.le_trans (by decide) C.2.2.1, Nat.le_trans (by decide) C.2.2.2⟩ (fun r2 M2 h => ?_)
  refine x_statV C hT [.int r2] me_yX11_wantWhat lk_RX11_166 (ct_R_wantWhat h) (by decide) rfl rfl (Nat.le_of_ble_eq_true rfl) (tk T_cX11_speeds 7 rfl) (by decide) (fun M3 h => ?_)
  refine a_aload_n C.1 (tk T_cX11_speeds 8 rfl) rfl ?_
  refine a_getR C.1 f_RX11_33 (tk T_cX11_speeds 9 rfl) lc0 rfl ?_
  refine a_iload_n C.1 (tk T_cX11_speeds 10 rfl) rfl ?_
  refine a_callV C.1 [.int x1] me_yX3_open lk_RX11_264 (ct_Judge_open h) (by decide) lc69 rfl rfl rfl (Nat.le_of_ble_eq_true rfl) (tk T_cX11_speeds 11 rfl) ⟨Nat.le_trans (by decide) C.2.2.1, Nat.le_trans (by decide) C.2.2.2⟩ (fun M4 h => ?_)
  refine a_iconst C.1 (0 : Int32) (tk T_cX11_speeds 12 rfl) kI_0 ?_
  refine a_istore C.1 (tk T_cX11_speeds 13 rfl) (by decide) rfl ?_
  refine a_bipush C.1 (99 : Int32) (tk T_cX11_speeds 14 rfl) kB_99 ?_
  refine a_istore C.1 (tk T_cX11_speeds 15 rfl) (by decide) rfl ?_
  refine a_bipush C.1 (99 : Int32) (tk T_cX11_speeds 16 rfl) kB_99 ?_
  refine a_istore C.1 (tk T_cX11_speeds 17 rfl) (by decide) rfl ?_
  refine a_bipush C.1 (-50 : Int32) (tk T_cX11_speeds 18 rfl) kB_m50 ?_
  refine a_istore C.1 (tk T_cX11_speeds 19 rfl) (by decide) rfl ?_
  obtain ⟨n1, h⟩ := h
  exact x_widen (by decide) (by decide) (a_to (k_R_speeds_37 C hT hR n1 x2 x3 (0 : Int32) (99 : Int32) (99 : Int32) (-50 : Int32) M4 h) rfl)
theorem ct_R_speeds {l : Launch} {g : GT} {ext : List CD} {sk : Nat → Nat} {post : Int32 → Mem → Prop} {ex : String → Mem → Prop} {x1 x2 x3 : Int32} {M : Mem} (h : P_R_speeds post ex x1 x2 x3 M) : XI l g (layC ++ ext) sk yX11_speeds cX11_speeds 8 (some .int) 8 2 [.ref (ad g 0), .int x1, .int x2, .int x3] M post ex :=
  xi_of (by decide +kernel) (Nat.le_of_ble_eq_true rfl) (fun X A Z hl C hR hT _ => by subst hl; exact k_R_speeds C hT hR x1 x2 x3 M h)
def T_cX3_shownL : List (Nat × Instr × Nat) := [(0, .bipush 9, 2), (2, .iload_n 0, 1), (3, .iload_n 1, 1), (4, .imul, 1), (5, .iconst 5, 1), (6, .idiv, 1), (7, .invokestatic 201, 3), (10, .istore_n 2, 1), (11, .iload_n 1, 1), (12, .bipush 6, 2), (14, .if_icmp .le 24, 3), (17, .iload_n 0, 1), (18, .bipush 7, 2), (20, .if_icmp .lt 18, 3), (23, .iconst 0, 1), (24, .iload_n 2, 1), (25, .iconst 2, 1), (26, .iload_n 1, 1), (27, .bipush 6, 2), (29, .isub, 1), (30, .imul, 1), (31, .isub, 1), (32, .invokestatic 206, 3), (35, .goto 4, 3), (38, .iload_n 2, 1), (39, .ireturn, 1)]
theorem T_cX3_shown : tabOK cX3_shown T_cX3_shownL = true := by decide +kernel
def P_Judge_shown_39 (post : Int32 → Mem → Prop) (s0 : Int32) (M : Mem) : Prop :=
  post s0 M
theorem k_Judge_shown_39 {X : FX} {g : GT} {ext : List CD} {A : Nat → Prop} {Z : State → Prop} {post : Int32 → Mem → Prop} (C : Cx X g (layC ++ ext) A cX3_shown 3 RX3 1) (hr : 0 ≤ X.2.2.2.1.cells ∧ 0 ≤ X.2.2.2.1.slots) (hR : RetI X g (layC ++ ext) A cX3_shown 3 0 0 Z post) (s0 : Int32) (M : Mem) (h : P_Judge_shown_39 post s0 M) : AtX X g (layC ++ ext) A 3 0 0 Z 39 [] [.int s0] M := by
  exact hR _ _ _ _ (tk T_cX3_shown 25 rfl) h
def P_Judge_shown_38 (post : Int32 → Mem → Prop) (x2 : Int32) (M : Mem) : Prop :=
  P_Judge_shown_39 post x2 M
theorem k_Judge_shown_38 {X : FX} {g : GT} {ext : List CD} {A : Nat → Prop} {Z : State → Prop} {post : Int32 → Mem → Prop} (C : Cx X g (layC ++ ext) A cX3_shown 3 RX3 1) (hr : 0 ≤ X.2.2.2.1.cells ∧ 0 ≤ X.2.2.2.1.slots) (hR : RetI X g (layC ++ ext) A cX3_shown 3 0 0 Z post) (x2 : Int32) (M : Mem) (h : P_Judge_shown_38 post x2 M) : AtX X g (layC ++ ext) A 3 0 0 Z 38 [(2, .int x2)] [] M := by
  refine a_iload_n C (tk T_cX3_shown 24 rfl) rfl ?_
  exact a_to (k_Judge_shown_39 C hr hR x2 M h) rfl
def P_Judge_shown (post : Int32 → Mem → Prop) (x0 x1 : Int32) (M : Mem) : Prop :=
  P_Math_min (fun r1 M1 =>
  (x1 ≤ (6 : Int32) → (P_Judge_shown_38 post r1 M1)) ∧
  (¬ x1 ≤ (6 : Int32) → ((x0 < (7 : Int32) → (P_Judge_shown_38 post r1 M1)) ∧
  (¬ x0 < (7 : Int32) → (P_Math_max (fun r2 M2 =>
  P_Judge_shown_39 post r2 M2) (0 : Int32) (r1 - ((2 : Int32) * (x1 - (6 : Int32)))) M1))))) (9 : Int32) ((x0 * x1) / (5 : Int32)) M
theorem k_Judge_shown {X : FX} {g : GT} {ext : List CD} {A : Nat → Prop} {Z : State → Prop} {post : Int32 → Mem → Prop} (C : Cx X g (layC ++ ext) A cX3_shown 3 RX3 1) (hr : 0 ≤ X.2.2.2.1.cells ∧ 0 ≤ X.2.2.2.1.slots) (hR : RetI X g (layC ++ ext) A cX3_shown 3 0 0 Z post) (x0 x1 : Int32) (M : Mem) (h : P_Judge_shown post x0 x1 M) : AtX X g (layC ++ ext) A 3 0 0 Z 0 [(0, .int x0), (1, .int x1)] [] M := by
  refine a_bipush C (9 : Int32) (tk T_cX3_shown 0 rfl) kB_9 ?_
  refine a_iload_n C (tk T_cX3_shown 1 rfl) rfl ?_
  refine a_iload_n C (tk T_cX3_shown 2 rfl) rfl ?_
  refine a_imul C (tk T_cX3_shown 3 rfl) ?_
  refine a_iconst C (5 : Int32) (tk T_cX3_shown 4 rfl) kI_5 ?_
  refine a_idiv C (tk T_cX3_shown 5 rfl) (by decide) ?_
  refine a_statI C [.int (9 : Int32), .int ((x0 * x1) / (5 : Int32))] me_yJ9_min_7cf53 lk_RX3_201 (ct_Math_min h) (by decide) rfl rfl (Nat.le_of_ble_eq_true rfl) (tk T_cX3_shown 6 rfl) hr (fun r1 M1 h => ?_)
  refine a_istore_n C (tk T_cX3_shown 7 rfl) (by decide) rfl ?_
  refine a_iload_n C (tk T_cX3_shown 8 rfl) rfl ?_
  refine a_bipush C (6 : Int32) (tk T_cX3_shown 9 rfl) kB_6 ?_
  refine a_icmp_le C 38 (tk T_cX3_shown 10 rfl) rfl (fun c => ?_) (fun c => ?_)
  · have h := h.1 c
    exact a_to (k_Judge_shown_38 C hr hR r1 M1 h) rfl
  · have h := h.2 c
    refine a_iload_n C (tk T_cX3_shown 11 rfl) rfl ?_
    refine a_bipush C (7 : Int32) (tk T_cX3_shown 12 rfl) kB_7 ?_
    refine a_icmp_lt C 38 (tk T_cX3_shown 13 rfl) rfl (fun c => ?_) (fun c => ?_)
    · have h := h.1 c
      exact a_to (k_Judge_shown_38 C hr hR r1 M1 h) rfl
    · have h := h.2 c
      refine a_iconst C (0 : Int32) (tk T_cX3_shown 14 rfl) kI_0 ?_
      refine a_iload_n C (tk T_cX3_shown 15 rfl) rfl ?_
      refine a_iconst C (2 : Int32) (tk T_cX3_shown 16 rfl) kI_2 ?_
      refine a_iload_n C (tk T_cX3_shown 17 rfl) rfl ?_
      refine a_bipush C (6 : Int32) (tk T_cX3_shown 18 rfl) kB_6 ?_
      refine a_isub C (tk T_cX3_shown 19 rfl) ?_
      refine a_imul C (tk T_cX3_shown 20 rfl) ?_
      refine a_isub C (tk T_cX3_shown 21 rfl) ?_
      refine a_statI C [.int (0 : Int32), .int (r1 - ((2 : Int32) * (x1 - (6 : Int32))))] me_yJ9_max_7cf53 lk_RX3_206 (ct_Math_max h) (by decide) rfl rfl (Nat.le_of_ble_eq_true rfl) (tk T_cX3_shown 22 rfl) hr (fun r2 M2 h => ?_)
      refine a_goto C 39 (tk T_cX3_shown 23 rfl) rfl ?_
      exact a_to (k_Judge_shown_39 C hr hR r2 M2 h) rfl
theorem ct_Judge_shown {l : Launch} {g : GT} {ext : List CD} {post : Int32 → Mem → Prop} {x0 x1 : Int32} {M : Mem} (h : P_Judge_shown post x0 x1 M) : CI l g (layC ++ ext) yX3_shown cX3_shown 3 (some .int) 1 [.int x0, .int x1] M post :=
  ci_of (plainFor_of_name (by decide +kernel)) (Nat.le_of_ble_eq_true rfl) (fun X A Z hl C hr hR => by subst hl; exact k_Judge_shown C hr hR x0 x1 M h)
def T_cX3_isSeenAsL : List (Nat × Instr × Nat) := [(0, .iconst 0, 1), (1, .istore_n 3, 1), (2, .iload_n 3, 1), (3, .aload_n 0, 1), (4, .getfield 38, 3), (7, .getfield 61, 3), (10, .getfield 67, 3), (13, .if_icmp .ge 62, 3), (16, .aload_n 0, 1), (17, .getfield 18, 3), (20, .iload_n 3, 1), (21, .iaload, 1), (22, .iconst 1, 1), (23, .if_icmp .ne 46, 3), (26, .iload_n 1, 1), (27, .aload_n 0, 1), (28, .getfield 9, 3), (31, .iload_n 3, 1), (32, .iaload, 1), (33, .aload_n 0, 1), (34, .getfield 15, 3), (37, .iload_n 3, 1), (38, .iaload, 1), (39, .invokestatic 113, 3), (42, .ifCond .eq 27, 3), (45, .aload_n 0, 1), (46, .getfield 38, 3), (49, .getfield 61, 3), (52, .getfield 200, 3), (55, .iload_n 3, 1), (56, .iaload, 1), (57, .iload_n 2, 1), (58, .isub, 1), (59, .iconst (-1), 1), (60, .iconst 1, 1), (61, .invokestatic 113, 3), (64, .ifCond .ne 5, 3), (67, .iconst 0, 1), (68, .ireturn, 1), (69, .iinc 3 1, 3), (72, .goto (-70), 3), (75, .iconst 1, 1), (76, .ireturn, 1)]
theorem T_cX3_isSeenAs : tabOK cX3_isSeenAs T_cX3_isSeenAsL = true := by decide +kernel
def P_Judge_isSeenAs_69 (post : Int32 → Mem → Prop) (R2 : Int32 → Int32 → Int32 → Mem → Prop) (x1 x2 x3 : Int32) (M : Mem) : Prop :=
  R2 x1 x2 (x3 + (1 : Int32)) M
theorem k_Judge_isSeenAs_69 {X : FX} {g : GT} {ext : List CD} {A : Nat → Prop} {Z : State → Prop} {post : Int32 → Mem → Prop} {R2 : Int32 → Int32 → Int32 → Mem → Prop} (C : Cx X g (layC ++ ext) A cX3_isSeenAs 4 RX3 1) (hr : 0 ≤ X.2.2.2.1.cells ∧ 0 ≤ X.2.2.2.1.slots) (hR : RetZ X g (layC ++ ext) A cX3_isSeenAs 4 0 0 Z post) (k2 : ∀ (y1 y2 y3 : Int32) (M : Mem), R2 y1 y2 y3 M → AtX X g (layC ++ ext) A 4 0 0 Z 2 [(0, .ref (ad g 69)), (1, .int y1), (2, .int y2), (3, .int y3)] [] M) (x1 x2 x3 : Int32) (M : Mem) (h : P_Judge_isSeenAs_69 post R2 x1 x2 x3 M) : AtX X g (layC ++ ext) A 4 0 0 Z 69 [(0, .ref (ad g 69)), (1, .int x1), (2, .int x2), (3, .int x3)] [] M := by
  refine a_iinc C (1 : Int32) (tk T_cX3_isSeenAs 39 rfl) rfl kI_1 (by decide) rfl ?_
  refine a_goto C 2 (tk T_cX3_isSeenAs 40 rfl) rfl ?_
  exact a_to (k2 x1 x2 (x3 + (1 : Int32)) M h) rfl
def P_Judge_isSeenAs_2 (post : Int32 → Mem → Prop) : Nat → Int32 → Int32 → Int32 → Mem → Prop
  | 0, _, _, _, _ => False
  | n + 1, x1, x2, x3, M =>
    ((M 18 11) ≤ x3 → (post (1 : Int32) M)) ∧
  (¬ (M 18 11) ≤ x3 → (vp_in x3 24 ∧ (¬ (M 72 x3.toNatClampNeg) = (1 : Int32) → (P_Judge_isSeenAs_69 post (P_Judge_isSeenAs_2 post n) x1 x2 x3 M)) ∧
  ((M 72 x3.toNatClampNeg) = (1 : Int32) → (vp_in x3 24 ∧ vp_in x3 24 ∧ P_R_within (fun r1 M1 =>
  (r1 = 0 → (P_Judge_isSeenAs_69 post (P_Judge_isSeenAs_2 post n) x1 x2 x3 M1)) ∧
  (¬ r1 = 0 → (vp_in x3 24 ∧ P_R_within (fun r2 M2 =>
  (¬ r2 = 0 → (P_Judge_isSeenAs_69 post (P_Judge_isSeenAs_2 post n) x1 x2 x3 M2)) ∧
  (r2 = 0 → (post (0 : Int32) M2))) ((M1 27 x3.toNatClampNeg) - x2) (-1 : Int32) (1 : Int32) M1))) x1 (M 70 x3.toNatClampNeg) (M 71 x3.toNatClampNeg) M))))
theorem k_Judge_isSeenAs_2 {X : FX} {g : GT} {ext : List CD} {A : Nat → Prop} {Z : State → Prop} {post : Int32 → Mem → Prop} (C : Cx X g (layC ++ ext) A cX3_isSeenAs 4 RX3 1) (hr : 0 ≤ X.2.2.2.1.cells ∧ 0 ≤ X.2.2.2.1.slots) (hR : RetZ X g (layC ++ ext) A cX3_isSeenAs 4 0 0 Z post) : ∀ (n : Nat) (x1 x2 x3 : Int32) (M : Mem), P_Judge_isSeenAs_2 post n x1 x2 x3 M → AtX X g (layC ++ ext) A 4 0 0 Z 2 [(0, .ref (ad g 69)), (1, .int x1), (2, .int x2), (3, .int x3)] [] M := by
  intro n
  induction n with
  | zero =>
    intro x1 x2 x3 M h
    exact h.elim
  | succ n ih =>
    intro x1 x2 x3 M h
    refine a_iload_n C (tk T_cX3_isSeenAs 2 rfl) rfl ?_
    refine a_aload_n C (tk T_cX3_isSeenAs 3 rfl) rfl ?_
    refine a_getR C f_RX3_38 (tk T_cX3_isSeenAs 4 rfl) lc69 rfl ?_
    refine a_getR C f_RX3_61 (tk T_cX3_isSeenAs 5 rfl) lc1 rfl ?_
    refine a_getI C f_RX3_67 (tk T_cX3_isSeenAs 6 rfl) lc18 rfl ?_
    refine a_icmp_ge C 75 (tk T_cX3_isSeenAs 7 rfl) rfl (fun c => ?_) (fun c => ?_)
    · have h := h.1 c
      refine a_iconst C (1 : Int32) (tk T_cX3_isSeenAs 41 rfl) kI_1 ?_
      exact hR _ _ _ _ (tk T_cX3_isSeenAs 42 rfl) ⟨Or.inr rfl, h⟩
    · have h := h.2 c
      refine a_aload_n C (tk T_cX3_isSeenAs 8 rfl) rfl ?_
      refine a_getR C f_RX3_18 (tk T_cX3_isSeenAs 9 rfl) lc69 rfl ?_
      refine a_iload_n C (tk T_cX3_isSeenAs 10 rfl) rfl ?_
      obtain ⟨hb, h⟩ := h
      refine a_iald C (tk T_cX3_isSeenAs 11 rfl) lc72 hb ?_
      refine a_iconst C (1 : Int32) (tk T_cX3_isSeenAs 12 rfl) kI_1 ?_
      refine a_icmp_ne C 69 (tk T_cX3_isSeenAs 13 rfl) rfl (fun c => ?_) (fun c => ?_)
      · have h := h.1 c
        exact a_to (k_Judge_isSeenAs_69 C hr hR ih x1 x2 x3 M h) rfl
      · have h := h.2 c
        refine a_iload_n C (tk T_cX3_isSeenAs 14 rfl) rfl ?_
        refine a_aload_n C (tk T_cX3_isSeenAs 15 rfl) rfl ?_
        refine a_getR C f_RX3_9 (tk T_cX3_isSeenAs 16 rfl) lc69 rfl ?_
        refine a_iload_n C (tk T_cX3_isSeenAs 17 rfl) rfl ?_
        obtain ⟨hb, h⟩ := h
        refine a_iald C (tk T_cX3_isSeenAs 18 rfl) lc70 hb ?_
        refine a_aload_n C (tk T_cX3_isSeenAs 19 rfl) rfl ?_
        refine a_getR C f_RX3_15 (tk T_cX3_isSeenAs 20 rfl) lc69 rfl ?_
        refine a_iload_n C (tk T_cX3_isSeenAs 21 rfl) rfl ?_
        obtain ⟨hb, h⟩ := h
        refine a_iald C (tk T_cX3_isSeenAs 22 rfl) lc71 hb ?_
        refine a_nestI C [.int x1, .int (M 70 x3.toNatClampNeg), .int (M 71 x3.toNatClampNeg)] me_yX11_within lk_RX3_113 (ct_R_within h) (by decide) rfl rfl (Nat.le_of_ble_eq_true rfl) (tk T_cX3_isSeenAs 23 rfl) hr (fun r1 M1 h => ?_)
        refine a_if_eq C 69 (tk T_cX3_isSeenAs 24 rfl) rfl (fun c => ?_) (fun c => ?_)
        · have h := h.1 c
          exact a_to (k_Judge_isSeenAs_69 C hr hR ih x1 x2 x3 M1 h) rfl
        · have h := h.2 c
          refine a_aload_n C (tk T_cX3_isSeenAs 25 rfl) rfl ?_
          refine a_getR C f_RX3_38 (tk T_cX3_isSeenAs 26 rfl) lc69 rfl ?_
          refine a_getR C f_RX3_61 (tk T_cX3_isSeenAs 27 rfl) lc1 rfl ?_
          refine a_getR C f_RX3_200 (tk T_cX3_isSeenAs 28 rfl) lc18 rfl ?_
          refine a_iload_n C (tk T_cX3_isSeenAs 29 rfl) rfl ?_
          obtain ⟨hb, h⟩ := h
          refine a_iald C (tk T_cX3_isSeenAs 30 rfl) lc27 hb ?_
          refine a_iload_n C (tk T_cX3_isSeenAs 31 rfl) rfl ?_
          refine a_isub C (tk T_cX3_isSeenAs 32 rfl) ?_
          refine a_iconst C (-1 : Int32) (tk T_cX3_isSeenAs 33 rfl) kI_m1 ?_
          refine a_iconst C (1 : Int32) (tk T_cX3_isSeenAs 34 rfl) kI_1 ?_
          refine a_nestI C [.int ((M1 27 x3.toNatClampNeg) - x2), .int (-1 : Int32), .int (1 : Int32)] me_yX11_within lk_RX3_113 (ct_R_within h) (by decide) rfl rfl (Nat.le_of_ble_eq_true rfl) (tk T_cX3_isSeenAs 35 rfl) hr (fun r2 M2 h => ?_)
          refine a_if_ne C 69 (tk T_cX3_isSeenAs 36 rfl) rfl (fun c => ?_) (fun c => ?_)
          · have h := h.1 c
            exact a_to (k_Judge_isSeenAs_69 C hr hR ih x1 x2 x3 M2 h) rfl
          · have h := h.2 c
            refine a_iconst C (0 : Int32) (tk T_cX3_isSeenAs 37 rfl) kI_0 ?_
            exact hR _ _ _ _ (tk T_cX3_isSeenAs 38 rfl) ⟨Or.inl rfl, h⟩
def P_Judge_isSeenAs (post : Int32 → Mem → Prop) (x1 x2 : Int32) (M : Mem) : Prop :=
  ∃ j2, P_Judge_isSeenAs_2 post j2 x1 x2 (0 : Int32) M
theorem k_Judge_isSeenAs {X : FX} {g : GT} {ext : List CD} {A : Nat → Prop} {Z : State → Prop} {post : Int32 → Mem → Prop} (C : Cx X g (layC ++ ext) A cX3_isSeenAs 4 RX3 1) (hr : 0 ≤ X.2.2.2.1.cells ∧ 0 ≤ X.2.2.2.1.slots) (hR : RetZ X g (layC ++ ext) A cX3_isSeenAs 4 0 0 Z post) (x1 x2 : Int32) (M : Mem) (h : P_Judge_isSeenAs post x1 x2 M) : AtX X g (layC ++ ext) A 4 0 0 Z 0 [(0, .ref (ad g 69)), (1, .int x1), (2, .int x2)] [] M := by
  refine a_iconst C (0 : Int32) (tk T_cX3_isSeenAs 0 rfl) kI_0 ?_
  refine a_istore_n C (tk T_cX3_isSeenAs 1 rfl) (by decide) rfl ?_
  obtain ⟨n1, h⟩ := h
  exact a_to (k_Judge_isSeenAs_2 C hr hR n1 x1 x2 (0 : Int32) M h) rfl
theorem ct_Judge_isSeenAs {l : Launch} {g : GT} {ext : List CD} {post : Int32 → Mem → Prop} {x1 x2 : Int32} {M : Mem} (h : P_Judge_isSeenAs post x1 x2 M) : CI l g (layC ++ ext) yX3_isSeenAs cX3_isSeenAs 4 (some .boolean) 1 [.ref (ad g 69), .int x1, .int x2] M post :=
  cz_of (plainFor_of_name (by decide +kernel)) (Nat.le_of_ble_eq_true rfl) (fun X A Z hl C hr hR => by subst hl; exact k_Judge_isSeenAs C hr hR x1 x2 M h)
def T_cX3_amountFitsL : List (Nat × Instr × Nat) := [(0, .iconst 0, 1), (1, .istore_n 3, 1), (2, .iload_n 3, 1), (3, .aload_n 0, 1), (4, .getfield 38, 3), (7, .getfield 123, 3), (10, .getfield 136, 3), (13, .iload_n 1, 1), (14, .iaload, 1), (15, .if_icmp .ge 92, 3), (18, .iload_n 1, 1), (19, .bipush 6, 2), (21, .imul, 1), (22, .iload_n 3, 1), (23, .iadd, 1), (24, .istore 4, 2), (26, .aload_n 0, 1), (27, .getfield 38, 3), (30, .getfield 123, 3), (33, .getfield 146, 3), (36, .iload 4, 2), (38, .iaload, 1), (39, .istore 5, 2), (41, .aload_n 0, 1), (42, .getfield 38, 3), (45, .getfield 61, 3), (48, .aload_n 0, 1), (49, .getfield 51, 3), (52, .aload_n 0, 1), (53, .getfield 38, 3), (56, .getfield 123, 3), (59, .getfield 162, 3), (62, .iload 4, 2), (64, .iaload, 1), (65, .iload 5, 2), (67, .invokevirtual 149, 3), (70, .ifCond .eq 31, 3), (73, .aload_n 0, 1), (74, .aload_n 0, 1), (75, .getfield 38, 3), (78, .getfield 123, 3), (81, .getfield 162, 3), (84, .iload 4, 2), (86, .iaload, 1), (87, .iload 5, 2), (89, .iload_n 2, 1), (90, .invokestatic 194, 3), (93, .invokevirtual 197, 3), (96, .ifCond .ne 5, 3), (99, .iconst 0, 1), (100, .ireturn, 1), (101, .iinc 3 1, 3), (104, .goto (-102), 3), (107, .iconst 1, 1), (108, .ireturn, 1)]
theorem T_cX3_amountFits : tabOK cX3_amountFits T_cX3_amountFitsL = true := by decide +kernel
def P_Judge_amountFits_101 (post : Int32 → Mem → Prop) (R2 : Int32 → Int32 → Int32 → Mem → Prop) (x1 x2 x3 : Int32) (M : Mem) : Prop :=
  R2 x1 x2 (x3 + (1 : Int32)) M
theorem k_Judge_amountFits_101 {X : FX} {g : GT} {ext : List CD} {A : Nat → Prop} {Z : State → Prop} {post : Int32 → Mem → Prop} {R2 : Int32 → Int32 → Int32 → Mem → Prop} (C : Cx X g (layC ++ ext) A cX3_amountFits 6 RX3 2) (hr : 0 ≤ X.2.2.2.1.cells ∧ 0 ≤ X.2.2.2.1.slots) (hR : RetZ X g (layC ++ ext) A cX3_amountFits 6 0 0 Z post) (k2 : ∀ (y1 y2 y3 : Int32) (M : Mem), R2 y1 y2 y3 M → AtX X g (layC ++ ext) A 6 0 0 Z 2 [(0, .ref (ad g 69)), (1, .int y1), (2, .int y2), (3, .int y3)] [] M) (x1 x2 x3 : Int32) (M : Mem) (h : P_Judge_amountFits_101 post R2 x1 x2 x3 M) : AtX X g (layC ++ ext) A 6 0 0 Z 101 [(0, .ref (ad g 69)), (1, .int x1), (2, .int x2), (3, .int x3)] [] M := by
  refine a_iinc C (1 : Int32) (tk T_cX3_amountFits 51 rfl) rfl kI_1 (by decide) rfl ?_
  refine a_goto C 2 (tk T_cX3_amountFits 52 rfl) rfl ?_
  exact a_to (k2 x1 x2 (x3 + (1 : Int32)) M h) rfl
def P_Judge_amountFits_2 (post : Int32 → Mem → Prop) : Nat → Int32 → Int32 → Int32 → Mem → Prop
  | 0, _, _, _, _ => False
  | n + 1, x1, x2, x3, M =>
    vp_in x1 6 ∧ ((M 15 x1.toNatClampNeg) ≤ x3 → (post (1 : Int32) M)) ∧
  (¬ (M 15 x1.toNatClampNeg) ≤ x3 → (∀ x4_1, x4_1 = ((x1 * (6 : Int32)) + x3) → vp_in x4_1 36 ∧ vp_in x4_1 36 ∧ P_Shelf_mustShow (fun r2 M2 =>
  (r2 = 0 → (P_Judge_amountFits_101 post (P_Judge_amountFits_2 post n) x1 x2 x3 M2)) ∧
  (¬ r2 = 0 → (vp_in x4_1 36 ∧ P_Judge_shown (fun r3 M3 =>
  P_Judge_isSeenAs (fun r4 M4 =>
  (¬ r4 = 0 → (P_Judge_amountFits_101 post (P_Judge_amountFits_2 post n) x1 x2 x3 M4)) ∧
  (r4 = 0 → (post (0 : Int32) M4))) (M2 16 x4_1.toNatClampNeg) r3 M3) (M 17 x4_1.toNatClampNeg) x2 M2))) (M 69 10) (M 16 x4_1.toNatClampNeg) (M 17 x4_1.toNatClampNeg) M))
theorem k_Judge_amountFits_2 {X : FX} {g : GT} {ext : List CD} {A : Nat → Prop} {Z : State → Prop} {post : Int32 → Mem → Prop} (C : Cx X g (layC ++ ext) A cX3_amountFits 6 RX3 2) (hr : 0 ≤ X.2.2.2.1.cells ∧ 0 ≤ X.2.2.2.1.slots) (hR : RetZ X g (layC ++ ext) A cX3_amountFits 6 0 0 Z post) : ∀ (n : Nat) (x1 x2 x3 : Int32) (M : Mem), P_Judge_amountFits_2 post n x1 x2 x3 M → AtX X g (layC ++ ext) A 6 0 0 Z 2 [(0, .ref (ad g 69)), (1, .int x1), (2, .int x2), (3, .int x3)] [] M := by
  intro n
  induction n with
  | zero =>
    intro x1 x2 x3 M h
    exact h.elim
  | succ n ih =>
    intro x1 x2 x3 M h
    refine a_iload_n C (tk T_cX3_amountFits 2 rfl) rfl ?_
    refine a_aload_n C (tk T_cX3_amountFits 3 rfl) rfl ?_
    refine a_getR C f_RX3_38 (tk T_cX3_amountFits 4 rfl) lc69 rfl ?_
    refine a_getR C f_RX3_123 (tk T_cX3_amountFits 5 rfl) lc1 rfl ?_
    refine a_getR C f_RX3_136 (tk T_cX3_amountFits 6 rfl) lc13 rfl ?_
    refine a_iload_n C (tk T_cX3_amountFits 7 rfl) rfl ?_
    obtain ⟨hb, h⟩ := h
    refine a_iald C (tk T_cX3_amountFits 8 rfl) lc15 hb ?_
    refine a_icmp_ge C 107 (tk T_cX3_amountFits 9 rfl) rfl (fun c => ?_) (fun c => ?_)
    · have h := h.1 c
      refine a_iconst C (1 : Int32) (tk T_cX3_amountFits 53 rfl) kI_1 ?_
      exact hR _ _ _ _ (tk T_cX3_amountFits 54 rfl) ⟨Or.inr rfl, h⟩
    · have h := h.2 c
      refine a_iload_n C (tk T_cX3_amountFits 10 rfl) rfl ?_
      refine a_bipush C (6 : Int32) (tk T_cX3_amountFits 11 rfl) kB_6 ?_
      refine a_imul C (tk T_cX3_amountFits 12 rfl) ?_
      refine a_iload_n C (tk T_cX3_amountFits 13 rfl) rfl ?_
      refine a_iadd C (tk T_cX3_amountFits 14 rfl) ?_
      refine a_top (fun x4_1 e_x4_1 => ?_)
      have h := h x4_1 e_x4_1
      refine a_istore C (tk T_cX3_amountFits 15 rfl) (by decide) rfl ?_
      refine a_aload_n C (tk T_cX3_amountFits 16 rfl) rfl ?_
      refine a_getR C f_RX3_38 (tk T_cX3_amountFits 17 rfl) lc69 rfl ?_
      refine a_getR C f_RX3_123 (tk T_cX3_amountFits 18 rfl) lc1 rfl ?_
      refine a_getR C f_RX3_146 (tk T_cX3_amountFits 19 rfl) lc13 rfl ?_
      refine a_iload C (tk T_cX3_amountFits 20 rfl) rfl ?_
      obtain ⟨hb, h⟩ := h
      refine a_iald C (tk T_cX3_amountFits 21 rfl) lc17 hb ?_
      refine a_istore C (tk T_cX3_amountFits 22 rfl) (by decide) rfl ?_
      refine a_aload_n C (tk T_cX3_amountFits 23 rfl) rfl ?_
      refine a_getR C f_RX3_38 (tk T_cX3_amountFits 24 rfl) lc69 rfl ?_
      refine a_getR C f_RX3_61 (tk T_cX3_amountFits 25 rfl) lc1 rfl ?_
      refine a_aload_n C (tk T_cX3_amountFits 26 rfl) rfl ?_
      refine a_getI C f_RX3_51 (tk T_cX3_amountFits 27 rfl) lc69 rfl ?_
      refine a_aload_n C (tk T_cX3_amountFits 28 rfl) rfl ?_
      refine a_getR C f_RX3_38 (tk T_cX3_amountFits 29 rfl) lc69 rfl ?_
      refine a_getR C f_RX3_123 (tk T_cX3_amountFits 30 rfl) lc1 rfl ?_
      refine a_getR C f_RX3_162 (tk T_cX3_amountFits 31 rfl) lc13 rfl ?_
      refine a_iload C (tk T_cX3_amountFits 32 rfl) rfl ?_
      obtain ⟨hb, h⟩ := h
      refine a_iald C (tk T_cX3_amountFits 33 rfl) lc16 hb ?_
      refine a_iload C (tk T_cX3_amountFits 34 rfl) rfl ?_
      refine a_callI C [.int (M 69 10), .int (M 16 x4_1.toNatClampNeg), .int (M 17 x4_1.toNatClampNeg)] me_yX9_mustShow lk_RX3_149 (ct_Shelf_mustShow h) (by decide) lc18 rfl rfl rfl (Nat.le_of_ble_eq_true rfl) (tk T_cX3_amountFits 35 rfl) hr (fun r2 M2 h => ?_)
      refine a_if_eq C 101 (tk T_cX3_amountFits 36 rfl) rfl (fun c => ?_) (fun c => ?_)
      · have h := h.1 c
        exact a_to (k_Judge_amountFits_101 C hr hR ih x1 x2 x3 M2 h) rfl
      · have h := h.2 c
        refine a_aload_n C (tk T_cX3_amountFits 37 rfl) rfl ?_
        refine a_aload_n C (tk T_cX3_amountFits 38 rfl) rfl ?_
        refine a_getR C f_RX3_38 (tk T_cX3_amountFits 39 rfl) lc69 rfl ?_
        refine a_getR C f_RX3_123 (tk T_cX3_amountFits 40 rfl) lc1 rfl ?_
        refine a_getR C f_RX3_162 (tk T_cX3_amountFits 41 rfl) lc13 rfl ?_
        refine a_iload C (tk T_cX3_amountFits 42 rfl) rfl ?_
        obtain ⟨hb, h⟩ := h
        refine a_iald C (tk T_cX3_amountFits 43 rfl) lc16 hb ?_
        refine a_iload C (tk T_cX3_amountFits 44 rfl) rfl ?_
        refine a_iload_n C (tk T_cX3_amountFits 45 rfl) rfl ?_
        refine a_statI C [.int (M 17 x4_1.toNatClampNeg), .int x2] me_yX3_shown lk_RX3_194 (ct_Judge_shown h) (by decide) rfl rfl (Nat.le_of_ble_eq_true rfl) (tk T_cX3_amountFits 46 rfl) hr (fun r3 M3 h => ?_)
        refine a_callI C [.int (M2 16 x4_1.toNatClampNeg), .int r3] me_yX3_isSeenAs lk_RX3_197 (ct_Judge_isSeenAs h) (by decide) lc69 rfl rfl rfl (Nat.le_of_ble_eq_true rfl) (tk T_cX3_amountFits 47 rfl) hr (fun r4 M4 h => ?_)
        refine a_if_ne C 101 (tk T_cX3_amountFits 48 rfl) rfl (fun c => ?_) (fun c => ?_)
        · have h := h.1 c
          exact a_to (k_Judge_amountFits_101 C hr hR ih x1 x2 x3 M4 h) rfl
        · have h := h.2 c
          refine a_iconst C (0 : Int32) (tk T_cX3_amountFits 49 rfl) kI_0 ?_
          exact hR _ _ _ _ (tk T_cX3_amountFits 50 rfl) ⟨Or.inl rfl, h⟩
def P_Judge_amountFits (post : Int32 → Mem → Prop) (x1 x2 : Int32) (M : Mem) : Prop :=
  ∃ j2, P_Judge_amountFits_2 post j2 x1 x2 (0 : Int32) M
theorem k_Judge_amountFits {X : FX} {g : GT} {ext : List CD} {A : Nat → Prop} {Z : State → Prop} {post : Int32 → Mem → Prop} (C : Cx X g (layC ++ ext) A cX3_amountFits 6 RX3 2) (hr : 0 ≤ X.2.2.2.1.cells ∧ 0 ≤ X.2.2.2.1.slots) (hR : RetZ X g (layC ++ ext) A cX3_amountFits 6 0 0 Z post) (x1 x2 : Int32) (M : Mem) (h : P_Judge_amountFits post x1 x2 M) : AtX X g (layC ++ ext) A 6 0 0 Z 0 [(0, .ref (ad g 69)), (1, .int x1), (2, .int x2)] [] M := by
  refine a_iconst C (0 : Int32) (tk T_cX3_amountFits 0 rfl) kI_0 ?_
  refine a_istore_n C (tk T_cX3_amountFits 1 rfl) (by decide) rfl ?_
  obtain ⟨n1, h⟩ := h
  exact a_to (k_Judge_amountFits_2 C hr hR n1 x1 x2 (0 : Int32) M h) rfl
theorem ct_Judge_amountFits {l : Launch} {g : GT} {ext : List CD} {post : Int32 → Mem → Prop} {x1 x2 : Int32} {M : Mem} (h : P_Judge_amountFits post x1 x2 M) : CI l g (layC ++ ext) yX3_amountFits cX3_amountFits 6 (some .boolean) 2 [.ref (ad g 69), .int x1, .int x2] M post :=
  cz_of (plainFor_of_name (by decide +kernel)) (Nat.le_of_ble_eq_true rfl) (fun X A Z hl C hr hR => by subst hl; exact k_Judge_amountFits C hr hR x1 x2 M h)
