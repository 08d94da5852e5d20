def T_cX11_chanceL : List (Nat × Instr × Nat) := [(0, .aload_n 0, 1), (1, .iload_n 1, 1), (2, .invokevirtual 232, 3), (5, .aload_n 0, 1), (6, .iload_n 3, 1), (7, .invokevirtual 351, 3), (10, .aload_n 0, 1), (11, .getfield 33, 3), (14, .iload_n 1, 1), (15, .invokevirtual 264, 3), (18, .aload_n 0, 1), (19, .getfield 42, 3), (22, .iload_n 2, 1), (23, .invokevirtual 354, 3), (26, .aload_n 0, 1), (27, .getfield 42, 3), (30, .iload_n 2, 1), (31, .iload_n 3, 1), (32, .invokevirtual 357, 3), (35, .iload 4, 2), (37, .ifCond .eq 13, 3), (40, .aload_n 0, 1), (41, .getfield 42, 3), (44, .getfield 360, 3), (47, .goto 10, 3), (50, .aload_n 0, 1), (51, .getfield 42, 3), (54, .getfield 363, 3), (57, .ireturn, 1)]
theorem T_cX11_chance : tabOK cX11_chance T_cX11_chanceL = true := by decide +kernel
def P_R_chance_57 (post : Int32 → Mem → Prop) (ex : String → Mem → Prop) (s0 : Int32) (M : Mem) : Prop :=
  post s0 M
theorem k_R_chance_57 {X : FX} {g : GT} {ext : List CD} {A : Nat → Prop} {Z : State → Prop} {post : Int32 → Mem → Prop} {ex : String → Mem → Prop} {sk : Nat → Nat} (C : CxX X g (layC ++ ext) A cX11_chance 5 RX11 8 2 sk) (hT : ThX X g (layC ++ ext) A 2 Z ex) (hR : RetI X g (layC ++ ext) A cX11_chance 5 2 (6 * 2) Z post) (s0 : Int32) (M : Mem) (h : P_R_chance_57 post ex s0 M) : AtX X g (layC ++ ext) A 5 2 (6 * 2) Z 57 [] [.int s0] M := by
  exact x_widen (by decide) (by decide) (hR _ _ _ _ (tk T_cX11_chance 28 rfl) h)
def P_R_chance (post : Int32 → Mem → Prop) (ex : String → Mem → Prop) (x1 x2 x3 x4 : Int32) (M : Mem) : Prop :=
  P_R_wantPlate (fun M1 =>
  P_R_wantMaker (fun M2 =>
  P_Judge_open (fun M3 =>
  P_Bells_weigh (fun M4 =>
  P_Bells_reckon (fun M5 =>
  (x4 = 0 → (P_R_chance_57 post ex (M5 78 3) M5)) ∧
  (¬ x4 = 0 → (P_R_chance_57 post ex (M5 78 4) M5))) x2 x3 M4) x2 M3) x1 M2) ex x3 M1) ex x1 M
theorem k_R_chance {X : FX} {g : GT} {ext : List CD} {A : Nat → Prop} {Z : State → Prop} {post : Int32 → Mem → Prop} {ex : String → Mem → Prop} {sk : Nat → Nat} (C : CxX X g (layC ++ ext) A cX11_chance 5 RX11 8 2 sk) (hT : ThX X g (layC ++ ext) A 2 Z ex) (hR : RetI X g (layC ++ ext) A cX11_chance 5 2 (6 * 2) Z post) (x1 x2 x3 x4 : Int32) (M : Mem) (h : P_R_chance post ex x1 x2 x3 x4 M) : AtX X g (layC ++ ext) A 5 0 0 Z 0 [(0, .ref (ad g 0)), (1, .int x1), (2, .int x2), (3, .int x3), (4, .int x4)] [] M := by
  refine a_aload_n C.1 (tk T_cX11_chance 0 rfl) rfl ?_
  refine a_iload_n C.1 (tk T_cX11_chance 1 rfl) rfl ?_
  refine x_callV C hT [.int x1] me_yX11_wantPlate lk_RX11_232 (ct_R_wantPlate h) (by decide) lc0 rfl rfl rfl (Nat.le_of_ble_eq_true rfl) (tk T_cX11_chance 2 rfl) (by decide) (fun M1 h => ?_)
  refine a_aload_n C.1 (tk T_cX11_chance 3 rfl) rfl ?_
  refine a_iload_n C.1 (tk T_cX11_chance 4 rfl) rfl ?_
  refine x_callV C hT [.int x3] me_yX11_wantMaker lk_RX11_351 (ct_R_wantMaker h) (by decide) lc0 rfl rfl rfl (Nat.le_of_ble_eq_true rfl) (tk T_cX11_chance 5 rfl) (by decide) (fun M2 h => ?_)
  refine a_aload_n C.1 (tk T_cX11_chance 6 rfl) rfl ?_
  refine a_getR C.1 f_RX11_33 (tk T_cX11_chance 7 rfl) lc0 rfl ?_
  refine a_iload_n C.1 (tk T_cX11_chance 8 rfl) rfl ?_
  refine a_callV C.1 [.int x1] me_yX3_open lk_RX11_264 (ct_Judge_open h) (by decide) lc69 rfl rfl rfl (Nat.le_of_ble_eq_true rfl) (tk T_cX11_chance 9 rfl) ⟨Nat.le_trans (by decide) C.2.2.1, Nat.le_trans (by decide) C.2.2.2⟩ (fun M3 h => ?_)
  refine a_aload_n C.1 (tk T_cX11_chance 10 rfl) rfl ?_
  refine a_getR C.1 f_RX11_42 (tk T_cX11_chance 11 rfl) lc0 rfl ?_
  refine a_iload_n C.1 (tk T_cX11_chance 12 rfl) rfl ?_
  refine a_callV C.1 [.int x2] me_yX0_weigh lk_RX11_354 (ct_Bells_weigh h) (by decide) lc78 rfl rfl rfl (Nat.le_of_ble_eq_true rfl) (tk T_cX11_chance 13 rfl) ⟨Nat.le_trans (by decide) C.2.2.1, Nat.le_trans (by decide) C.2.2.2⟩ (fun M4 h => ?_)
  refine a_aload_n C.1 (tk T_cX11_chance 14 rfl) rfl ?_
  refine a_getR C.1 f_RX11_42 (tk T_cX11_chance 15 rfl) lc0 rfl ?_
  refine a_iload_n C.1 (tk T_cX11_chance 16 rfl) rfl ?_
  refine a_iload_n C.1 (tk T_cX11_chance 17 rfl) rfl ?_
  refine a_callV C.1 [.int x2, .int x3] me_yX0_reckon lk_RX11_357 (ct_Bells_reckon h) (by decide) lc78 rfl rfl rfl (Nat.le_of_ble_eq_true rfl) (tk T_cX11_chance 18 rfl) ⟨Nat.le_trans (by decide) C.2.2.1, Nat.le_trans (by decide) C.2.2.2⟩ (fun M5 h => ?_)
  refine a_iload C.1 (tk T_cX11_chance 19 rfl) rfl ?_
  refine a_if_eq C.1 50 (tk T_cX11_chance 20 rfl) rfl (fun c => ?_) (fun c => ?_)
  · have h := h.1 c
    refine a_aload_n C.1 (tk T_cX11_chance 25 rfl) rfl ?_
    refine a_getR C.1 f_RX11_42 (tk T_cX11_chance 26 rfl) lc0 rfl ?_
    refine a_getI C.1 f_RX11_363 (tk T_cX11_chance 27 rfl) lc78 rfl ?_
    exact x_widen (by decide) (by decide) (a_to (k_R_chance_57 C hT hR (M5 78 3) M5 h) rfl)
  · have h := h.2 c
    refine a_aload_n C.1 (tk T_cX11_chance 21 rfl) rfl ?_
    refine a_getR C.1 f_RX11_42 (tk T_cX11_chance 22 rfl) lc0 rfl ?_
    refine a_getI C.1 f_RX11_360 (tk T_cX11_chance 23 rfl) lc78 rfl ?_
    refine a_goto C.1 57 (tk T_cX11_chance 24 rfl) rfl ?_
    exact x_widen (by decide) (by decide) (a_to (k_R_chance_57 C hT hR (M5 78 4) M5 h) rfl)
theorem ct_R_chance {l : Launch} {g : GT} {ext : List CD} {sk : Nat → Nat} {post : Int32 → Mem → Prop} {ex : String → Mem → Prop} {x1 x2 x3 x4 : Int32} {M : Mem} (h : P_R_chance post ex x1 x2 x3 x4 M) : XI l g (layC ++ ext) sk yX11_chance cX11_chance 5 (some .int) 8 2 [.ref (ad g 0), .int x1, .int x2, .int x3, .int x4] M post ex :=
  xi_of (by decide +kernel) (Nat.le_of_ble_eq_true rfl) (fun X A Z hl C hR hT _ => by subst hl; exact k_R_chance C hT hR x1 x2 x3 x4 M h)
def T_cX0_likeliestL : List (Nat × Instr × Nat) := [(0, .iconst (-1), 1), (1, .istore_n 2, 1), (2, .lconst 0, 1), (3, .lstore_n 3, 1), (4, .lconst 1, 1), (5, .lstore 5, 2), (7, .iconst 0, 1), (8, .istore 7, 2), (10, .iload 7, 2), (12, .aload_n 0, 1), (13, .getfield 15, 3), (16, .getfield 84, 3), (19, .if_icmp .ge 51, 3), (22, .aload_n 0, 1), (23, .iload_n 1, 1), (24, .iload 7, 2), (26, .invokevirtual 87, 3), (29, .aload_n 0, 1), (30, .getfield 49, 3), (33, .i2l, 1), (34, .lload 5, 2), (36, .lmul, 1), (37, .lload_n 3, 1), (38, .aload_n 0, 1), (39, .getfield 52, 3), (42, .i2l, 1), (43, .lmul, 1), (44, .lcmp, 1), (45, .ifCond .le 19, 3), (48, .iload 7, 2), (50, .istore_n 2, 1), (51, .aload_n 0, 1), (52, .getfield 49, 3), (55, .i2l, 1), (56, .lstore_n 3, 1), (57, .aload_n 0, 1), (58, .getfield 52, 3), (61, .i2l, 1), (62, .lstore 5, 2), (64, .iinc 7 1, 3), (67, .goto (-57), 3), (70, .iload_n 2, 1), (71, .ireturn, 1)]
theorem T_cX0_likeliest : tabOK cX0_likeliest T_cX0_likeliestL = true := by decide +kernel
def P_Bells_likeliest_64 (post : Int32 → Mem → Prop) (R10 : Int32 → Int32 → Int64 → Int64 → Int32 → Mem → Prop) (x1 x2 : Int32) (x3 x5 : Int64) (x7 : Int32) (M : Mem) : Prop :=
  R10 x1 x2 x3 x5 (x7 + (1 : Int32)) M
theorem k_Bells_likeliest_64 {X : FX} {g : GT} {ext : List CD} {A : Nat → Prop} {Z : State → Prop} {post : Int32 → Mem → Prop} {R10 : Int32 → Int32 → Int64 → Int64 → Int32 → Mem → Prop} (C : Cx X g (layC ++ ext) A cX0_likeliest 8 RX0 3) (hr : 0 ≤ X.2.2.2.1.cells ∧ 0 ≤ X.2.2.2.1.slots) (hR : RetI X g (layC ++ ext) A cX0_likeliest 8 0 0 Z post) (k10 : ∀ (y1 y2 : Int32) (y3 y5 : Int64) (y7 : Int32) (M : Mem), R10 y1 y2 y3 y5 y7 M → AtX X g (layC ++ ext) A 8 0 0 Z 10 [(0, .ref (ad g 78)), (1, .int y1), (2, .int y2), (3, .long y3), (5, .long y5), (7, .int y7)] [] M) (x1 x2 : Int32) (x3 x5 : Int64) (x7 : Int32) (M : Mem) (h : P_Bells_likeliest_64 post R10 x1 x2 x3 x5 x7 M) : AtX X g (layC ++ ext) A 8 0 0 Z 64 [(0, .ref (ad g 78)), (1, .int x1), (2, .int x2), (3, .long x3), (5, .long x5), (7, .int x7)] [] M := by
  refine a_iinc C (1 : Int32) (tk T_cX0_likeliest 39 rfl) rfl kI_1 (by decide) rfl ?_
  refine a_goto C 10 (tk T_cX0_likeliest 40 rfl) rfl ?_
  exact a_to (k10 x1 x2 x3 x5 (x7 + (1 : Int32)) M h) rfl
def P_Bells_likeliest_10 (post : Int32 → Mem → Prop) : Nat → Int32 → Int32 → Int64 → Int64 → Int32 → Mem → Prop
  | 0, _, _, _, _, _, _ => False
  | n + 1, x1, x2, x3, x5, x7, M =>
    ((M 1 7) ≤ x7 → (post x2 M)) ∧
  (¬ (M 1 7) ≤ x7 → (P_Bells_reckon (fun M1 =>
  ((lg_cmp ((M1 78 3).toInt64 * x5) (x3 * (M1 78 4).toInt64)) ≤ 0 → (P_Bells_likeliest_64 post (P_Bells_likeliest_10 post n) x1 x2 x3 x5 x7 M1)) ∧
  (¬ (lg_cmp ((M1 78 3).toInt64 * x5) (x3 * (M1 78 4).toInt64)) ≤ 0 → (∀ x3_2, x3_2 = (M1 78 3).toInt64 → ∀ x5_3, x5_3 = (M1 78 4).toInt64 → P_Bells_likeliest_64 post (P_Bells_likeliest_10 post n) x1 x7 x3_2 x5_3 x7 M1))) x1 x7 M))
theorem k_Bells_likeliest_10 {X : FX} {g : GT} {ext : List CD} {A : Nat → Prop} {Z : State → Prop} {post : Int32 → Mem → Prop} (C : Cx X g (layC ++ ext) A cX0_likeliest 8 RX0 3) (hr : 0 ≤ X.2.2.2.1.cells ∧ 0 ≤ X.2.2.2.1.slots) (hR : RetI X g (layC ++ ext) A cX0_likeliest 8 0 0 Z post) : ∀ (n : Nat) (x1 x2 : Int32) (x3 x5 : Int64) (x7 : Int32) (M : Mem), P_Bells_likeliest_10 post n x1 x2 x3 x5 x7 M → AtX X g (layC ++ ext) A 8 0 0 Z 10 [(0, .ref (ad g 78)), (1, .int x1), (2, .int x2), (3, .long x3), (5, .long x5), (7, .int x7)] [] M := by
  intro n
  induction n with
  | zero =>
    intro x1 x2 x3 x5 x7 M h
    exact h.elim
  | succ n ih =>
    intro x1 x2 x3 x5 x7 M h
    refine a_iload C (tk T_cX0_likeliest 8 rfl) rfl ?_
    refine a_aload_n C (tk T_cX0_likeliest 9 rfl) rfl ?_
    refine a_getR C f_RX0_15 (tk T_cX0_likeliest 10 rfl) lc78 rfl ?_
    refine a_getI C f_RX0_84 (tk T_cX0_likeliest 11 rfl) lc1 rfl ?_
    refine a_icmp_ge C 70 (tk T_cX0_likeliest 12 rfl) rfl (fun c => ?_) (fun c => ?_)
    · have h := h.1 c
      refine a_iload_n C (tk T_cX0_likeliest 41 rfl) rfl ?_
      exact hR _ _ _ _ (tk T_cX0_likeliest 42 rfl) h
    · have h := h.2 c
      refine a_aload_n C (tk T_cX0_likeliest 13 rfl) rfl ?_
      refine a_iload_n C (tk T_cX0_likeliest 14 rfl) rfl ?_
      refine a_iload C (tk T_cX0_likeliest 15 rfl) rfl ?_
      refine a_callV C [.int x1, .int x7] me_yX0_reckon lk_RX0_87 (ct_Bells_reckon h) (by decide) lc78 rfl rfl rfl (Nat.le_of_ble_eq_true rfl) (tk T_cX0_likeliest 16 rfl) hr (fun M1 h => ?_)
      refine a_aload_n C (tk T_cX0_likeliest 17 rfl) rfl ?_
      refine a_getI C f_RX0_49 (tk T_cX0_likeliest 18 rfl) lc78 rfl ?_
      refine a_i2l C (tk T_cX0_likeliest 19 rfl) ?_
      refine a_lload C (tk T_cX0_likeliest 20 rfl) rfl ?_
      refine a_lmul C (tk T_cX0_likeliest 21 rfl) ?_
      refine a_lload_n C (tk T_cX0_likeliest 22 rfl) rfl ?_
      refine a_aload_n C (tk T_cX0_likeliest 23 rfl) rfl ?_
      refine a_getI C f_RX0_52 (tk T_cX0_likeliest 24 rfl) lc78 rfl ?_
      refine a_i2l C (tk T_cX0_likeliest 25 rfl) ?_
      refine a_lmul C (tk T_cX0_likeliest 26 rfl) ?_
      refine a_lcmp C (tk T_cX0_likeliest 27 rfl) ?_
      refine a_if_le C 64 (tk T_cX0_likeliest 28 rfl) rfl (fun c => ?_) (fun c => ?_)
      · have h := h.1 c
        exact a_to (k_Bells_likeliest_64 C hr hR ih x1 x2 x3 x5 x7 M1 h) rfl
      · have h := h.2 c
        refine a_iload C (tk T_cX0_likeliest 29 rfl) rfl ?_
        refine a_istore_n C (tk T_cX0_likeliest 30 rfl) (by decide) rfl ?_
        refine a_aload_n C (tk T_cX0_likeliest 31 rfl) rfl ?_
        refine a_getI C f_RX0_49 (tk T_cX0_likeliest 32 rfl) lc78 rfl ?_
        refine a_i2l C (tk T_cX0_likeliest 33 rfl) ?_
        refine a_topl (fun x3_2 e_x3_2 => ?_)
        have h := h x3_2 e_x3_2
        refine a_lstore_n C (tk T_cX0_likeliest 34 rfl) (by decide) rfl ?_
        refine a_aload_n C (tk T_cX0_likeliest 35 rfl) rfl ?_
        refine a_getI C f_RX0_52 (tk T_cX0_likeliest 36 rfl) lc78 rfl ?_
        refine a_i2l C (tk T_cX0_likeliest 37 rfl) ?_
        refine a_topl (fun x5_3 e_x5_3 => ?_)
        have h := h x5_3 e_x5_3
        refine a_lstore C (tk T_cX0_likeliest 38 rfl) (by decide) rfl ?_
        exact a_to (k_Bells_likeliest_64 C hr hR ih x1 x7 x3_2 x5_3 x7 M1 h) rfl
def P_Bells_likeliest (post : Int32 → Mem → Prop) (x1 : Int32) (M : Mem) : Prop :=
  ∃ j10, P_Bells_likeliest_10 post j10 x1 (-1 : Int32) (0 : Int64) (1 : Int64) (0 : Int32) M
theorem k_Bells_likeliest {X : FX} {g : GT} {ext : List CD} {A : Nat → Prop} {Z : State → Prop} {post : Int32 → Mem → Prop} (C : Cx X g (layC ++ ext) A cX0_likeliest 8 RX0 3) (hr : 0 ≤ X.2.2.2.1.cells ∧ 0 ≤ X.2.2.2.1.slots) (hR : RetI X g (layC ++ ext) A cX0_likeliest 8 0 0 Z post) (x1 : Int32) (M : Mem) (h : P_Bells_likeliest post x1 M) : AtX X g (layC ++ ext) A 8 0 0 Z 0 [(0, .ref (ad g 78)), (1, .int x1)] [] M := by
  refine a_iconst C (-1 : Int32) (tk T_cX0_likeliest 0 rfl) kI_m1 ?_
  refine a_istore_n C (tk T_cX0_likeliest 1 rfl) (by decide) rfl ?_
  refine a_lconst C (0 : Int64) (tk T_cX0_likeliest 2 rfl) rfl ?_
  refine a_lstore_n C (tk T_cX0_likeliest 3 rfl) (by decide) rfl ?_
  refine a_lconst C (1 : Int64) (tk T_cX0_likeliest 4 rfl) rfl ?_
  refine a_lstore C (tk T_cX0_likeliest 5 rfl) (by decide) rfl ?_
  refine a_iconst C (0 : Int32) (tk T_cX0_likeliest 6 rfl) kI_0 ?_
  refine a_istore C (tk T_cX0_likeliest 7 rfl) (by decide) rfl ?_
  obtain ⟨n1, h⟩ := h
  exact a_to (k_Bells_likeliest_10 C hr hR n1 x1 (-1 : Int32) (0 : Int64) (1 : Int64) (0 : Int32) M h) rfl
theorem ct_Bells_likeliest {l : Launch} {g : GT} {ext : List CD} {post : Int32 → Mem → Prop} {x1 : Int32} {M : Mem} (h : P_Bells_likeliest post x1 M) : CI l g (layC ++ ext) yX0_likeliest cX0_likeliest 8 (some .int) 3 [.ref (ad g 78), .int x1] M post :=
  ci_of (plainFor_of_name (by decide +kernel)) (Nat.le_of_ble_eq_true rfl) (fun X A Z hl C hr hR => by subst hl; exact k_Bells_likeliest C hr hR x1 M h)
def T_cX11_likelyL : List (Nat × Instr × Nat) := [(0, .aload_n 0, 1), (1, .iload_n 1, 1), (2, .invokevirtual 232, 3), (5, .aload_n 0, 1), (6, .getfield 33, 3), (9, .iload_n 1, 1), (10, .invokevirtual 264, 3), (13, .aload_n 0, 1), (14, .getfield 42, 3), (17, .iload_n 2, 1), (18, .invokevirtual 354, 3), (21, .aload_n 0, 1), (22, .getfield 42, 3), (25, .iload_n 2, 1), (26, .invokevirtual 366, 3), (29, .ireturn, 1)]
theorem T_cX11_likely : tabOK cX11_likely T_cX11_likelyL = true := by decide +kernel
def P_R_likely (post : Int32 → Mem → Prop) (ex : String → Mem → Prop) (x1 x2 : Int32) (M : Mem) : Prop :=
  P_R_wantPlate (fun M1 =>
  P_Judge_open (fun M2 =>
  P_Bells_weigh (fun M3 =>
  P_Bells_likeliest (fun r4 M4 =>
  post r4 M4) x2 M3) x2 M2) x1 M1) ex x1 M
theorem k_R_likely {X : FX} {g : GT} {ext : List CD} {A : Nat → Prop} {Z : State → Prop} {post : Int32 → Mem → Prop} {ex : String → Mem → Prop} {sk : Nat → Nat} (C : CxX X g (layC ++ ext) A cX11_likely 3 RX11 8 1 sk) (hT : ThX X g (layC ++ ext) A 1 Z ex) (hR : RetI X g (layC ++ ext) A cX11_likely 3 1 (6 * 1) Z post) (x1 x2 : Int32) (M : Mem) (h : P_R_likely post ex x1 x2 M) : AtX X g (layC ++ ext) A 3 0 0 Z 0 [(0, .ref (ad g 0)), (1, .int x1), (2, .int x2)] [] M := by
  refine a_aload_n C.1 (tk T_cX11_likely 0 rfl) rfl ?_
  refine a_iload_n C.1 (tk T_cX11_likely 1 rfl) rfl ?_
  refine x_callV C hT [.int x1] me_yX11_wantPlate lk_RX11_232 (ct_R_wantPlate h) (by decide) lc0 rfl rfl rfl (Nat.le_of_ble_eq_true rfl) (tk T_cX11_likely 2 rfl) (by decide) (fun M1 h => ?_)
  refine a_aload_n C.1 (tk T_cX11_likely 3 rfl) rfl ?_
  refine a_getR C.1 f_RX11_33 (tk T_cX11_likely 4 rfl) lc0 rfl ?_
  refine a_iload_n C.1 (tk T_cX11_likely 5 rfl) rfl ?_
  refine a_callV C.1 [.int x1] me_yX3_open lk_RX11_264 (ct_Judge_open h) (by decide) lc69 rfl rfl rfl (Nat.le_of_ble_eq_true rfl) (tk T_cX11_likely 6 rfl) ⟨Nat.le_trans (by decide) C.2.2.1, Nat.le_trans (by decide) C.2.2.2⟩ (fun M2 h => ?_)
  refine a_aload_n C.1 (tk T_cX11_likely 7 rfl) rfl ?_
  refine a_getR C.1 f_RX11_42 (tk T_cX11_likely 8 rfl) lc0 rfl ?_
  refine a_iload_n C.1 (tk T_cX11_likely 9 rfl) rfl ?_
  refine a_callV C.1 [.int x2] me_yX0_weigh lk_RX11_354 (ct_Bells_weigh h) (by decide) lc78 rfl rfl rfl (Nat.le_of_ble_eq_true rfl) (tk T_cX11_likely 10 rfl) ⟨Nat.le_trans (by decide) C.2.2.1, Nat.le_trans (by decide) C.2.2.2⟩ (fun M3 h => ?_)
  refine a_aload_n C.1 (tk T_cX11_likely 11 rfl) rfl ?_
  refine a_getR C.1 f_RX11_42 (tk T_cX11_likely 12 rfl) lc0 rfl ?_
  refine a_iload_n C.1 (tk T_cX11_likely 13 rfl) rfl ?_
  refine a_callI C.1 [.int x2] me_yX0_likeliest lk_RX11_366 (ct_Bells_likeliest h) (by decide) lc78 rfl rfl rfl (Nat.le_of_ble_eq_true rfl) (tk T_cX11_likely 14 rfl) ⟨Nat.le_trans (by decide) C.2.2.1, Nat.le_trans (by decide) C.2.2.2⟩ (fun r4 M4 h => ?_)
  exact x_widen (by decide) (by decide) (hR _ _ _ _ (tk T_cX11_likely 15 rfl) h)
theorem ct_R_likely {l : Launch} {g : GT} {ext : List CD} {sk : Nat → Nat} {post : Int32 → Mem → Prop} {ex : String → Mem → Prop} {x1 x2 : Int32} {M : Mem} (h : P_R_likely post ex x1 x2 M) : XI l g (layC ++ ext) sk yX11_likely cX11_likely 3 (some .int) 8 1 [.ref (ad g 0), .int x1, .int x2] M post ex :=
  xi_of (by decide +kernel) (Nat.le_of_ble_eq_true rfl) (fun X A Z hl C hR hT _ => by subst hl; exact k_R_likely C hT hR x1 x2 M h)
def T_cX0_isBeatenL : List (Nat × Instr × Nat) := [(0, .aload_n 0, 1), (1, .iload_n 1, 1), (2, .iload_n 2, 1), (3, .invokevirtual 87, 3), (6, .aload_n 0, 1), (7, .getfield 49, 3), (10, .i2l, 1), (11, .lstore_n 3, 1), (12, .aload_n 0, 1), (13, .getfield 52, 3), (16, .i2l, 1), (17, .lstore 5, 2), (19, .iconst 0, 1), (20, .istore 7, 2), (22, .iload 7, 2), (24, .aload_n 0, 1), (25, .getfield 15, 3), (28, .getfield 84, 3), (31, .if_icmp .ge 37, 3), (34, .aload_n 0, 1), (35, .iload_n 1, 1), (36, .iload 7, 2), (38, .invokevirtual 87, 3), (41, .aload_n 0, 1), (42, .getfield 49, 3), (45, .i2l, 1), (46, .lload 5, 2), (48, .lmul, 1), (49, .lload_n 3, 1), (50, .aload_n 0, 1), (51, .getfield 52, 3), (54, .i2l, 1), (55, .lmul, 1), (56, .lcmp, 1), (57, .ifCond .le 5, 3), (60, .iconst 1, 1), (61, .ireturn, 1), (62, .iinc 7 1, 3), (65, .goto (-43), 3), (68, .iconst 0, 1), (69, .ireturn, 1)]
theorem T_cX0_isBeaten : tabOK cX0_isBeaten T_cX0_isBeatenL = true := by decide +kernel
def P_Bells_isBeaten_22 (post : Int32 → Mem → Prop) : Nat → Int32 → Int64 → Int64 → Int32 → Mem → Prop
  | 0, _, _, _, _, _ => False
  | n + 1, x1, x3, x5, x7, M =>
    ((M 1 7) ≤ x7 → (post (0 : Int32) M)) ∧
  (¬ (M 1 7) ≤ x7 → (P_Bells_reckon (fun M1 =>
  ((lg_cmp ((M1 78 3).toInt64 * x5) (x3 * (M1 78 4).toInt64)) ≤ 0 → (P_Bells_isBeaten_22 post n x1 x3 x5 (x7 + (1 : Int32)) M1)) ∧
  (¬ (lg_cmp ((M1 78 3).toInt64 * x5) (x3 * (M1 78 4).toInt64)) ≤ 0 → (post (1 : Int32) M1))) x1 x7 M))
theorem k_Bells_isBeaten_22 {X : FX} {g : GT} {ext : List CD} {A : Nat → Prop} {Z : State → Prop} {post : Int32 → Mem → Prop} (C : Cx X g (layC ++ ext) A cX0_isBeaten 8 RX0 3) (hr : 0 ≤ X.2.2.2.1.cells ∧ 0 ≤ X.2.2.2.1.slots) (hR : RetZ X g (layC ++ ext) A cX0_isBeaten 8 0 0 Z post) : ∀ (n : Nat) (x1 : Int32) (x3 x5 : Int64) (x7 : Int32) (M : Mem), P_Bells_isBeaten_22 post n x1 x3 x5 x7 M → AtX X g (layC ++ ext) A 8 0 0 Z 22 [(0, .ref (ad g 78)), (1, .int x1), (3, .long x3), (5, .long x5), (7, .int x7)] [] M := by
  intro n
  induction n with
  | zero =>
    intro x1 x3 x5 x7 M h
    exact h.elim
  | succ n ih =>
    intro x1 x3 x5 x7 M h
    refine a_iload C (tk T_cX0_isBeaten 14 rfl) rfl ?_
    refine a_aload_n C (tk T_cX0_isBeaten 15 rfl) rfl ?_
    refine a_getR C f_RX0_15 (tk T_cX0_isBeaten 16 rfl) lc78 rfl ?_
    refine a_getI C f_RX0_84 (tk T_cX0_isBeaten 17 rfl) lc1 rfl ?_
    refine a_icmp_ge C 68 (tk T_cX0_isBeaten 18 rfl) rfl (fun c => ?_) (fun c => ?_)
    · have h := h.1 c
      refine a_iconst C (0 : Int32) (tk T_cX0_isBeaten 39 rfl) kI_0 ?_
      exact hR _ _ _ _ (tk T_cX0_isBeaten 40 rfl) ⟨Or.inl rfl, h⟩
    · have h := h.2 c
      refine a_aload_n C (tk T_cX0_isBeaten 19 rfl) rfl ?_
      refine a_iload_n C (tk T_cX0_isBeaten 20 rfl) rfl ?_
      refine a_iload C (tk T_cX0_isBeaten 21 rfl) rfl ?_
      refine a_callV C [.int x1, .int x7] me_yX0_reckon lk_RX0_87 (ct_Bells_reckon h) (by decide) lc78 rfl rfl rfl (Nat.le_of_ble_eq_true rfl) (tk T_cX0_isBeaten 22 rfl) hr (fun M1 h => ?_)
      refine a_aload_n C (tk T_cX0_isBeaten 23 rfl) rfl ?_
      refine a_getI C f_RX0_49 (tk T_cX0_isBeaten 24 rfl) lc78 rfl ?_
      refine a_i2l C (tk T_cX0_isBeaten 25 rfl) ?_
      refine a_lload C (tk T_cX0_isBeaten 26 rfl) rfl ?_
      refine a_lmul C (tk T_cX0_isBeaten 27 rfl) ?_
      refine a_lload_n C (tk T_cX0_isBeaten 28 rfl) rfl ?_
      refine a_aload_n C (tk T_cX0_isBeaten 29 rfl) rfl ?_
      refine a_getI C f_RX0_52 (tk T_cX0_isBeaten 30 rfl) lc78 rfl ?_
      refine a_i2l C (tk T_cX0_isBeaten 31 rfl) ?_
      refine a_lmul C (tk T_cX0_isBeaten 32 rfl) ?_
      refine a_lcmp C (tk T_cX0_isBeaten 33 rfl) ?_
      refine a_if_le C 62 (tk T_cX0_isBeaten 34 rfl) rfl (fun c => ?_) (fun c => ?_)
      · have h := h.1 c
        refine a_iinc C (1 : Int32) (tk T_cX0_isBeaten 37 rfl) rfl kI_1 (by decide) rfl ?_
        refine a_goto C 22 (tk T_cX0_isBeaten 38 rfl) rfl ?_
        exact a_to (ih x1 x3 x5 (x7 + (1 : Int32)) M1 h) rfl
      · have h := h.2 c
        refine a_iconst C (1 : Int32) (tk T_cX0_isBeaten 35 rfl) kI_1 ?_
        exact hR _ _ _ _ (tk T_cX0_isBeaten 36 rfl) ⟨Or.inr rfl, h⟩
def P_Bells_isBeaten (post : Int32 → Mem → Prop) (x1 x2 : Int32) (M : Mem) : Prop :=
  P_Bells_reckon (fun M1 =>
  ∀ x3_2, x3_2 = (M1 78 3).toInt64 → ∀ x5_3, x5_3 = (M1 78 4).toInt64 → ∃ j22, P_Bells_isBeaten_22 post j22 x1 x3_2 x5_3 (0 : Int32) M1) x1 x2 M
theorem k_Bells_isBeaten {X : FX} {g : GT} {ext : List CD} {A : Nat → Prop} {Z : State → Prop} {post : Int32 → Mem → Prop} (C : Cx X g (layC ++ ext) A cX0_isBeaten 8 RX0 3) (hr : 0 ≤ X.2.2.2.1.cells ∧ 0 ≤ X.2.2.2.1.slots) (hR : RetZ X g (layC ++ ext) A cX0_isBeaten 8 0 0 Z post) (x1 x2 : Int32) (M : Mem) (h : P_Bells_isBeaten post x1 x2 M) : AtX X g (layC ++ ext) A 8 0 0 Z 0 [(0, .ref (ad g 78)), (1, .int x1), (2, .int x2)] [] M := by
  refine a_aload_n C (tk T_cX0_isBeaten 0 rfl) rfl ?_
  refine a_iload_n C (tk T_cX0_isBeaten 1 rfl) rfl ?_
  refine a_iload_n C (tk T_cX0_isBeaten 2 rfl) rfl ?_
  refine a_callV C [.int x1, .int x2] me_yX0_reckon lk_RX0_87 (ct_Bells_reckon h) (by decide) lc78 rfl rfl rfl (Nat.le_of_ble_eq_true rfl) (tk T_cX0_isBeaten 3 rfl) hr (fun M1 h => ?_)
  refine a_aload_n C (tk T_cX0_isBeaten 4 rfl) rfl ?_
  refine a_getI C f_RX0_49 (tk T_cX0_isBeaten 5 rfl) lc78 rfl ?_
  refine a_i2l C (tk T_cX0_isBeaten 6 rfl) ?_
  refine a_topl (fun x3_2 e_x3_2 => ?_)
  have h := h x3_2 e_x3_2
  refine a_lstore_n C (tk T_cX0_isBeaten 7 rfl) (by decide) rfl ?_
  refine a_aload_n C (tk T_cX0_isBeaten 8 rfl) rfl ?_
  refine a_getI C f_RX0_52 (tk T_cX0_isBeaten 9 rfl) lc78 rfl ?_
  refine a_i2l C (tk T_cX0_isBeaten 10 rfl) ?_
  refine a_topl (fun x5_3 e_x5_3 => ?_)
  have h := h x5_3 e_x5_3
  refine a_lstore C (tk T_cX0_isBeaten 11 rfl) (by decide) rfl ?_
  refine a_iconst C (0 : Int32) (tk T_cX0_isBeaten 12 rfl) kI_0 ?_
  refine a_istore C (tk T_cX0_isBeaten 13 rfl) (by decide) rfl ?_
  obtain ⟨n1, h⟩ := h
  exact a_to (k_Bells_isBeaten_22 C hr hR n1 x1 x3_2 x5_3 (0 : Int32) M1 h) rfl
theorem ct_Bells_isBeaten {l : Launch} {g : GT} {ext : List CD} {post : Int32 → Mem → Prop} {x1 x2 : Int32} {M : Mem} (h : P_Bells_isBeaten post x1 x2 M) : CI l g (layC ++ ext) yX0_isBeaten cX0_isBeaten 8 (some .boolean) 3 [.ref (ad g 78), .int x1, .int x2] M post :=
  cz_of (plainFor_of_name (by decide +kernel)) (Nat.le_of_ble_eq_true rfl) (fun X A Z hl C hr hR => by subst hl; exact k_Bells_isBeaten C hr hR x1 x2 M h)
def T_cX11_forgedL : List (Nat × Instr × Nat) := [(0, .aload_n 0, 1), (1, .iload_n 1, 1), (2, .invokevirtual 232, 3), (5, .aload_n 0, 1), (6, .iload_n 3, 1), (7, .invokevirtual 351, 3), (10, .aload_n 0, 1), (11, .getfield 33, 3), (14, .iload_n 1, 1), (15, .invokevirtual 264, 3), (18, .aload_n 0, 1), (19, .getfield 42, 3), (22, .iload_n 2, 1), (23, .invokevirtual 354, 3), (26, .aload_n 0, 1), (27, .getfield 42, 3), (30, .iload_n 2, 1), (31, .iload_n 3, 1), (32, .invokevirtual 369, 3), (35, .ireturn, 1)]
theorem T_cX11_forged : tabOK cX11_forged T_cX11_forgedL = true := by decide +kernel
def P_R_forged (post : Int32 → Mem → Prop) (ex : String → Mem → Prop) (x1 x2 x3 : Int32) (M : Mem) : Prop :=
  P_R_wantPlate (fun M1 =>
  P_R_wantMaker (fun M2 =>
  P_Judge_open (fun M3 =>
  P_Bells_weigh (fun M4 =>
  P_Bells_isBeaten (fun r5 M5 =>
  (r5 = 0 ∨ r5 = 1) ∧ post r5 M5) x2 x3 M4) x2 M3) x1 M2) ex x3 M1) ex x1 M
theorem k_R_forged {X : FX} {g : GT} {ext : List CD} {A : Nat → Prop} {Z : State → Prop} {post : Int32 → Mem → Prop} {ex : String → Mem → Prop} {sk : Nat → Nat} (C : CxX X g (layC ++ ext) A cX11_forged 4 RX11 8 2 sk) (hT : ThX X g (layC ++ ext) A 2 Z ex) (hR : RetZ X g (layC ++ ext) A cX11_forged 4 2 (6 * 2) Z post) (x1 x2 x3 : Int32) (M : Mem) (h : P_R_forged post ex x1 x2 x3 M) : AtX X g (layC ++ ext) A 4 0 0 Z 0 [(0, .ref (ad g 0)), (1, .int x1), (2, .int x2), (3, .int x3)] [] M := by
  refine a_aload_n C.1 (tk T_cX11_forged 0 rfl) rfl ?_
  refine a_iload_n C.1 (tk T_cX11_forged 1 rfl) rfl ?_
  refine x_callV C hT [.int x1] me_yX11_wantPlate lk_RX11_232 (ct_R_wantPlate h) (by decide) lc0 rfl rfl rfl (Nat.le_of_ble_eq_true rfl) (tk T_cX11_forged 2 rfl) (by decide) (fun M1 h => ?_)
  refine a_aload_n C.1 (tk T_cX11_forged 3 rfl) rfl ?_
  refine a_iload_n C.1 (tk T_cX11_forged 4 rfl) rfl ?_
  refine x_callV C hT [.int x3] me_yX11_wantMaker lk_RX11_351 (ct_R_wantMaker h) (by decide) lc0 rfl rfl rfl (Nat.le_of_ble_eq_true rfl) (tk T_cX11_forged 5 rfl) (by decide) (fun M2 h => ?_)
  refine a_aload_n C.1 (tk T_cX11_forged 6 rfl) rfl ?_
  refine a_getR C.1 f_RX11_33 (tk T_cX11_forged 7 rfl) lc0 rfl ?_
  refine a_iload_n C.1 (tk T_cX11_forged 8 rfl) rfl ?_
  refine a_callV C.1 [.int x1] me_yX3_open lk_RX11_264 (ct_Judge_open h) (by decide) lc69 rfl rfl rfl (Nat.le_of_ble_eq_true rfl) (tk T_cX11_forged 9 rfl) ⟨Nat.le_trans (by decide) C.2.2.1, Nat.le_trans (by decide) C.2.2.2⟩ (fun M3 h => ?_)
  refine a_aload_n C.1 (tk T_cX11_forged 10 rfl) rfl ?_
  refine a_getR C.1 f_RX11_42 (tk T_cX11_forged 11 rfl) lc0 rfl ?_
  refine a_iload_n C.1 (tk T_cX11_forged 12 rfl) rfl ?_
  refine a_callV C.1 [.int x2] me_yX0_weigh lk_RX11_354 (ct_Bells_weigh h) (by decide) lc78 rfl rfl rfl (Nat.le_of_ble_eq_true rfl) (tk T_cX11_forged 13 rfl) ⟨Nat.le_trans (by decide) C.2.2.1, Nat.le_trans (by decide) C.2.2.2⟩ (fun M4 h => ?_)
  refine a_aload_n C.1 (tk T_cX11_forged 14 rfl) rfl ?_
  refine a_getR C.1 f_RX11_42 (tk T_cX11_forged 15 rfl) lc0 rfl ?_
  refine a_iload_n C.1 (tk T_cX11_forged 16 rfl) rfl ?_
  refine a_iload_n C.1 (tk T_cX11_forged 17 rfl) rfl ?_
  refine a_callI C.1 [.int x2, .int x3] me_yX0_isBeaten lk_RX11_369 (ct_Bells_isBeaten h) (by decide) lc78 rfl rfl rfl (Nat.le_of_ble_eq_true rfl) (tk T_cX11_forged 18 rfl) ⟨Nat.le_trans (by decide) C.2.2.1, Nat.le_trans (by decide) C.2.2.2⟩ (fun r5 M5 h => ?_)
  exact x_widen (by decide) (by decide) (hR _ _ _ _ (tk T_cX11_forged 19 rfl) h)
theorem ct_R_forged {l : Launch} {g : GT} {ext : List CD} {sk : Nat → Nat} {post : Int32 → Mem → Prop} {ex : String → Mem → Prop} {x1 x2 x3 : Int32} {M : Mem} (h : P_R_forged post ex x1 x2 x3 M) : XI l g (layC ++ ext) sk yX11_forged cX11_forged 4 (some .boolean) 8 2 [.ref (ad g 0), .int x1, .int x2, .int x3] M post ex :=
  xz_of (by decide +kernel) (Nat.le_of_ble_eq_true rfl) (fun X A Z hl C hR hT _ => by subst hl; exact k_R_forged C hT hR x1 x2 x3 M h)
def T_cX7_isSumL : List (Nat × Instr × Nat) := [(0, .iload_n 0, 1), (1, .iload_n 1, 1), (2, .isub, 1), (3, .iload_n 2, 1), (4, .isub, 1), (5, .invokestatic 88, 3), (8, .iload_n 3, 1), (9, .if_icmp .gt 7, 3), (12, .iconst 1, 1), (13, .goto 4, 3), (16, .iconst 0, 1), (17, .ireturn, 1)]
theorem T_cX7_isSum : tabOK cX7_isSum T_cX7_isSumL = true := by decide +kernel
def P_Rows_isSum_17 (post : Int32 → Mem → Prop) (s0 : Int32) (M : Mem) : Prop :=
  (s0 = 0 ∨ s0 = 1) ∧ post s0 M
theorem k_Rows_isSum_17 {X : FX} {g : GT} {ext : List CD} {A : Nat → Prop} {Z : State → Prop} {post : Int32 → Mem → Prop} (C : Cx X g (layC ++ ext) A cX7_isSum 4 RX7 1) (hr : 0 ≤ X.2.2.2.1.cells ∧ 0 ≤ X.2.2.2.1.slots) (hR : RetZ X g (layC ++ ext) A cX7_isSum 4 0 0 Z post) (s0 : Int32) (M : Mem) (h : P_Rows_isSum_17 post s0 M) : AtX X g (layC ++ ext) A 4 0 0 Z 17 [] [.int s0] M := by
  exact hR _ _ _ _ (tk T_cX7_isSum 11 rfl) h
def P_Rows_isSum (post : Int32 → Mem → Prop) (x0 x1 x2 x3 : Int32) (M : Mem) : Prop :=
  P_Math_abs (fun r1 M1 =>
  (x3 < r1 → (P_Rows_isSum_17 post (0 : Int32) M1)) ∧
  (¬ x3 < r1 → (P_Rows_isSum_17 post (1 : Int32) M1))) ((x0 - x1) - x2) M
theorem k_Rows_isSum {X : FX} {g : GT} {ext : List CD} {A : Nat → Prop} {Z : State → Prop} {post : Int32 → Mem → Prop} (C : Cx X g (layC ++ ext) A cX7_isSum 4 RX7 1) (hr : 0 ≤ X.2.2.2.1.cells ∧ 0 ≤ X.2.2.2.1.slots) (hR : RetZ X g (layC ++ ext) A cX7_isSum 4 0 0 Z post) (x0 x1 x2 x3 : Int32) (M : Mem) (h : P_Rows_isSum post x0 x1 x2 x3 M) : AtX X g (layC ++ ext) A 4 0 0 Z 0 [(0, .int x0), (1, .int x1), (2, .int x2), (3, .int x3)] [] M := by
  refine a_iload_n C (tk T_cX7_isSum 0 rfl) rfl ?_
  refine a_iload_n C (tk T_cX7_isSum 1 rfl) rfl ?_
  refine a_isub C (tk T_cX7_isSum 2 rfl) ?_
  refine a_iload_n C (tk T_cX7_isSum 3 rfl) rfl ?_
  refine a_isub C (tk T_cX7_isSum 4 rfl) ?_
  refine a_statI C [.int ((x0 - x1) - x2)] me_yJ9_abs_0f7a4 lk_RX7_88 (ct_Math_abs h) (by decide) rfl rfl (Nat.le_of_ble_eq_true rfl) (tk T_cX7_isSum 5 rfl) hr (fun r1 M1 h => ?_)
  refine a_iload_n C (tk T_cX7_isSum 6 rfl) rfl ?_
  refine a_icmp_gt C 16 (tk T_cX7_isSum 7 rfl) rfl (fun c => ?_) (fun c => ?_)
  · have h := h.1 c
    refine a_iconst C (0 : Int32) (tk T_cX7_isSum 10 rfl) kI_0 ?_
    exact a_to (k_Rows_isSum_17 C hr hR (0 : Int32) M1 h) rfl
  · have h := h.2 c
    refine a_iconst C (1 : Int32) (tk T_cX7_isSum 8 rfl) kI_1 ?_
    refine a_goto C 17 (tk T_cX7_isSum 9 rfl) rfl ?_
    exact a_to (k_Rows_isSum_17 C hr hR (1 : Int32) M1 h) rfl
theorem ct_Rows_isSum {l : Launch} {g : GT} {ext : List CD} {post : Int32 → Mem → Prop} {x0 x1 x2 x3 : Int32} {M : Mem} (h : P_Rows_isSum post x0 x1 x2 x3 M) : CI l g (layC ++ ext) yX7_isSum cX7_isSum 4 (some .boolean) 1 [.int x0, .int x1, .int x2, .int x3] M post :=
  cz_of (plainFor_of_name (by decide +kernel)) (Nat.le_of_ble_eq_true rfl) (fun X A Z hl C hr hR => by subst hl; exact k_Rows_isSum C hr hR x0 x1 x2 x3 M h)
def T_cX7_countSumsL : List (Nat × Instr × Nat) := [(0, .iconst 0, 1), (1, .istore_n 2, 1), (2, .iconst 0, 1), (3, .istore_n 3, 1), (4, .iload_n 3, 1), (5, .aload_n 0, 1), (6, .getfield 36, 3), (9, .if_icmp .ge 124, 3), (12, .iconst 0, 1), (13, .istore 4, 2), (15, .iload 4, 2), (17, .iload_n 3, 1), (18, .if_icmp .ge 109, 3), (21, .iconst 0, 1), (22, .istore 5, 2), (24, .iload 5, 2), (26, .iload 4, 2), (28, .if_icmp .ge 93, 3), (31, .aload_n 0, 1), (32, .getfield 11, 3), (35, .iload_n 3, 1), (36, .iaload, 1), (37, .aload_n 0, 1), (38, .getfield 11, 3), (41, .iload 4, 2), (43, .iaload, 1), (44, .aload_n 0, 1), (45, .getfield 11, 3), (48, .iload 5, 2), (50, .iaload, 1), (51, .iload_n 1, 1), (52, .invokestatic 95, 3), (55, .ifCond .ne 57, 3), (58, .aload_n 0, 1), (59, .getfield 11, 3), (62, .iload 4, 2), (64, .iaload, 1), (65, .aload_n 0, 1), (66, .getfield 11, 3), (69, .iload_n 3, 1), (70, .iaload, 1), (71, .aload_n 0, 1), (72, .getfield 11, 3), (75, .iload 5, 2), (77, .iaload, 1), (78, .iload_n 1, 1), (79, .invokestatic 95, 3), (82, .ifCond .ne 30, 3), (85, .aload_n 0, 1), (86, .getfield 11, 3), (89, .iload 5, 2), (91, .iaload, 1), (92, .aload_n 0, 1), (93, .getfield 11, 3), (96, .iload_n 3, 1), (97, .iaload, 1), (98, .aload_n 0, 1), (99, .getfield 11, 3), (102, .iload 4, 2), (104, .iaload, 1), (105, .iload_n 1, 1), (106, .invokestatic 95, 3), (109, .ifCond .eq 6, 3), (112, .iinc 2 1, 3), (115, .iinc 5 1, 3), (118, .goto (-94), 3), (121, .iinc 4 1, 3), (124, .goto (-109), 3), (127, .iinc 3 1, 3), (130, .goto (-126), 3), (133, .iload_n 2, 1), (134, .ireturn, 1)]
theorem T_cX7_countSums : tabOK cX7_countSums T_cX7_countSumsL = true := by decide +kernel
def P_Rows_countSums_115 (post : Int32 → Mem → Prop) (R4 : Int32 → Int32 → Int32 → Mem → Prop) (R15 : Int32 → Int32 → Int32 → Int32 → Mem → Prop) (R24 : Int32 → Int32 → Int32 → Int32 → Int32 → Mem → Prop) (x1 x2 x3 x4 x5 : Int32) (M : Mem) : Prop :=
  R24 x1 x2 x3 x4 (x5 + (1 : Int32)) M
theorem k_Rows_countSums_115 {X : FX} {g : GT} {ext : List CD} {A : Nat → Prop} {Z : State → Prop} {post : Int32 → Mem → Prop} {R4 : Int32 → Int32 → Int32 → Mem → Prop} {R15 : Int32 → Int32 → Int32 → Int32 → Mem → Prop} {R24 : Int32 → Int32 → Int32 → Int32 → Int32 → Mem → Prop} (C : Cx X g (layC ++ ext) A cX7_countSums 6 RX7 2) (hr : 0 ≤ X.2.2.2.1.cells ∧ 0 ≤ X.2.2.2.1.slots) (hR : RetI X g (layC ++ ext) A cX7_countSums 6 0 0 Z post) (k4 : ∀ (y1 y2 y3 : Int32) (M : Mem), R4 y1 y2 y3 M → AtX X g (layC ++ ext) A 6 0 0 Z 4 [(0, .ref (ad g 80)), (1, .int y1), (2, .int y2), (3, .int y3)] [] M) (k15 : ∀ (y1 y2 y3 y4 : Int32) (M : Mem), R15 y1 y2 y3 y4 M → AtX X g (layC ++ ext) A 6 0 0 Z 15 [(0, .ref (ad g 80)), (1, .int y1), (2, .int y2), (3, .int y3), (4, .int y4)] [] M) (k24 : ∀ (y1 y2 y3 y4 y5 : Int32) (M : Mem), R24 y1 y2 y3 y4 y5 M → AtX X g (layC ++ ext) A 6 0 0 Z 24 [(0, .ref (ad g 80)), (1, .int y1), (2, .int y2), (3, .int y3), (4, .int y4), (5, .int y5)] [] M) (x1 x2 x3 x4 x5 : Int32) (M : Mem) (h : P_Rows_countSums_115 post R4 R15 R24 x1 x2 x3 x4 x5 M) : AtX X g (layC ++ ext) A 6 0 0 Z 115 [(0, .ref (ad g 80)), (1, .int x1), (2, .int x2), (3, .int x3), (4, .int x4), (5, .int x5)] [] M := by
  refine a_iinc C (1 : Int32) (tk T_cX7_countSums 64 rfl) rfl kI_1 (by decide) rfl ?_
  refine a_goto C 24 (tk T_cX7_countSums 65 rfl) rfl ?_
  exact a_to (k24 x1 x2 x3 x4 (x5 + (1 : Int32)) M h) rfl
def P_Rows_countSums_112 (post : Int32 → Mem → Prop) (R4 : Int32 → Int32 → Int32 → Mem → Prop) (R15 : Int32 → Int32 → Int32 → Int32 → Mem → Prop) (R24 : Int32 → Int32 → Int32 → Int32 → Int32 → Mem → Prop) (x1 x2 x3 x4 x5 : Int32) (M : Mem) : Prop :=
  P_Rows_countSums_115 post R4 R15 R24 x1 (x2 + (1 : Int32)) x3 x4 x5 M
theorem k_Rows_countSums_112 {X : FX} {g : GT} {ext : List CD} {A : Nat → Prop} {Z : State → Prop} {post : Int32 → Mem → Prop} {R4 : Int32 → Int32 → Int32 → Mem → Prop} {R15 : Int32 → Int32 → Int32 → Int32 → Mem → Prop} {R24 : Int32 → Int32 → Int32 → Int32 → Int32 → Mem → Prop} (C : Cx X g (layC ++ ext) A cX7_countSums 6 RX7 2) (hr : 0 ≤ X.2.2.2.1.cells ∧ 0 ≤ X.2.2.2.1.slots) (hR : RetI X g (layC ++ ext) A cX7_countSums 6 0 0 Z post) (k4 : ∀ (y1 y2 y3 : Int32) (M : Mem), R4 y1 y2 y3 M → AtX X g (layC ++ ext) A 6 0 0 Z 4 [(0, .ref (ad g 80)), (1, .int y1), (2, .int y2), (3, .int y3)] [] M) (k15 : ∀ (y1 y2 y3 y4 : Int32) (M : Mem), R15 y1 y2 y3 y4 M → AtX X g (layC ++ ext) A 6 0 0 Z 15 [(0, .ref (ad g 80)), (1, .int y1), (2, .int y2), (3, .int y3), (4, .int y4)] [] M) (k24 : ∀ (y1 y2 y3 y4 y5 : Int32) (M : Mem), R24 y1 y2 y3 y4 y5 M → AtX X g (layC ++ ext) A 6 0 0 Z 24 [(0, .ref (ad g 80)), (1, .int y1), (2, .int y2), (3, .int y3), (4, .int y4), (5, .int y5)] [] M) (x1 x2 x3 x4 x5 : Int32) (M : Mem) (h : P_Rows_countSums_112 post R4 R15 R24 x1 x2 x3 x4 x5 M) : AtX X g (layC ++ ext) A 6 0 0 Z 112 [(0, .ref (ad g 80)), (1, .int x1), (2, .int x2), (3, .int x3), (4, .int x4), (5, .int x5)] [] M := by
  refine a_iinc C (1 : Int32) (tk T_cX7_countSums 63 rfl) rfl kI_1 (by decide) rfl ?_
  exact a_to (k_Rows_countSums_115 C hr hR k4 k15 k24 x1 (x2 + (1 : Int32)) x3 x4 x5 M h) rfl
def P_Rows_countSums_24 (post : Int32 → Mem → Prop) (R4 : Int32 → Int32 → Int32 → Mem → Prop) (R15 : Int32 → Int32 → Int32 → Int32 → Mem → Prop) : Nat → Int32 → Int32 → Int32 → Int32 → Int32 → Mem → Prop
  | 0, _, _, _, _, _, _ => False
  | n + 1, x1, x2, x3, x4, x5, M =>
    (x4 ≤ x5 → (R15 x1 x2 x3 (x4 + (1 : Int32)) M)) ∧
  (¬ x4 ≤ x5 → (vp_in x3 10 ∧ vp_in x4 10 ∧ vp_in x5 10 ∧ P_Rows_isSum (fun r1 M1 =>
  (¬ r1 = 0 → (P_Rows_countSums_112 post R4 R15 (P_Rows_countSums_24 post R4 R15 n) x1 x2 x3 x4 x5 M1)) ∧
  (r1 = 0 → (vp_in x4 10 ∧ vp_in x3 10 ∧ vp_in x5 10 ∧ P_Rows_isSum (fun r2 M2 =>
  (¬ r2 = 0 → (P_Rows_countSums_112 post R4 R15 (P_Rows_countSums_24 post R4 R15 n) x1 x2 x3 x4 x5 M2)) ∧
  (r2 = 0 → (vp_in x5 10 ∧ vp_in x3 10 ∧ vp_in x4 10 ∧ P_Rows_isSum (fun r3 M3 =>
  (r3 = 0 → (P_Rows_countSums_115 post R4 R15 (P_Rows_countSums_24 post R4 R15 n) x1 x2 x3 x4 x5 M3)) ∧
  (¬ r3 = 0 → (P_Rows_countSums_112 post R4 R15 (P_Rows_countSums_24 post R4 R15 n) x1 x2 x3 x4 x5 M3))) (M2 81 x5.toNatClampNeg) (M2 81 x3.toNatClampNeg) (M2 81 x4.toNatClampNeg) x1 M2))) (M1 81 x4.toNatClampNeg) (M1 81 x3.toNatClampNeg) (M1 81 x5.toNatClampNeg) x1 M1))) (M 81 x3.toNatClampNeg) (M 81 x4.toNatClampNeg) (M 81 x5.toNatClampNeg) x1 M))
theorem k_Rows_countSums_24 {X : FX} {g : GT} {ext : List CD} {A : Nat → Prop} {Z : State → Prop} {post : Int32 → Mem → Prop} {R4 : Int32 → Int32 → Int32 → Mem → Prop} {R15 : Int32 → Int32 → Int32 → Int32 → Mem → Prop} (C : Cx X g (layC ++ ext) A cX7_countSums 6 RX7 2) (hr : 0 ≤ X.2.2.2.1.cells ∧ 0 ≤ X.2.2.2.1.slots) (hR : RetI X g (layC ++ ext) A cX7_countSums 6 0 0 Z post) (k4 : ∀ (y1 y2 y3 : Int32) (M : Mem), R4 y1 y2 y3 M → AtX X g (layC ++ ext) A 6 0 0 Z 4 [(0, .ref (ad g 80)), (1, .int y1), (2, .int y2), (3, .int y3)] [] M) (k15 : ∀ (y1 y2 y3 y4 : Int32) (M : Mem), R15 y1 y2 y3 y4 M → AtX X g (layC ++ ext) A 6 0 0 Z 15 [(0, .ref (ad g 80)), (1, .int y1), (2, .int y2), (3, .int y3), (4, .int y4)] [] M) : ∀ (n : Nat) (x1 x2 x3 x4 x5 : Int32) (M : Mem), P_Rows_countSums_24 post R4 R15 n x1 x2 x3 x4 x5 M → AtX X g (layC ++ ext) A 6 0 0 Z 24 [(0, .ref (ad g 80)), (1, .int x1), (2, .int x2), (3, .int x3), (4, .int x4), (5, .int x5)] [] M := by
  intro n
  induction n with
  | zero =>
    intro x1 x2 x3 x4 x5 M h
    exact h.elim
  | succ n ih =>
    intro x1 x2 x3 x4 x5 M h
    refine a_iload C (tk T_cX7_countSums 15 rfl) rfl ?_
    refine a_iload C (tk T_cX7_countSums 16 rfl) rfl ?_
    refine a_icmp_ge C 121 (tk T_cX7_countSums 17 rfl) rfl (fun c => ?_) (fun c => ?_)
    · have h := h.1 c
      refine a_iinc C (1 : Int32) (tk T_cX7_countSums 66 rfl) rfl kI_1 (by decide) rfl ?_
      refine a_goto C 15 (tk T_cX7_countSums 67 rfl) rfl ?_
      exact a_to (k15 x1 x2 x3 (x4 + (1 : Int32)) M h) rfl
    · have h := h.2 c
      refine a_aload_n C (tk T_cX7_countSums 18 rfl) rfl ?_
      refine a_getR C f_RX7_11 (tk T_cX7_countSums 19 rfl) lc80 rfl ?_
      refine a_iload_n C (tk T_cX7_countSums 20 rfl) rfl ?_
      obtain ⟨hb, h⟩ := h
      refine a_iald C (tk T_cX7_countSums 21 rfl) lc81 hb ?_
      refine a_aload_n C (tk T_cX7_countSums 22 rfl) rfl ?_
      refine a_getR C f_RX7_11 (tk T_cX7_countSums 23 rfl) lc80 rfl ?_
      refine a_iload C (tk T_cX7_countSums 24 rfl) rfl ?_
      obtain ⟨hb, h⟩ := h
      refine a_iald C (tk T_cX7_countSums 25 rfl) lc81 hb ?_
      refine a_aload_n C (tk T_cX7_countSums 26 rfl) rfl ?_
      refine a_getR C f_RX7_11 (tk T_cX7_countSums 27 rfl) lc80 rfl ?_
      refine a_iload C (tk T_cX7_countSums 28 rfl) rfl ?_
      obtain ⟨hb, h⟩ := h
      refine a_iald C (tk T_cX7_countSums 29 rfl) lc81 hb ?_
      refine a_iload_n C (tk T_cX7_countSums 30 rfl) rfl ?_
      refine a_statI C [.int (M 81 x3.toNatClampNeg), .int (M 81 x4.toNatClampNeg), .int (M 81 x5.toNatClampNeg), .int x1] me_yX7_isSum lk_RX7_95 (ct_Rows_isSum h) (by decide) rfl rfl (Nat.le_of_ble_eq_true rfl) (tk T_cX7_countSums 31 rfl) hr (fun r1 M1 h => ?_)
      refine a_if_ne C 112 (tk T_cX7_countSums 32 rfl) rfl (fun c => ?_) (fun c => ?_)
      · have h := h.1 c
        exact a_to (k_Rows_countSums_112 C hr hR k4 k15 ih x1 x2 x3 x4 x5 M1 h) rfl
      · have h := h.2 c
        refine a_aload_n C (tk T_cX7_countSums 33 rfl) rfl ?_
        refine a_getR C f_RX7_11 (tk T_cX7_countSums 34 rfl) lc80 rfl ?_
        refine a_iload C (tk T_cX7_countSums 35 rfl) rfl ?_
        obtain ⟨hb, h⟩ := h
        refine a_iald C (tk T_cX7_countSums 36 rfl) lc81 hb ?_
        refine a_aload_n C (tk T_cX7_countSums 37 rfl) rfl ?_
        refine a_getR C f_RX7_11 (tk T_cX7_countSums 38 rfl) lc80 rfl ?_
        refine a_iload_n C (tk T_cX7_countSums 39 rfl) rfl ?_
        obtain ⟨hb, h⟩ := h
        refine a_iald C (tk T_cX7_countSums 40 rfl) lc81 hb ?_
        refine a_aload_n C (tk T_cX7_countSums 41 rfl) rfl ?_
        refine a_getR C f_RX7_11 (tk T_cX7_countSums 42 rfl) lc80 rfl ?_
        refine a_iload C (tk T_cX7_countSums 43 rfl) rfl ?_
        obtain ⟨hb, h⟩ := h
        refine a_iald C (tk T_cX7_countSums 44 rfl) lc81 hb ?_
        refine a_iload_n C (tk T_cX7_countSums 45 rfl) rfl ?_
        refine a_statI C [.int (M1 81 x4.toNatClampNeg), .int (M1 81 x3.toNatClampNeg), .int (M1 81 x5.toNatClampNeg), .int x1] me_yX7_isSum lk_RX7_95 (ct_Rows_isSum h) (by decide) rfl rfl (Nat.le_of_ble_eq_true rfl) (tk T_cX7_countSums 46 rfl) hr (fun r2 M2 h => ?_)
        refine a_if_ne C 112 (tk T_cX7_countSums 47 rfl) rfl (fun c => ?_) (fun c => ?_)
        · have h := h.1 c
          exact a_to (k_Rows_countSums_112 C hr hR k4 k15 ih x1 x2 x3 x4 x5 M2 h) rfl
        · have h := h.2 c
          refine a_aload_n C (tk T_cX7_countSums 48 rfl) rfl ?_
          refine a_getR C f_RX7_11 (tk T_cX7_countSums 49 rfl) lc80 rfl ?_
          refine a_iload C (tk T_cX7_countSums 50 rfl) rfl ?_
          obtain ⟨hb, h⟩ := h
          refine a_iald C (tk T_cX7_countSums 51 rfl) lc81 hb ?_
          refine a_aload_n C (tk T_cX7_countSums 52 rfl) rfl ?_
          refine a_getR C f_RX7_11 (tk T_cX7_countSums 53 rfl) lc80 rfl ?_
          refine a_iload_n C (tk T_cX7_countSums 54 rfl) rfl ?_
          obtain ⟨hb, h⟩ := h
          refine a_iald C (tk T_cX7_countSums 55 rfl) lc81 hb ?_
          refine a_aload_n C (tk T_cX7_countSums 56 rfl) rfl ?_
          refine a_getR C f_RX7_11 (tk T_cX7_countSums 57 rfl) lc80 rfl ?_
          refine a_iload C (tk T_cX7_countSums 58 rfl) rfl ?_
          obtain ⟨hb, h⟩ := h
          refine a_iald C (tk T_cX7_countSums 59 rfl) lc81 hb ?_
          refine a_iload_n C (tk T_cX7_countSums 60 rfl) rfl ?_
          refine a_statI C [.int (M2 81 x5.toNatClampNeg), .int (M2 81 x3.toNatClampNeg), .int (M2 81 x4.toNatClampNeg), .int x1] me_yX7_isSum lk_RX7_95 (ct_Rows_isSum h) (by decide) rfl rfl (Nat.le_of_ble_eq_true rfl) (tk T_cX7_countSums 61 rfl) hr (fun r3 M3 h => ?_)
          refine a_if_eq C 115 (tk T_cX7_countSums 62 rfl) rfl (fun c => ?_) (fun c => ?_)
          · have h := h.1 c
            exact a_to (k_Rows_countSums_115 C hr hR k4 k15 ih x1 x2 x3 x4 x5 M3 h) rfl
          · have h := h.2 c
            exact a_to (k_Rows_countSums_112 C hr hR k4 k15 ih x1 x2 x3 x4 x5 M3 h) rfl
def P_Rows_countSums_15 (post : Int32 → Mem → Prop) (R4 : Int32 → Int32 → Int32 → Mem → Prop) : Nat → Int32 → Int32 → Int32 → Int32 → Mem → Prop
  | 0, _, _, _, _, _ => False
  | n + 1, x1, x2, x3, x4, M =>
    (x3 ≤ x4 → (R4 x1 x2 (x3 + (1 : Int32)) M)) ∧
  (¬ x3 ≤ x4 → (∃ j24, P_Rows_countSums_24 post R4 (P_Rows_countSums_15 post R4 n) j24 x1 x2 x3 x4 (0 : Int32) M))
theorem k_Rows_countSums_15 {X : FX} {g : GT} {ext : List CD} {A : Nat → Prop} {Z : State → Prop} {post : Int32 → Mem → Prop} {R4 : Int32 → Int32 → Int32 → Mem → Prop} (C : Cx X g (layC ++ ext) A cX7_countSums 6 RX7 2) (hr : 0 ≤ X.2.2.2.1.cells ∧ 0 ≤ X.2.2.2.1.slots) (hR : RetI X g (layC ++ ext) A cX7_countSums 6 0 0 Z post) (k4 : ∀ (y1 y2 y3 : Int32) (M : Mem), R4 y1 y2 y3 M → AtX X g (layC ++ ext) A 6 0 0 Z 4 [(0, .ref (ad g 80)), (1, .int y1), (2, .int y2), (3, .int y3)] [] M) : ∀ (n : Nat) (x1 x2 x3 x4 : Int32) (M : Mem), P_Rows_countSums_15 post R4 n x1 x2 x3 x4 M → AtX X g (layC ++ ext) A 6 0 0 Z 15 [(0, .ref (ad g 80)), (1, .int x1), (2, .int x2), (3, .int x3), (4, .int x4)] [] M := by
  intro n
  induction n with
  | zero =>
    intro x1 x2 x3 x4 M h
    exact h.elim
  | succ n ih =>
    intro x1 x2 x3 x4 M h
    refine a_iload C (tk T_cX7_countSums 10 rfl) rfl ?_
    refine a_iload_n C (tk T_cX7_countSums 11 rfl) rfl ?_
    refine a_icmp_ge C 127 (tk T_cX7_countSums 12 rfl) rfl (fun c => ?_) (fun c => ?_)
    · have h := h.1 c
      refine a_iinc C (1 : Int32) (tk T_cX7_countSums 68 rfl) rfl kI_1 (by decide) rfl ?_
      refine a_goto C 4 (tk T_cX7_countSums 69 rfl) rfl ?_
      exact a_to (k4 x1 x2 (x3 + (1 : Int32)) M h) rfl
    · have h := h.2 c
      refine a_iconst C (0 : Int32) (tk T_cX7_countSums 13 rfl) kI_0 ?_
      refine a_istore C (tk T_cX7_countSums 14 rfl) (by decide) rfl ?_
      obtain ⟨n1, h⟩ := h
      exact a_to (k_Rows_countSums_24 C hr hR k4 ih n1 x1 x2 x3 x4 (0 : Int32) M h) rfl
def P_Rows_countSums_4 (post : Int32 → Mem → Prop) : Nat → Int32 → Int32 → Int32 → Mem → Prop
  | 0, _, _, _, _ => False
  | n + 1, x1, x2, x3, M =>
    ((M 80 5) ≤ x3 → (post x2 M)) ∧
  (¬ (M 80 5) ≤ x3 → (∃ j15, P_Rows_countSums_15 post (P_Rows_countSums_4 post n) j15 x1 x2 x3 (0 : Int32) M))
theorem k_Rows_countSums_4 {X : FX} {g : GT} {ext : List CD} {A : Nat → Prop} {Z : State → Prop} {post : Int32 → Mem → Prop} (C : Cx X g (layC ++ ext) A cX7_countSums 6 RX7 2) (hr : 0 ≤ X.2.2.2.1.cells ∧ 0 ≤ X.2.2.2.1.slots) (hR : RetI X g (layC ++ ext) A cX7_countSums 6 0 0 Z post) : ∀ (n : Nat) (x1 x2 x3 : Int32) (M : Mem), P_Rows_countSums_4 post n x1 x2 x3 M → AtX X g (layC ++ ext) A 6 0 0 Z 4 [(0, .ref (ad g 80)), (1, .int x1), (2, .int x2), (3, .int x3)] [] M := by
  intro n
  induction n with
  | zero =>
    intro x1 x2 x3 M h
    exact h.elim
  | succ n ih =>
    intro x1 x2 x3 M h
    refine a_iload_n C (tk T_cX7_countSums 4 rfl) rfl ?_
    refine a_aload_n C (tk T_cX7_countSums 5 rfl) rfl ?_
    refine a_getI C f_RX7_36 (tk T_cX7_countSums 6 rfl) lc80 rfl ?_
    refine a_icmp_ge C 133 (tk T_cX7_countSums 7 rfl) rfl (fun c => ?_) (fun c => ?_)
    · have h := h.1 c
      refine a_iload_n C (tk T_cX7_countSums 70 rfl) rfl ?_
      exact hR _ _ _ _ (tk T_cX7_countSums 71 rfl) h
    · have h := h.2 c
      refine a_iconst C (0 : Int32) (tk T_cX7_countSums 8 rfl) kI_0 ?_
      refine a_istore C (tk T_cX7_countSums 9 rfl) (by decide) rfl ?_
      obtain ⟨n1, h⟩ := h
      exact a_to (k_Rows_countSums_15 C hr hR ih n1 x1 x2 x3 (0 : Int32) M h) rfl
def P_Rows_countSums (post : Int32 → Mem → Prop) (x1 : Int32) (M : Mem) : Prop :=
  ∃ j4, P_Rows_countSums_4 post j4 x1 (0 : Int32) (0 : Int32) M
theorem k_Rows_countSums {X : FX} {g : GT} {ext : List CD} {A : Nat → Prop} {Z : State → Prop} {post : Int32 → Mem → Prop} (C : Cx X g (layC ++ ext) A cX7_countSums 6 RX7 2) (hr : 0 ≤ X.2.2.2.1.cells ∧ 0 ≤ X.2.2.2.1.slots) (hR : RetI X g (layC ++ ext) A cX7_countSums 6 0 0 Z post) (x1 : Int32) (M : Mem) (h : P_Rows_countSums post x1 M) : AtX X g (layC ++ ext) A 6 0 0 Z 0 [(0, .ref (ad g 80)), (1, .int x1)] [] M := by
  refine a_iconst C (0 : Int32) (tk T_cX7_countSums 0 rfl) kI_0 ?_
  refine a_istore_n C (tk T_cX7_countSums 1 rfl) (by decide) rfl ?_
  refine a_iconst C (0 : Int32) (tk T_cX7_countSums 2 rfl) kI_0 ?_
  refine a_istore_n C (tk T_cX7_countSums 3 rfl) (by decide) rfl ?_
  obtain ⟨n1, h⟩ := h
  exact a_to (k_Rows_countSums_4 C hr hR n1 x1 (0 : Int32) (0 : Int32) M h) rfl
theorem ct_Rows_countSums {l : Launch} {g : GT} {ext : List CD} {post : Int32 → Mem → Prop} {x1 : Int32} {M : Mem} (h : P_Rows_countSums post x1 M) : CI l g (layC ++ ext) yX7_countSums cX7_countSums 6 (some .int) 2 [.ref (ad g 80), .int x1] M post :=
  ci_of (plainFor_of_name (by decide +kernel)) (Nat.le_of_ble_eq_true rfl) (fun X A Z hl C hr hR => by subst hl; exact k_Rows_countSums C hr hR x1 M h)
def T_cX11_sumsL : List (Nat × Instr × Nat) := [(0, .aload_n 0, 1), (1, .iload_n 1, 1), (2, .invokevirtual 232, 3), (5, .iload_n 3, 1), (6, .iconst 0, 1), (7, .sipush 999, 3), (10, .invokestatic 68, 3), (13, .invokestatic 72, 3), (16, .aload_n 0, 1), (17, .getfield 33, 3), (20, .iload_n 1, 1), (21, .invokevirtual 264, 3), (24, .aload_n 0, 1), (25, .getfield 49, 3), (28, .iload_n 2, 1), (29, .invokevirtual 314, 3), (32, .aload_n 0, 1), (33, .getfield 49, 3), (36, .iload_n 3, 1), (37, .invokevirtual 372, 3), (40, .ireturn, 1)]
theorem T_cX11_sums : tabOK cX11_sums T_cX11_sumsL = true := by decide +kernel
def P_R_sums (post : Int32 → Mem → Prop) (ex : String → Mem → Prop) (x1 x2 x3 : Int32) (M : Mem) : Prop :=
  P_R_wantPlate (fun M1 =>
  P_R_within (fun r2 M2 =>
  P_R_wantNumber (fun M3 =>
  P_Judge_open (fun M4 =>
  P_Rows_gather (fun M5 =>
  P_Rows_countSums (fun r6 M6 =>
  post r6 M6) x3 M5) x2 M4) x1 M3) ex r2 M2) x3 (0 : Int32) (999 : Int32) M1) ex x1 M
theorem k_R_sums {X : FX} {g : GT} {ext : List CD} {A : Nat → Prop} {Z : State → Prop} {post : Int32 → Mem → Prop} {ex : String → Mem → Prop} {sk : Nat → Nat} (C : CxX X g (layC ++ ext) A cX11_sums 4 RX11 8 2 sk) (hT : ThX X g (layC ++ ext) A 2 Z ex) (hR : RetI X g (layC ++ ext) A cX11_sums 4 2 (6 * 2) Z post) (x1 x2 x3 : Int32) (M : Mem) (h : P_R_sums post ex x1 x2 x3 M) : AtX X g (layC ++ ext) A 4 0 0 Z 0 [(0, .ref (ad g 0)), (1, .int x1), (2, .int x2), (3, .int x3)] [] M := by
  refine a_aload_n C.1 (tk T_cX11_sums 0 rfl) rfl ?_
  refine a_iload_n C.1 (tk T_cX11_sums 1 rfl) rfl ?_
  refine x_callV C hT [.int x1] me_yX11_wantPlate lk_RX11_232 (ct_R_wantPlate h) (by decide) lc0 rfl rfl rfl (Nat.le_of_ble_eq_true rfl) (tk T_cX11_sums 2 rfl) (by decide) (fun M1 h => ?_)
  refine a_iload_n C.1 (tk T_cX11_sums 3 rfl) rfl ?_
  refine a_iconst C.1 (0 : Int32) (tk T_cX11_sums 4 rfl) kI_0 ?_
  refine a_sipush C.1 (999 : Int32) (tk T_cX11_sums 5 rfl) kS_999 ?_
  refine a_statI C.1 [.int x3, .int (0 : Int32), .int (999 : Int32)] me_yX11_within lk_RX11_68 (ct_R_within h) (by decide) rfl rfl (Nat.le_of_ble_eq_true rfl) (tk T_cX11_sums 6 rfl) ⟨Nat.le_trans (by decide) C.2.2.1, Nat.le_trans (by decide) C.2.2.2⟩ (fun r2 M2 h => ?_)
  refine x_statV C hT [.int r2] me_yX11_wantNumber lk_RX11_72 (ct_R_wantNumber h) (by decide) rfl rfl (Nat.le_of_ble_eq_true rfl) (tk T_cX11_sums 7 rfl) (by decide) (fun M3 h => ?_)
  refine a_aload_n C.1 (tk T_cX11_sums 8 rfl) rfl ?_
  refine a_getR C.1 f_RX11_33 (tk T_cX11_sums 9 rfl) lc0 rfl ?_
  refine a_iload_n C.1 (tk T_cX11_sums 10 rfl) rfl ?_
  refine a_callV C.1 [.int x1] me_yX3_open lk_RX11_264 (ct_Judge_open h) (by decide) lc69 rfl rfl rfl (Nat.le_of_ble_eq_true rfl) (tk T_cX11_sums 11 rfl) ⟨Nat.le_trans (by decide) C.2.2.1, Nat.le_trans (by decide) C.2.2.2⟩ (fun M4 h => ?_)
  refine a_aload_n C.1 (tk T_cX11_sums 12 rfl) rfl ?_
  refine a_getR C.1 f_RX11_49 (tk T_cX11_sums 13 rfl) lc0 rfl ?_
  refine a_iload_n C.1 (tk T_cX11_sums 14 rfl) rfl ?_
  refine a_callV C.1 [.int x2] me_yX7_gather lk_RX11_314 (ct_Rows_gather h) (by decide) lc80 rfl rfl rfl (Nat.le_of_ble_eq_true rfl) (tk T_cX11_sums 15 rfl) ⟨Nat.le_trans (by decide) C.2.2.1, Nat.le_trans (by decide) C.2.2.2⟩ (fun M5 h => ?_)
  refine a_aload_n C.1 (tk T_cX11_sums 16 rfl) rfl ?_
  refine a_getR C.1 f_RX11_49 (tk T_cX11_sums 17 rfl) lc0 rfl ?_
  refine a_iload_n C.1 (tk T_cX11_sums 18 rfl) rfl ?_
  refine a_callI C.1 [.int x3] me_yX7_countSums lk_RX11_372 (ct_Rows_countSums h) (by decide) lc80 rfl rfl rfl (Nat.le_of_ble_eq_true rfl) (tk T_cX11_sums 19 rfl) ⟨Nat.le_trans (by decide) C.2.2.1, Nat.le_trans (by decide) C.2.2.2⟩ (fun r6 M6 h => ?_)
  exact x_widen (by decide) (by decide) (hR _ _ _ _ (tk T_cX11_sums 20 rfl) h)
theorem ct_R_sums {l : Launch} {g : GT} {ext : List CD} {sk : Nat → Nat} {post : Int32 → Mem → Prop} {ex : String → Mem → Prop} {x1 x2 x3 : Int32} {M : Mem} (h : P_R_sums post ex x1 x2 x3 M) : XI l g (layC ++ ext) sk yX11_sums cX11_sums 4 (some .int) 8 2 [.ref (ad g 0), .int x1, .int x2, .int x3] M post ex :=
  xi_of (by decide +kernel) (Nat.le_of_ble_eq_true rfl) (fun X A Z hl C hR hT _ => by subst hl; exact k_R_sums C hT hR x1 x2 x3 M h)
def T_cX11_grainL : List (Nat × Instr × Nat) := [(0, .aload_n 0, 1), (1, .iload_n 1, 1), (2, .invokevirtual 232, 3), (5, .aload_n 0, 1), (6, .getfield 33, 3), (9, .iload_n 1, 1), (10, .invokevirtual 264, 3), (13, .aload_n 0, 1), (14, .getfield 33, 3), (17, .iload_n 2, 1), (18, .iconst 0, 1), (19, .invokevirtual 286, 3), (22, .istore_n 3, 1), (23, .iconst 0, 1), (24, .istore 4, 2), (26, .iconst 0, 1), (27, .istore 5, 2), (29, .iload 5, 2), (31, .aload_n 0, 1), (32, .getfield 10, 3), (35, .getfield 208, 3), (38, .getfield 235, 3), (41, .if_icmp .ge 44, 3), (44, .iload_n 3, 1), (45, .iload 5, 2), (47, .invokestatic 305, 3), (50, .ifCond .eq 29, 3), (53, .aload_n 0, 1), (54, .getfield 10, 3), (57, .getfield 208, 3), (60, .getfield 243, 3), (63, .iload 5, 2), (65, .iaload, 1), (66, .iconst 1, 1), (67, .if_icmp .ne 12, 3), (70, .iload 4, 2), (72, .iconst 1, 1), (73, .iload 5, 2), (75, .ishl, 1), (76, .ior, 1), (77, .istore 4, 2), (79, .iinc 5 1, 3), (82, .goto (-53), 3), (85, .iload 4, 2), (87, .ireturn, 1)]
theorem T_cX11_grain : tabOK cX11_grain T_cX11_grainL = true := by decide +kernel
def P_R_grain_79 (post : Int32 → Mem → Prop) (ex : String → Mem → Prop) (R29 : Int32 → Int32 → Int32 → Mem → Prop) (x3 x4 x5 : Int32) (M : Mem) : Prop :=
  R29 x3 x4 (x5 + (1 : Int32)) M
theorem k_R_grain_79 {X : FX} {g : GT} {ext : List CD} {A : Nat → Prop} {Z : State → Prop} {post : Int32 → Mem → Prop} {R29 : Int32 → Int32 → Int32 → Mem → Prop} {ex : String → Mem → Prop} {sk : Nat → Nat} (C : CxX X g (layC ++ ext) A cX11_grain 6 RX11 8 1 sk) (hT : ThX X g (layC ++ ext) A 1 Z ex) (hR : RetI X g (layC ++ ext) A cX11_grain 6 1 (6 * 1) Z post) (k29 : ∀ (y3 y4 y5 : Int32) (M : Mem), R29 y3 y4 y5 M → AtX X g (layC ++ ext) A 6 1 (6 * 1) Z 29 [(0, .ref (ad g 0)), (3, .int y3), (4, .int y4), (5, .int y5)] [] M) (x3 x4 x5 : Int32) (M : Mem) (h : P_R_grain_79 post ex R29 x3 x4 x5 M) : AtX X g (layC ++ ext) A 6 1 (6 * 1) Z 79 [(0, .ref (ad g 0)), (3, .int x3), (4, .int x4), (5, .int x5)] [] M := by
  refine a_iinc C.1 (1 : Int32) (tk T_cX11_grain 41 rfl) rfl kI_1 (by decide) rfl ?_
  refine a_goto C.1 29 (tk T_cX11_grain 42 rfl) rfl ?_
  exact x_widen (by decide) (by decide) (a_to (k29 x3 x4 (x5 + (1 : Int32)) M h) rfl)
def P_R_grain_29 (post : Int32 → Mem → Prop) (ex : String → Mem → Prop) : Nat → Int32 → Int32 → Int32 → Mem → Prop
  | 0, _, _, _, _ => False
  | n + 1, x3, x4, x5, M =>
    ((M 18 11) ≤ x5 → (post x4 M)) ∧
  (¬ (M 18 11) ≤ x5 → (P_R_has (fun r1 M1 =>
  (r1 = 0 → (P_R_grain_79 post ex (P_R_grain_29 post ex n) x3 x4 x5 M1)) ∧
  (¬ r1 = 0 → (vp_in x5 24 ∧ (¬ (M1 27 x5.toNatClampNeg) = (1 : Int32) → (P_R_grain_79 post ex (P_R_grain_29 post ex n) x3 x4 x5 M1)) ∧
  ((M1 27 x5.toNatClampNeg) = (1 : Int32) → (∀ x4_2, x4_2 = (x4 ||| ((1 : Int32) <<< (x5 &&& 31))) → P_R_grain_79 post ex (P_R_grain_29 post ex n) x3 x4_2 x5 M1))))) x3 x5 M))
theorem k_R_grain_29 {X : FX} {g : GT} {ext : List CD} {A : Nat → Prop} {Z : State → Prop} {post : Int32 → Mem → Prop} {ex : String → Mem → Prop} {sk : Nat → Nat} (C : CxX X g (layC ++ ext) A cX11_grain 6 RX11 8 1 sk) (hT : ThX X g (layC ++ ext) A 1 Z ex) (hR : RetI X g (layC ++ ext) A cX11_grain 6 1 (6 * 1) Z post) : ∀ (n : Nat) (x3 x4 x5 : Int32) (M : Mem), P_R_grain_29 post ex n x3 x4 x5 M → AtX X g (layC ++ ext) A 6 1 (6 * 1) Z 29 [(0, .ref (ad g 0)), (3, .int x3), (4, .int x4), (5, .int x5)] [] M := by
  intro n
  induction n with
  | zero =>
    intro x3 x4 x5 M h
    exact h.elim
  | succ n ih =>
    intro x3 x4 x5 M h
    refine a_iload C.1 (tk T_cX11_grain 17 rfl) rfl ?_
    refine a_aload_n C.1 (tk T_cX11_grain 18 rfl) rfl ?_
    refine a_getR C.1 f_RX11_10 (tk T_cX11_grain 19 rfl) lc0 rfl ?_
    refine a_getR C.1 f_RX11_208 (tk T_cX11_grain 20 rfl) lc1 rfl ?_
    refine a_getI C.1 f_RX11_235 (tk T_cX11_grain 21 rfl) lc18 rfl ?_
    refine a_icmp_ge C.1 85 (tk T_cX11_grain 22 rfl) rfl (fun c => ?_) (fun c => ?_)
    · have h := h.1 c
      refine a_iload C.1 (tk T_cX11_grain 43 rfl) rfl ?_
      exact x_widen (by decide) (by decide) (hR _ _ _ _ (tk T_cX11_grain 44 rfl) h)
    · have h := h.2 c
      refine a_iload_n C.1 (tk T_cX11_grain 23 rfl) rfl ?_
      refine a_iload C.1 (tk T_cX11_grain 24 rfl) rfl ?_
      refine a_statI C.1 [.int x3, .int x5] me_yX11_has lk_RX11_305 (ct_R_has h) (by decide) rfl rfl (Nat.le_of_ble_eq_true rfl) (tk T_cX11_grain 25 rfl) ⟨Nat.le_trans (by decide) C.2.2.1, Nat.le_trans (by decide) C.2.2.2⟩ (fun r1 M1 h => ?_)
      refine a_if_eq C.1 79 (tk T_cX11_grain 26 rfl) rfl (fun c => ?_) (fun c => ?_)
      · have h := h.1 c
        exact x_widen (by decide) (by decide) (a_to (k_R_grain_79 C hT hR ih x3 x4 x5 M1 h) rfl)
      · have h := h.2 c
        refine a_aload_n C.1 (tk T_cX11_grain 27 rfl) rfl ?_
        refine a_getR C.1 f_RX11_10 (tk T_cX11_grain 28 rfl) lc0 rfl ?_
        refine a_getR C.1 f_RX11_208 (tk T_cX11_grain 29 rfl) lc1 rfl ?_
        refine a_getR C.1 f_RX11_243 (tk T_cX11_grain 30 rfl) lc18 rfl ?_
        refine a_iload C.1 (tk T_cX11_grain 31 rfl) rfl ?_
        obtain ⟨hb, h⟩ := h
        refine a_iald C.1 (tk T_cX11_grain 32 rfl) lc27 hb ?_
        refine a_iconst C.1 (1 : Int32) (tk T_cX11_grain 33 rfl) kI_1 ?_
        refine a_icmp_ne C.1 79 (tk T_cX11_grain 34 rfl) rfl (fun c => ?_) (fun c => ?_)
        · have h := h.1 c
          exact x_widen (by decide) (by decide) (a_to (k_R_grain_79 C hT hR ih x3 x4 x5 M1 h) rfl)
        · have h := h.2 c
          refine a_iload C.1 (tk T_cX11_grain 35 rfl) rfl ?_
          refine a_iconst C.1 (1 : Int32) (tk T_cX11_grain 36 rfl) kI_1 ?_
          refine a_iload C.1 (tk T_cX11_grain 37 rfl) rfl ?_
          refine a_ishl C.1 (tk T_cX11_grain 38 rfl) ?_
          refine a_ior C.1 (tk T_cX11_grain 39 rfl) ?_
          refine a_top (fun x4_2 e_x4_2 => ?_)
          have h := h x4_2 e_x4_2
          refine a_istore C.1 (tk T_cX11_grain 40 rfl) (by decide) rfl ?_
          exact x_widen (by decide) (by decide) (a_to (k_R_grain_79 C hT hR ih x3 x4_2 x5 M1 h) rfl)
def P_R_grain (post : Int32 → Mem → Prop) (ex : String → Mem → Prop) (x1 x2 : Int32) (M : Mem) : Prop :=
  P_R_wantPlate (fun M1 =>
  P_Judge_open (fun M2 =>
  P_Judge_leftBits (fun r3 M3 =>
  ∃ j29, P_R_grain_29 post ex j29 r3 (0 : Int32) (0 : Int32) M3) x2 (0 : Int32) M2) x1 M1) ex x1 M
theorem k_R_grain {X : FX} {g : GT} {ext : List CD} {A : Nat → Prop} {Z : State → Prop} {post : Int32 → Mem → Prop} {ex : String → Mem → Prop} {sk : Nat → Nat} (C : CxX X g (layC ++ ext) A cX11_grain 6 RX11 8 1 sk) (hT : ThX X g (layC ++ ext) A 1 Z ex) (hR : RetI X g (layC ++ ext) A cX11_grain 6 1 (6 * 1) Z post) (x1 x2 : Int32) (M : Mem) (h : P_R_grain post ex x1 x2 M) : AtX X g (layC ++ ext) A 6 0 0 Z 0 [(0, .ref (ad g 0)), (1, .int x1), (2, .int x2)] [] M := by
  refine a_aload_n C.1 (tk T_cX11_grain 0 rfl) rfl ?_
  refine a_iload_n C.1 (tk T_cX11_grain 1 rfl) rfl ?_
  refine x_callV C hT [.int x1] me_yX11_wantPlate lk_RX11_232 (ct_R_wantPlate h) (by decide) lc0 rfl rfl rfl (Nat.le_of_ble_eq_true rfl) (tk T_cX11_grain 2 rfl) (by decide) (fun M1 h => ?_)
  refine a_aload_n C.1 (tk T_cX11_grain 3 rfl) rfl ?_
  refine a_getR C.1 f_RX11_33 (tk T_cX11_grain 4 rfl) lc0 rfl ?_
  refine a_iload_n C.1 (tk T_cX11_grain 5 rfl) rfl ?_
  refine a_callV C.1 [.int x1] me_yX3_open lk_RX11_264 (ct_Judge_open h) (by decide) lc69 rfl rfl rfl (Nat.le_of_ble_eq_true rfl) (tk T_cX11_grain 6 rfl) ⟨Nat.le_trans (by decide) C.2.2.1, Nat.le_trans (by decide) C.2.2.2⟩ (fun M2 h => ?_)
  refine a_aload_n C.1 (tk T_cX11_grain 7 rfl) rfl ?_
  refine a_getR C.1 f_RX11_33 (tk T_cX11_grain 8 rfl) lc0 rfl ?_
  refine a_iload_n C.1 (tk T_cX11_grain 9 rfl) rfl ?_
  refine a_iconst C.1 (0 : Int32) (tk T_cX11_grain 10 rfl) kI_0 ?_
  refine a_callI C.1 [.int x2, .int (0 : Int32)] me_yX3_leftBits lk_RX11_286 (ct_Judge_leftBits h) (by decide) lc69 rfl rfl rfl (Nat.le_of_ble_eq_true rfl) (tk T_cX11_grain 11 rfl) ⟨Nat.le_trans (by decide) C.2.2.1, Nat.le_trans (by decide) C.2.2.2⟩ (fun r3 M3 h => ?_)
  refine a_istore_n C.1 (tk T_cX11_grain 12 rfl) (by decide) rfl ?_
  refine a_iconst C.1 (0 : Int32) (tk T_cX11_grain 13 rfl) kI_0 ?_
  refine a_istore C.1 (tk T_cX11_grain 14 rfl) (by decide) rfl ?_
  refine a_iconst C.1 (0 : Int32) (tk T_cX11_grain 15 rfl) kI_0 ?_
  refine a_istore C.1 (tk T_cX11_grain 16 rfl) (by decide) rfl ?_
  obtain ⟨n1, h⟩ := h
  exact x_widen (by decide) (by decide) (a_to (k_R_grain_29 C hT hR n1 r3 (0 : Int32) (0 : Int32) M3 h) rfl)
theorem ct_R_grain {l : Launch} {g : GT} {ext : List CD} {sk : Nat → Nat} {post : Int32 → Mem → Prop} {ex : String → Mem → Prop} {x1 x2 : Int32} {M : Mem} (h : P_R_grain post ex x1 x2 M) : XI l g (layC ++ ext) sk yX11_grain cX11_grain 6 (some .int) 8 1 [.ref (ad g 0), .int x1, .int x2] M post ex :=
  xi_of (by decide +kernel) (Nat.le_of_ble_eq_true rfl) (fun X A Z hl C hR hT _ => by subst hl; exact k_R_grain C hT hR x1 x2 M h)
def T_cX11_nearL : List (Nat × Instr × Nat) := [(0, .aload_n 0, 1), (1, .iload_n 1, 1), (2, .invokevirtual 299, 3), (5, .aload_n 0, 1), (6, .iload_n 2, 1), (7, .invokevirtual 299, 3), (10, .iload_n 3, 1), (11, .iconst 0, 1), (12, .sipush 999, 3), (15, .invokestatic 68, 3), (18, .invokestatic 72, 3), (21, .iconst 0, 1), (22, .istore 4, 2), (24, .iconst 0, 1), (25, .istore 5, 2), (27, .iload 5, 2), (29, .aload_n 0, 1), (30, .getfield 10, 3), (33, .getfield 188, 3), (36, .getfield 198, 3), (39, .iload_n 1, 1), (40, .iaload, 1), (41, .if_icmp .ge 51, 3), (44, .aload_n 0, 1), (45, .getfield 10, 3), (48, .getfield 188, 3), (51, .getfield 204, 3), (54, .iload_n 1, 1), (55, .bipush 6, 2), (57, .imul, 1), (58, .iload 5, 2), (60, .iadd, 1), (61, .iaload, 1), (62, .istore 6, 2), (64, .aload_n 0, 1), (65, .getfield 10, 3), (68, .getfield 188, 3), (71, .iload 6, 2), (73, .iconst 1, 1), (74, .iload_n 2, 1), (75, .ishl, 1), (76, .iload_n 3, 1), (77, .invokevirtual 375, 3), (80, .ifCond .ne 6, 3), (83, .iinc 4 1, 3), (86, .iinc 5 1, 3), (89, .goto (-62), 3), (92, .iload 4, 2), (94, .ireturn, 1)]
theorem T_cX11_near : tabOK cX11_near T_cX11_nearL = true := by decide +kernel
def P_R_near_86 (post : Int32 → Mem → Prop) (ex : String → Mem → Prop) (R27 : Int32 → Int32 → Int32 → Int32 → Int32 → Mem → Prop) (x1 x2 x3 x4 x5 : Int32) (M : Mem) : Prop :=
  R27 x1 x2 x3 x4 (x5 + (1 : Int32)) M
theorem k_R_near_86 {X : FX} {g : GT} {ext : List CD} {A : Nat → Prop} {Z : State → Prop} {post : Int32 → Mem → Prop} {R27 : Int32 → Int32 → Int32 → Int32 → Int32 → Mem → Prop} {ex : String → Mem → Prop} {sk : Nat → Nat} (C : CxX X g (layC ++ ext) A cX11_near 7 RX11 8 3 sk) (hT : ThX X g (layC ++ ext) A 3 Z ex) (hR : RetI X g (layC ++ ext) A cX11_near 7 3 (6 * 3) Z post) (k27 : ∀ (y1 y2 y3 y4 y5 : Int32) (M : Mem), R27 y1 y2 y3 y4 y5 M → AtX X g (layC ++ ext) A 7 3 (6 * 3) Z 27 [(0, .ref (ad g 0)), (1, .int y1), (2, .int y2), (3, .int y3), (4, .int y4), (5, .int y5)] [] M) (x1 x2 x3 x4 x5 : Int32) (M : Mem) (h : P_R_near_86 post ex R27 x1 x2 x3 x4 x5 M) : AtX X g (layC ++ ext) A 7 3 (6 * 3) Z 86 [(0, .ref (ad g 0)), (1, .int x1), (2, .int x2), (3, .int x3), (4, .int x4), (5, .int x5)] [] M := by
  refine a_iinc C.1 (1 : Int32) (tk T_cX11_near 45 rfl) rfl kI_1 (by decide) rfl ?_
  refine a_goto C.1 27 (tk T_cX11_near 46 rfl) rfl ?_
  exact x_widen (by decide) (by decide) (a_to (k27 x1 x2 x3 x4 (x5 + (1 : Int32)) M h) rfl)
def P_R_near_27 (post : Int32 → Mem → Prop) (ex : String → Mem → Prop) : Nat → Int32 → Int32 → Int32 → Int32 → Int32 → Mem → Prop
  | 0, _, _, _, _, _, _ => False
  | n + 1, x1, x2, x3, x4, x5, M =>
    vp_in x1 6 ∧ ((M 15 x1.toNatClampNeg) ≤ x5 → (post x4 M)) ∧
  (¬ (M 15 x1.toNatClampNeg) ≤ x5 → (vp_in ((x1 * (6 : Int32)) + x5) 36 ∧ ∀ x6_1, x6_1 = (M 16 ((x1 * (6 : Int32)) + x5).toNatClampNeg) → P_Table_isFar (fun r2 M2 =>
  (¬ r2 = 0 → (P_R_near_86 post ex (P_R_near_27 post ex n) x1 x2 x3 x4 x5 M2)) ∧
  (r2 = 0 → (P_R_near_86 post ex (P_R_near_27 post ex n) x1 x2 x3 (x4 + (1 : Int32)) x5 M2))) x6_1 ((1 : Int32) <<< (x2 &&& 31)) x3 M))
theorem k_R_near_27 {X : FX} {g : GT} {ext : List CD} {A : Nat → Prop} {Z : State → Prop} {post : Int32 → Mem → Prop} {ex : String → Mem → Prop} {sk : Nat → Nat} (C : CxX X g (layC ++ ext) A cX11_near 7 RX11 8 3 sk) (hT : ThX X g (layC ++ ext) A 3 Z ex) (hR : RetI X g (layC ++ ext) A cX11_near 7 3 (6 * 3) Z post) : ∀ (n : Nat) (x1 x2 x3 x4 x5 : Int32) (M : Mem), P_R_near_27 post ex n x1 x2 x3 x4 x5 M → AtX X g (layC ++ ext) A 7 3 (6 * 3) Z 27 [(0, .ref (ad g 0)), (1, .int x1), (2, .int x2), (3, .int x3), (4, .int x4), (5, .int x5)] [] M := by
  intro n
  induction n with
  | zero =>
    intro x1 x2 x3 x4 x5 M h
    exact h.elim
  | succ n ih =>
    intro x1 x2 x3 x4 x5 M h
    refine a_iload C.1 (tk T_cX11_near 15 rfl) rfl ?_
    refine a_aload_n C.1 (tk T_cX11_near 16 rfl) rfl ?_
    refine a_getR C.1 f_RX11_10 (tk T_cX11_near 17 rfl) lc0 rfl ?_
    refine a_getR C.1 f_RX11_188 (tk T_cX11_near 18 rfl) lc1 rfl ?_
    refine a_getR C.1 f_RX11_198 (tk T_cX11_near 19 rfl) lc13 rfl ?_
    refine a_iload_n C.1 (tk T_cX11_near 20 rfl) rfl ?_
    obtain ⟨hb, h⟩ := h
    refine a_iald C.1 (tk T_cX11_near 21 rfl) lc15 hb ?_
    refine a_icmp_ge C.1 92 (tk T_cX11_near 22 rfl) rfl (fun c => ?_) (fun c => ?_)
    · have h := h.1 c
      refine a_iload C.1 (tk T_cX11_near 47 rfl) rfl ?_
      exact x_widen (by decide) (by decide) (hR _ _ _ _ (tk T_cX11_near 48 rfl) h)
    · have h := h.2 c
      refine a_aload_n C.1 (tk T_cX11_near 23 rfl) rfl ?_
      refine a_getR C.1 f_RX11_10 (tk T_cX11_near 24 rfl) lc0 rfl ?_
      refine a_getR C.1 f_RX11_188 (tk T_cX11_near 25 rfl) lc1 rfl ?_
      refine a_getR C.1 f_RX11_204 (tk T_cX11_near 26 rfl) lc13 rfl ?_
      refine a_iload_n C.1 (tk T_cX11_near 27 rfl) rfl ?_
      refine a_bipush C.1 (6 : Int32) (tk T_cX11_near 28 rfl) kB_6 ?_
      refine a_imul C.1 (tk T_cX11_near 29 rfl) ?_
      refine a_iload C.1 (tk T_cX11_near 30 rfl) rfl ?_
      refine a_iadd C.1 (tk T_cX11_near 31 rfl) ?_
      obtain ⟨hb, h⟩ := h
      refine a_iald C.1 (tk T_cX11_near 32 rfl) lc16 hb ?_
      refine a_top (fun x6_1 e_x6_1 => ?_)
      have h := h x6_1 e_x6_1
      refine a_istore C.1 (tk T_cX11_near 33 rfl) (by decide) rfl ?_
      refine a_aload_n C.1 (tk T_cX11_near 34 rfl) rfl ?_
      refine a_getR C.1 f_RX11_10 (tk T_cX11_near 35 rfl) lc0 rfl ?_
      refine a_getR C.1 f_RX11_188 (tk T_cX11_near 36 rfl) lc1 rfl ?_
      refine a_iload C.1 (tk T_cX11_near 37 rfl) rfl ?_
      refine a_iconst C.1 (1 : Int32) (tk T_cX11_near 38 rfl) kI_1 ?_
      refine a_iload_n C.1 (tk T_cX11_near 39 rfl) rfl ?_
      refine a_ishl C.1 (tk T_cX11_near 40 rfl) ?_
      refine a_iload_n C.1 (tk T_cX11_near 41 rfl) rfl ?_
      refine a_callI C.1 [.int x6_1, .int ((1 : Int32) <<< (x2 &&& 31)), .int x3] me_yX10_isFar lk_RX11_375 (ct_Table_isFar h) (by decide) lc13 rfl rfl rfl (Nat.le_of_ble_eq_true rfl) (tk T_cX11_near 42 rfl) ⟨Nat.le_trans (by decide) C.2.2.1, Nat.le_trans (by decide) C.2.2.2⟩ (fun r2 M2 h => ?_)
      refine a_if_ne C.1 86 (tk T_cX11_near 43 rfl) rfl (fun c => ?_) (fun c => ?_)
      · have h := h.1 c
        exact x_widen (by decide) (by decide) (a_to (k_R_near_86 C hT hR ih x1 x2 x3 x4 x5 M2 h) rfl)
      · have h := h.2 c
        refine a_iinc C.1 (1 : Int32) (tk T_cX11_near 44 rfl) rfl kI_1 (by decide) rfl ?_
        exact x_widen (by decide) (by decide) (a_to (k_R_near_86 C hT hR ih x1 x2 x3 (x4 + (1 : Int32)) x5 M2 h) rfl)
def P_R_near (post : Int32 → Mem → Prop) (ex : String → Mem → Prop) (x1 x2 x3 : Int32) (M : Mem) : Prop :=
  P_R_wantElement (fun M1 =>
  P_R_wantElement (fun M2 =>
  P_R_within (fun r3 M3 =>
  P_R_wantNumber (fun M4 =>
  ∃ j27, P_R_near_27 post ex j27 x1 x2 x3 (0 : Int32) (0 : Int32) M4) ex r3 M3) x3 (0 : Int32) (999 : Int32) M2) ex x2 M1) ex x1 M
theorem k_R_near {X : FX} {g : GT} {ext : List CD} {A : Nat → Prop} {Z : State → Prop} {post : Int32 → Mem → Prop} {ex : String → Mem → Prop} {sk : Nat → Nat} (C : CxX X g (layC ++ ext) A cX11_near 7 RX11 8 3 sk) (hT : ThX X g (layC ++ ext) A 3 Z ex) (hR : RetI X g (layC ++ ext) A cX11_near 7 3 (6 * 3) Z post) (x1 x2 x3 : Int32) (M : Mem) (h : P_R_near post ex x1 x2 x3 M) : AtX X g (layC ++ ext) A 7 0 0 Z 0 [(0, .ref (ad g 0)), (1, .int x1), (2, .int x2), (3, .int x3)] [] M := by
  refine a_aload_n C.1 (tk T_cX11_near 0 rfl) rfl ?_
  refine a_iload_n C.1 (tk T_cX11_near 1 rfl) rfl ?_
  refine x_callV C hT [.int x1] me_yX11_wantElement lk_RX11_299 (ct_R_wantElement h) (by decide) lc0 rfl rfl rfl (Nat.le_of_ble_eq_true rfl) (tk T_cX11_near 2 rfl) (by decide) (fun M1 h => ?_)
  refine a_aload_n C.1 (tk T_cX11_near 3 rfl) rfl ?_
  refine a_iload_n C.1 (tk T_cX11_near 4 rfl) rfl ?_
  refine x_callV C hT [.int x2] me_yX11_wantElement lk_RX11_299 (ct_R_wantElement h) (by decide) lc0 rfl rfl rfl (Nat.le_of_ble_eq_true rfl) (tk T_cX11_near 5 rfl) (by decide) (fun M2 h => ?_)
  refine a_iload_n C.1 (tk T_cX11_near 6 rfl) rfl ?_
  refine a_iconst C.1 (0 : Int32) (tk T_cX11_near 7 rfl) kI_0 ?_
  refine a_sipush C.1 (999 : Int32) (tk T_cX11_near 8 rfl) kS_999 ?_
  refine a_statI C.1 [.int x3, .int (0 : Int32), .int (999 : Int32)] me_yX11_within lk_RX11_68 (ct_R_within h) (by decide) rfl rfl (Nat.le_of_ble_eq_true rfl) (tk T_cX11_near 9 rfl) ⟨Nat.le_trans (by decide) C.2.2.1, Nat.le_trans (by decide) C.2.2.2⟩ (fun r3 M3 h => ?_)
  refine x_statV C hT [.int r3] me_yX11_wantNumber lk_RX11_72 (ct_R_wantNumber h) (by decide) rfl rfl (Nat.le_of_ble_eq_true rfl) (tk T_cX11_near 10 rfl) (by decide) (fun M4 h => ?_)
  refine a_iconst C.1 (0 : Int32) (tk T_cX11_near 11 rfl) kI_0 ?_
  refine a_istore C.1 (tk T_cX11_near 12 rfl) (by decide) rfl ?_
  refine a_iconst C.1 (0 : Int32) (tk T_cX11_near 13 rfl) kI_0 ?_
  refine a_istore C.1 (tk T_cX11_near 14 rfl) (by decide) rfl ?_
  obtain ⟨n1, h⟩ := h
  exact x_widen (by decide) (by decide) (a_to (k_R_near_27 C hT hR n1 x1 x2 x3 (0 : Int32) (0 : Int32) M4 h) rfl)
theorem ct_R_near {l : Launch} {g : GT} {ext : List CD} {sk : Nat → Nat} {post : Int32 → Mem → Prop} {ex : String → Mem → Prop} {x1 x2 x3 : Int32} {M : Mem} (h : P_R_near post ex x1 x2 x3 M) : XI l g (layC ++ ext) sk yX11_near cX11_near 7 (some .int) 8 3 [.ref (ad g 0), .int x1, .int x2, .int x3] M post ex :=
  xi_of (by decide +kernel) (Nat.le_of_ble_eq_true rfl) (fun X A Z hl C hR hT _ => by subst hl; exact k_R_near C hT hR x1 x2 x3 M h)
def T_cX11_faultL : List (Nat × Instr × Nat) := [(0, .aload_n 0, 1), (1, .getfield 56, 3), (4, .getfield 398, 3), (7, .ireturn, 1)]
theorem T_cX11_fault : tabOK cX11_fault T_cX11_faultL = true := by decide +kernel
def P_R_fault (post : Int32 → Mem → Prop) (M : Mem) : Prop :=
  post (M 84 8) M
theorem k_R_fault {X : FX} {g : GT} {ext : List CD} {A : Nat → Prop} {Z : State → Prop} {post : Int32 → Mem → Prop} (C : Cx X g (layC ++ ext) A cX11_fault 1 RX11 0) (hr : 0 ≤ X.2.2.2.1.cells ∧ 0 ≤ X.2.2.2.1.slots) (hR : RetI X g (layC ++ ext) A cX11_fault 1 0 0 Z post) (M : Mem) (h : P_R_fault post M) : AtX X g (layC ++ ext) A 1 0 0 Z 0 [(0, .ref (ad g 0))] [] M := by
  refine a_aload_n C (tk T_cX11_fault 0 rfl) rfl ?_
  refine a_getR C f_RX11_56 (tk T_cX11_fault 1 rfl) lc0 rfl ?_
  refine a_getI C f_RX11_398 (tk T_cX11_fault 2 rfl) lc84 rfl ?_
  exact hR _ _ _ _ (tk T_cX11_fault 3 rfl) h
theorem ct_R_fault {l : Launch} {g : GT} {ext : List CD} {post : Int32 → Mem → Prop} {M : Mem} (h : P_R_fault post M) : CI l g (layC ++ ext) yX11_fault cX11_fault 1 (some .int) 0 [.ref (ad g 0)] M post :=
  ci_of (plainFor_of_name (by decide +kernel)) (Nat.le_of_ble_eq_true rfl) (fun X A Z hl C hr hR => by subst hl; exact k_R_fault C hr hR  M h)
def T_cX10_allLinesL : List (Nat × Instr × Nat) := [(0, .iconst 0, 1), (1, .istore_n 1, 1), (2, .iconst 0, 1), (3, .istore_n 2, 1), (4, .iload_n 2, 1), (5, .aload_n 0, 1), (6, .getfield 25, 3), (9, .if_icmp .ge 18, 3), (12, .iload_n 1, 1), (13, .aload_n 0, 1), (14, .getfield 15, 3), (17, .iload_n 2, 1), (18, .iaload, 1), (19, .iadd, 1), (20, .istore_n 1, 1), (21, .iinc 2 1, 3), (24, .goto (-20), 3), (27, .iload_n 1, 1), (28, .ireturn, 1)]
theorem T_cX10_allLines : tabOK cX10_allLines T_cX10_allLinesL = true := by decide +kernel
def P_Table_allLines_4 (post : Int32 → Mem → Prop) : Nat → Int32 → Int32 → Mem → Prop
  | 0, _, _, _ => False
  | n + 1, x1, x2, M =>
    ((M 13 4) ≤ x2 → (post x1 M)) ∧
  (¬ (M 13 4) ≤ x2 → (vp_in x2 6 ∧ ∀ x1_1, x1_1 = (x1 + (M 15 x2.toNatClampNeg)) → P_Table_allLines_4 post n x1_1 (x2 + (1 : Int32)) M))
theorem k_Table_allLines_4 {X : FX} {g : GT} {ext : List CD} {A : Nat → Prop} {Z : State → Prop} {post : Int32 → Mem → Prop} (C : Cx X g (layC ++ ext) A cX10_allLines 3 RX10 0) (hr : 0 ≤ X.2.2.2.1.cells ∧ 0 ≤ X.2.2.2.1.slots) (hR : RetI X g (layC ++ ext) A cX10_allLines 3 0 0 Z post) : ∀ (n : Nat) (x1 x2 : Int32) (M : Mem), P_Table_allLines_4 post n x1 x2 M → AtX X g (layC ++ ext) A 3 0 0 Z 4 [(0, .ref (ad g 13)), (1, .int x1), (2, .int x2)] [] M := by
  intro n
  induction n with
  | zero =>
    intro x1 x2 M h
    exact h.elim
  | succ n ih =>
    intro x1 x2 M h
    refine a_iload_n C (tk T_cX10_allLines 4 rfl) rfl ?_
    refine a_aload_n C (tk T_cX10_allLines 5 rfl) rfl ?_
    refine a_getI C f_RX10_25 (tk T_cX10_allLines 6 rfl) lc13 rfl ?_
    refine a_icmp_ge C 27 (tk T_cX10_allLines 7 rfl) rfl (fun c => ?_) (fun c => ?_)
    · have h := h.1 c
      refine a_iload_n C (tk T_cX10_allLines 17 rfl) rfl ?_
      exact hR _ _ _ _ (tk T_cX10_allLines 18 rfl) h
    · have h := h.2 c
      refine a_iload_n C (tk T_cX10_allLines 8 rfl) rfl ?_
      refine a_aload_n C (tk T_cX10_allLines 9 rfl) rfl ?_
      refine a_getR C f_RX10_15 (tk T_cX10_allLines 10 rfl) lc13 rfl ?_
      refine a_iload_n C (tk T_cX10_allLines 11 rfl) rfl ?_
      obtain ⟨hb, h⟩ := h
      refine a_iald C (tk T_cX10_allLines 12 rfl) lc15 hb ?_
      refine a_iadd C (tk T_cX10_allLines 13 rfl) ?_
      refine a_top (fun x1_1 e_x1_1 => ?_)
      have h := h x1_1 e_x1_1
      refine a_istore_n C (tk T_cX10_allLines 14 rfl) (by decide) rfl ?_
      refine a_iinc C (1 : Int32) (tk T_cX10_allLines 15 rfl) rfl kI_1 (by decide) rfl ?_
      refine a_goto C 4 (tk T_cX10_allLines 16 rfl) rfl ?_
      exact a_to (ih x1_1 (x2 + (1 : Int32)) M h) rfl
def P_Table_allLines (post : Int32 → Mem → Prop) (M : Mem) : Prop :=
  ∃ j4, P_Table_allLines_4 post j4 (0 : Int32) (0 : Int32) M
theorem k_Table_allLines {X : FX} {g : GT} {ext : List CD} {A : Nat → Prop} {Z : State → Prop} {post : Int32 → Mem → Prop} (C : Cx X g (layC ++ ext) A cX10_allLines 3 RX10 0) (hr : 0 ≤ X.2.2.2.1.cells ∧ 0 ≤ X.2.2.2.1.slots) (hR : RetI X g (layC ++ ext) A cX10_allLines 3 0 0 Z post) (M : Mem) (h : P_Table_allLines post M) : AtX X g (layC ++ ext) A 3 0 0 Z 0 [(0, .ref (ad g 13))] [] M := by
  refine a_iconst C (0 : Int32) (tk T_cX10_allLines 0 rfl) kI_0 ?_
  refine a_istore_n C (tk T_cX10_allLines 1 rfl) (by decide) rfl ?_
  refine a_iconst C (0 : Int32) (tk T_cX10_allLines 2 rfl) kI_0 ?_
  refine a_istore_n C (tk T_cX10_allLines 3 rfl) (by decide) rfl ?_
  obtain ⟨n1, h⟩ := h
  exact a_to (k_Table_allLines_4 C hr hR n1 (0 : Int32) (0 : Int32) M h) rfl
theorem ct_Table_allLines {l : Launch} {g : GT} {ext : List CD} {post : Int32 → Mem → Prop} {M : Mem} (h : P_Table_allLines post M) : CI l g (layC ++ ext) yX10_allLines cX10_allLines 3 (some .int) 0 [.ref (ad g 13)] M post :=
  ci_of (plainFor_of_name (by decide +kernel)) (Nat.le_of_ble_eq_true rfl) (fun X A Z hl C hr hR => by subst hl; exact k_Table_allLines C hr hR  M h)
def T_cX9_allGhostsL : List (Nat × Instr × Nat) := [(0, .iconst 0, 1), (1, .istore_n 1, 1), (2, .iconst 0, 1), (3, .istore_n 2, 1), (4, .iload_n 2, 1), (5, .aload_n 0, 1), (6, .getfield 47, 3), (9, .if_icmp .ge 20, 3), (12, .aload_n 0, 1), (13, .iload_n 2, 1), (14, .invokevirtual 60, 3), (17, .ifCond .eq 6, 3), (20, .iinc 1 1, 3), (23, .iinc 2 1, 3), (26, .goto (-22), 3), (29, .iload_n 1, 1), (30, .ireturn, 1)]
theorem T_cX9_allGhosts : tabOK cX9_allGhosts T_cX9_allGhostsL = true := by decide +kernel
def P_Shelf_allGhosts_23 (post : Int32 → Mem → Prop) (R4 : Int32 → Int32 → Mem → Prop) (x1 x2 : Int32) (M : Mem) : Prop :=
  R4 x1 (x2 + (1 : Int32)) M
theorem k_Shelf_allGhosts_23 {X : FX} {g : GT} {ext : List CD} {A : Nat → Prop} {Z : State → Prop} {post : Int32 → Mem → Prop} {R4 : Int32 → Int32 → Mem → Prop} (C : Cx X g (layC ++ ext) A cX9_allGhosts 3 RX9 2) (hr : 0 ≤ X.2.2.2.1.cells ∧ 0 ≤ X.2.2.2.1.slots) (hR : RetI X g (layC ++ ext) A cX9_allGhosts 3 0 0 Z post) (k4 : ∀ (y1 y2 : Int32) (M : Mem), R4 y1 y2 M → AtX X g (layC ++ ext) A 3 0 0 Z 4 [(0, .ref (ad g 18)), (1, .int y1), (2, .int y2)] [] M) (x1 x2 : Int32) (M : Mem) (h : P_Shelf_allGhosts_23 post R4 x1 x2 M) : AtX X g (layC ++ ext) A 3 0 0 Z 23 [(0, .ref (ad g 18)), (1, .int x1), (2, .int x2)] [] M := by
  refine a_iinc C (1 : Int32) (tk T_cX9_allGhosts 13 rfl) rfl kI_1 (by decide) rfl ?_
  refine a_goto C 4 (tk T_cX9_allGhosts 14 rfl) rfl ?_
  exact a_to (k4 x1 (x2 + (1 : Int32)) M h) rfl
def P_Shelf_allGhosts_4 (post : Int32 → Mem → Prop) : Nat → Int32 → Int32 → Mem → Prop
  | 0, _, _, _ => False
  | n + 1, x1, x2, M =>
    ((M 18 11) ≤ x2 → (post x1 M)) ∧
  (¬ (M 18 11) ≤ x2 → (P_Shelf_mayBeGhost (fun r1 M1 =>
  (r1 = 0 → (P_Shelf_allGhosts_23 post (P_Shelf_allGhosts_4 post n) x1 x2 M1)) ∧
  (¬ r1 = 0 → (P_Shelf_allGhosts_23 post (P_Shelf_allGhosts_4 post n) (x1 + (1 : Int32)) x2 M1))) x2 M))
theorem k_Shelf_allGhosts_4 {X : FX} {g : GT} {ext : List CD} {A : Nat → Prop} {Z : State → Prop} {post : Int32 → Mem → Prop} (C : Cx X g (layC ++ ext) A cX9_allGhosts 3 RX9 2) (hr : 0 ≤ X.2.2.2.1.cells ∧ 0 ≤ X.2.2.2.1.slots) (hR : RetI X g (layC ++ ext) A cX9_allGhosts 3 0 0 Z post) : ∀ (n : Nat) (x1 x2 : Int32) (M : Mem), P_Shelf_allGhosts_4 post n x1 x2 M → AtX X g (layC ++ ext) A 3 0 0 Z 4 [(0, .ref (ad g 18)), (1, .int x1), (2, .int x2)] [] M := by
  intro n
  induction n with
  | zero =>
    intro x1 x2 M h
    exact h.elim
  | succ n ih =>
    intro x1 x2 M h
    refine a_iload_n C (tk T_cX9_allGhosts 4 rfl) rfl ?_
    refine a_aload_n C (tk T_cX9_allGhosts 5 rfl) rfl ?_
    refine a_getI C f_RX9_47 (tk T_cX9_allGhosts 6 rfl) lc18 rfl ?_
    refine a_icmp_ge C 29 (tk T_cX9_allGhosts 7 rfl) rfl (fun c => ?_) (fun c => ?_)
    · have h := h.1 c
      refine a_iload_n C (tk T_cX9_allGhosts 15 rfl) rfl ?_
      exact hR _ _ _ _ (tk T_cX9_allGhosts 16 rfl) h
    · have h := h.2 c
      refine a_aload_n C (tk T_cX9_allGhosts 8 rfl) rfl ?_
      refine a_iload_n C (tk T_cX9_allGhosts 9 rfl) rfl ?_
      refine a_callI C [.int x2] me_yX9_mayBeGhost lk_RX9_60 (ct_Shelf_mayBeGhost h) (by decide) lc18 rfl rfl rfl (Nat.le_of_ble_eq_true rfl) (tk T_cX9_allGhosts 10 rfl) hr (fun r1 M1 h => ?_)
      refine a_if_eq C 23 (tk T_cX9_allGhosts 11 rfl) rfl (fun c => ?_) (fun c => ?_)
      · have h := h.1 c
        exact a_to (k_Shelf_allGhosts_23 C hr hR ih x1 x2 M1 h) rfl
      · have h := h.2 c
        refine a_iinc C (1 : Int32) (tk T_cX9_allGhosts 12 rfl) rfl kI_1 (by decide) rfl ?_
        exact a_to (k_Shelf_allGhosts_23 C hr hR ih (x1 + (1 : Int32)) x2 M1 h) rfl
def P_Shelf_allGhosts (post : Int32 → Mem → Prop) (M : Mem) : Prop :=
  ∃ j4, P_Shelf_allGhosts_4 post j4 (0 : Int32) (0 : Int32) M
theorem k_Shelf_allGhosts {X : FX} {g : GT} {ext : List CD} {A : Nat → Prop} {Z : State → Prop} {post : Int32 → Mem → Prop} (C : Cx X g (layC ++ ext) A cX9_allGhosts 3 RX9 2) (hr : 0 ≤ X.2.2.2.1.cells ∧ 0 ≤ X.2.2.2.1.slots) (hR : RetI X g (layC ++ ext) A cX9_allGhosts 3 0 0 Z post) (M : Mem) (h : P_Shelf_allGhosts post M) : AtX X g (layC ++ ext) A 3 0 0 Z 0 [(0, .ref (ad g 18))] [] M := by
  refine a_iconst C (0 : Int32) (tk T_cX9_allGhosts 0 rfl) kI_0 ?_
  refine a_istore_n C (tk T_cX9_allGhosts 1 rfl) (by decide) rfl ?_
  refine a_iconst C (0 : Int32) (tk T_cX9_allGhosts 2 rfl) kI_0 ?_
  refine a_istore_n C (tk T_cX9_allGhosts 3 rfl) (by decide) rfl ?_
  obtain ⟨n1, h⟩ := h
  exact a_to (k_Shelf_allGhosts_4 C hr hR n1 (0 : Int32) (0 : Int32) M h) rfl
theorem ct_Shelf_allGhosts {l : Launch} {g : GT} {ext : List CD} {post : Int32 → Mem → Prop} {M : Mem} (h : P_Shelf_allGhosts post M) : CI l g (layC ++ ext) yX9_allGhosts cX9_allGhosts 3 (some .int) 2 [.ref (ad g 18)] M post :=
  ci_of (plainFor_of_name (by decide +kernel)) (Nat.le_of_ble_eq_true rfl) (fun X A Z hl C hr hR => by subst hl; exact k_Shelf_allGhosts C hr hR  M h)
def T_cX11_countL : List (Nat × Instr × Nat) := [(0, .iload_n 1, 1), (1, .tableswitch 195 0 10 #[59, 70, 81, 92, 103, 114, 125, 136, 144, 155, 187], 59), (60, .aload_n 0, 1), (61, .getfield 10, 3), (64, .getfield 76, 3), (67, .getfield 101, 3), (70, .ireturn, 1), (71, .aload_n 0, 1), (72, .getfield 10, 3), (75, .getfield 132, 3), (78, .getfield 145, 3), (81, .ireturn, 1), (82, .aload_n 0, 1), (83, .getfield 10, 3), (86, .getfield 188, 3), (89, .getfield 192, 3), (92, .ireturn, 1), (93, .aload_n 0, 1), (94, .getfield 10, 3), (97, .getfield 188, 3), (100, .invokevirtual 412, 3), (103, .ireturn, 1), (104, .aload_n 0, 1), (105, .getfield 10, 3), (108, .getfield 208, 3), (111, .getfield 212, 3), (114, .ireturn, 1), (115, .aload_n 0, 1), (116, .getfield 10, 3), (119, .getfield 208, 3), (122, .getfield 235, 3), (125, .ireturn, 1), (126, .aload_n 0, 1), (127, .getfield 10, 3), (130, .getfield 208, 3), (133, .invokevirtual 415, 3), (136, .ireturn, 1), (137, .aload_n 0, 1), (138, .getfield 10, 3), (141, .getfield 382, 3), (144, .ireturn, 1), (145, .aload_n 0, 1), (146, .getfield 10, 3), (149, .getfield 132, 3), (152, .getfield 136, 3), (155, .ireturn, 1), (156, .aload_n 0, 1), (157, .getfield 24, 3), (160, .invokevirtual 160, 3), (163, .aload_n 0, 1), (164, .getfield 24, 3), (167, .getfield 163, 3), (170, .ifCond .le 16, 3), (173, .aload_n 0, 1), (174, .getfield 10, 3), (177, .getfield 208, 3), (180, .getfield 235, 3), (183, .goto 4, 3), (186, .iconst 0, 1), (187, .ireturn, 1), (188, .aload_n 0, 1), (189, .getfield 10, 3), (192, .getfield 342, 3), (195, .ireturn, 1), (196, .iconst (-1), 1), (197, .ireturn, 1)]
theorem T_cX11_count : tabOK cX11_count T_cX11_countL = true := by decide +kernel
def P_R_count_187 (post : Int32 → Mem → Prop) (s0 : Int32) (M : Mem) : Prop :=
  post s0 M
theorem k_R_count_187 {X : FX} {g : GT} {ext : List CD} {A : Nat → Prop} {Z : State → Prop} {post : Int32 → Mem → Prop} (C : Cx X g (layC ++ ext) A cX11_count 2 RX11 5) (hr : 0 ≤ X.2.2.2.1.cells ∧ 0 ≤ X.2.2.2.1.slots) (hR : RetI X g (layC ++ ext) A cX11_count 2 0 0 Z post) (s0 : Int32) (M : Mem) (h : P_R_count_187 post s0 M) : AtX X g (layC ++ ext) A 2 0 0 Z 187 [] [.int s0] M := by
  exact hR _ _ _ _ (tk T_cX11_count 59 rfl) h
def P_R_count (post : Int32 → Mem → Prop) (x1 : Int32) (M : Mem) : Prop :=
  (x1 = (0 : Int32) → (post (M 2 5) M)) ∧
  (¬ x1 = (0 : Int32) → (x1 = (1 : Int32) → (post (M 8 4) M)) ∧
  (¬ x1 = (1 : Int32) → (x1 = (2 : Int32) → (post (M 13 4) M)) ∧
  (¬ x1 = (2 : Int32) → (x1 = (3 : Int32) → (P_Table_allLines (fun r1 M1 =>
  post r1 M1) M)) ∧
  (¬ x1 = (3 : Int32) → (x1 = (4 : Int32) → (post (M 18 5) M)) ∧
  (¬ x1 = (4 : Int32) → (x1 = (5 : Int32) → (post (M 18 11) M)) ∧
  (¬ x1 = (5 : Int32) → (x1 = (6 : Int32) → (P_Shelf_allGhosts (fun r2 M2 =>
  post r2 M2) M)) ∧
  (¬ x1 = (6 : Int32) → (x1 = (7 : Int32) → (post (M 1 8) M)) ∧
  (¬ x1 = (7 : Int32) → (x1 = (8 : Int32) → (post (M 8 5) M)) ∧
  (¬ x1 = (8 : Int32) → (x1 = (9 : Int32) → (P_Laws_solve (fun M3 =>
  ((M3 63 8) ≤ 0 → (P_R_count_187 post (0 : Int32) M3)) ∧
  (¬ (M3 63 8) ≤ 0 → (P_R_count_187 post (M3 18 11) M3))) M)) ∧
  (¬ x1 = (9 : Int32) → (x1 = (10 : Int32) → (post (M 1 7) M)) ∧
  (¬ x1 = (10 : Int32) → (post (-1 : Int32) M))))))))))))
theorem k_R_count {X : FX} {g : GT} {ext : List CD} {A : Nat → Prop} {Z : State → Prop} {post : Int32 → Mem → Prop} (C : Cx X g (layC ++ ext) A cX11_count 2 RX11 5) (hr : 0 ≤ X.2.2.2.1.cells ∧ 0 ≤ X.2.2.2.1.slots) (hR : RetI X g (layC ++ ext) A cX11_count 2 0 0 Z post) (x1 : Int32) (M : Mem) (h : P_R_count post x1 M) : AtX X g (layC ++ ext) A 2 0 0 Z 0 [(0, .ref (ad g 0)), (1, .int x1)] [] M := by
  refine a_iload_n C (tk T_cX11_count 0 rfl) rfl ?_
  refine a_case (0 : Int32) (fun c => ?_) (fun c0 => ?_)
  · have h := h.1 c
    refine a_tswI C (59) 60 (tk T_cX11_count 1 rfl) (by decide) rfl ?_
    refine a_aload_n C (tk T_cX11_count 2 rfl) rfl ?_
    refine a_getR C f_RX11_10 (tk T_cX11_count 3 rfl) lc0 rfl ?_
    refine a_getR C f_RX11_76 (tk T_cX11_count 4 rfl) lc1 rfl ?_
    refine a_getI C f_RX11_101 (tk T_cX11_count 5 rfl) lc2 rfl ?_
    exact hR _ _ _ _ (tk T_cX11_count 6 rfl) h
  · have h := h.2 c0
    refine a_case (1 : Int32) (fun c => ?_) (fun c1 => ?_)
    · have h := h.1 c
      refine a_tswI C (70) 71 (tk T_cX11_count 1 rfl) (by decide) rfl ?_
      refine a_aload_n C (tk T_cX11_count 7 rfl) rfl ?_
      refine a_getR C f_RX11_10 (tk T_cX11_count 8 rfl) lc0 rfl ?_
      refine a_getR C f_RX11_132 (tk T_cX11_count 9 rfl) lc1 rfl ?_
      refine a_getI C f_RX11_145 (tk T_cX11_count 10 rfl) lc8 rfl ?_
      exact hR _ _ _ _ (tk T_cX11_count 11 rfl) h
    · have h := h.2 c1
      refine a_case (2 : Int32) (fun c => ?_) (fun c2 => ?_)
      · have h := h.1 c
        refine a_tswI C (81) 82 (tk T_cX11_count 1 rfl) (by decide) rfl ?_
        refine a_aload_n C (tk T_cX11_count 12 rfl) rfl ?_
        refine a_getR C f_RX11_10 (tk T_cX11_count 13 rfl) lc0 rfl ?_
        refine a_getR C f_RX11_188 (tk T_cX11_count 14 rfl) lc1 rfl ?_
        refine a_getI C f_RX11_192 (tk T_cX11_count 15 rfl) lc13 rfl ?_
        exact hR _ _ _ _ (tk T_cX11_count 16 rfl) h
      · have h := h.2 c2
        refine a_case (3 : Int32) (fun c => ?_) (fun c3 => ?_)
        · have h := h.1 c
          refine a_tswI C (92) 93 (tk T_cX11_count 1 rfl) (by decide) rfl ?_
          refine a_aload_n C (tk T_cX11_count 17 rfl) rfl ?_
          refine a_getR C f_RX11_10 (tk T_cX11_count 18 rfl) lc0 rfl ?_
          refine a_getR C f_RX11_188 (tk T_cX11_count 19 rfl) lc1 rfl ?_
          refine a_callI C [] me_yX10_allLines lk_RX11_412 (ct_Table_allLines h) (by decide) lc13 rfl rfl rfl (Nat.le_of_ble_eq_true rfl) (tk T_cX11_count 20 rfl) hr (fun r1 M1 h => ?_)
          exact hR _ _ _ _ (tk T_cX11_count 21 rfl) h
        · have h := h.2 c3
          refine a_case (4 : Int32) (fun c => ?_) (fun c4 => ?_)
          · have h := h.1 c
            refine a_tswI C (103) 104 (tk T_cX11_count 1 rfl) (by decide) rfl ?_
            refine a_aload_n C (tk T_cX11_count 22 rfl) rfl ?_
            refine a_getR C f_RX11_10 (tk T_cX11_count 23 rfl) lc0 rfl ?_
            refine a_getR C f_RX11_208 (tk T_cX11_count 24 rfl) lc1 rfl ?_
            refine a_getI C f_RX11_212 (tk T_cX11_count 25 rfl) lc18 rfl ?_
            exact hR _ _ _ _ (tk T_cX11_count 26 rfl) h
          · have h := h.2 c4
            refine a_case (5 : Int32) (fun c => ?_) (fun c5 => ?_)
            · have h := h.1 c
              refine a_tswI C (114) 115 (tk T_cX11_count 1 rfl) (by decide) rfl ?_
              refine a_aload_n C (tk T_cX11_count 27 rfl) rfl ?_
              refine a_getR C f_RX11_10 (tk T_cX11_count 28 rfl) lc0 rfl ?_
              refine a_getR C f_RX11_208 (tk T_cX11_count 29 rfl) lc1 rfl ?_
              refine a_getI C f_RX11_235 (tk T_cX11_count 30 rfl) lc18 rfl ?_
              exact hR _ _ _ _ (tk T_cX11_count 31 rfl) h
            · have h := h.2 c5
              refine a_case (6 : Int32) (fun c => ?_) (fun c6 => ?_)
              · have h := h.1 c
                refine a_tswI C (125) 126 (tk T_cX11_count 1 rfl) (by decide) rfl ?_
                refine a_aload_n C (tk T_cX11_count 32 rfl) rfl ?_
                refine a_getR C f_RX11_10 (tk T_cX11_count 33 rfl) lc0 rfl ?_
                refine a_getR C f_RX11_208 (tk T_cX11_count 34 rfl) lc1 rfl ?_
                refine a_callI C [] me_yX9_allGhosts lk_RX11_415 (ct_Shelf_allGhosts h) (by decide) lc18 rfl rfl rfl (Nat.le_of_ble_eq_true rfl) (tk T_cX11_count 35 rfl) hr (fun r2 M2 h => ?_)
                exact hR _ _ _ _ (tk T_cX11_count 36 rfl) h
              · have h := h.2 c6
                refine a_case (7 : Int32) (fun c => ?_) (fun c7 => ?_)
                · have h := h.1 c
                  refine a_tswI C (136) 137 (tk T_cX11_count 1 rfl) (by decide) rfl ?_
                  refine a_aload_n C (tk T_cX11_count 37 rfl) rfl ?_
                  refine a_getR C f_RX11_10 (tk T_cX11_count 38 rfl) lc0 rfl ?_
                  refine a_getI C f_RX11_382 (tk T_cX11_count 39 rfl) lc1 rfl ?_
                  exact hR _ _ _ _ (tk T_cX11_count 40 rfl) h
                · have h := h.2 c7
                  refine a_case (8 : Int32) (fun c => ?_) (fun c8 => ?_)
                  · have h := h.1 c
                    refine a_tswI C (144) 145 (tk T_cX11_count 1 rfl) (by decide) rfl ?_
                    refine a_aload_n C (tk T_cX11_count 41 rfl) rfl ?_
                    refine a_getR C f_RX11_10 (tk T_cX11_count 42 rfl) lc0 rfl ?_
                    refine a_getR C f_RX11_132 (tk T_cX11_count 43 rfl) lc1 rfl ?_
                    refine a_getI C f_RX11_136 (tk T_cX11_count 44 rfl) lc8 rfl ?_
                    exact hR _ _ _ _ (tk T_cX11_count 45 rfl) h
                  · have h := h.2 c8
                    refine a_case (9 : Int32) (fun c => ?_) (fun c9 => ?_)
                    · have h := h.1 c
                      refine a_tswI C (155) 156 (tk T_cX11_count 1 rfl) (by decide) rfl ?_
                      refine a_aload_n C (tk T_cX11_count 46 rfl) rfl ?_
                      refine a_getR C f_RX11_24 (tk T_cX11_count 47 rfl) lc0 rfl ?_
                      refine a_callV C [] me_yX5_solve lk_RX11_160 (ct_Laws_solve h) (by decide) lc63 rfl rfl rfl (Nat.le_of_ble_eq_true rfl) (tk T_cX11_count 48 rfl) hr (fun M3 h => ?_)
                      refine a_aload_n C (tk T_cX11_count 49 rfl) rfl ?_
                      refine a_getR C f_RX11_24 (tk T_cX11_count 50 rfl) lc0 rfl ?_
                      refine a_getI C f_RX11_163 (tk T_cX11_count 51 rfl) lc63 rfl ?_
                      refine a_if_le C 186 (tk T_cX11_count 52 rfl) rfl (fun c => ?_) (fun c => ?_)
                      · have h := h.1 c
                        refine a_iconst C (0 : Int32) (tk T_cX11_count 58 rfl) kI_0 ?_
                        exact a_to (k_R_count_187 C hr hR (0 : Int32) M3 h) rfl
                      · have h := h.2 c
                        refine a_aload_n C (tk T_cX11_count 53 rfl) rfl ?_
                        refine a_getR C f_RX11_10 (tk T_cX11_count 54 rfl) lc0 rfl ?_
                        refine a_getR C f_RX11_208 (tk T_cX11_count 55 rfl) lc1 rfl ?_
                        refine a_getI C f_RX11_235 (tk T_cX11_count 56 rfl) lc18 rfl ?_
                        refine a_goto C 187 (tk T_cX11_count 57 rfl) rfl ?_
                        exact a_to (k_R_count_187 C hr hR (M3 18 11) M3 h) rfl
                    · have h := h.2 c9
                      refine a_case (10 : Int32) (fun c => ?_) (fun c10 => ?_)
                      · have h := h.1 c
                        refine a_tswI C (187) 188 (tk T_cX11_count 1 rfl) (by decide) rfl ?_
                        refine a_aload_n C (tk T_cX11_count 60 rfl) rfl ?_
                        refine a_getR C f_RX11_10 (tk T_cX11_count 61 rfl) lc0 rfl ?_
                        refine a_getI C f_RX11_342 (tk T_cX11_count 62 rfl) lc1 rfl ?_
                        exact hR _ _ _ _ (tk T_cX11_count 63 rfl) h
                      · have h := h.2 c10
                        have d0 := ne_toInt (z := 0) c0 (by decide)
                        have d1 := ne_toInt (z := 1) c1 (by decide)
                        have d2 := ne_toInt (z := 2) c2 (by decide)
                        have d3 := ne_toInt (z := 3) c3 (by decide)
                        have d4 := ne_toInt (z := 4) c4 (by decide)
                        have d5 := ne_toInt (z := 5) c5 (by decide)
                        have d6 := ne_toInt (z := 6) c6 (by decide)
                        have d7 := ne_toInt (z := 7) c7 (by decide)
                        have d8 := ne_toInt (z := 8) c8 (by decide)
                        have d9 := ne_toInt (z := 9) c9 (by decide)
                        have d10 := ne_toInt (z := 10) c10 (by decide)
                        refine a_tswO C 196 (tk T_cX11_count 1 rfl) (by omega) rfl ?_
                        refine a_iconst C (-1 : Int32) (tk T_cX11_count 64 rfl) kI_m1 ?_
                        exact hR _ _ _ _ (tk T_cX11_count 65 rfl) h
theorem ct_R_count {l : Launch} {g : GT} {ext : List CD} {post : Int32 → Mem → Prop} {x1 : Int32} {M : Mem} (h : P_R_count post x1 M) : CI l g (layC ++ ext) yX11_count cX11_count 2 (some .int) 5 [.ref (ad g 0), .int x1] M post :=
  ci_of (plainFor_of_name (by decide +kernel)) (Nat.le_of_ble_eq_true rfl) (fun X A Z hl C hr hR => by subst hl; exact k_R_count C hr hR x1 M h)
def T_cX6_isDigitL : List (Nat × Instr × Nat) := [(0, .iload_n 1, 1), (1, .ifCond .lt 31, 3), (4, .iload_n 1, 1), (5, .aload_n 0, 1), (6, .getfield 29, 3), (9, .if_icmp .ge 23, 3), (12, .aload_n 0, 1), (13, .getfield 9, 3), (16, .iload_n 1, 1), (17, .baload, 1), (18, .bipush 48, 2), (20, .bipush 57, 2), (22, .invokestatic 69, 3), (25, .ifCond .eq 7, 3), (28, .iconst 1, 1), (29, .goto 4, 3), (32, .iconst 0, 1), (33, .ireturn, 1)]
theorem T_cX6_isDigit : tabOK cX6_isDigit T_cX6_isDigitL = true := by decide +kernel
def P_Reader_isDigit_33 (post : Int32 → Mem → Prop) (s0 : Int32) (M : Mem) : Prop :=
  (s0 = 0 ∨ s0 = 1) ∧ post s0 M
theorem k_Reader_isDigit_33 {X : FX} {g : GT} {ext : List CD} {A : Nat → Prop} {Z : State → Prop} {post : Int32 → Mem → Prop} (C : Cx X g (layC ++ ext) A cX6_isDigit 2 RX6 1) (hr : 0 ≤ X.2.2.2.1.cells ∧ 0 ≤ X.2.2.2.1.slots) (hR : RetZ X g (layC ++ ext) A cX6_isDigit 2 0 0 Z post) (s0 : Int32) (M : Mem) (h : P_Reader_isDigit_33 post s0 M) : AtX X g (layC ++ ext) A 2 0 0 Z 33 [] [.int s0] M := by
  exact hR _ _ _ _ (tk T_cX6_isDigit 17 rfl) h
def P_Reader_isDigit_32 (post : Int32 → Mem → Prop) (M : Mem) : Prop :=
  P_Reader_isDigit_33 post (0 : Int32) M
theorem k_Reader_isDigit_32 {X : FX} {g : GT} {ext : List CD} {A : Nat → Prop} {Z : State → Prop} {post : Int32 → Mem → Prop} (C : Cx X g (layC ++ ext) A cX6_isDigit 2 RX6 1) (hr : 0 ≤ X.2.2.2.1.cells ∧ 0 ≤ X.2.2.2.1.slots) (hR : RetZ X g (layC ++ ext) A cX6_isDigit 2 0 0 Z post)  (M : Mem) (h : P_Reader_isDigit_32 post M) : AtX X g (layC ++ ext) A 2 0 0 Z 32 [] [] M := by
  refine a_iconst C (0 : Int32) (tk T_cX6_isDigit 16 rfl) kI_0 ?_
  exact a_to (k_Reader_isDigit_33 C hr hR (0 : Int32) M h) rfl
def P_Reader_isDigit (post : Int32 → Mem → Prop) (x1 : Int32) (M : Mem) : Prop :=
  (x1 < 0 → (P_Reader_isDigit_32 post M)) ∧
  (¬ x1 < 0 → (((M 84 4) ≤ x1 → (P_Reader_isDigit_32 post M)) ∧
  (¬ (M 84 4) ≤ x1 → (vp_in x1 400 ∧ P_R_within (fun r1 M1 =>
  (r1 = 0 → (P_Reader_isDigit_32 post M1)) ∧
  (¬ r1 = 0 → (P_Reader_isDigit_33 post (1 : Int32) M1))) (M 85 x1.toNatClampNeg) (48 : Int32) (57 : Int32) M))))
theorem k_Reader_isDigit {X : FX} {g : GT} {ext : List CD} {A : Nat → Prop} {Z : State → Prop} {post : Int32 → Mem → Prop} (C : Cx X g (layC ++ ext) A cX6_isDigit 2 RX6 1) (hr : 0 ≤ X.2.2.2.1.cells ∧ 0 ≤ X.2.2.2.1.slots) (hR : RetZ X g (layC ++ ext) A cX6_isDigit 2 0 0 Z post) (x1 : Int32) (M : Mem) (h : P_Reader_isDigit post x1 M) : AtX X g (layC ++ ext) A 2 0 0 Z 0 [(0, .ref (ad g 84)), (1, .int x1)] [] M := by
  refine a_iload_n C (tk T_cX6_isDigit 0 rfl) rfl ?_
  refine a_if_lt C 32 (tk T_cX6_isDigit 1 rfl) rfl (fun c => ?_) (fun c => ?_)
  · have h := h.1 c
    exact a_to (k_Reader_isDigit_32 C hr hR M h) rfl
  · have h := h.2 c
    refine a_iload_n C (tk T_cX6_isDigit 2 rfl) rfl ?_
    refine a_aload_n C (tk T_cX6_isDigit 3 rfl) rfl ?_
    refine a_getI C f_RX6_29 (tk T_cX6_isDigit 4 rfl) lc84 rfl ?_
    refine a_icmp_ge C 32 (tk T_cX6_isDigit 5 rfl) rfl (fun c => ?_) (fun c => ?_)
    · have h := h.1 c
      exact a_to (k_Reader_isDigit_32 C hr hR M h) rfl
    · have h := h.2 c
      refine a_aload_n C (tk T_cX6_isDigit 6 rfl) rfl ?_
      refine a_getR C f_RX6_9 (tk T_cX6_isDigit 7 rfl) lc84 rfl ?_
      refine a_iload_n C (tk T_cX6_isDigit 8 rfl) rfl ?_
      obtain ⟨hb, h⟩ := h
      refine a_bald C (tk T_cX6_isDigit 9 rfl) lc85 hb ?_
      refine a_bipush C (48 : Int32) (tk T_cX6_isDigit 10 rfl) kB_48 ?_
      refine a_bipush C (57 : Int32) (tk T_cX6_isDigit 11 rfl) kB_57 ?_
      refine a_nestI C [.int (M 85 x1.toNatClampNeg), .int (48 : Int32), .int (57 : Int32)] me_yX11_within lk_RX6_69 (ct_R_within h) (by decide) rfl rfl (Nat.le_of_ble_eq_true rfl) (tk T_cX6_isDigit 12 rfl) hr (fun r1 M1 h => ?_)
      refine a_if_eq C 32 (tk T_cX6_isDigit 13 rfl) rfl (fun c => ?_) (fun c => ?_)
      · have h := h.1 c
        exact a_to (k_Reader_isDigit_32 C hr hR M1 h) rfl
      · have h := h.2 c
        refine a_iconst C (1 : Int32) (tk T_cX6_isDigit 14 rfl) kI_1 ?_
        refine a_goto C 33 (tk T_cX6_isDigit 15 rfl) rfl ?_
        exact a_to (k_Reader_isDigit_33 C hr hR (1 : Int32) M1 h) rfl
theorem ct_Reader_isDigit {l : Launch} {g : GT} {ext : List CD} {post : Int32 → Mem → Prop} {x1 : Int32} {M : Mem} (h : P_Reader_isDigit post x1 M) : CI l g (layC ++ ext) yX6_isDigit cX6_isDigit 2 (some .boolean) 1 [.ref (ad g 84), .int x1] M post :=
  cz_of (plainFor_of_name (by decide +kernel)) (Nat.le_of_ble_eq_true rfl) (fun X A Z hl C hr hR => by subst hl; exact k_Reader_isDigit C hr hR x1 M h)
def T_cX6_isLetterL : List (Nat × Instr × Nat) := [(0, .iload_n 1, 1), (1, .ifCond .lt 31, 3), (4, .iload_n 1, 1), (5, .aload_n 0, 1), (6, .getfield 29, 3), (9, .if_icmp .ge 23, 3), (12, .aload_n 0, 1), (13, .getfield 9, 3), (16, .iload_n 1, 1), (17, .baload, 1), (18, .bipush 97, 2), (20, .bipush 122, 2), (22, .invokestatic 69, 3), (25, .ifCond .eq 7, 3), (28, .iconst 1, 1), (29, .goto 4, 3), (32, .iconst 0, 1), (33, .ireturn, 1)]
theorem T_cX6_isLetter : tabOK cX6_isLetter T_cX6_isLetterL = true := by decide +kernel
def P_Reader_isLetter_33 (post : Int32 → Mem → Prop) (s0 : Int32) (M : Mem) : Prop :=
  (s0 = 0 ∨ s0 = 1) ∧ post s0 M
theorem k_Reader_isLetter_33 {X : FX} {g : GT} {ext : List CD} {A : Nat → Prop} {Z : State → Prop} {post : Int32 → Mem → Prop} (C : Cx X g (layC ++ ext) A cX6_isLetter 2 RX6 1) (hr : 0 ≤ X.2.2.2.1.cells ∧ 0 ≤ X.2.2.2.1.slots) (hR : RetZ X g (layC ++ ext) A cX6_isLetter 2 0 0 Z post) (s0 : Int32) (M : Mem) (h : P_Reader_isLetter_33 post s0 M) : AtX X g (layC ++ ext) A 2 0 0 Z 33 [] [.int s0] M := by
  exact hR _ _ _ _ (tk T_cX6_isLetter 17 rfl) h
def P_Reader_isLetter_32 (post : Int32 → Mem → Prop) (M : Mem) : Prop :=
  P_Reader_isLetter_33 post (0 : Int32) M
theorem k_Reader_isLetter_32 {X : FX} {g : GT} {ext : List CD} {A : Nat → Prop} {Z : State → Prop} {post : Int32 → Mem → Prop} (C : Cx X g (layC ++ ext) A cX6_isLetter 2 RX6 1) (hr : 0 ≤ X.2.2.2.1.cells ∧ 0 ≤ X.2.2.2.1.slots) (hR : RetZ X g (layC ++ ext) A cX6_isLetter 2 0 0 Z post)  (M : Mem) (h : P_Reader_isLetter_32 post M) : AtX X g (layC ++ ext) A 2 0 0 Z 32 [] [] M := by
  refine a_iconst C (0 : Int32) (tk T_cX6_isLetter 16 rfl) kI_0 ?_
  exact a_to (k_Reader_isLetter_33 C hr hR (0 : Int32) M h) rfl
def P_Reader_isLetter (post : Int32 → Mem → Prop) (x1 : Int32) (M : Mem) : Prop :=
  (x1 < 0 → (P_Reader_isLetter_32 post M)) ∧
  (¬ x1 < 0 → (((M 84 4) ≤ x1 → (P_Reader_isLetter_32 post M)) ∧
  (¬ (M 84 4) ≤ x1 → (vp_in x1 400 ∧ P_R_within (fun r1 M1 =>
  (r1 = 0 → (P_Reader_isLetter_32 post M1)) ∧
  (¬ r1 = 0 → (P_Reader_isLetter_33 post (1 : Int32) M1))) (M 85 x1.toNatClampNeg) (97 : Int32) (122 : Int32) M))))
theorem k_Reader_isLetter {X : FX} {g : GT} {ext : List CD} {A : Nat → Prop} {Z : State → Prop} {post : Int32 → Mem → Prop} (C : Cx X g (layC ++ ext) A cX6_isLetter 2 RX6 1) (hr : 0 ≤ X.2.2.2.1.cells ∧ 0 ≤ X.2.2.2.1.slots) (hR : RetZ X g (layC ++ ext) A cX6_isLetter 2 0 0 Z post) (x1 : Int32) (M : Mem) (h : P_Reader_isLetter post x1 M) : AtX X g (layC ++ ext) A 2 0 0 Z 0 [(0, .ref (ad g 84)), (1, .int x1)] [] M := by
  refine a_iload_n C (tk T_cX6_isLetter 0 rfl) rfl ?_
  refine a_if_lt C 32 (tk T_cX6_isLetter 1 rfl) rfl (fun c => ?_) (fun c => ?_)
  · have h := h.1 c
    exact a_to (k_Reader_isLetter_32 C hr hR M h) rfl
  · have h := h.2 c
    refine a_iload_n C (tk T_cX6_isLetter 2 rfl) rfl ?_
    refine a_aload_n C (tk T_cX6_isLetter 3 rfl) rfl ?_
    refine a_getI C f_RX6_29 (tk T_cX6_isLetter 4 rfl) lc84 rfl ?_
    refine a_icmp_ge C 32 (tk T_cX6_isLetter 5 rfl) rfl (fun c => ?_) (fun c => ?_)
    · have h := h.1 c
      exact a_to (k_Reader_isLetter_32 C hr hR M h) rfl
    · have h := h.2 c
      refine a_aload_n C (tk T_cX6_isLetter 6 rfl) rfl ?_
      refine a_getR C f_RX6_9 (tk T_cX6_isLetter 7 rfl) lc84 rfl ?_
      refine a_iload_n C (tk T_cX6_isLetter 8 rfl) rfl ?_
      obtain ⟨hb, h⟩ := h
      refine a_bald C (tk T_cX6_isLetter 9 rfl) lc85 hb ?_
      refine a_bipush C (97 : Int32) (tk T_cX6_isLetter 10 rfl) kB_97 ?_
      refine a_bipush C (122 : Int32) (tk T_cX6_isLetter 11 rfl) kB_122 ?_
      refine a_nestI C [.int (M 85 x1.toNatClampNeg), .int (97 : Int32), .int (122 : Int32)] me_yX11_within lk_RX6_69 (ct_R_within h) (by decide) rfl rfl (Nat.le_of_ble_eq_true rfl) (tk T_cX6_isLetter 12 rfl) hr (fun r1 M1 h => ?_)
      refine a_if_eq C 32 (tk T_cX6_isLetter 13 rfl) rfl (fun c => ?_) (fun c => ?_)
      · have h := h.1 c
        exact a_to (k_Reader_isLetter_32 C hr hR M1 h) rfl
      · have h := h.2 c
        refine a_iconst C (1 : Int32) (tk T_cX6_isLetter 14 rfl) kI_1 ?_
        refine a_goto C 33 (tk T_cX6_isLetter 15 rfl) rfl ?_
        exact a_to (k_Reader_isLetter_33 C hr hR (1 : Int32) M1 h) rfl
theorem ct_Reader_isLetter {l : Launch} {g : GT} {ext : List CD} {post : Int32 → Mem → Prop} {x1 : Int32} {M : Mem} (h : P_Reader_isLetter post x1 M) : CI l g (layC ++ ext) yX6_isLetter cX6_isLetter 2 (some .boolean) 1 [.ref (ad g 84), .int x1] M post :=
  cz_of (plainFor_of_name (by decide +kernel)) (Nat.le_of_ble_eq_true rfl) (fun X A Z hl C hr hR => by subst hl; exact k_Reader_isLetter C hr hR x1 M h)
def T_cX6_signEndL : List (Nat × Instr × Nat) := [(0, .iload_n 1, 1), (1, .iconst 1, 1), (2, .iadd, 1), (3, .istore_n 2, 1), (4, .aload_n 0, 1), (5, .iload_n 1, 1), (6, .invokevirtual 63, 3), (9, .istore_n 3, 1), (10, .aload_n 0, 1), (11, .iload_n 1, 1), (12, .invokevirtual 66, 3), (15, .istore 4, 2), (17, .iconst 0, 1), (18, .istore 5, 2), (20, .iload 5, 2), (22, .sipush 400, 3), (25, .if_icmp .ge 37, 3), (28, .iload_n 3, 1), (29, .ifCond .eq 11, 3), (32, .aload_n 0, 1), (33, .iload_n 2, 1), (34, .invokevirtual 63, 3), (37, .ifCond .ne 16, 3), (40, .iload 4, 2), (42, .ifCond .eq 20, 3), (45, .aload_n 0, 1), (46, .iload_n 2, 1), (47, .invokevirtual 66, 3), (50, .ifCond .eq 12, 3), (53, .iinc 2 1, 3), (56, .iinc 5 1, 3), (59, .goto (-39), 3), (62, .iload_n 2, 1), (63, .ireturn, 1)]
theorem T_cX6_signEnd : tabOK cX6_signEnd T_cX6_signEndL = true := by decide +kernel
def P_Reader_signEnd_62 (post : Int32 → Mem → Prop) (x2 : Int32) (M : Mem) : Prop :=
  post x2 M
theorem k_Reader_signEnd_62 {X : FX} {g : GT} {ext : List CD} {A : Nat → Prop} {Z : State → Prop} {post : Int32 → Mem → Prop} (C : Cx X g (layC ++ ext) A cX6_signEnd 6 RX6 2) (hr : 0 ≤ X.2.2.2.1.cells ∧ 0 ≤ X.2.2.2.1.slots) (hR : RetI X g (layC ++ ext) A cX6_signEnd 6 0 0 Z post) (x2 : Int32) (M : Mem) (h : P_Reader_signEnd_62 post x2 M) : AtX X g (layC ++ ext) A 6 0 0 Z 62 [(2, .int x2)] [] M := by
  refine a_iload_n C (tk T_cX6_signEnd 32 rfl) rfl ?_
  exact hR _ _ _ _ (tk T_cX6_signEnd 33 rfl) h
def P_Reader_signEnd_53 (post : Int32 → Mem → Prop) (R20 : Int32 → Int32 → Int32 → Int32 → Mem → Prop) (x2 x3 x4 x5 : Int32) (M : Mem) : Prop :=
  R20 (x2 + (1 : Int32)) x3 x4 (x5 + (1 : Int32)) M
theorem k_Reader_signEnd_53 {X : FX} {g : GT} {ext : List CD} {A : Nat → Prop} {Z : State → Prop} {post : Int32 → Mem → Prop} {R20 : Int32 → Int32 → Int32 → Int32 → Mem → Prop} (C : Cx X g (layC ++ ext) A cX6_signEnd 6 RX6 2) (hr : 0 ≤ X.2.2.2.1.cells ∧ 0 ≤ X.2.2.2.1.slots) (hR : RetI X g (layC ++ ext) A cX6_signEnd 6 0 0 Z post) (k20 : ∀ (y2 y3 y4 y5 : Int32) (M : Mem), R20 y2 y3 y4 y5 M → AtX X g (layC ++ ext) A 6 0 0 Z 20 [(0, .ref (ad g 84)), (2, .int y2), (3, .int y3), (4, .int y4), (5, .int y5)] [] M) (x2 x3 x4 x5 : Int32) (M : Mem) (h : P_Reader_signEnd_53 post R20 x2 x3 x4 x5 M) : AtX X g (layC ++ ext) A 6 0 0 Z 53 [(0, .ref (ad g 84)), (2, .int x2), (3, .int x3), (4, .int x4), (5, .int x5)] [] M := by
  refine a_iinc C (1 : Int32) (tk T_cX6_signEnd 29 rfl) rfl kI_1 (by decide) rfl ?_
  refine a_iinc C (1 : Int32) (tk T_cX6_signEnd 30 rfl) rfl kI_1 (by decide) rfl ?_
  refine a_goto C 20 (tk T_cX6_signEnd 31 rfl) rfl ?_
  exact a_to (k20 (x2 + (1 : Int32)) x3 x4 (x5 + (1 : Int32)) M h) rfl
def P_Reader_signEnd_40 (post : Int32 → Mem → Prop) (R20 : Int32 → Int32 → Int32 → Int32 → Mem → Prop) (x2 x3 x4 x5 : Int32) (M : Mem) : Prop :=
  (x4 = 0 → (P_Reader_signEnd_62 post x2 M)) ∧
  (¬ x4 = 0 → (P_Reader_isDigit (fun r1 M1 =>
  (r1 = 0 → (P_Reader_signEnd_62 post x2 M1)) ∧
  (¬ r1 = 0 → (P_Reader_signEnd_53 post R20 x2 x3 x4 x5 M1))) x2 M))
theorem k_Reader_signEnd_40 {X : FX} {g : GT} {ext : List CD} {A : Nat → Prop} {Z : State → Prop} {post : Int32 → Mem → Prop} {R20 : Int32 → Int32 → Int32 → Int32 → Mem → Prop} (C : Cx X g (layC ++ ext) A cX6_signEnd 6 RX6 2) (hr : 0 ≤ X.2.2.2.1.cells ∧ 0 ≤ X.2.2.2.1.slots) (hR : RetI X g (layC ++ ext) A cX6_signEnd 6 0 0 Z post) (k20 : ∀ (y2 y3 y4 y5 : Int32) (M : Mem), R20 y2 y3 y4 y5 M → AtX X g (layC ++ ext) A 6 0 0 Z 20 [(0, .ref (ad g 84)), (2, .int y2), (3, .int y3), (4, .int y4), (5, .int y5)] [] M) (x2 x3 x4 x5 : Int32) (M : Mem) (h : P_Reader_signEnd_40 post R20 x2 x3 x4 x5 M) : AtX X g (layC ++ ext) A 6 0 0 Z 40 [(0, .ref (ad g 84)), (2, .int x2), (3, .int x3), (4, .int x4), (5, .int x5)] [] M := by
  refine a_iload C (tk T_cX6_signEnd 23 rfl) rfl ?_
  refine a_if_eq C 62 (tk T_cX6_signEnd 24 rfl) rfl (fun c => ?_) (fun c => ?_)
  · have h := h.1 c
    exact a_to (k_Reader_signEnd_62 C hr hR x2 M h) rfl
  · have h := h.2 c
    refine a_aload_n C (tk T_cX6_signEnd 25 rfl) rfl ?_
    refine a_iload_n C (tk T_cX6_signEnd 26 rfl) rfl ?_
    refine a_callI C [.int x2] me_yX6_isDigit lk_RX6_66 (ct_Reader_isDigit h) (by decide) lc84 rfl rfl rfl (Nat.le_of_ble_eq_true rfl) (tk T_cX6_signEnd 27 rfl) hr (fun r1 M1 h => ?_)
    refine a_if_eq C 62 (tk T_cX6_signEnd 28 rfl) rfl (fun c => ?_) (fun c => ?_)
    · have h := h.1 c
      exact a_to (k_Reader_signEnd_62 C hr hR x2 M1 h) rfl
    · have h := h.2 c
      exact a_to (k_Reader_signEnd_53 C hr hR k20 x2 x3 x4 x5 M1 h) rfl
def P_Reader_signEnd_20 (post : Int32 → Mem → Prop) : Nat → Int32 → Int32 → Int32 → Int32 → Mem → Prop
  | 0, _, _, _, _, _ => False
  | n + 1, x2, x3, x4, x5, M =>
    ((400 : Int32) ≤ x5 → (P_Reader_signEnd_62 post x2 M)) ∧
  (¬ (400 : Int32) ≤ x5 → ((x3 = 0 → (P_Reader_signEnd_40 post (P_Reader_signEnd_20 post n) x2 x3 x4 x5 M)) ∧
  (¬ x3 = 0 → (P_Reader_isLetter (fun r1 M1 =>
  (¬ r1 = 0 → (P_Reader_signEnd_53 post (P_Reader_signEnd_20 post n) x2 x3 x4 x5 M1)) ∧
  (r1 = 0 → (P_Reader_signEnd_40 post (P_Reader_signEnd_20 post n) x2 x3 x4 x5 M1))) x2 M))))
theorem k_Reader_signEnd_20 {X : FX} {g : GT} {ext : List CD} {A : Nat → Prop} {Z : State → Prop} {post : Int32 → Mem → Prop} (C : Cx X g (layC ++ ext) A cX6_signEnd 6 RX6 2) (hr : 0 ≤ X.2.2.2.1.cells ∧ 0 ≤ X.2.2.2.1.slots) (hR : RetI X g (layC ++ ext) A cX6_signEnd 6 0 0 Z post) : ∀ (n : Nat) (x2 x3 x4 x5 : Int32) (M : Mem), P_Reader_signEnd_20 post n x2 x3 x4 x5 M → AtX X g (layC ++ ext) A 6 0 0 Z 20 [(0, .ref (ad g 84)), (2, .int x2), (3, .int x3), (4, .int x4), (5, .int x5)] [] M := by
  intro n
  induction n with
  | zero =>
    intro x2 x3 x4 x5 M h
    exact h.elim
  | succ n ih =>
    intro x2 x3 x4 x5 M h
    refine a_iload C (tk T_cX6_signEnd 14 rfl) rfl ?_
    refine a_sipush C (400 : Int32) (tk T_cX6_signEnd 15 rfl) kS_400 ?_
    refine a_icmp_ge C 62 (tk T_cX6_signEnd 16 rfl) rfl (fun c => ?_) (fun c => ?_)
    · have h := h.1 c
      exact a_to (k_Reader_signEnd_62 C hr hR x2 M h) rfl
    · have h := h.2 c
      refine a_iload_n C (tk T_cX6_signEnd 17 rfl) rfl ?_
      refine a_if_eq C 40 (tk T_cX6_signEnd 18 rfl) rfl (fun c => ?_) (fun c => ?_)
      · have h := h.1 c
        exact a_to (k_Reader_signEnd_40 C hr hR ih x2 x3 x4 x5 M h) rfl
      · have h := h.2 c
        refine a_aload_n C (tk T_cX6_signEnd 19 rfl) rfl ?_
        refine a_iload_n C (tk T_cX6_signEnd 20 rfl) rfl ?_
        refine a_callI C [.int x2] me_yX6_isLetter lk_RX6_63 (ct_Reader_isLetter h) (by decide) lc84 rfl rfl rfl (Nat.le_of_ble_eq_true rfl) (tk T_cX6_signEnd 21 rfl) hr (fun r1 M1 h => ?_)
        refine a_if_ne C 53 (tk T_cX6_signEnd 22 rfl) rfl (fun c => ?_) (fun c => ?_)
        · have h := h.1 c
          exact a_to (k_Reader_signEnd_53 C hr hR ih x2 x3 x4 x5 M1 h) rfl
        · have h := h.2 c
          exact a_to (k_Reader_signEnd_40 C hr hR ih x2 x3 x4 x5 M1 h) rfl
def P_Reader_signEnd (post : Int32 → Mem → Prop) (x1 : Int32) (M : Mem) : Prop :=
  ∀ x2_1, x2_1 = (x1 + (1 : Int32)) → P_Reader_isLetter (fun r2 M2 =>
  P_Reader_isDigit (fun r3 M3 =>
  ∃ j20, P_Reader_signEnd_20 post j20 x2_1 r2 r3 (0 : Int32) M3) x1 M2) x1 M
theorem k_Reader_signEnd {X : FX} {g : GT} {ext : List CD} {A : Nat → Prop} {Z : State → Prop} {post : Int32 → Mem → Prop} (C : Cx X g (layC ++ ext) A cX6_signEnd 6 RX6 2) (hr : 0 ≤ X.2.2.2.1.cells ∧ 0 ≤ X.2.2.2.1.slots) (hR : RetI X g (layC ++ ext) A cX6_signEnd 6 0 0 Z post) (x1 : Int32) (M : Mem) (h : P_Reader_signEnd post x1 M) : AtX X g (layC ++ ext) A 6 0 0 Z 0 [(0, .ref (ad g 84)), (1, .int x1)] [] M := by
  refine a_iload_n C (tk T_cX6_signEnd 0 rfl) rfl ?_
  refine a_iconst C (1 : Int32) (tk T_cX6_signEnd 1 rfl) kI_1 ?_
  refine a_iadd C (tk T_cX6_signEnd 2 rfl) ?_
  refine a_top (fun x2_1 e_x2_1 => ?_)
  have h := h x2_1 e_x2_1
  refine a_istore_n C (tk T_cX6_signEnd 3 rfl) (by decide) rfl ?_
  refine a_aload_n C (tk T_cX6_signEnd 4 rfl) rfl ?_
  refine a_iload_n C (tk T_cX6_signEnd 5 rfl) rfl ?_
  refine a_callI C [.int x1] me_yX6_isLetter lk_RX6_63 (ct_Reader_isLetter h) (by decide) lc84 rfl rfl rfl (Nat.le_of_ble_eq_true rfl) (tk T_cX6_signEnd 6 rfl) hr (fun r2 M2 h => ?_)
  refine a_istore_n C (tk T_cX6_signEnd 7 rfl) (by decide) rfl ?_
  refine a_aload_n C (tk T_cX6_signEnd 8 rfl) rfl ?_
  refine a_iload_n C (tk T_cX6_signEnd 9 rfl) rfl ?_
  refine a_callI C [.int x1] me_yX6_isDigit lk_RX6_66 (ct_Reader_isDigit h) (by decide) lc84 rfl rfl rfl (Nat.le_of_ble_eq_true rfl) (tk T_cX6_signEnd 10 rfl) hr (fun r3 M3 h => ?_)
  refine a_istore C (tk T_cX6_signEnd 11 rfl) (by decide) rfl ?_
  refine a_iconst C (0 : Int32) (tk T_cX6_signEnd 12 rfl) kI_0 ?_
  refine a_istore C (tk T_cX6_signEnd 13 rfl) (by decide) rfl ?_
  obtain ⟨n1, h⟩ := h
  exact a_to (k_Reader_signEnd_20 C hr hR n1 x2_1 r2 r3 (0 : Int32) M3 h) rfl
theorem ct_Reader_signEnd {l : Launch} {g : GT} {ext : List CD} {post : Int32 → Mem → Prop} {x1 : Int32} {M : Mem} (h : P_Reader_signEnd post x1 M) : CI l g (layC ++ ext) yX6_signEnd cX6_signEnd 6 (some .int) 2 [.ref (ad g 84), .int x1] M post :=
  ci_of (plainFor_of_name (by decide +kernel)) (Nat.le_of_ble_eq_true rfl) (fun X A Z hl C hr hR => by subst hl; exact k_Reader_signEnd C hr hR x1 M h)
def T_cX6_valueOfL : List (Nat × Instr × Nat) := [(0, .iconst 0, 1), (1, .istore_n 3, 1), (2, .iload_n 1, 1), (3, .istore 4, 2), (5, .iload 4, 2), (7, .iload_n 2, 1), (8, .if_icmp .ge 34, 3), (11, .aload_n 0, 1), (12, .iload 4, 2), (14, .invokevirtual 66, 3), (17, .ifCond .eq 25, 3), (20, .bipush 10, 2), (22, .iload_n 3, 1), (23, .imul, 1), (24, .aload_n 0, 1), (25, .getfield 9, 3), (28, .iload 4, 2), (30, .baload, 1), (31, .iadd, 1), (32, .bipush 48, 2), (34, .isub, 1), (35, .istore_n 3, 1), (36, .iinc 4 1, 3), (39, .goto (-34), 3), (42, .iload_n 3, 1), (43, .ireturn, 1)]
theorem T_cX6_valueOf : tabOK cX6_valueOf T_cX6_valueOfL = true := by decide +kernel
def P_Reader_valueOf_42 (post : Int32 → Mem → Prop) (x3 : Int32) (M : Mem) : Prop :=
  post x3 M
theorem k_Reader_valueOf_42 {X : FX} {g : GT} {ext : List CD} {A : Nat → Prop} {Z : State → Prop} {post : Int32 → Mem → Prop} (C : Cx X g (layC ++ ext) A cX6_valueOf 5 RX6 2) (hr : 0 ≤ X.2.2.2.1.cells ∧ 0 ≤ X.2.2.2.1.slots) (hR : RetI X g (layC ++ ext) A cX6_valueOf 5 0 0 Z post) (x3 : Int32) (M : Mem) (h : P_Reader_valueOf_42 post x3 M) : AtX X g (layC ++ ext) A 5 0 0 Z 42 [(3, .int x3)] [] M := by
  refine a_iload_n C (tk T_cX6_valueOf 24 rfl) rfl ?_
  exact hR _ _ _ _ (tk T_cX6_valueOf 25 rfl) h
def P_Reader_valueOf_5 (post : Int32 → Mem → Prop) : Nat → Int32 → Int32 → Int32 → Mem → Prop
  | 0, _, _, _, _ => False
  | n + 1, x2, x3, x4, M =>
    (x2 ≤ x4 → (P_Reader_valueOf_42 post x3 M)) ∧
  (¬ x2 ≤ x4 → (P_Reader_isDigit (fun r1 M1 =>
  (r1 = 0 → (P_Reader_valueOf_42 post x3 M1)) ∧
  (¬ r1 = 0 → (vp_in x4 400 ∧ ∀ v2, v2 = ((((10 : Int32) * x3) + (M1 85 x4.toNatClampNeg)) - (48 : Int32)) → P_Reader_valueOf_5 post n x2 v2 (x4 + (1 : Int32)) M1))) x4 M))
theorem k_Reader_valueOf_5 {X : FX} {g : GT} {ext : List CD} {A : Nat → Prop} {Z : State → Prop} {post : Int32 → Mem → Prop} (C : Cx X g (layC ++ ext) A cX6_valueOf 5 RX6 2) (hr : 0 ≤ X.2.2.2.1.cells ∧ 0 ≤ X.2.2.2.1.slots) (hR : RetI X g (layC ++ ext) A cX6_valueOf 5 0 0 Z post) : ∀ (n : Nat) (x2 x3 x4 : Int32) (M : Mem), P_Reader_valueOf_5 post n x2 x3 x4 M → AtX X g (layC ++ ext) A 5 0 0 Z 5 [(0, .ref (ad g 84)), (2, .int x2), (3, .int x3), (4, .int x4)] [] M := by
  intro n
  induction n with
  | zero =>
    intro x2 x3 x4 M h
    exact h.elim
  | succ n ih =>
    intro x2 x3 x4 M h
    refine a_iload C (tk T_cX6_valueOf 4 rfl) rfl ?_
    refine a_iload_n C (tk T_cX6_valueOf 5 rfl) rfl ?_
    refine a_icmp_ge C 42 (tk T_cX6_valueOf 6 rfl) rfl (fun c => ?_) (fun c => ?_)
    · have h := h.1 c
      exact a_to (k_Reader_valueOf_42 C hr hR x3 M h) rfl
    · have h := h.2 c
      refine a_aload_n C (tk T_cX6_valueOf 7 rfl) rfl ?_
      refine a_iload C (tk T_cX6_valueOf 8 rfl) rfl ?_
      refine a_callI C [.int x4] me_yX6_isDigit lk_RX6_66 (ct_Reader_isDigit h) (by decide) lc84 rfl rfl rfl (Nat.le_of_ble_eq_true rfl) (tk T_cX6_valueOf 9 rfl) hr (fun r1 M1 h => ?_)
      refine a_if_eq C 42 (tk T_cX6_valueOf 10 rfl) rfl (fun c => ?_) (fun c => ?_)
      · have h := h.1 c
        exact a_to (k_Reader_valueOf_42 C hr hR x3 M1 h) rfl
      · have h := h.2 c
        refine a_bipush C (10 : Int32) (tk T_cX6_valueOf 11 rfl) kB_10 ?_
        refine a_iload_n C (tk T_cX6_valueOf 12 rfl) rfl ?_
        refine a_imul C (tk T_cX6_valueOf 13 rfl) ?_
        refine a_aload_n C (tk T_cX6_valueOf 14 rfl) rfl ?_
        refine a_getR C f_RX6_9 (tk T_cX6_valueOf 15 rfl) lc84 rfl ?_
        refine a_iload C (tk T_cX6_valueOf 16 rfl) rfl ?_
        obtain ⟨hb, h⟩ := h
        refine a_bald C (tk T_cX6_valueOf 17 rfl) lc85 hb ?_
        refine a_iadd C (tk T_cX6_valueOf 18 rfl) ?_
        refine a_bipush C (48 : Int32) (tk T_cX6_valueOf 19 rfl) kB_48 ?_
        refine a_isub C (tk T_cX6_valueOf 20 rfl) ?_
        refine a_top (fun v2 e_v2 => ?_)
        have h := h v2 e_v2
        refine a_istore_n C (tk T_cX6_valueOf 21 rfl) (by decide) rfl ?_
        refine a_iinc C (1 : Int32) (tk T_cX6_valueOf 22 rfl) rfl kI_1 (by decide) rfl ?_
        refine a_goto C 5 (tk T_cX6_valueOf 23 rfl) rfl ?_
        exact a_to (ih x2 v2 (x4 + (1 : Int32)) M1 h) rfl
def P_Reader_valueOf (post : Int32 → Mem → Prop) (x1 x2 : Int32) (M : Mem) : Prop :=
  ∃ j5, P_Reader_valueOf_5 post j5 x2 (0 : Int32) x1 M
theorem k_Reader_valueOf {X : FX} {g : GT} {ext : List CD} {A : Nat → Prop} {Z : State → Prop} {post : Int32 → Mem → Prop} (C : Cx X g (layC ++ ext) A cX6_valueOf 5 RX6 2) (hr : 0 ≤ X.2.2.2.1.cells ∧ 0 ≤ X.2.2.2.1.slots) (hR : RetI X g (layC ++ ext) A cX6_valueOf 5 0 0 Z post) (x1 x2 : Int32) (M : Mem) (h : P_Reader_valueOf post x1 x2 M) : AtX X g (layC ++ ext) A 5 0 0 Z 0 [(0, .ref (ad g 84)), (1, .int x1), (2, .int x2)] [] M := by
  refine a_iconst C (0 : Int32) (tk T_cX6_valueOf 0 rfl) kI_0 ?_
  refine a_istore_n C (tk T_cX6_valueOf 1 rfl) (by decide) rfl ?_
  refine a_iload_n C (tk T_cX6_valueOf 2 rfl) rfl ?_
  refine a_istore C (tk T_cX6_valueOf 3 rfl) (by decide) rfl ?_
  obtain ⟨n1, h⟩ := h
  exact a_to (k_Reader_valueOf_5 C hr hR n1 x2 (0 : Int32) x1 M h) rfl
theorem ct_Reader_valueOf {l : Launch} {g : GT} {ext : List CD} {post : Int32 → Mem → Prop} {x1 x2 : Int32} {M : Mem} (h : P_Reader_valueOf post x1 x2 M) : CI l g (layC ++ ext) yX6_valueOf cX6_valueOf 5 (some .int) 2 [.ref (ad g 84), .int x1, .int x2] M post :=
  ci_of (plainFor_of_name (by decide +kernel)) (Nat.le_of_ble_eq_true rfl) (fun X A Z hl C hr hR => by subst hl; exact k_Reader_valueOf C hr hR x1 x2 M h)
def T_cX6_codedL : List (Nat × Instr × Nat) := [(0, .iload_n 0, 1), (1, .bipush 32, 2), (3, .iload_n 1, 1), (4, .imul, 1), (5, .iadd, 1), (6, .ireturn, 1)]
theorem T_cX6_coded : tabOK cX6_coded T_cX6_codedL = true := by decide +kernel
def P_Reader_coded (post : Int32 → Mem → Prop) (x0 x1 : Int32) (M : Mem) : Prop :=
  post (x0 + ((32 : Int32) * x1)) M
theorem k_Reader_coded {X : FX} {g : GT} {ext : List CD} {A : Nat → Prop} {Z : State → Prop} {post : Int32 → Mem → Prop} (C : Cx X g (layC ++ ext) A cX6_coded 2 RX6 0) (hr : 0 ≤ X.2.2.2.1.cells ∧ 0 ≤ X.2.2.2.1.slots) (hR : RetI X g (layC ++ ext) A cX6_coded 2 0 0 Z post) (x0 x1 : Int32) (M : Mem) (h : P_Reader_coded post x0 x1 M) : AtX X g (layC ++ ext) A 2 0 0 Z 0 [(0, .int x0), (1, .int x1)] [] M := by
  refine a_iload_n C (tk T_cX6_coded 0 rfl) rfl ?_
  refine a_bipush C (32 : Int32) (tk T_cX6_coded 1 rfl) kB_32 ?_
  refine a_iload_n C (tk T_cX6_coded 2 rfl) rfl ?_
  refine a_imul C (tk T_cX6_coded 3 rfl) ?_
  refine a_iadd C (tk T_cX6_coded 4 rfl) ?_
  exact hR _ _ _ _ (tk T_cX6_coded 5 rfl) h
theorem ct_Reader_coded {l : Launch} {g : GT} {ext : List CD} {post : Int32 → Mem → Prop} {x0 x1 : Int32} {M : Mem} (h : P_Reader_coded post x0 x1 M) : CI l g (layC ++ ext) yX6_coded cX6_coded 2 (some .int) 0 [.int x0, .int x1] M post :=
  ci_of (plainFor_of_name (by decide +kernel)) (Nat.le_of_ble_eq_true rfl) (fun X A Z hl C hr hR => by subst hl; exact k_Reader_coded C hr hR x0 x1 M h)
def T_cX6_isWordL : List (Nat × Instr × Nat) := [(0, .iload_n 2, 1), (1, .iload_n 1, 1), (2, .isub, 1), (3, .aload_n 3, 1), (4, .invokevirtual 111, 3), (7, .if_icmp .ne 14, 3), (10, .iload_n 1, 1), (11, .ifCond .lt 10, 3), (14, .iload_n 2, 1), (15, .sipush 400, 3), (18, .if_icmp .le 5, 3), (21, .iconst 0, 1), (22, .ireturn, 1), (23, .iconst 0, 1), (24, .istore 4, 2), (26, .iload 4, 2), (28, .aload_n 3, 1), (29, .invokevirtual 111, 3), (32, .if_icmp .ge 29, 3), (35, .aload_n 0, 1), (36, .getfield 9, 3), (39, .iload_n 1, 1), (40, .iload 4, 2), (42, .iadd, 1), (43, .baload, 1), (44, .aload_n 3, 1), (45, .iload 4, 2), (47, .invokevirtual 116, 3), (50, .if_icmp .eq 5, 3), (53, .iconst 0, 1), (54, .ireturn, 1), (55, .iinc 4 1, 3), (58, .goto (-32), 3), (61, .iconst 1, 1), (62, .ireturn, 1)]
theorem T_cX6_isWord : tabOK cX6_isWord T_cX6_isWordL = true := by decide +kernel
def P_Reader_isWord_w0_26 (post : Int32 → Mem → Prop) : Nat → Int32 → Int32 → Mem → Prop
  | 0, _, _, _ => False
  | n + 1, x1, x4, M =>
    P_len 0 (fun r1 M1 =>
  (r1 ≤ x4 → (post (1 : Int32) M1)) ∧
  (¬ r1 ≤ x4 → (vp_in (x1 + x4) 400 ∧ P_chr 0 (fun r2 M2 =>
  ((M1 85 (x1 + x4).toNatClampNeg) = r2 → (P_Reader_isWord_w0_26 post n x1 (x4 + (1 : Int32)) M2)) ∧
  (¬ (M1 85 (x1 + x4).toNatClampNeg) = r2 → (post (0 : Int32) M2))) x4 M1))) M
theorem k_Reader_isWord_w0_26 {X : FX} {g : GT} {ext : List CD} {A : Nat → Prop} {Z : State → Prop} {post : Int32 → Mem → Prop} {sk : Nat → Nat} (C : CxX X g (layC ++ ext) A cX6_isWord 5 RX6 4 0 sk) (hr : 0 ≤ X.2.2.2.1.cells ∧ 0 ≤ X.2.2.2.1.slots) (hR : RetZ X g (layC ++ ext) A cX6_isWord 5 0 0 Z post) : ∀ (n : Nat) (x1 x4 : Int32) (M : Mem), P_Reader_isWord_w0_26 post n x1 x4 M → AtX X g (layC ++ ext) A 5 0 0 Z 26 [(0, .ref (ad g 84)), (3, .ref (sk (10 + 0))), (1, .int x1), (4, .int x4)] [] M := by
  intro n
  induction n with
  | zero =>
    intro x1 x4 M h
    exact h.elim
  | succ n ih =>
    intro x1 x4 M h
    refine a_iload C.1 (tk T_cX6_isWord 15 rfl) rfl ?_
    refine a_aload_n C.1 (tk T_cX6_isWord 16 rfl) rfl ?_
    refine s_strI C [] me_yJ0_length_8abf5 rfl lk_RX6_111 (ct_lenP (o := 10) (j := 0) ⟨Or.inl rfl, by decide⟩ h) (by decide) (wok.at (o := 10) (j := 0) ⟨Or.inl rfl, by decide⟩ C.2.1.2.2.2.2.2.2.2).1 rfl rfl (Nat.le_of_ble_eq_true rfl) (tk T_cX6_isWord 17 rfl) hr (fun r1 M1 h => ?_)
    refine a_icmp_ge C.1 61 (tk T_cX6_isWord 18 rfl) rfl (fun c => ?_) (fun c => ?_)
    · have h := h.1 c
      refine a_iconst C.1 (1 : Int32) (tk T_cX6_isWord 33 rfl) kI_1 ?_
      exact hR _ _ _ _ (tk T_cX6_isWord 34 rfl) ⟨Or.inr rfl, h⟩
    · have h := h.2 c
      refine a_aload_n C.1 (tk T_cX6_isWord 19 rfl) rfl ?_
      refine a_getR C.1 f_RX6_9 (tk T_cX6_isWord 20 rfl) lc84 rfl ?_
      refine a_iload_n C.1 (tk T_cX6_isWord 21 rfl) rfl ?_
      refine a_iload C.1 (tk T_cX6_isWord 22 rfl) rfl ?_
      refine a_iadd C.1 (tk T_cX6_isWord 23 rfl) ?_
      obtain ⟨hb, h⟩ := h
      refine a_bald C.1 (tk T_cX6_isWord 24 rfl) lc85 hb ?_
      refine a_aload_n C.1 (tk T_cX6_isWord 25 rfl) rfl ?_
      refine a_iload C.1 (tk T_cX6_isWord 26 rfl) rfl ?_
      refine s_strI C [.int x4] me_yJ0_charAt_5068e rfl lk_RX6_116 (ct_chrP (o := 10) (j := 0) ⟨Or.inl rfl, by decide⟩ h) (by decide) (wok.at (o := 10) (j := 0) ⟨Or.inl rfl, by decide⟩ C.2.1.2.2.2.2.2.2.2).1 rfl rfl (Nat.le_of_ble_eq_true rfl) (tk T_cX6_isWord 27 rfl) hr (fun r2 M2 h => ?_)
      refine a_icmp_eq C.1 55 (tk T_cX6_isWord 28 rfl) rfl (fun c => ?_) (fun c => ?_)
      · have h := h.1 c
        refine a_iinc C.1 (1 : Int32) (tk T_cX6_isWord 31 rfl) rfl kI_1 (by decide) rfl ?_
        refine a_goto C.1 26 (tk T_cX6_isWord 32 rfl) rfl ?_
        exact a_to (ih x1 (x4 + (1 : Int32)) M2 h) rfl
      · have h := h.2 c
        refine a_iconst C.1 (0 : Int32) (tk T_cX6_isWord 29 rfl) kI_0 ?_
        exact hR _ _ _ _ (tk T_cX6_isWord 30 rfl) ⟨Or.inl rfl, h⟩
def P_Reader_isWord_w0_21 (post : Int32 → Mem → Prop) (M : Mem) : Prop :=
  post (0 : Int32) M
theorem k_Reader_isWord_w0_21 {X : FX} {g : GT} {ext : List CD} {A : Nat → Prop} {Z : State → Prop} {post : Int32 → Mem → Prop} {sk : Nat → Nat} (C : CxX X g (layC ++ ext) A cX6_isWord 5 RX6 4 0 sk) (hr : 0 ≤ X.2.2.2.1.cells ∧ 0 ≤ X.2.2.2.1.slots) (hR : RetZ X g (layC ++ ext) A cX6_isWord 5 0 0 Z post)  (M : Mem) (h : P_Reader_isWord_w0_21 post M) : AtX X g (layC ++ ext) A 5 0 0 Z 21 [] [] M := by
  refine a_iconst C.1 (0 : Int32) (tk T_cX6_isWord 11 rfl) kI_0 ?_
  exact hR _ _ _ _ (tk T_cX6_isWord 12 rfl) ⟨Or.inl rfl, h⟩
def P_Reader_isWord_w0 (post : Int32 → Mem → Prop) (x1 x2 : Int32) (M : Mem) : Prop :=
  P_len 0 (fun r1 M1 =>
  (¬ (x2 - x1) = r1 → (P_Reader_isWord_w0_21 post M1)) ∧
  ((x2 - x1) = r1 → ((x1 < 0 → (P_Reader_isWord_w0_21 post M1)) ∧
  (¬ x1 < 0 → ((x2 ≤ (400 : Int32) → (∃ j26, P_Reader_isWord_w0_26 post j26 x1 (0 : Int32) M1)) ∧
  (¬ x2 ≤ (400 : Int32) → (P_Reader_isWord_w0_21 post M1))))))) M
theorem k_Reader_isWord_w0 {X : FX} {g : GT} {ext : List CD} {A : Nat → Prop} {Z : State → Prop} {post : Int32 → Mem → Prop} {sk : Nat → Nat} (C : CxX X g (layC ++ ext) A cX6_isWord 5 RX6 4 0 sk) (hr : 0 ≤ X.2.2.2.1.cells ∧ 0 ≤ X.2.2.2.1.slots) (hR : RetZ X g (layC ++ ext) A cX6_isWord 5 0 0 Z post) (x1 x2 : Int32) (M : Mem) (h : P_Reader_isWord_w0 post x1 x2 M) : AtX X g (layC ++ ext) A 5 0 0 Z 0 [(0, .ref (ad g 84)), (1, .int x1), (2, .int x2), (3, .ref (sk (10 + 0)))] [] M := by
  refine a_iload_n C.1 (tk T_cX6_isWord 0 rfl) rfl ?_
  refine a_iload_n C.1 (tk T_cX6_isWord 1 rfl) rfl ?_
  refine a_isub C.1 (tk T_cX6_isWord 2 rfl) ?_
  refine a_aload_n C.1 (tk T_cX6_isWord 3 rfl) rfl ?_
  refine s_strI C [] me_yJ0_length_8abf5 rfl lk_RX6_111 (ct_lenP (o := 10) (j := 0) ⟨Or.inl rfl, by decide⟩ h) (by decide) (wok.at (o := 10) (j := 0) ⟨Or.inl rfl, by decide⟩ C.2.1.2.2.2.2.2.2.2).1 rfl rfl (Nat.le_of_ble_eq_true rfl) (tk T_cX6_isWord 4 rfl) hr (fun r1 M1 h => ?_)
  refine a_icmp_ne C.1 21 (tk T_cX6_isWord 5 rfl) rfl (fun c => ?_) (fun c => ?_)
  · have h := h.1 c
    exact a_to (k_Reader_isWord_w0_21 C hr hR M1 h) rfl
  · have h := h.2 c
    refine a_iload_n C.1 (tk T_cX6_isWord 6 rfl) rfl ?_
    refine a_if_lt C.1 21 (tk T_cX6_isWord 7 rfl) rfl (fun c => ?_) (fun c => ?_)
    · have h := h.1 c
      exact a_to (k_Reader_isWord_w0_21 C hr hR M1 h) rfl
    · have h := h.2 c
      refine a_iload_n C.1 (tk T_cX6_isWord 8 rfl) rfl ?_
      refine a_sipush C.1 (400 : Int32) (tk T_cX6_isWord 9 rfl) kS_400 ?_
      refine a_icmp_le C.1 23 (tk T_cX6_isWord 10 rfl) rfl (fun c => ?_) (fun c => ?_)
      · have h := h.1 c
        refine a_iconst C.1 (0 : Int32) (tk T_cX6_isWord 13 rfl) kI_0 ?_
        refine a_istore C.1 (tk T_cX6_isWord 14 rfl) (by decide) rfl ?_
        obtain ⟨n1, h⟩ := h
        exact a_to (k_Reader_isWord_w0_26 C hr hR n1 x1 (0 : Int32) M1 h) rfl
      · have h := h.2 c
        exact a_to (k_Reader_isWord_w0_21 C hr hR M1 h) rfl
theorem ct_Reader_isWord_w0 {l : Launch} {g : GT} {ext : List CD} {sk : Nat → Nat} {post : Int32 → Mem → Prop} {x1 x2 : Int32} {M : Mem} (h : P_Reader_isWord_w0 post x1 x2 M) : SI l g (layC ++ ext) sk yX6_isWord cX6_isWord 5 (some .boolean) 4 [.ref (ad g 84), .int x1, .int x2, .ref (sk (10 + 0))] M post :=
  st_of (plainFor_of_name (by decide +kernel)) (Nat.le_of_ble_eq_true rfl) (fun X A Z hl C hr hR => by subst hl; exact k_Reader_isWord_w0 C hr (fun v M pc lv hd hp => hR v M pc lv hd (nar_z hp.1) hp.2) x1 x2 M h)
def P_Reader_isWord_w1_26 (post : Int32 → Mem → Prop) : Nat → Int32 → Int32 → Mem → Prop
  | 0, _, _, _ => False
  | n + 1, x1, x4, M =>
    P_len 1 (fun r1 M1 =>
  (r1 ≤ x4 → (post (1 : Int32) M1)) ∧
  (¬ r1 ≤ x4 → (vp_in (x1 + x4) 400 ∧ P_chr 1 (fun r2 M2 =>
  ((M1 85 (x1 + x4).toNatClampNeg) = r2 → (P_Reader_isWord_w1_26 post n x1 (x4 + (1 : Int32)) M2)) ∧
  (¬ (M1 85 (x1 + x4).toNatClampNeg) = r2 → (post (0 : Int32) M2))) x4 M1))) M
theorem k_Reader_isWord_w1_26 {X : FX} {g : GT} {ext : List CD} {A : Nat → Prop} {Z : State → Prop} {post : Int32 → Mem → Prop} {sk : Nat → Nat} (C : CxX X g (layC ++ ext) A cX6_isWord 5 RX6 4 0 sk) (hr : 0 ≤ X.2.2.2.1.cells ∧ 0 ≤ X.2.2.2.1.slots) (hR : RetZ X g (layC ++ ext) A cX6_isWord 5 0 0 Z post) : ∀ (n : Nat) (x1 x4 : Int32) (M : Mem), P_Reader_isWord_w1_26 post n x1 x4 M → AtX X g (layC ++ ext) A 5 0 0 Z 26 [(0, .ref (ad g 84)), (3, .ref (sk (10 + 1))), (1, .int x1), (4, .int x4)] [] M := by
  intro n
  induction n with
  | zero =>
    intro x1 x4 M h
    exact h.elim
  | succ n ih =>
    intro x1 x4 M h
    refine a_iload C.1 (tk T_cX6_isWord 15 rfl) rfl ?_
    refine a_aload_n C.1 (tk T_cX6_isWord 16 rfl) rfl ?_
    refine s_strI C [] me_yJ0_length_8abf5 rfl lk_RX6_111 (ct_lenP (o := 10) (j := 1) ⟨Or.inl rfl, by decide⟩ h) (by decide) (wok.at (o := 10) (j := 1) ⟨Or.inl rfl, by decide⟩ C.2.1.2.2.2.2.2.2.2).1 rfl rfl (Nat.le_of_ble_eq_true rfl) (tk T_cX6_isWord 17 rfl) hr (fun r1 M1 h => ?_)
    refine a_icmp_ge C.1 61 (tk T_cX6_isWord 18 rfl) rfl (fun c => ?_) (fun c => ?_)
    · have h := h.1 c
      refine a_iconst C.1 (1 : Int32) (tk T_cX6_isWord 33 rfl) kI_1 ?_
      exact hR _ _ _ _ (tk T_cX6_isWord 34 rfl) ⟨Or.inr rfl, h⟩
    · have h := h.2 c
      refine a_aload_n C.1 (tk T_cX6_isWord 19 rfl) rfl ?_
      refine a_getR C.1 f_RX6_9 (tk T_cX6_isWord 20 rfl) lc84 rfl ?_
      refine a_iload_n C.1 (tk T_cX6_isWord 21 rfl) rfl ?_
      refine a_iload C.1 (tk T_cX6_isWord 22 rfl) rfl ?_
      refine a_iadd C.1 (tk T_cX6_isWord 23 rfl) ?_
      obtain ⟨hb, h⟩ := h
      refine a_bald C.1 (tk T_cX6_isWord 24 rfl) lc85 hb ?_
      refine a_aload_n C.1 (tk T_cX6_isWord 25 rfl) rfl ?_
      refine a_iload C.1 (tk T_cX6_isWord 26 rfl) rfl ?_
      refine s_strI C [.int x4] me_yJ0_charAt_5068e rfl lk_RX6_116 (ct_chrP (o := 10) (j := 1) ⟨Or.inl rfl, by decide⟩ h) (by decide) (wok.at (o := 10) (j := 1) ⟨Or.inl rfl, by decide⟩ C.2.1.2.2.2.2.2.2.2).1 rfl rfl (Nat.le_of_ble_eq_true rfl) (tk T_cX6_isWord 27 rfl) hr (fun r2 M2 h => ?_)
      refine a_icmp_eq C.1 55 (tk T_cX6_isWord 28 rfl) rfl (fun c => ?_) (fun c => ?_)
      · have h := h.1 c
        refine a_iinc C.1 (1 : Int32) (tk T_cX6_isWord 31 rfl) rfl kI_1 (by decide) rfl ?_
        refine a_goto C.1 26 (tk T_cX6_isWord 32 rfl) rfl ?_
        exact a_to (ih x1 (x4 + (1 : Int32)) M2 h) rfl
      · have h := h.2 c
        refine a_iconst C.1 (0 : Int32) (tk T_cX6_isWord 29 rfl) kI_0 ?_
        exact hR _ _ _ _ (tk T_cX6_isWord 30 rfl) ⟨Or.inl rfl, h⟩
def P_Reader_isWord_w1_21 (post : Int32 → Mem → Prop) (M : Mem) : Prop :=
  post (0 : Int32) M
theorem k_Reader_isWord_w1_21 {X : FX} {g : GT} {ext : List CD} {A : Nat → Prop} {Z : State → Prop} {post : Int32 → Mem → Prop} {sk : Nat → Nat} (C : CxX X g (layC ++ ext) A cX6_isWord 5 RX6 4 0 sk) (hr : 0 ≤ X.2.2.2.1.cells ∧ 0 ≤ X.2.2.2.1.slots) (hR : RetZ X g (layC ++ ext) A cX6_isWord 5 0 0 Z post)  (M : Mem) (h : P_Reader_isWord_w1_21 post M) : AtX X g (layC ++ ext) A 5 0 0 Z 21 [] [] M := by
  refine a_iconst C.1 (0 : Int32) (tk T_cX6_isWord 11 rfl) kI_0 ?_
  exact hR _ _ _ _ (tk T_cX6_isWord 12 rfl) ⟨Or.inl rfl, h⟩
def P_Reader_isWord_w1 (post : Int32 → Mem → Prop) (x1 x2 : Int32) (M : Mem) : Prop :=
  P_len 1 (fun r1 M1 =>
  (¬ (x2 - x1) = r1 → (P_Reader_isWord_w1_21 post M1)) ∧
  ((x2 - x1) = r1 → ((x1 < 0 → (P_Reader_isWord_w1_21 post M1)) ∧
  (¬ x1 < 0 → ((x2 ≤ (400 : Int32) → (∃ j26, P_Reader_isWord_w1_26 post j26 x1 (0 : Int32) M1)) ∧
  (¬ x2 ≤ (400 : Int32) → (P_Reader_isWord_w1_21 post M1))))))) M
theorem k_Reader_isWord_w1 {X : FX} {g : GT} {ext : List CD} {A : Nat → Prop} {Z : State → Prop} {post : Int32 → Mem → Prop} {sk : Nat → Nat} (C : CxX X g (layC ++ ext) A cX6_isWord 5 RX6 4 0 sk) (hr : 0 ≤ X.2.2.2.1.cells ∧ 0 ≤ X.2.2.2.1.slots) (hR : RetZ X g (layC ++ ext) A cX6_isWord 5 0 0 Z post) (x1 x2 : Int32) (M : Mem) (h : P_Reader_isWord_w1 post x1 x2 M) : AtX X g (layC ++ ext) A 5 0 0 Z 0 [(0, .ref (ad g 84)), (1, .int x1), (2, .int x2), (3, .ref (sk (10 + 1)))] [] M := by
  refine a_iload_n C.1 (tk T_cX6_isWord 0 rfl) rfl ?_
  refine a_iload_n C.1 (tk T_cX6_isWord 1 rfl) rfl ?_
  refine a_isub C.1 (tk T_cX6_isWord 2 rfl) ?_
  refine a_aload_n C.1 (tk T_cX6_isWord 3 rfl) rfl ?_
  refine s_strI C [] me_yJ0_length_8abf5 rfl lk_RX6_111 (ct_lenP (o := 10) (j := 1) ⟨Or.inl rfl, by decide⟩ h) (by decide) (wok.at (o := 10) (j := 1) ⟨Or.inl rfl, by decide⟩ C.2.1.2.2.2.2.2.2.2).1 rfl rfl (Nat.le_of_ble_eq_true rfl) (tk T_cX6_isWord 4 rfl) hr (fun r1 M1 h => ?_)
  refine a_icmp_ne C.1 21 (tk T_cX6_isWord 5 rfl) rfl (fun c => ?_) (fun c => ?_)
  · have h := h.1 c
    exact a_to (k_Reader_isWord_w1_21 C hr hR M1 h) rfl
  · have h := h.2 c
    refine a_iload_n C.1 (tk T_cX6_isWord 6 rfl) rfl ?_
    refine a_if_lt C.1 21 (tk T_cX6_isWord 7 rfl) rfl (fun c => ?_) (fun c => ?_)
    · have h := h.1 c
      exact a_to (k_Reader_isWord_w1_21 C hr hR M1 h) rfl
    · have h := h.2 c
      refine a_iload_n C.1 (tk T_cX6_isWord 8 rfl) rfl ?_
      refine a_sipush C.1 (400 : Int32) (tk T_cX6_isWord 9 rfl) kS_400 ?_
      refine a_icmp_le C.1 23 (tk T_cX6_isWord 10 rfl) rfl (fun c => ?_) (fun c => ?_)
      · have h := h.1 c
        refine a_iconst C.1 (0 : Int32) (tk T_cX6_isWord 13 rfl) kI_0 ?_
        refine a_istore C.1 (tk T_cX6_isWord 14 rfl) (by decide) rfl ?_
        obtain ⟨n1, h⟩ := h
        exact a_to (k_Reader_isWord_w1_26 C hr hR n1 x1 (0 : Int32) M1 h) rfl
      · have h := h.2 c
        exact a_to (k_Reader_isWord_w1_21 C hr hR M1 h) rfl
theorem ct_Reader_isWord_w1 {l : Launch} {g : GT} {ext : List CD} {sk : Nat → Nat} {post : Int32 → Mem → Prop} {x1 x2 : Int32} {M : Mem} (h : P_Reader_isWord_w1 post x1 x2 M) : SI l g (layC ++ ext) sk yX6_isWord cX6_isWord 5 (some .boolean) 4 [.ref (ad g 84), .int x1, .int x2, .ref (sk (10 + 1))] M post :=
  st_of (plainFor_of_name (by decide +kernel)) (Nat.le_of_ble_eq_true rfl) (fun X A Z hl C hr hR => by subst hl; exact k_Reader_isWord_w1 C hr (fun v M pc lv hd hp => hR v M pc lv hd (nar_z hp.1) hp.2) x1 x2 M h)
def P_Reader_isWord_w2_26 (post : Int32 → Mem → Prop) : Nat → Int32 → Int32 → Mem → Prop
  | 0, _, _, _ => False
  | n + 1, x1, x4, M =>
    P_len 2 (fun r1 M1 =>
  (r1 ≤ x4 → (post (1 : Int32) M1)) ∧
  (¬ r1 ≤ x4 → (vp_in (x1 + x4) 400 ∧ P_chr 2 (fun r2 M2 =>
  ((M1 85 (x1 + x4).toNatClampNeg) = r2 → (P_Reader_isWord_w2_26 post n x1 (x4 + (1 : Int32)) M2)) ∧
  (¬ (M1 85 (x1 + x4).toNatClampNeg) = r2 → (post (0 : Int32) M2))) x4 M1))) M
theorem k_Reader_isWord_w2_26 {X : FX} {g : GT} {ext : List CD} {A : Nat → Prop} {Z : State → Prop} {post : Int32 → Mem → Prop} {sk : Nat → Nat} (C : CxX X g (layC ++ ext) A cX6_isWord 5 RX6 4 0 sk) (hr : 0 ≤ X.2.2.2.1.cells ∧ 0 ≤ X.2.2.2.1.slots) (hR : RetZ X g (layC ++ ext) A cX6_isWord 5 0 0 Z post) : ∀ (n : Nat) (x1 x4 : Int32) (M : Mem), P_Reader_isWord_w2_26 post n x1 x4 M → AtX X g (layC ++ ext) A 5 0 0 Z 26 [(0, .ref (ad g 84)), (3, .ref (sk (10 + 2))), (1, .int x1), (4, .int x4)] [] M := by
  intro n
  induction n with
  | zero =>
    intro x1 x4 M h
    exact h.elim
  | succ n ih =>
    intro x1 x4 M h
    refine a_iload C.1 (tk T_cX6_isWord 15 rfl) rfl ?_
    refine a_aload_n C.1 (tk T_cX6_isWord 16 rfl) rfl ?_
    refine s_strI C [] me_yJ0_length_8abf5 rfl lk_RX6_111 (ct_lenP (o := 10) (j := 2) ⟨Or.inl rfl, by decide⟩ h) (by decide) (wok.at (o := 10) (j := 2) ⟨Or.inl rfl, by decide⟩ C.2.1.2.2.2.2.2.2.2).1 rfl rfl (Nat.le_of_ble_eq_true rfl) (tk T_cX6_isWord 17 rfl) hr (fun r1 M1 h => ?_)
    refine a_icmp_ge C.1 61 (tk T_cX6_isWord 18 rfl) rfl (fun c => ?_) (fun c => ?_)
    · have h := h.1 c
      refine a_iconst C.1 (1 : Int32) (tk T_cX6_isWord 33 rfl) kI_1 ?_
      exact hR _ _ _ _ (tk T_cX6_isWord 34 rfl) ⟨Or.inr rfl, h⟩
    · have h := h.2 c
      refine a_aload_n C.1 (tk T_cX6_isWord 19 rfl) rfl ?_
      refine a_getR C.1 f_RX6_9 (tk T_cX6_isWord 20 rfl) lc84 rfl ?_
      refine a_iload_n C.1 (tk T_cX6_isWord 21 rfl) rfl ?_
      refine a_iload C.1 (tk T_cX6_isWord 22 rfl) rfl ?_
      refine a_iadd C.1 (tk T_cX6_isWord 23 rfl) ?_
      obtain ⟨hb, h⟩ := h
      refine a_bald C.1 (tk T_cX6_isWord 24 rfl) lc85 hb ?_
      refine a_aload_n C.1 (tk T_cX6_isWord 25 rfl) rfl ?_
      refine a_iload C.1 (tk T_cX6_isWord 26 rfl) rfl ?_
      refine s_strI C [.int x4] me_yJ0_charAt_5068e rfl lk_RX6_116 (ct_chrP (o := 10) (j := 2) ⟨Or.inl rfl, by decide⟩ h) (by decide) (wok.at (o := 10) (j := 2) ⟨Or.inl rfl, by decide⟩ C.2.1.2.2.2.2.2.2.2).1 rfl rfl (Nat.le_of_ble_eq_true rfl) (tk T_cX6_isWord 27 rfl) hr (fun r2 M2 h => ?_)
      refine a_icmp_eq C.1 55 (tk T_cX6_isWord 28 rfl) rfl (fun c => ?_) (fun c => ?_)
      · have h := h.1 c
        refine a_iinc C.1 (1 : Int32) (tk T_cX6_isWord 31 rfl) rfl kI_1 (by decide) rfl ?_
        refine a_goto C.1 26 (tk T_cX6_isWord 32 rfl) rfl ?_
        exact a_to (ih x1 (x4 + (1 : Int32)) M2 h) rfl
      · have h := h.2 c
        refine a_iconst C.1 (0 : Int32) (tk T_cX6_isWord 29 rfl) kI_0 ?_
        exact hR _ _ _ _ (tk T_cX6_isWord 30 rfl) ⟨Or.inl rfl, h⟩
def P_Reader_isWord_w2_21 (post : Int32 → Mem → Prop) (M : Mem) : Prop :=
  post (0 : Int32) M
theorem k_Reader_isWord_w2_21 {X : FX} {g : GT} {ext : List CD} {A : Nat → Prop} {Z : State → Prop} {post : Int32 → Mem → Prop} {sk : Nat → Nat} (C : CxX X g (layC ++ ext) A cX6_isWord 5 RX6 4 0 sk) (hr : 0 ≤ X.2.2.2.1.cells ∧ 0 ≤ X.2.2.2.1.slots) (hR : RetZ X g (layC ++ ext) A cX6_isWord 5 0 0 Z post)  (M : Mem) (h : P_Reader_isWord_w2_21 post M) : AtX X g (layC ++ ext) A 5 0 0 Z 21 [] [] M := by
  refine a_iconst C.1 (0 : Int32) (tk T_cX6_isWord 11 rfl) kI_0 ?_
  exact hR _ _ _ _ (tk T_cX6_isWord 12 rfl) ⟨Or.inl rfl, h⟩
def P_Reader_isWord_w2 (post : Int32 → Mem → Prop) (x1 x2 : Int32) (M : Mem) : Prop :=
  P_len 2 (fun r1 M1 =>
  (¬ (x2 - x1) = r1 → (P_Reader_isWord_w2_21 post M1)) ∧
  ((x2 - x1) = r1 → ((x1 < 0 → (P_Reader_isWord_w2_21 post M1)) ∧
  (¬ x1 < 0 → ((x2 ≤ (400 : Int32) → (∃ j26, P_Reader_isWord_w2_26 post j26 x1 (0 : Int32) M1)) ∧
  (¬ x2 ≤ (400 : Int32) → (P_Reader_isWord_w2_21 post M1))))))) M
theorem k_Reader_isWord_w2 {X : FX} {g : GT} {ext : List CD} {A : Nat → Prop} {Z : State → Prop} {post : Int32 → Mem → Prop} {sk : Nat → Nat} (C : CxX X g (layC ++ ext) A cX6_isWord 5 RX6 4 0 sk) (hr : 0 ≤ X.2.2.2.1.cells ∧ 0 ≤ X.2.2.2.1.slots) (hR : RetZ X g (layC ++ ext) A cX6_isWord 5 0 0 Z post) (x1 x2 : Int32) (M : Mem) (h : P_Reader_isWord_w2 post x1 x2 M) : AtX X g (layC ++ ext) A 5 0 0 Z 0 [(0, .ref (ad g 84)), (1, .int x1), (2, .int x2), (3, .ref (sk (10 + 2)))] [] M := by
  refine a_iload_n C.1 (tk T_cX6_isWord 0 rfl) rfl ?_
  refine a_iload_n C.1 (tk T_cX6_isWord 1 rfl) rfl ?_
  refine a_isub C.1 (tk T_cX6_isWord 2 rfl) ?_
  refine a_aload_n C.1 (tk T_cX6_isWord 3 rfl) rfl ?_
  refine s_strI C [] me_yJ0_length_8abf5 rfl lk_RX6_111 (ct_lenP (o := 10) (j := 2) ⟨Or.inl rfl, by decide⟩ h) (by decide) (wok.at (o := 10) (j := 2) ⟨Or.inl rfl, by decide⟩ C.2.1.2.2.2.2.2.2.2).1 rfl rfl (Nat.le_of_ble_eq_true rfl) (tk T_cX6_isWord 4 rfl) hr (fun r1 M1 h => ?_)
  refine a_icmp_ne C.1 21 (tk T_cX6_isWord 5 rfl) rfl (fun c => ?_) (fun c => ?_)
  · have h := h.1 c
    exact a_to (k_Reader_isWord_w2_21 C hr hR M1 h) rfl
  · have h := h.2 c
    refine a_iload_n C.1 (tk T_cX6_isWord 6 rfl) rfl ?_
    refine a_if_lt C.1 21 (tk T_cX6_isWord 7 rfl) rfl (fun c => ?_) (fun c => ?_)
    · have h := h.1 c
      exact a_to (k_Reader_isWord_w2_21 C hr hR M1 h) rfl
    · have h := h.2 c
      refine a_iload_n C.1 (tk T_cX6_isWord 8 rfl) rfl ?_
      refine a_sipush C.1 (400 : Int32) (tk T_cX6_isWord 9 rfl) kS_400 ?_
      refine a_icmp_le C.1 23 (tk T_cX6_isWord 10 rfl) rfl (fun c => ?_) (fun c => ?_)
      · have h := h.1 c
        refine a_iconst C.1 (0 : Int32) (tk T_cX6_isWord 13 rfl) kI_0 ?_
        refine a_istore C.1 (tk T_cX6_isWord 14 rfl) (by decide) rfl ?_
        obtain ⟨n1, h⟩ := h
        exact a_to (k_Reader_isWord_w2_26 C hr hR n1 x1 (0 : Int32) M1 h) rfl
      · have h := h.2 c
        exact a_to (k_Reader_isWord_w2_21 C hr hR M1 h) rfl
theorem ct_Reader_isWord_w2 {l : Launch} {g : GT} {ext : List CD} {sk : Nat → Nat} {post : Int32 → Mem → Prop} {x1 x2 : Int32} {M : Mem} (h : P_Reader_isWord_w2 post x1 x2 M) : SI l g (layC ++ ext) sk yX6_isWord cX6_isWord 5 (some .boolean) 4 [.ref (ad g 84), .int x1, .int x2, .ref (sk (10 + 2))] M post :=
  st_of (plainFor_of_name (by decide +kernel)) (Nat.le_of_ble_eq_true rfl) (fun X A Z hl C hr hR => by subst hl; exact k_Reader_isWord_w2 C hr (fun v M pc lv hd hp => hR v M pc lv hd (nar_z hp.1) hp.2) x1 x2 M h)
def P_Reader_isWord_w3_26 (post : Int32 → Mem → Prop) : Nat → Int32 → Int32 → Mem → Prop
  | 0, _, _, _ => False
  | n + 1, x1, x4, M =>
    P_len 3 (fun r1 M1 =>
  (r1 ≤ x4 → (post (1 : Int32) M1)) ∧
  (¬ r1 ≤ x4 → (vp_in (x1 + x4) 400 ∧ P_chr 3 (fun r2 M2 =>
  ((M1 85 (x1 + x4).toNatClampNeg) = r2 → (P_Reader_isWord_w3_26 post n x1 (x4 + (1 : Int32)) M2)) ∧
  (¬ (M1 85 (x1 + x4).toNatClampNeg) = r2 → (post (0 : Int32) M2))) x4 M1))) M
theorem k_Reader_isWord_w3_26 {X : FX} {g : GT} {ext : List CD} {A : Nat → Prop} {Z : State → Prop} {post : Int32 → Mem → Prop} {sk : Nat → Nat} (C : CxX X g (layC ++ ext) A cX6_isWord 5 RX6 4 0 sk) (hr : 0 ≤ X.2.2.2.1.cells ∧ 0 ≤ X.2.2.2.1.slots) (hR : RetZ X g (layC ++ ext) A cX6_isWord 5 0 0 Z post) : ∀ (n : Nat) (x1 x4 : Int32) (M : Mem), P_Reader_isWord_w3_26 post n x1 x4 M → AtX X g (layC ++ ext) A 5 0 0 Z 26 [(0, .ref (ad g 84)), (3, .ref (sk (10 + 3))), (1, .int x1), (4, .int x4)] [] M := by
  intro n
  induction n with
  | zero =>
    intro x1 x4 M h
    exact h.elim
  | succ n ih =>
    intro x1 x4 M h
    refine a_iload C.1 (tk T_cX6_isWord 15 rfl) rfl ?_
    refine a_aload_n C.1 (tk T_cX6_isWord 16 rfl) rfl ?_
    refine s_strI C [] me_yJ0_length_8abf5 rfl lk_RX6_111 (ct_lenP (o := 10) (j := 3) ⟨Or.inl rfl, by decide⟩ h) (by decide) (wok.at (o := 10) (j := 3) ⟨Or.inl rfl, by decide⟩ C.2.1.2.2.2.2.2.2.2).1 rfl rfl (Nat.le_of_ble_eq_true rfl) (tk T_cX6_isWord 17 rfl) hr (fun r1 M1 h => ?_)
    refine a_icmp_ge C.1 61 (tk T_cX6_isWord 18 rfl) rfl (fun c => ?_) (fun c => ?_)
    · have h := h.1 c
      refine a_iconst C.1 (1 : Int32) (tk T_cX6_isWord 33 rfl) kI_1 ?_
      exact hR _ _ _ _ (tk T_cX6_isWord 34 rfl) ⟨Or.inr rfl, h⟩
    · have h := h.2 c
      refine a_aload_n C.1 (tk T_cX6_isWord 19 rfl) rfl ?_
      refine a_getR C.1 f_RX6_9 (tk T_cX6_isWord 20 rfl) lc84 rfl ?_
      refine a_iload_n C.1 (tk T_cX6_isWord 21 rfl) rfl ?_
      refine a_iload C.1 (tk T_cX6_isWord 22 rfl) rfl ?_
      refine a_iadd C.1 (tk T_cX6_isWord 23 rfl) ?_
      obtain ⟨hb, h⟩ := h
      refine a_bald C.1 (tk T_cX6_isWord 24 rfl) lc85 hb ?_
      refine a_aload_n C.1 (tk T_cX6_isWord 25 rfl) rfl ?_
      refine a_iload C.1 (tk T_cX6_isWord 26 rfl) rfl ?_
      refine s_strI C [.int x4] me_yJ0_charAt_5068e rfl lk_RX6_116 (ct_chrP (o := 10) (j := 3) ⟨Or.inl rfl, by decide⟩ h) (by decide) (wok.at (o := 10) (j := 3) ⟨Or.inl rfl, by decide⟩ C.2.1.2.2.2.2.2.2.2).1 rfl rfl (Nat.le_of_ble_eq_true rfl) (tk T_cX6_isWord 27 rfl) hr (fun r2 M2 h => ?_)
      refine a_icmp_eq C.1 55 (tk T_cX6_isWord 28 rfl) rfl (fun c => ?_) (fun c => ?_)
      · have h := h.1 c
        refine a_iinc C.1 (1 : Int32) (tk T_cX6_isWord 31 rfl) rfl kI_1 (by decide) rfl ?_
        refine a_goto C.1 26 (tk T_cX6_isWord 32 rfl) rfl ?_
        exact a_to (ih x1 (x4 + (1 : Int32)) M2 h) rfl
      · have h := h.2 c
        refine a_iconst C.1 (0 : Int32) (tk T_cX6_isWord 29 rfl) kI_0 ?_
        exact hR _ _ _ _ (tk T_cX6_isWord 30 rfl) ⟨Or.inl rfl, h⟩
def P_Reader_isWord_w3_21 (post : Int32 → Mem → Prop) (M : Mem) : Prop :=
  post (0 : Int32) M
theorem k_Reader_isWord_w3_21 {X : FX} {g : GT} {ext : List CD} {A : Nat → Prop} {Z : State → Prop} {post : Int32 → Mem → Prop} {sk : Nat → Nat} (C : CxX X g (layC ++ ext) A cX6_isWord 5 RX6 4 0 sk) (hr : 0 ≤ X.2.2.2.1.cells ∧ 0 ≤ X.2.2.2.1.slots) (hR : RetZ X g (layC ++ ext) A cX6_isWord 5 0 0 Z post)  (M : Mem) (h : P_Reader_isWord_w3_21 post M) : AtX X g (layC ++ ext) A 5 0 0 Z 21 [] [] M := by
  refine a_iconst C.1 (0 : Int32) (tk T_cX6_isWord 11 rfl) kI_0 ?_
  exact hR _ _ _ _ (tk T_cX6_isWord 12 rfl) ⟨Or.inl rfl, h⟩
def P_Reader_isWord_w3 (post : Int32 → Mem → Prop) (x1 x2 : Int32) (M : Mem) : Prop :=
  P_len 3 (fun r1 M1 =>
  (¬ (x2 - x1) = r1 → (P_Reader_isWord_w3_21 post M1)) ∧
  ((x2 - x1) = r1 → ((x1 < 0 → (P_Reader_isWord_w3_21 post M1)) ∧
  (¬ x1 < 0 → ((x2 ≤ (400 : Int32) → (∃ j26, P_Reader_isWord_w3_26 post j26 x1 (0 : Int32) M1)) ∧
  (¬ x2 ≤ (400 : Int32) → (P_Reader_isWord_w3_21 post M1))))))) M
theorem k_Reader_isWord_w3 {X : FX} {g : GT} {ext : List CD} {A : Nat → Prop} {Z : State → Prop} {post : Int32 → Mem → Prop} {sk : Nat → Nat} (C : CxX X g (layC ++ ext) A cX6_isWord 5 RX6 4 0 sk) (hr : 0 ≤ X.2.2.2.1.cells ∧ 0 ≤ X.2.2.2.1.slots) (hR : RetZ X g (layC ++ ext) A cX6_isWord 5 0 0 Z post) (x1 x2 : Int32) (M : Mem) (h : P_Reader_isWord_w3 post x1 x2 M) : AtX X g (layC ++ ext) A 5 0 0 Z 0 [(0, .ref (ad g 84)), (1, .int x1), (2, .int x2), (3, .ref (sk (10 + 3)))] [] M := by
  refine a_iload_n C.1 (tk T_cX6_isWord 0 rfl) rfl ?_
  refine a_iload_n C.1 (tk T_cX6_isWord 1 rfl) rfl ?_
  refine a_isub C.1 (tk T_cX6_isWord 2 rfl) ?_
  refine a_aload_n C.1 (tk T_cX6_isWord 3 rfl) rfl ?_
  refine s_strI C [] me_yJ0_length_8abf5 rfl lk_RX6_111 (ct_lenP (o := 10) (j := 3) ⟨Or.inl rfl, by decide⟩ h) (by decide) (wok.at (o := 10) (j := 3) ⟨Or.inl rfl, by decide⟩ C.2.1.2.2.2.2.2.2.2).1 rfl rfl (Nat.le_of_ble_eq_true rfl) (tk T_cX6_isWord 4 rfl) hr (fun r1 M1 h => ?_)
  refine a_icmp_ne C.1 21 (tk T_cX6_isWord 5 rfl) rfl (fun c => ?_) (fun c => ?_)
  · have h := h.1 c
    exact a_to (k_Reader_isWord_w3_21 C hr hR M1 h) rfl
  · have h := h.2 c
    refine a_iload_n C.1 (tk T_cX6_isWord 6 rfl) rfl ?_
    refine a_if_lt C.1 21 (tk T_cX6_isWord 7 rfl) rfl (fun c => ?_) (fun c => ?_)
    · have h := h.1 c
      exact a_to (k_Reader_isWord_w3_21 C hr hR M1 h) rfl
    · have h := h.2 c
      refine a_iload_n C.1 (tk T_cX6_isWord 8 rfl) rfl ?_
      refine a_sipush C.1 (400 : Int32) (tk T_cX6_isWord 9 rfl) kS_400 ?_
      refine a_icmp_le C.1 23 (tk T_cX6_isWord 10 rfl) rfl (fun c => ?_) (fun c => ?_)
      · have h := h.1 c
        refine a_iconst C.1 (0 : Int32) (tk T_cX6_isWord 13 rfl) kI_0 ?_
        refine a_istore C.1 (tk T_cX6_isWord 14 rfl) (by decide) rfl ?_
        obtain ⟨n1, h⟩ := h
        exact a_to (k_Reader_isWord_w3_26 C hr hR n1 x1 (0 : Int32) M1 h) rfl
      · have h := h.2 c
        exact a_to (k_Reader_isWord_w3_21 C hr hR M1 h) rfl
theorem ct_Reader_isWord_w3 {l : Launch} {g : GT} {ext : List CD} {sk : Nat → Nat} {post : Int32 → Mem → Prop} {x1 x2 : Int32} {M : Mem} (h : P_Reader_isWord_w3 post x1 x2 M) : SI l g (layC ++ ext) sk yX6_isWord cX6_isWord 5 (some .boolean) 4 [.ref (ad g 84), .int x1, .int x2, .ref (sk (10 + 3))] M post :=
  st_of (plainFor_of_name (by decide +kernel)) (Nat.le_of_ble_eq_true rfl) (fun X A Z hl C hr hR => by subst hl; exact k_Reader_isWord_w3 C hr (fun v M pc lv hd hp => hR v M pc lv hd (nar_z hp.1) hp.2) x1 x2 M h)
def P_Reader_isWord_w4_26 (post : Int32 → Mem → Prop) : Nat → Int32 → Int32 → Mem → Prop
  | 0, _, _, _ => False
  | n + 1, x1, x4, M =>
    P_len 4 (fun r1 M1 =>
  (r1 ≤ x4 → (post (1 : Int32) M1)) ∧
  (¬ r1 ≤ x4 → (vp_in (x1 + x4) 400 ∧ P_chr 4 (fun r2 M2 =>
  ((M1 85 (x1 + x4).toNatClampNeg) = r2 → (P_Reader_isWord_w4_26 post n x1 (x4 + (1 : Int32)) M2)) ∧
  (¬ (M1 85 (x1 + x4).toNatClampNeg) = r2 → (post (0 : Int32) M2))) x4 M1))) M
theorem k_Reader_isWord_w4_26 {X : FX} {g : GT} {ext : List CD} {A : Nat → Prop} {Z : State → Prop} {post : Int32 → Mem → Prop} {sk : Nat → Nat} (C : CxX X g (layC ++ ext) A cX6_isWord 5 RX6 4 0 sk) (hr : 0 ≤ X.2.2.2.1.cells ∧ 0 ≤ X.2.2.2.1.slots) (hR : RetZ X g (layC ++ ext) A cX6_isWord 5 0 0 Z post) : ∀ (n : Nat) (x1 x4 : Int32) (M : Mem), P_Reader_isWord_w4_26 post n x1 x4 M → AtX X g (layC ++ ext) A 5 0 0 Z 26 [(0, .ref (ad g 84)), (3, .ref (sk (10 + 4))), (1, .int x1), (4, .int x4)] [] M := by
  intro n
  induction n with
  | zero =>
    intro x1 x4 M h
    exact h.elim
  | succ n ih =>
    intro x1 x4 M h
    refine a_iload C.1 (tk T_cX6_isWord 15 rfl) rfl ?_
    refine a_aload_n C.1 (tk T_cX6_isWord 16 rfl) rfl ?_
    refine s_strI C [] me_yJ0_length_8abf5 rfl lk_RX6_111 (ct_lenP (o := 10) (j := 4) ⟨Or.inl rfl, by decide⟩ h) (by decide) (wok.at (o := 10) (j := 4) ⟨Or.inl rfl, by decide⟩ C.2.1.2.2.2.2.2.2.2).1 rfl rfl (Nat.le_of_ble_eq_true rfl) (tk T_cX6_isWord 17 rfl) hr (fun r1 M1 h => ?_)
    refine a_icmp_ge C.1 61 (tk T_cX6_isWord 18 rfl) rfl (fun c => ?_) (fun c => ?_)
    · have h := h.1 c
      refine a_iconst C.1 (1 : Int32) (tk T_cX6_isWord 33 rfl) kI_1 ?_
      exact hR _ _ _ _ (tk T_cX6_isWord 34 rfl) ⟨Or.inr rfl, h⟩
    · have h := h.2 c
      refine a_aload_n C.1 (tk T_cX6_isWord 19 rfl) rfl ?_
      refine a_getR C.1 f_RX6_9 (tk T_cX6_isWord 20 rfl) lc84 rfl ?_
      refine a_iload_n C.1 (tk T_cX6_isWord 21 rfl) rfl ?_
      refine a_iload C.1 (tk T_cX6_isWord 22 rfl) rfl ?_
      refine a_iadd C.1 (tk T_cX6_isWord 23 rfl) ?_
      obtain ⟨hb, h⟩ := h
      refine a_bald C.1 (tk T_cX6_isWord 24 rfl) lc85 hb ?_
      refine a_aload_n C.1 (tk T_cX6_isWord 25 rfl) rfl ?_
      refine a_iload C.1 (tk T_cX6_isWord 26 rfl) rfl ?_
      refine s_strI C [.int x4] me_yJ0_charAt_5068e rfl lk_RX6_116 (ct_chrP (o := 10) (j := 4) ⟨Or.inl rfl, by decide⟩ h) (by decide) (wok.at (o := 10) (j := 4) ⟨Or.inl rfl, by decide⟩ C.2.1.2.2.2.2.2.2.2).1 rfl rfl (Nat.le_of_ble_eq_true rfl) (tk T_cX6_isWord 27 rfl) hr (fun r2 M2 h => ?_)
      refine a_icmp_eq C.1 55 (tk T_cX6_isWord 28 rfl) rfl (fun c => ?_) (fun c => ?_)
      · have h := h.1 c
        refine a_iinc C.1 (1 : Int32) (tk T_cX6_isWord 31 rfl) rfl kI_1 (by decide) rfl ?_
        refine a_goto C.1 26 (tk T_cX6_isWord 32 rfl) rfl ?_
        exact a_to (ih x1 (x4 + (1 : Int32)) M2 h) rfl
      · have h := h.2 c
        refine a_iconst C.1 (0 : Int32) (tk T_cX6_isWord 29 rfl) kI_0 ?_
        exact hR _ _ _ _ (tk T_cX6_isWord 30 rfl) ⟨Or.inl rfl, h⟩
def P_Reader_isWord_w4_21 (post : Int32 → Mem → Prop) (M : Mem) : Prop :=
  post (0 : Int32) M
theorem k_Reader_isWord_w4_21 {X : FX} {g : GT} {ext : List CD} {A : Nat → Prop} {Z : State → Prop} {post : Int32 → Mem → Prop} {sk : Nat → Nat} (C : CxX X g (layC ++ ext) A cX6_isWord 5 RX6 4 0 sk) (hr : 0 ≤ X.2.2.2.1.cells ∧ 0 ≤ X.2.2.2.1.slots) (hR : RetZ X g (layC ++ ext) A cX6_isWord 5 0 0 Z post)  (M : Mem) (h : P_Reader_isWord_w4_21 post M) : AtX X g (layC ++ ext) A 5 0 0 Z 21 [] [] M := by
  refine a_iconst C.1 (0 : Int32) (tk T_cX6_isWord 11 rfl) kI_0 ?_
  exact hR _ _ _ _ (tk T_cX6_isWord 12 rfl) ⟨Or.inl rfl, h⟩
def P_Reader_isWord_w4 (post : Int32 → Mem → Prop) (x1 x2 : Int32) (M : Mem) : Prop :=
  P_len 4 (fun r1 M1 =>
  (¬ (x2 - x1) = r1 → (P_Reader_isWord_w4_21 post M1)) ∧
  ((x2 - x1) = r1 → ((x1 < 0 → (P_Reader_isWord_w4_21 post M1)) ∧
  (¬ x1 < 0 → ((x2 ≤ (400 : Int32) → (∃ j26, P_Reader_isWord_w4_26 post j26 x1 (0 : Int32) M1)) ∧
  (¬ x2 ≤ (400 : Int32) → (P_Reader_isWord_w4_21 post M1))))))) M
theorem k_Reader_isWord_w4 {X : FX} {g : GT} {ext : List CD} {A : Nat → Prop} {Z : State → Prop} {post : Int32 → Mem → Prop} {sk : Nat → Nat} (C : CxX X g (layC ++ ext) A cX6_isWord 5 RX6 4 0 sk) (hr : 0 ≤ X.2.2.2.1.cells ∧ 0 ≤ X.2.2.2.1.slots) (hR : RetZ X g (layC ++ ext) A cX6_isWord 5 0 0 Z post) (x1 x2 : Int32) (M : Mem) (h : P_Reader_isWord_w4 post x1 x2 M) : AtX X g (layC ++ ext) A 5 0 0 Z 0 [(0, .ref (ad g 84)), (1, .int x1), (2, .int x2), (3, .ref (sk (10 + 4)))] [] M := by
  refine a_iload_n C.1 (tk T_cX6_isWord 0 rfl) rfl ?_
  refine a_iload_n C.1 (tk T_cX6_isWord 1 rfl) rfl ?_
  refine a_isub C.1 (tk T_cX6_isWord 2 rfl) ?_
  refine a_aload_n C.1 (tk T_cX6_isWord 3 rfl) rfl ?_
  refine s_strI C [] me_yJ0_length_8abf5 rfl lk_RX6_111 (ct_lenP (o := 10) (j := 4) ⟨Or.inl rfl, by decide⟩ h) (by decide) (wok.at (o := 10) (j := 4) ⟨Or.inl rfl, by decide⟩ C.2.1.2.2.2.2.2.2.2).1 rfl rfl (Nat.le_of_ble_eq_true rfl) (tk T_cX6_isWord 4 rfl) hr (fun r1 M1 h => ?_)
  refine a_icmp_ne C.1 21 (tk T_cX6_isWord 5 rfl) rfl (fun c => ?_) (fun c => ?_)
  · have h := h.1 c
    exact a_to (k_Reader_isWord_w4_21 C hr hR M1 h) rfl
  · have h := h.2 c
    refine a_iload_n C.1 (tk T_cX6_isWord 6 rfl) rfl ?_
    refine a_if_lt C.1 21 (tk T_cX6_isWord 7 rfl) rfl (fun c => ?_) (fun c => ?_)
    · have h := h.1 c
      exact a_to (k_Reader_isWord_w4_21 C hr hR M1 h) rfl
    · have h := h.2 c
      refine a_iload_n C.1 (tk T_cX6_isWord 8 rfl) rfl ?_
      refine a_sipush C.1 (400 : Int32) (tk T_cX6_isWord 9 rfl) kS_400 ?_
      refine a_icmp_le C.1 23 (tk T_cX6_isWord 10 rfl) rfl (fun c => ?_) (fun c => ?_)
      · have h := h.1 c
        refine a_iconst C.1 (0 : Int32) (tk T_cX6_isWord 13 rfl) kI_0 ?_
        refine a_istore C.1 (tk T_cX6_isWord 14 rfl) (by decide) rfl ?_
        obtain ⟨n1, h⟩ := h
        exact a_to (k_Reader_isWord_w4_26 C hr hR n1 x1 (0 : Int32) M1 h) rfl
      · have h := h.2 c
        exact a_to (k_Reader_isWord_w4_21 C hr hR M1 h) rfl
theorem ct_Reader_isWord_w4 {l : Launch} {g : GT} {ext : List CD} {sk : Nat → Nat} {post : Int32 → Mem → Prop} {x1 x2 : Int32} {M : Mem} (h : P_Reader_isWord_w4 post x1 x2 M) : SI l g (layC ++ ext) sk yX6_isWord cX6_isWord 5 (some .boolean) 4 [.ref (ad g 84), .int x1, .int x2, .ref (sk (10 + 4))] M post :=
  st_of (plainFor_of_name (by decide +kernel)) (Nat.le_of_ble_eq_true rfl) (fun X A Z hl C hr hR => by subst hl; exact k_Reader_isWord_w4 C hr (fun v M pc lv hd hp => hR v M pc lv hd (nar_z hp.1) hp.2) x1 x2 M h)
