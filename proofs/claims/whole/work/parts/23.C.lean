def T_cX11_chanceL : List (Nat × Instr × Nat) := [(0, .aload_n 0, 1), (1, .iload_n 1, 1), (2, .invokevirtual 232, 3), (5, .aload_n 0, 1), (6, .iload_n 3, 1), (7, .invokevirtual 351, 3), (10, .aload_n 0, 1), (11, .getfield 33, 3), (14, .iload_n 1, 1), (15, .invokevirtual 264, 3), (18, .aload_n 0, 1), (19, .getfield 42, 3), (22, .iload_n 2, 1), (23, .invokevirtual 354, 3), (26, .aload_n 0, 1), (27, .getfield 42, 3), (30, .iload_n 2, 1), (31, .iload_n 3, 1), (32, .invokevirtual 357, 3), (35, .iload 4, 2), (37, .ifCond .eq 13, 3), (40, .aload_n 0, 1), (41, .getfield 42, 3), (44, .getfield 360, 3), (47, .goto 10, 3), (50, .aload_n 0, 1), (51, .getfield 42, 3), (54, .getfield 363, 3), (57, .ireturn, 1)]
theorem T_cX11_chance : tabOK cX11_chance T_cX11_chanceL = true := by decide +kernel
def P_R_chance_57 (post : Int32 → Mem → Prop) (ex : String → Mem → Prop) (s0 : Int32) (M : Mem) : Prop :=
  post s0 M
theorem k_R_chance_57 {X : FX} {g : GT} {ext : List CD} {A : Nat → Prop} {Z : State → Prop} {post : Int32 → Mem → Prop} {ex : String → Mem → Prop} {sk : Nat → Nat} (C : CxX X g (layC ++ ext) A cX11_chance 5 RX11 8 2 sk) (hT : ThX X g (layC ++ ext) A 2 Z ex) (hR : RetI X g (layC ++ ext) A cX11_chance 5 2 (6 * 2) Z post) (s0 : Int32) (M : Mem) (h : P_R_chance_57 post ex s0 M) : AtX X g (layC ++ ext) A 5 2 (6 * 2) Z 57 [] [.int s0] M := by
  exact x_widen (by decide) (by decide) (hR _ _ _ _ (tk T_cX11_chance 28 rfl) h)
def P_R_chance (post : Int32 → Mem → Prop) (ex : String → Mem → Prop) (x1 x2 x3 x4 : Int32) (M : Mem) : Prop :=
  P_R_wantPlate (fun M1 =>
  P_R_wantMaker (fun M2 =>
  P_Judge_open (fun M3 =>
  P_Bells_weigh (fun M4 =>
  P_Bells_reckon (fun M5 =>
  (x4 = 0 → (P_R_chance_57 post ex (M5 78 3) M5)) ∧
  (¬ x4 = 0 → (P_R_chance_57 post ex (M5 78 4) M5))) x2 x3 M4) x2 M3) x1 M2) ex x3 M1) ex x1 M
theorem k_R_chance {X : FX} {g : GT} {ext : List CD} {A : Nat → Prop} {Z : State → Prop} {post : Int32 → Mem → Prop} {ex : String → Mem → Prop} {sk : Nat → Nat} (C : CxX X g (layC ++ ext) A cX11_chance 5 RX11 8 2 sk) (hT : ThX X g (layC ++ ext) A 2 Z ex) (hR : RetI X g (layC ++ ext) A cX11_chance 5 2 (6 * 2) Z post) (x1 x2 x3 x4 : Int32) (M : Mem) (h : P_R_chance post ex x1 x2 x3 x4 M) : AtX X g (layC ++ ext) A 5 0 0 Z 0 [(0, .ref (ad g 0)), (1, .int x1), (2, .int x2), (3, .int x3), (4, .int x4)] [] M := by
  refine a_aload_n C.1 (tk T_cX11_chance 0 rfl) rfl ?_
  refine a_iload_n C.1 (tk T_cX11_chance 1 rfl) rfl ?_
  refine x_callV C hT [.int x1] me_yX11_wantPlate lk_RX11_232 (ct_R_wantPlate h) (by decide) lc0 rfl rfl rfl (Nat.le_of_ble_eq_true rfl) (tk T_cX11_chance 2 rfl) (by decide) (fun M1 h => ?_)
  refine a_aload_n C.1 (tk T_cX11_chance 3 rfl) rfl ?_
  refine a_iload_n C.1 (tk T_cX11_chance 4 rfl) rfl ?_
  refine x_callV C hT [.int x3] me_yX11_wantMaker lk_RX11_351 (ct_R_wantMaker h) (by decide) lc0 rfl rfl rfl (Nat.le_of_ble_eq_true rfl) (tk T_cX11_chance 5 rfl) (by decide) (fun M2 h => ?_)
  refine a_aload_n C.1 (tk T_cX11_chance 6 rfl) rfl ?_
  refine a_getR C.1 f_RX11_33 (tk T_cX11_chance 7 rfl) lc0 rfl ?_
  refine a_iload_n C.1 (tk T_cX11_chance 8 rfl) rfl ?_
  refine a_callV C.1 [.int x1] me_yX3_open lk_RX11_264 (ct_Judge_open h) (by decide) lc69 rfl rfl rfl (Nat.le_of_ble_eq_true rfl) (tk T_cX11_chance 9 rfl) ⟨Nat.le_trans (by decide) C.2.2.1, Nat.le_trans (by decide) C.2.2.2⟩ (fun M3 h => ?_)
  refine a_aload_n C.1 (tk T_cX11_chance 10 rfl) rfl ?_
  refine a_getR C.1 f_RX11_42 (tk T_cX11_chance 11 rfl) lc0 rfl ?_
  refine a_iload_n C.1 (tk T_cX11_chance 12 rfl) rfl ?_
  refine a_callV C.1 [.int x2] me_yX0_weigh lk_RX11_354 (ct_Bells_weigh h) (by decide) lc78 rfl rfl rfl (Nat.le_of_ble_eq_true rfl) (tk T_cX11_chance 13 rfl) ⟨Nat.le_trans (by decide) C.2.2.1, Nat.le_trans (by decide) C.2.2.2⟩ (fun M4 h => ?_)
  refine a_aload_n C.1 (tk T_cX11_chance 14 rfl) rfl ?_
  refine a_getR C.1 f_RX11_42 (tk T_cX11_chance 15 rfl) lc0 rfl ?_
  refine a_iload_n C.1 (tk T_cX11_chance 16 rfl) rfl ?_
  refine a_iload_n C.1 (tk T_cX11_chance 17 rfl) rfl ?_
  refine a_callV C.1 [.int x2, .int x3] me_yX0_reckon lk_RX11_357 (ct_Bells_reckon h) (by decide) lc78 rfl rfl rfl (Nat.le_of_ble_eq_true rfl) (tk T_cX11_chance 18 rfl) ⟨Nat.le_trans (by decide) C.2.2.1, Nat.le_trans (by decide) C.2.2.2⟩ (fun M5 h => ?_)
  refine a_iload C.1 (tk T_cX11_chance 19 rfl) rfl ?_
  refine a_if_eq C.1 50 (tk T_cX11_chance 20 rfl) rfl (fun c => ?_) (fun c => ?_)
  · have h := h.1 c
    refine a_aload_n C.1 (tk T_cX11_chance 25 rfl) rfl ?_
    refine a_getR C.1 f_RX11_42 (tk T_cX11_chance 26 rfl) lc0 rfl ?_
    refine a_getI C.1 f_RX11_363 (tk T_cX11_chance 27 rfl) lc78 rfl ?_
    exact x_widen (by decide) (by decide) (a_to (k_R_chance_57 C hT hR (M5 78 3) M5 h) rfl)
  · have h := h.2 c
    refine a_aload_n C.1 (tk T_cX11_chance 21 rfl) rfl ?_
    refine a_getR C.1 f_RX11_42 (tk T_cX11_chance 22 rfl) lc0 rfl ?_
    refine a_getI C.1 f_RX11_360 (tk T_cX11_chance 23 rfl) lc78 rfl ?_
    refine a_goto C.1 57 (tk T_cX11_chance 24 rfl) rfl ?_
    exact x_widen (by decide) (by decide) (a_to (k_R_chance_57 C hT hR (M5 78 4) M5 h) rfl)
theorem ct_R_chance {l : Launch} {g : GT} {ext : List CD} {sk : Nat → Nat} {post : Int32 → Mem → Prop} {ex : String → Mem → Prop} {x1 x2 x3 x4 : Int32} {M : Mem} (h : P_R_chance post ex x1 x2 x3 x4 M) : XI l g (layC ++ ext) sk yX11_chance cX11_chance 5 (some .int) 8 2 [.ref (ad g 0), .int x1, .int x2, .int x3, .int x4] M post ex :=
  xi_of (by decide +kernel) (Nat.le_of_ble_eq_true rfl) (fun X A Z hl C hR hT _ => by subst hl; exact k_R_chance C hT hR x1 x2 x3 x4 M h)
def T_cX0_likeliestL : List (Nat × Instr × Nat) := [(0, .iconst (-1), 1), (1, .istore_n 2, 1), (2, .lconst 0, 1), (3, .lstore_n 3, 1), (4, .lconst 1, 1), (5, .lstore 5, 2), (7, .iconst 0, 1), (8, .istore 7, 2), (10, .iload 7, 2), (12, .aload_n 0, 1), (13, .getfield 15, 3), (16, .getfield 84, 3), (19, .if_icmp .ge 51, 3), (22, .aload_n 0, 1), (23, .iload_n 1, 1), (24, .iload 7, 2), (26, .invokevirtual 87, 3), (29, .aload_n 0, 1), (30, .getfield 49, 3), (33, .i2l, 1), (34, .lload 5, 2), (36, .lmul, 1), (37, .lload_n 3, 1), (38, .aload_n 0, 1), (39, .getfield 52, 3), (42, .i2l, 1), (43, .lmul, 1), (44, .lcmp, 1), (45, .ifCond .le 19, 3), (48, .iload 7, 2), (50, .istore_n 2, 1), (51, .aload_n 0, 1), (52, .getfield 49, 3), (55, .i2l, 1), (56, .lstore_n 3, 1), (57, .aload_n 0, 1), (58, .getfield 52, 3), (61, .i2l, 1), (62, .lstore 5, 2), (64, .iinc 7 1, 3), (67, .goto (-57), 3), (70, .iload_n 2, 1), (71, .ireturn, 1)]
theorem T_cX0_likeliest : tabOK cX0_likeliest T_cX0_likeliestL = true := by decide +kernel
def P_Bells_likeliest_64 (post : Int32 → Mem → Prop) (R10 : Int32 → Int32 → Int64 → Int64 → Int32 → Mem → Prop) (x1 x2 : Int32) (x3 x5 : Int64) (x7 : Int32) (M : Mem) : Prop :=
  R10 x1 x2 x3 x5 (x7 + (1 : Int32)) M
theorem k_Bells_likeliest_64 {X : FX} {g : GT} {ext : List CD} {A : Nat → Prop} {Z : State → Prop} {post : Int32 → Mem → Prop} {R10 : Int32 → Int32 → Int64 → Int64 → Int32 → Mem → Prop} (C : Cx X g (layC ++ ext) A cX0_likeliest 8 RX0 3) (hr : 0 ≤ X.2.2.2.1.cells ∧ 0 ≤ X.2.2.2.1.slots) (hR : RetI X g (layC ++ ext) A cX0_likeliest 8 0 0 Z post) (k10 : ∀ (y1 y2 : Int32) (y3 y5 : Int64) (y7 : Int32) (M : Mem), R10 y1 y2 y3 y5 y7 M → AtX X g (layC ++ ext) A 8 0 0 Z 10 [(0, .ref (ad g 78)), (1, .int y1), (2, .int y2), (3, .long y3), (5, .long y5), (7, .int y7)] [] M) (x1 x2 : Int32) (x3 x5 : Int64) (x7 : Int32) (M : Mem) (h : P_Bells_likeliest_64 post R10 x1 x2 x3 x5 x7 M) : AtX X g (layC ++ ext) A 8 0 0 Z 64 [(0, .ref (ad g 78)), (1, .int x1), (2, .int x2), (3, .long x3), (5, .long x5), (7, .int x7)] [] M := by
  refine a_iinc C (1 : Int32) (tk T_cX0_likeliest 39 rfl) rfl kI_1 (by decide) rfl ?_
  refine a_goto C 10 (tk T_cX0_likeliest 40 rfl) rfl ?_
  exact a_to (k10 x1 x2 x3 x5 (x7 + (1 : Int32)) M h) rfl
def P_Bells_likeliest_10 (post : Int32 → Mem → Prop) : Nat → Int32 → Int32 → Int64 → Int64 → Int32 → Mem → Prop
  | 0, _, _, _, _, _, _ => False
  | n + 1, x1, x2, x3, x5, x7, M =>
    ((M 1 7) ≤ x7 → (post x2 M)) ∧
  (¬ (M 1 7) ≤ x7 → (P_Bells_reckon (fun M1 =>
  ((lg_cmp ((M1 78 3).toInt64 * x5) (x3 * (M1 78 4).toInt64)) ≤ 0 → (P_Bells_likeliest_64 post (P_Bells_likeliest_10 post n) x1 x2 x3 x5 x7 M1)) ∧
  (¬ (lg_cmp ((M1 78 3).toInt64 * x5) (x3 * (M1 78 4).toInt64)) ≤ 0 → (∀ x3_2, x3_2 = (M1 78 3).toInt64 → ∀ x5_3, x5_3 = (M1 78 4).toInt64 → P_Bells_likeliest_64 post (P_Bells_likeliest_10 post n) x1 x7 x3_2 x5_3 x7 M1))) x1 x7 M))
theorem k_Bells_likeliest_10 {X : FX} {g : GT} {ext : List CD} {A : Nat → Prop} {Z : State → Prop} {post : Int32 → Mem → Prop} (C : Cx X g (layC ++ ext) A cX0_likeliest 8 RX0 3) (hr : 0 ≤ X.2.2.2.1.cells ∧ 0 ≤ X.2.2.2.1.slots) (hR : RetI X g (layC ++ ext) A cX0_likeliest 8 0 0 Z post) : ∀ (n : Nat) (x1 x2 : Int32) (x3 x5 : Int64) (x7 : Int32) (M : Mem), P_Bells_likeliest_10 post n x1 x2 x3 x5 x7 M → AtX X g (layC ++ ext) A 8 0 0 Z 10 [(0, .ref (ad g 78)), (1, .int x1), (2, .int x2), (3, .long x3), (5, .long x5), (7, .int x7)] [] M := by
  intro n
  induction n with
  | zero =>
    intro x1 x2 x3 x5 x7 M h
    exact h.elim
  | succ n ih =>
    intro x1 x2 x3 x5 x7 M h
    refine a_iload C (tk T_cX0_likeliest 8 rfl) rfl ?_
    refine a_aload_n C (tk T_cX0_likeliest 9 rfl) rfl ?_
    refine a_getR C f_RX0_15 (tk T_cX0_likeliest 10 rfl) lc78 rfl ?_
    refine a_getI C f_RX0_84 (tk T_cX0_likeliest 11 rfl) lc1 rfl ?_
    refine a_icmp_ge C 70 (tk T_cX0_likeliest 12 rfl) rfl (fun c => ?_) (fun c => ?_)
    · have h := h.1 c
      refine a_iload_n C (tk T_cX0_likeliest 41 rfl) rfl ?_
      exact hR _ _ _ _ (tk T_cX0_likeliest 42 rfl) h
    · have h := h.2 c
      refine a_aload_n C (tk T_cX0_likeliest 13 rfl) rfl ?_
      refine a_iload_n C (tk T_cX0_likeliest 14 rfl) rfl ?_
      refine a_iload C (tk T_cX0_likeliest 15 rfl) rfl ?_
      refine a_callV C [.int x1, .int x7] me_yX0_reckon lk_RX0_87 (ct_Bells_reckon h) (by decide) lc78 rfl rfl rfl (Nat.le_of_ble_eq_true rfl) (tk T_cX0_likeliest 16 rfl) hr (fun M1 h => ?_)
      refine a_aload_n C (tk T_cX0_likeliest 17 rfl) rfl ?_
      refine a_getI C f_RX0_49 (tk T_cX0_likeliest 18 rfl) lc78 rfl ?_
      refine a_i2l C (tk T_cX0_likeliest 19 rfl) ?_
      refine a_lload C (tk T_cX0_likeliest 20 rfl) rfl ?_
      refine a_lmul C (tk T_cX0_likeliest 21 rfl) ?_
      refine a_lload_n C (tk T_cX0_likeliest 22 rfl) rfl ?_
      refine a_aload_n C (tk T_cX0_likeliest 23 rfl) rfl ?_
      refine a_getI C f_RX0_52 (tk T_cX0_likeliest 24 rfl) lc78 rfl ?_
      refine a_i2l C (tk T_cX0_likeliest 25 rfl) ?_
      refine a_lmul C (tk T_cX0_likeliest 26 rfl) ?_
      refine a_lcmp C (tk T_cX0_likeliest 27 rfl) ?_
      refine a_if_le C 64 (tk T_cX0_likeliest 28 rfl) rfl (fun c => ?_) (fun c => ?_)
      · have h := h.1 c
        exact a_to (k_Bells_likeliest_64 C hr hR ih x1 x2 x3 x5 x7 M1 h) rfl
      · have h := h.2 c
        refine a_iload C (tk T_cX0_likeliest 29 rfl) rfl ?_
        refine a_istore_n C (tk T_cX0_likeliest 30 rfl) (by decide) rfl ?_
        refine a_aload_n C (tk T_cX0_likeliest 31 rfl) rfl ?_
        refine a_getI C f_RX0_49 (tk T_cX0_likeliest 32 rfl) lc78 rfl ?_
        refine a_i2l C (tk T_cX0_likeliest 33 rfl) ?_
        refine a_topl (fun x3_2 e_x3_2 => ?_)
        have h := h x3_2 e_x3_2
        refine a_lstore_n C (tk T_cX0_likeliest 34 rfl) (by decide) rfl ?_
        refine a_aload_n C (tk T_cX0_likeliest 35 rfl) rfl ?_
        refine a_getI C f_RX0_52 (tk T_cX0_likeliest 36 rfl) lc78 rfl ?_
        refine a_i2l C (tk T_cX0_likeliest 37 rfl) ?_
        refine a_topl (fun x5_3 e_x5_3 => ?_)
        have h := h x5_3 e_x5_3
        refine a_lstore C (tk T_cX0_likeliest 38 rfl) (by decide) rfl ?_
        exact a_to (k_Bells_likeliest_64 C hr hR ih x1 x7 x3_2 x5_3 x7 M1 h) rfl
def P_Bells_likeliest (post : Int32 → Mem → Prop) (x1 : Int32) (M : Mem) : Prop :=
  ∃ j10, P_Bells_likeliest_10 post j10 x1 (-1 : Int32) (0 : Int64) (1 : Int64) (0 : Int32) M
theorem k_Bells_likeliest {X : FX} {g : GT} {ext : List CD} {A : Nat → Prop} {Z : State → Prop} {post : Int32 → Mem → Prop} (C : Cx X g (layC ++ ext) A cX0_likeliest 8 RX0 3) (hr : 0 ≤ X.2.2.2.1.cells ∧ 0 ≤ X.2.2.2.1.slots) (hR : RetI X g (layC ++ ext) A cX0_likeliest 8 0 0 Z post) (x1 : Int32) (M : Mem) (h : P_Bells_likeliest post x1 M) : AtX X g (layC ++ ext) A 8 0 0 Z 0 [(0, .ref (ad g 78)), (1, .int x1)] [] M := by
  refine a_iconst C (-1 : Int32) (tk T_cX0_likeliest 0 rfl) kI_m1 ?_
  refine a_istore_n C (tk T_cX0_likeliest 1 rfl) (by decide) rfl ?_
  refine a_lconst C (0 : Int64) (tk T_cX0_likeliest 2 rfl) rfl ?_
  refine a_lstore_n C (tk T_cX0_likeliest 3 rfl) (by decide) rfl ?_
  refine a_lconst C (1 : Int64) (tk T_cX0_likeliest 4 rfl) rfl ?_
  refine a_lstore C (tk T_cX0_likeliest 5 rfl) (by decide) rfl ?_
  refine a_iconst C (0 : Int32) (tk T_cX0_likeliest 6 rfl) kI_0 ?_
  refine a_istore C (tk T_cX0_likeliest 7 rfl) (by decide) rfl ?_
  obtain ⟨n1, h⟩ := h
  exact a_to (k_Bells_likeliest_10 C hr hR n1 x1 (-1 : Int32) (0 : Int64) (1 : Int64) (0 : Int32) M h) rfl
theorem ct_Bells_likeliest {l : Launch} {g : GT} {ext : List CD} {post : Int32 → Mem → Prop} {x1 : Int32} {M : Mem} (h : P_Bells_likeliest post x1 M) : CI l g (layC ++ ext) yX0_likeliest cX0_likeliest 8 (some .int) 3 [.ref (ad g 78), .int x1] M post :=
  ci_of (plainFor_of_name (by decide +kernel)) (Nat.le_of_ble_eq_true rfl) (fun X A Z hl C hr hR => by subst hl; exact k_Bells_likeliest C hr hR x1 M h)
def T_cX11_likelyL : List (Nat × Instr × Nat) := [(0, .aload_n 0, 1), (1, .iload_n 1, 1), (2, .invokevirtual 232, 3), (5, .aload_n 0, 1), (6, .getfield 33, 3), (9, .iload_n 1, 1), (10, .invokevirtual 264, 3), (13, .aload_n 0, 1), (14, .getfield 42, 3), (17, .iload_n 2, 1), (18, .invokevirtual 354, 3), (21, .aload_n 0, 1), (22, .getfield 42, 3), (25, .iload_n 2, 1), (26, .invokevirtual 366, 3), (29, .ireturn, 1)]
theorem T_cX11_likely : tabOK cX11_likely T_cX11_likelyL = true := by decide +kernel
def P_R_likely (post : Int32 → Mem → Prop) (ex : String → Mem → Prop) (x1 x2 : Int32) (M : Mem) : Prop :=
  P_R_wantPlate (fun M1 =>
  P_Judge_open (fun M2 =>
  P_Bells_weigh (fun M3 =>
  P_Bells_likeliest (fun r4 M4 =>
  post r4 M4) x2 M3) x2 M2) x1 M1) ex x1 M
theorem k_R_likely {X : FX} {g : GT} {ext : List CD} {A : Nat → Prop} {Z : State → Prop} {post : Int32 → Mem → Prop} {ex : String → Mem → Prop} {sk : Nat → Nat} (C : CxX X g (layC ++ ext) A cX11_likely 3 RX11 8 1 sk) (hT : ThX X g (layC ++ ext) A 1 Z ex) (hR : RetI X g (layC ++ ext) A cX11_likely 3 1 (6 * 1) Z post) (x1 x2 : Int32) (M : Mem) (h : P_R_likely post ex x1 x2 M) : AtX X g (layC ++ ext) A 3 0 0 Z 0 [(0, .ref (ad g 0)), (1, .int x1), (2, .int x2)] [] M := by
  refine a_aload_n C.1 (tk T_cX11_likely 0 rfl) rfl ?_
  refine a_iload_n C.1 (tk T_cX11_likely 1 rfl) rfl ?_
  refine x_callV C hT [.int x1] me_yX11_wantPlate lk_RX11_232 (ct_R_wantPlate h) (by decide) lc0 rfl rfl rfl (Nat.le_of_ble_eq_true rfl) (tk T_cX11_likely 2 rfl) (by decide) (fun M1 h => ?_)
  refine a_aload_n C.1 (tk T_cX11_likely 3 rfl) rfl ?_
  refine a_getR C.1 f_RX11_33 (tk T_cX11_likely 4 rfl) lc0 rfl ?_
  refine a_iload_n C.1 (tk T_cX11_likely 5 rfl) rfl ?_
  refine a_callV C.1 [.int x1] me_yX3_open lk_RX11_264 (ct_Judge_open h) (by decide) lc69 rfl rfl rfl (Nat.le_of_ble_eq_true rfl) (tk T_cX11_likely 6 rfl) ⟨Nat.le_trans (by decide) C.2.2.1, Nat.le_trans (by decide) C.2.2.2⟩ (fun M2 h => ?_)
  refine a_aload_n C.1 (tk T_cX11_likely 7 rfl) rfl ?_
  refine a_getR C.1 f_RX11_42 (tk T_cX11_likely 8 rfl) lc0 rfl ?_
  refine a_iload_n C.1 (tk T_cX11_likely 9 rfl) rfl ?_
  refine a_callV C.1 [.int x2] me_yX0_weigh lk_RX11_354 (ct_Bells_weigh h) (by decide) lc78 rfl rfl rfl (Nat.le_of_ble_eq_true rfl) (tk T_cX11_likely 10 rfl) ⟨Nat.le_trans (by decide) C.2.2.1, Nat.le_trans (by decide) C.2.2.2⟩ (fun M3 h => ?_)
  refine a_aload_n C.1 (tk T_cX11_likely 11 rfl) rfl ?_
  refine a_getR C.1 f_RX11_42 (tk T_cX11_likely 12 rfl) lc0 rfl ?_
  refine a_iload_n C.1 (tk T_cX11_likely 13 rfl) rfl ?_
  refine a_callI C.1 [.int x2] me_yX0_likeliest lk_RX11_366 (ct_Bells_likeliest h) (by decide) lc78 rfl rfl rfl (Nat.le_of_ble_eq_true rfl) (tk T_cX11_likely 14 rfl) ⟨Nat.le_trans (by decide) C.2.2.1, Nat.le_trans (by decide) C.2.2.2⟩ (fun r4 M4 h => ?_)
  exact x_widen (by decide) (by decide) (hR _ _ _ _ (tk T_cX11_likely 15 rfl) h)
theorem ct_R_likely {l : Launch} {g : GT} {ext : List CD} {sk : Nat → Nat} {post : Int32 → Mem → Prop} {ex : String → Mem → Prop} {x1 x2 : Int32} {M : Mem} (h : P_R_likely post ex x1 x2 M) : XI l g (layC ++ ext) sk yX11_likely cX11_likely 3 (some .int) 8 1 [.ref (ad g 0), .int x1, .int x2] M post ex :=
  xi_of (by decide +kernel) (Nat.le_of_ble_eq_true rfl) (fun X A Z hl C hR hT _ => by subst hl; exact k_R_likely C hT hR x1 x2 M h)
def T_cX0_isBeatenL : List (Nat × Instr × Nat) := [(0, .aload_n 0, 1), (1, .iload_n 1, 1), (2, .iload_n 2, 1), (3, .invokevirtual 87, 3), (6, .aload_n 0, 1), (7, .getfield 49, 3), (10, .i2l, 1), (11, .lstore_n 3, 1), (12, .aload_n 0, 1), (13, .getfield 52, 3), (16, .i2l, 1), (17, .lstore 5, 2), (19, .iconst 0, 1), (20, .istore 7, 2), (22, .iload 7, 2), (24, .aload_n 0, 1), (25, .getfield 15, 3), (28, .getfield 84, 3), (31, .if_icmp .ge 37, 3), (34, .aload_n 0, 1), (35, .iload_n 1, 1), (36, .iload 7, 2), (38, .invokevirtual 87, 3), (41, .aload_n 0, 1), (42, .getfield 49, 3), (45, .i2l, 1), (46, .lload 5, 2), (48, .lmul, 1), (49, .lload_n 3, 1), (50, .aload_n 0, 1), (51, .getfield 52, 3), (54, .i2l, 1), (55, .lmul, 1), (56, .lcmp, 1), (57, .ifCond .le 5, 3), (60, .iconst 1, 1), (61, .ireturn, 1), (62, .iinc 7 1, 3), (65, .goto (-43), 3), (68, .iconst 0, 1), (69, .ireturn, 1)]
theorem T_cX0_isBeaten : tabOK cX0_isBeaten T_cX0_isBeatenL = true := by decide +kernel
def P_Bells_isBeaten_22 (post : Int32 → Mem → Prop) : Nat → Int32 → Int64 → Int64 → Int32 → Mem → Prop
  | 0, _, _, _, _, _ => False
  | n + 1, x1, x3, x5, x7, M =>
    ((M 1 7) ≤ x7 → (post (0 : Int32) M)) ∧
  (¬ (M 1 7) ≤ x7 → (P_Bells_reckon (fun M1 =>
  ((lg_cmp ((M1 78 3).toInt64 * x5) (x3 * (M1 78 4).toInt64)) ≤ 0 → (P_Bells_isBeaten_22 post n x1 x3 x5 (x7 + (1 : Int32)) M1)) ∧
  (¬ (lg_cmp ((M1 78 3).toInt64 * x5) (x3 * (M1 78 4).toInt64)) ≤ 0 → (post (1 : Int32) M1))) x1 x7 M))
theorem k_Bells_isBeaten_22 {X : FX} {g : GT} {ext : List CD} {A : Nat → Prop} {Z : State → Prop} {post : Int32 → Mem → Prop} (C : Cx X g (layC ++ ext) A cX0_isBeaten 8 RX0 3) (hr : 0 ≤ X.2.2.2.1.cells ∧ 0 ≤ X.2.2.2.1.slots) (hR : RetZ X g (layC ++ ext) A cX0_isBeaten 8 0 0 Z post) : ∀ (n : Nat) (x1 : Int32) (x3 x5 : Int64) (x7 : Int32) (M : Mem), P_Bells_isBeaten_22 post n x1 x3 x5 x7 M → AtX X g (layC ++ ext) A 8 0 0 Z 22 [(0, .ref (ad g 78)), (1, .int x1), (3, .long x3), (5, .long x5), (7, .int x7)] [] M := by
  intro n
  induction n with
  | zero =>
    intro x1 x3 x5 x7 M h
    exact h.elim
  | succ n ih =>
    intro x1 x3 x5 x7 M h
    refine a_iload C (tk T_cX0_isBeaten 14 rfl) rfl ?_
    refine a_aload_n C (tk T_cX0_isBeaten 15 rfl) rfl ?_
    refine a_getR C f_RX0_15 (tk T_cX0_isBeaten 16 rfl) lc78 rfl ?_
    refine a_getI C f_RX0_84 (tk T_cX0_isBeaten 17 rfl) lc1 rfl ?_
    refine a_icmp_ge C 68 (tk T_cX0_isBeaten 18 rfl) rfl (fun c => ?_) (fun c => ?_)
    · have h := h.1 c
      refine a_iconst C (0 : Int32) (tk T_cX0_isBeaten 39 rfl) kI_0 ?_
      exact hR _ _ _ _ (tk T_cX0_isBeaten 40 rfl) ⟨Or.inl rfl, h⟩
    · have h := h.2 c
      refine a_aload_n C (tk T_cX0_isBeaten 19 rfl) rfl ?_
      refine a_iload_n C (tk T_cX0_isBeaten 20 rfl) rfl ?_
      refine a_iload C (tk T_cX0_isBeaten 21 rfl) rfl ?_
      refine a_callV C [.int x1, .int x7] me_yX0_reckon lk_RX0_87 (ct_Bells_reckon h) (by decide) lc78 rfl rfl rfl (Nat.le_of_ble_eq_true rfl) (tk T_cX0_isBeaten 22 rfl) hr (fun M1 h => ?_)
      refine a_aload_n C (tk T_cX0_isBeaten 23 rfl) rfl ?_
      refine a_getI C f_RX0_49 (tk T_cX0_isBeaten 24 rfl) lc78 rfl ?_
      refine a_i2l C (tk T_cX0_isBeaten 25 rfl) ?_
      refine a_lload C (tk T_cX0_isBeaten 26 rfl) rfl ?_
      refine a_lmul C (tk T_cX0_isBeaten 27 rfl) ?_
      refine a_lload_n C (tk T_cX0_isBeaten 28 rfl) rfl ?_
      refine a_aload_n C (tk T_cX0_isBeaten 29 rfl) rfl ?_
      refine a_getI C f_RX0_52 (tk T_cX0_isBeaten 30 rfl) lc78 rfl ?_
      refine a_i2l C (tk T_cX0_isBeaten 31 rfl) ?_
      refine a_lmul C (tk T_cX0_isBeaten 32 rfl) ?_
      refine a_lcmp C (tk T_cX0_isBeaten 33 rfl) ?_
      refine a_if_le C 62 (tk T_cX0_isBeaten 34 rfl) rfl (fun c => ?_) (fun c => ?_)
      · have h := h.1 c
        refine a_iinc C (1 : Int32) (tk T_cX0_isBeaten 37 rfl) rfl kI_1 (by decide) rfl ?_
        refine a_goto C 22 (tk T_cX0_isBeaten 38 rfl) rfl ?_
        exact a_to (ih x1 x3 x5 (x7 + (1 : Int32)) M1 h) rfl
      · have h := h.2 c
        refine a_iconst C (1 : Int32) (tk T_cX0_isBeaten 35 rfl) kI_1 ?_
        exact hR _ _ _ _ (tk T_cX0_isBeaten 36 rfl) ⟨Or.inr rfl, h⟩
def P_Bells_isBeaten (post : Int32 → Mem → Prop) (x1 x2 : Int32) (M : Mem) : Prop :=
  P_Bells_reckon (fun M1 =>
  ∀ x3_2, x3_2 = (M1 78 3).toInt64 → ∀ x5_3, x5_3 = (M1 78 4).toInt64 → ∃ j22, P_Bells_isBeaten_22 post j22 x1 x3_2 x5_3 (0 : Int32) M1) x1 x2 M
theorem k_Bells_isBeaten {X : FX} {g : GT} {ext : List CD} {A : Nat → Prop} {Z : State → Prop} {post : Int32 → Mem → Prop} (C : Cx X g (layC ++ ext) A cX0_isBeaten 8 RX0 3) (hr : 0 ≤ X.2.2.2.1.cells ∧ 0 ≤ X.2.2.2.1.slots) (hR : RetZ X g (layC ++ ext) A cX0_isBeaten 8 0 0 Z post) (x1 x2 : Int32) (M : Mem) (h : P_Bells_isBeaten post x1 x2 M) : AtX X g (layC ++ ext) A 8 0 0 Z 0 [(0, .ref (ad g 78)), (1, .int x1), (2, .int x2)] [] M := by
  refine a_aload_n C (tk T_cX0_isBeaten 0 rfl) rfl ?_
  refine a_iload_n C (tk T_cX0_isBeaten 1 rfl) rfl ?_
  refine a_iload_n C (tk T_cX0_isBeaten 2 rfl) rfl ?_
  refine a_callV C [.int x1, .int x2] me_yX0_reckon lk_RX0_87 (ct_Bells_reckon h) (by decide) lc78 rfl rfl rfl (Nat.le_of_ble_eq_true rfl) (tk T_cX0_isBeaten 3 rfl) hr (fun M1 h => ?_)
  refine a_aload_n C (tk T_cX0_isBeaten 4 rfl) rfl ?_
  refine a_getI C f_RX0_49 (tk T_cX0_isBeaten 5 rfl) lc78 rfl ?_
  refine a_i2l C (tk T_cX0_isBeaten 6 rfl) ?_
  refine a_topl (fun x3_2 e_x3_2 => ?_)
  have h := h x3_2 e_x3_2
  refine a_lstore_n C (tk T_cX0_isBeaten 7 rfl) (by decide) rfl ?_
  refine a_aload_n C (tk T_cX0_isBeaten 8 rfl) rfl ?_
  refine a_getI C f_RX0_52 (tk T_cX0_isBeaten 9 rfl) lc78 rfl ?_
  refine a_i2l C (tk T_cX0_isBeaten 10 rfl) ?_
  refine a_topl (fun x5_3 e_x5_3 => ?_)
  have h := h x5_3 e_x5_3
  refine a_lstore C (tk T_cX0_isBeaten 11 rfl) (by decide) rfl ?_
  refine a_iconst C (0 : Int32) (tk T_cX0_isBeaten 12 rfl) kI_0 ?_
  refine a_istore C (tk T_cX0_isBeaten 13 rfl) (by decide) rfl ?_
  obtain ⟨n1, h⟩ := h
  exact a_to (k_Bells_isBeaten_22 C hr hR n1 x1 x3_2 x5_3 (0 : Int32) M1 h) rfl
theorem ct_Bells_isBeaten {l : Launch} {g : GT} {ext : List CD} {post : Int32 → Mem → Prop} {x1 x2 : Int32} {M : Mem} (h : P_Bells_isBeaten post x1 x2 M) : CI l g (layC ++ ext) yX0_isBeaten cX0_isBeaten 8 (some .boolean) 3 [.ref (ad g 78), .int x1, .int x2] M post :=
  cz_of (plainFor_of_name (by decide +kernel)) (Nat.le_of_ble_eq_true rfl) (fun X A Z hl C hr hR => by subst hl; exact k_Bells_isBeaten C hr hR x1 x2 M h)
def T_cX11_forgedL : List (Nat × Instr × Nat) := [(0, .aload_n 0, 1), (1, .iload_n 1, 1), (2, .invokevirtual 232, 3), (5, .aload_n 0, 1), (6, .iload_n 3, 1), (7, .invokevirtual 351, 3), (10, .aload_n 0, 1), (11, .getfield 33, 3), (14, .iload_n 1, 1), (15, .invokevirtual 264, 3), (18, .aload_n 0, 1), (19, .getfield 42, 3), (22, .iload_n 2, 1), (23, .invokevirtual 354, 3), (26, .aload_n 0, 1), (27, .getfield 42, 3), (30, .iload_n 2, 1), (31, .iload_n 3, 1), (32, .invokevirtual 369, 3), (35, .ireturn, 1)]
theorem T_cX11_forged : tabOK cX11_forged T_cX11_forgedL = true := by decide +kernel
def P_R_forged (post : Int32 → Mem → Prop) (ex : String → Mem → Prop) (x1 x2 x3 : Int32) (M : Mem) : Prop :=
  P_R_wantPlate (fun M1 =>
  P_R_wantMaker (fun M2 =>
  P_Judge_open (fun M3 =>
  P_Bells_weigh (fun M4 =>
  P_Bells_isBeaten (fun r5 M5 =>
  (r5 = 0 ∨ r5 = 1) ∧ post r5 M5) x2 x3 M4) x2 M3) x1 M2) ex x3 M1) ex x1 M
theorem k_R_forged {X : FX} {g : GT} {ext : List CD} {A : Nat → Prop} {Z : State → Prop} {post : Int32 → Mem → Prop} {ex : String → Mem → Prop} {sk : Nat → Nat} (C : CxX X g (layC ++ ext) A cX11_forged 4 RX11 8 2 sk) (hT : ThX X g (layC ++ ext) A 2 Z ex) (hR : RetZ X g (layC ++ ext) A cX11_forged 4 2 (6 * 2) Z post) (x1 x2 x3 : Int32) (M : Mem) (h : P_R_forged post ex x1 x2 x3 M) : AtX X g (layC ++ ext) A 4 0 0 Z 0 [(0, .ref (ad g 0)), (1, .int x1), (2, .int x2), (3, .int x3)] [] M := by
  refine a_aload_n C.1 (tk T_cX11_forged 0 rfl) rfl ?_
  refine a_iload_n C.1 (tk T_cX11_forged 1 rfl) rfl ?_
  refine x_callV C hT [.int x1] me_yX11_wantPlate lk_RX11_232 (ct_R_wantPlate h) (by decide) lc0 rfl rfl rfl (Nat.le_of_ble_eq_true rfl) (tk T_cX11_forged 2 rfl) (by decide) (fun M1 h => ?_)
  refine a_aload_n C.1 (tk T_cX11_forged 3 rfl) rfl ?_
  refine a_iload_n C.1 (tk T_cX11_forged 4 rfl) rfl ?_
  refine x_callV C hT [.int x3] me_yX11_wantMaker lk_RX11_351 (ct_R_wantMaker h) (by decide) lc0 rfl rfl rfl (Nat.le_of_ble_eq_true rfl) (tk T_cX11_forged 5 rfl) (by decide) (fun M2 h => ?_)
  refine a_aload_n C.1 (tk T_cX11_forged 6 rfl) rfl ?_
  refine a_getR C.1 f_RX11_33 (tk T_cX11_forged 7 rfl) lc0 rfl ?_
  refine a_iload_n C.1 (tk T_cX11_forged 8 rfl) rfl ?_
  refine a_callV C.1 [.int x1] me_yX3_open lk_RX11_264 (ct_Judge_open h) (by decide) lc69 rfl rfl rfl (Nat.le_of_ble_eq_true rfl) (tk T_cX11_forged 9 rfl) ⟨Nat.le_trans (by decide) C.2.2.1, Nat.le_trans (by decide) C.2.2.2⟩ (fun M3 h => ?_)
  refine a_aload_n C.1 (tk T_cX11_forged 10 rfl) rfl ?_
  refine a_getR C.1 f_RX11_42 (tk T_cX11_forged 11 rfl) lc0 rfl ?_
  refine a_iload_n C.1 (tk T_cX11_forged 12 rfl) rfl ?_
  refine a_callV C.1 [.int x2] me_yX0_weigh lk_RX11_354 (ct_Bells_weigh h) (by decide) lc78 rfl rfl rfl (Nat.le_of_ble_eq_true rfl) (tk T_cX11_forged 13 rfl) ⟨Nat.le_trans (by decide) C.2.2.1, Nat.le_trans (by decide) C.2.2.2⟩ (fun M4 h => ?_)
  refine a_aload_n C.1 (tk T_cX11_forged 14 rfl) rfl ?_
  refine a_getR C.1 f_RX11_42 (tk T_cX11_forged 15 rfl) lc0 rfl ?_
  refine a_iload_n C.1 (tk T_cX11_forged 16 rfl) rfl ?_
  refine a_iload_n C.1 (tk T_cX11_forged 17 rfl) rfl ?_
  refine a_callI C.1 [.int x2, .int x3] me_yX0_isBeaten lk_RX11_369 (ct_Bells_isBeaten h) (by decide) lc78 rfl rfl rfl (Nat.le_of_ble_eq_true rfl) (tk T_cX11_forged 18 rfl) ⟨Nat.le_trans (by decide) C.2.2.1, Nat.le_trans (by decide) C.2.2.2⟩ (fun r5 M5 h => ?_)
  exact x_widen (by decide) (by decide) (hR _ _ _ _ (tk T_cX11_forged 19 rfl) h)
theorem ct_R_forged {l : Launch} {g : GT} {ext : List CD} {sk : Nat → Nat} {post : Int32 → Mem → Prop} {ex : String → Mem → Prop} {x1 x2 x3 : Int32} {M : Mem} (h : P_R_forged post ex x1 x2 x3 M) : XI l g (layC ++ ext) sk yX11_forged cX11_forged 4 (some .boolean) 8 2 [.ref (ad g 0), .int x1, .int x2, .int x3] M post ex :=
  xz_of (by decide +kernel) (Nat.le_of_ble_eq_true rfl) (fun X A Z hl C hR hT _ => by subst hl; exact k_R_forged C hT hR x1 x2 x3 M h)
def T_cX7_isSumL : List (Nat × Instr × Nat) := [(0, .iload_n 0, 1), (1, .iload_n 1, 1), (2, .isub, 1), (3, .iload_n 2, 1), (4, .isub, 1), (5, .invokestatic 88, 3), (8, .iload_n 3, 1), (9, .if_icmp .gt 7, 3), (12, .iconst 1, 1), (13, .goto 4, 3), (16, .iconst 0, 1), (17, .ireturn, 1)]
theorem T_cX7_isSum : tabOK cX7_isSum T_cX7_isSumL = true := by decide +kernel
def P_Rows_isSum_17 (post : Int32 → Mem → Prop) (s0 : Int32) (M : Mem) : Prop :=
  (s0 = 0 ∨ s0 = 1) ∧ post s0 M
theorem k_Rows_isSum_17 {X : FX} {g : GT} {ext : List CD} {A : Nat → Prop} {Z : State → Prop} {post : Int32 → Mem → Prop} (C : Cx X g (layC ++ ext) A cX7_isSum 4 RX7 1) (hr : 0 ≤ X.2.2.2.1.cells ∧ 0 ≤ X.2.2.2.1.slots) (hR : RetZ X g (layC ++ ext) A cX7_isSum 4 0 0 Z post) (s0 : Int32) (M : Mem) (h : P_Rows_isSum_17 post s0 M) : AtX X g (layC ++ ext) A 4 0 0 Z 17 [] [.int s0] M := by
  exact hR _ _ _ _ (tk T_cX7_isSum 11 rfl) h
def P_Rows_isSum (post : Int32 → Mem → Prop) (x0 x1 x2 x3 : Int32) (M : Mem) : Prop :=
  P_Math_abs (fun r1 M1 =>
  (x3 < r1 → (P_Rows_isSum_17 post (0 : Int32) M1)) ∧
  (¬ x3 < r1 → (P_Rows_isSum_17 post (1 : Int32) M1))) ((x0 - x1) - x2) M
theorem k_Rows_isSum {X : FX} {g : GT} {ext : List CD} {A : Nat → Prop} {Z : State → Prop} {post : Int32 → Mem → Prop} (C : Cx X g (layC ++ ext) A cX7_isSum 4 RX7 1) (hr : 0 ≤ X.2.2.2.1.cells ∧ 0 ≤ X.2.2.2.1.slots) (hR : RetZ X g (layC ++ ext) A cX7_isSum 4 0 0 Z post) (x0 x1 x2 x3 : Int32) (M : Mem) (h : P_Rows_isSum post x0 x1 x2 x3 M) : AtX X g (layC ++ ext) A 4 0 0 Z 0 [(0, .int x0), (1, .int x1), (2, .int x2), (3, .int x3)] [] M := by
  refine a_iload_n C (tk T_cX7_isSum 0 rfl) rfl ?_
  refine a_iload_n C (tk T_cX7_isSum 1 rfl) rfl ?_
  refine a_isub C (tk T_cX7_isSum 2 rfl) ?_
  refine a_iload_n C (tk T_cX7_isSum 3 rfl) rfl ?_
  refine a_isub C (tk T_cX7_isSum 4 rfl) ?_
  refine a_statI C [.int ((x0 - x1) - x2)] me_yJ9_abs_0f7a4 lk_RX7_88 (ct_Math_abs h) (by decide) rfl rfl (Nat.le_of_ble_eq_true rfl) (tk T_cX7_isSum 5 rfl) hr (fun r1 M1 h => ?_)
  refine a_iload_n C (tk T_cX7_isSum 6 rfl) rfl ?_
  refine a_icmp_gt C 16 (tk T_cX7_isSum 7 rfl) rfl (fun c => ?_) (fun c => ?_)
  · have h := h.1 c
    refine a_iconst C (0 : Int32) (tk T_cX7_isSum 10 rfl) kI_0 ?_
    exact a_to (k_Rows_isSum_17 C hr hR (0 : Int32) M1 h) rfl
  · have h := h.2 c
    refine a_iconst C (1 : Int32) (tk T_cX7_isSum 8 rfl) kI_1 ?_
    refine a_goto C 17 (tk T_cX7_isSum 9 rfl) rfl ?_
    exact a_to (k_Rows_isSum_17 C hr hR (1 : Int32) M1 h) rfl
theorem ct_Rows_isSum {l : Launch} {g : GT} {ext : List CD} {post : Int32 → Mem → Prop} {x0 x1 x2 x3 : Int32} {M : Mem} (h : P_Rows_isSum post x0 x1 x2 x3 M) : CI l g (layC ++ ext) yX7_isSum cX7_isSum 4 (some .boolean) 1 [.int x0, .int x1, .int x2, .int x3] M post :=
  cz_of (plainFor_of_name (by decide +kernel)) (Nat.le_of_ble_eq_true rfl) (fun X A Z hl C hr hR => by subst hl; exact k_Rows_isSum C hr hR x0 x1 x2 x3 M h)
def T_cX7_countSumsL : List (Nat × Instr × Nat) := [(0, .iconst 0, 1), (1, .istore_n 2, 1), (2, .iconst 0, 1), (3, .istore_n 3, 1), (4, .iload_n 3, 1), (5, .aload_n 0, 1), (6, .getfield 36, 3), (9, .if_icmp .ge 124, 3), (12, .iconst 0, 1), (13, .istore 4, 2), (15, .iload 4, 2), (17, .iload_n 3, 1), (18, .if_icmp .ge 109, 3), (21, .iconst 0, 1), (22, .istore 5, 2), (24, .iload 5, 2), (26, .iload 4, 2), (28, .if_icmp .ge 93, 3), (31, .aload_n 0, 1), (32, .getfield 11, 3), (35, .iload_n 3, 1), (36, .iaload, 1), (37, .aload_n 0, 1), (38, .getfield 11, 3), (41, .iload 4, 2), (43, .iaload, 1), (44, .aload_n 0, 1), (45, .getfield 11, 3), (48, .iload 5, 2), (50, .iaload, 1), (51, .iload_n 1, 1), (52, .invokestatic 95, 3), (55, .ifCond .ne 57, 3), (58, .aload_n 0, 1), (59, .getfield 11, 3), (62, .iload 4, 2), (64, .iaload, 1), (65, .aload_n 0, 1), (66, .getfield 11, 3), (69, .iload_n 3, 1), (70, .iaload, 1), (71, .aload_n 0, 1), (72, .getfield 11, 3), (75, .iload 5, 2), (77, .iaload, 1), (78, .iload_n 1, 1), (79, .invokestatic 95, 3), (82, .ifCond .ne 30, 3), (85, .aload_n 0, 1), (86, .getfield 11, 3), (89, .iload 5, 2), (91, .iaload, 1), (92, .aload_n 0, 1), (93, .getfield 11, 3), (96, .iload_n 3, 1), (97, .iaload, 1), (98, .aload_n 0, 1), (99, .getfield 11, 3), (102, .iload 4, 2), (104, .iaload, 1), (105, .iload_n 1, 1), (106, .invokestatic 95, 3), (109, .ifCond .eq 6, 3), (112, .iinc 2 1, 3), (115, .iinc 5 1, 3), (118, .goto (-94), 3), (121, .iinc 4 1, 3), (124, .goto (-109), 3), (127, .iinc 3 1, 3), (130, .goto (-126), 3), (133, .iload_n 2, 1), (134, .ireturn, 1)]
theorem T_cX7_countSums : tabOK cX7_countSums T_cX7_countSumsL = true := by decide +kernel
def P_Rows_countSums_115 (post : Int32 → Mem → Prop) (R4 : Int32 → Int32 → Int32 → Mem → Prop) (R15 : Int32 → Int32 → Int32 → Int32 → Mem → Prop) (R24 : Int32 → Int32 → Int32 → Int32 → Int32 → Mem → Prop) (x1 x2 x3 x4 x5 : Int32) (M : Mem) : Prop :=
  R24 x1 x2 x3 x4 (x5 + (1 : Int32)) M
theorem k_Rows_countSums_115 {X : FX} {g : GT} {ext : List CD} {A : Nat → Prop} {Z : State → Prop} {post : Int32 → Mem → Prop} {R4 : Int32 → Int32 → Int32 → Mem → Prop} {R15 : Int32 → Int32 → Int32 → Int32 → Mem → Prop} {R24 : Int32 → Int32 → Int32 → Int32 → Int32 → Mem → Prop} (C : Cx X g (layC ++ ext) A cX7_countSums 6 RX7 2) (hr : 0 ≤ X.2.2.2.1.cells ∧ 0 ≤ X.2.2.2.1.slots) (hR : RetI X g (layC ++ ext) A cX7_countSums 6 0 0 Z post) (k4 : ∀ (y1 y2 y3 : Int32) (M : Mem), R4 y1 y2 y3 M → AtX X g (layC ++ ext) A 6 0 0 Z 4 [(0, .ref (ad g 80)), (1, .int y1), (2, .int y2), (3, .int y3)] [] M) (k15 : ∀ (y1 y2 y3 y4 : Int32) (M : Mem), R15 y1 y2 y3 y4 M → AtX X g (layC ++ ext) A 6 0 0 Z 15 [(0, .ref (ad g 80)), (1, .int y1), (2, .int y2), (3, .int y3), (4, .int y4)] [] M) (k24 : ∀ (y1 y2 y3 y4 y5 : Int32) (M : Mem), R24 y1 y2 y3 y4 y5 M → AtX X g (layC ++ ext) A 6 0 0 Z 24 [(0, .ref (ad g 80)), (1, .int y1), (2, .int y2), (3, .int y3), (4, .int y4), (5, .int y5)] [] M) (x1 x2 x3 x4 x5 : Int32) (M : Mem) (h : P_Rows_countSums_115 post R4 R15 R24 x1 x2 x3 x4 x5 M) : AtX X g (layC ++ ext) A 6 0 0 Z 115 [(0, .ref (ad g 80)), (1, .int x1), (2, .int x2), (3, .int x3), (4, .int x4), (5, .int x5)] [] M := by
  refine a_iinc C (1 : Int32) (tk T_cX7_countSums 64 rfl) rfl kI_1 (by decide) rfl ?_
  refine a_goto C 24 (tk T_cX7_countSums 65 rfl) rfl ?_
  exact a_to (k24 x1 x2 x3 x4 (x5 + (1 : Int32)) M h) rfl
def P_Rows_countSums_112 (post : Int32 → Mem → Prop) (R4 : Int32 → Int32 → Int32 → Mem → Prop) (R15 : Int32 → Int32 → Int32 → Int32 → Mem → Prop) (R24 : Int32 → Int32 → Int32 → Int32 → Int32 → Mem → Prop) (x1 x2 x3 x4 x5 : Int32) (M : Mem) : Prop :=
  P_Rows_countSums_115 post R4 R15 R24 x1 (x2 + (1 : Int32)) x3 x4 x5 M
theorem k_Rows_countSums_112 {X : FX} {g : GT} {ext : List CD} {A : Nat → Prop} {Z : State → Prop} {post : Int32 → Mem → Prop} {R4 : Int32 → Int32 → Int32 → Mem → Prop} {R15 : Int32 → Int32 → Int32 → Int32 → Mem → Prop} {R24 : Int32 → Int32 → Int32 → Int32 → Int32 → Mem → Prop} (C : Cx X g (layC ++ ext) A cX7_countSums 6 RX7 2) (hr : 0 ≤ X.2.2.2.1.cells ∧ 0 ≤ X.2.2.2.1.slots) (hR : RetI X g (layC ++ ext) A cX7_countSums 6 0 0 Z post) (k4 : ∀ (y1 y2 y3 : Int32) (M : Mem), R4 y1 y2 y3 M → AtX X g (layC ++ ext) A 6 0 0 Z 4 [(0, .ref (ad g 80)), (1, .int y1), (2, .int y2), (3, .int y3)] [] M) (k15 : ∀ (y1 y2 y3 y4 : Int32) (M : Mem), R15 y1 y2 y3 y4 M → AtX X g (layC ++ ext) A 6 0 0 Z 15 [(0, .ref (ad g 80)), (1, .int y1), (2, .int y2), (3, .int y3), (4, .int y4)] [] M) (k24 : ∀ (y1 y2 y3 y4 y5 : Int32) (M : Mem), R24 y1 y2 y3 y4 y5 M → AtX X g (layC ++ ext) A 6 0 0 Z 24 [(0, .ref (ad g 80)), (1, .int y1), (2, .int y2), (3, .int y3), (4, .int y4), (5, .int y5)] [] M) (x1 x2 x3 x4 x5 : Int32) (M : Mem) (h : P_Rows_countSums_112 post R4 R15 R24 x1 x2 x3 x4 x5 M) : AtX X g (layC ++ ext) A 6 0 0 Z 112 [(0, .ref (ad g 80)), (1, .int x1), (2, .int x2), (3, .int x3), (4, .int x4), (5, .int x5)] [] M := by
  refine a_iinc C (1 : Int32) (tk T_cX7_countSums 63 rfl) rfl kI_1 (by decide) rfl ?_
  exact a_to (k_Rows_countSums_115 C hr hR k4 k15 k24 x1 (x2 + (1 : Int32)) x3 x4 x5 M h) rfl
def P_Rows_countSums_24 (post : Int32 → Mem → Prop) (R4 : Int32 → Int32 → Int32 → Mem → Prop) (R15 : Int32 → Int32 → Int32 → Int32 → Mem → Prop) : Nat → Int32 → Int32 → Int32 → Int32 → Int32 → Mem → Prop
  | 0, _, _, _, _, _, _ => False
  | n + 1, x1, x2, x3, x4, x5, M =>
    (x4 ≤ x5 → (R15 x1 x2 x3 (x4 + (1 : Int32)) M)) ∧
  (¬ x4 ≤ x5 → (vp_in x3 10 ∧ vp_in x4 10 ∧ vp_in x5 10 ∧ P_Rows_isSum (fun r1 M1 =>
  (¬ r1 = 0 → (P_Rows_countSums_112 post R4 R15 (P_Rows_countSums_24 post R4 R15 n) x1 x2 x3 x4 x5 M1)) ∧
  (r1 = 0 → (vp_in x4 10 ∧ vp_in x3 10 ∧ vp_in x5 10 ∧ P_Rows_isSum (fun r2 M2 =>
  (¬ r2 = 0 → (P_Rows_countSums_112 post R4 R15 (P_Rows_countSums_24 post R4 R15 n) x1 x2 x3 x4 x5 M2)) ∧
  (r2 = 0 → (vp_in x5 10 ∧ vp_in x3 10 ∧ vp_in x4 10 ∧ P_Rows_isSum (fun r3 M3 =>
  (r3 = 0 → (P_Rows_countSums_115 post R4 R15 (P_Rows_countSums_24 post R4 R15 n) x1 x2 x3 x4 x5 M3)) ∧
  (¬ r3 = 0 → (P_Rows_countSums_112 post R4 R15 (P_Rows_countSums_24 post R4 R15 n) x1 x2 x3 x4 x5 M3))) (M2 81 x5.toNatClampNeg) (M2 81 x3.toNatClampNeg) (M2 81 x4.toNatClampNeg) x1 M2))) (M1 81 x4.toNatClampNeg) (M1 81 x3.toNatClampNeg) (M1 81 x5.toNatClampNeg) x1 M1))) (M 81 x3.toNatClampNeg) (M 81 x4.toNatClampNeg) (M 81 x5.toNatClampNeg) x1 M))
theorem k_Rows_countSums_24 {X : FX} {g : GT} {ext : List CD} {A : Nat → Prop} {Z : State → Prop} {post : Int32 → Mem → Prop} {R4 : Int32 → Int32 → Int32 → Mem → Prop} {R15 : Int32 → Int32 → Int32 → Int32 → Mem → Prop} (C : Cx X g (layC ++ ext) A cX7_countSums 6 RX7 2) (hr : 0 ≤ X.2.2.2.1.cells ∧ 0 ≤ X.2.2.2.1.slots) (hR : RetI X g (layC ++ ext) A cX7_countSums 6 0 0 Z post) (k4 : ∀ (y1 y2 y3 : Int32) (M : Mem), R4 y1 y2 y3 M → AtX X g (layC ++ ext) A 6 0 0 Z 4 [(0, .ref (ad g 80)), (1, .int y1), (2, .int y2), (3, .int y3)] [] M) (k15 : ∀ (y1 y2 y3 y4 : Int32) (M : Mem), R15 y1 y2 y3 y4 M → AtX X g (layC ++ ext) A 6 0 0 Z 15 [(0, .ref (ad g 80)), (1, .int y1), (2, .int y2), (3, .int y3), (4, .int y4)] [] M) : ∀ (n : Nat) (x1 x2 x3 x4 x5 : Int32) (M : Mem), P_Rows_countSums_24 post R4 R15 n x1 x2 x3 x4 x5 M → AtX X g (layC ++ ext) A 6 0 0 Z 24 [(0, .ref (ad g 80)), (1, .int x1), (2, .int x2), (3, .int x3), (4, .int x4), (5, .int x5)] [] M := by
  intro n
  induction n with
  | zero =>
    intro x1 x2 x3 x4 x5 M h
    exact h.elim
  | succ n ih =>
    intro x1 x2 x3 x4 x5 M h
    refine a_iload C (tk T_cX7_countSums 15 rfl) rfl ?_
    refine a_iload C (tk T_cX7_countSums 16 rfl) rfl ?_
    refine a_icmp_ge C 121 (tk T_cX7_countSums 17 rfl) rfl (fun c => ?_) (fun c => ?_)
    · have h := h.1 c
      refine a_iinc C (1 : Int32) (tk T_cX7_countSums 66 rfl) rfl kI_1 (by decide) rfl ?_
      refine a_goto C 15 (tk T_cX7_countSums 67 rfl) rfl ?_
      exact a_to (k15 x1 x2 x3 (x4 + (1 : Int32)) M h) rfl
    · have h := h.2 c
      refine a_aload_n C (tk T_cX7_countSums 18 rfl) rfl ?_
      refine a_getR C f_RX7_11 (tk T_cX7_countSums 19 rfl) lc80 rfl ?_
      refine a_iload_n C (tk T_cX7_countSums 20 rfl) rfl ?_
      obtain ⟨hb, h⟩ := h
      refine a_iald C (tk T_cX7_countSums 21 rfl) lc81 hb ?_
      refine a_aload_n C (tk T_cX7_countSums 22 rfl) rfl ?_
      refine a_getR C f_RX7_11 (tk T_cX7_countSums 23 rfl) lc80 rfl ?_
      refine a_iload C (tk T_cX7_countSums 24 rfl) rfl ?_
      obtain ⟨hb, h⟩ := h
      refine a_iald C (tk T_cX7_countSums 25 rfl) lc81 hb ?_
      refine a_aload_n C (tk T_cX7_countSums 26 rfl) rfl ?_
      refine a_getR C f_RX7_11 (tk T_cX7_countSums 27 rfl) lc80 rfl ?_
      refine a_iload C (tk T_cX7_countSums 28 rfl) rfl ?_
      obtain ⟨hb, h⟩ := h
      refine a_iald C (tk T_cX7_countSums 29 rfl) lc81 hb ?_
      refine a_iload_n C (tk T_cX7_countSums 30 rfl) rfl ?_
      refine a_statI C [.int (M 81 x3.toNatClampNeg), .int (M 81 x4.toNatClampNeg), .int (M 81 x5.toNatClampNeg), .int x1] me_yX7_isSum lk_RX7_95 (ct_Rows_isSum h) (by decide) rfl rfl (Nat.le_of_ble_eq_true rfl) (tk T_cX7_countSums 31 rfl) hr (fun r1 M1 h => ?_)
      refine a_if_ne C 112 (tk T_cX7_countSums 32 rfl) rfl (fun c => ?_) (fun c => ?_)
      · have h := h.1 c
        exact a_to (k_Rows_countSums_112 C hr hR k4 k15 ih x1 x2 x3 x4 x5 M1 h) rfl
      · have h := h.2 c
        refine a_aload_n C (tk T_cX7_countSums 33 rfl) rfl ?_
        refine a_getR C f_RX7_11 (tk T_cX7_countSums 34 rfl) lc80 rfl ?_
        refine a_iload C (tk T_cX7_countSums 35 rfl) rfl ?_
        obtain ⟨hb, h⟩ := h
        refine a_iald C (tk T_cX7_countSums 36 rfl) lc81 hb ?_
        refine a_aload_n C (tk T_cX7_countSums 37 rfl) rfl ?_
        refine a_getR C f_RX7_11 (tk T_cX7_countSums 38 rfl) lc80 rfl ?_
        refine a_iload_n C (tk T_cX7_countSums 39 rfl) rfl ?_
        obtain ⟨hb, h⟩ := h
        refine a_iald C (tk T_cX7_countSums 40 rfl) lc81 hb ?_
        refine a_aload_n C (tk T_cX7_countSums 41 rfl) rfl ?_
        refine a_getR C f_RX7_11 (tk T_cX7_countSums 42 rfl) lc80 rfl ?_
        refine a_iload C (tk T_cX7_countSums 43 rfl) rfl ?_
        obtain ⟨hb, h⟩ := h
        refine a_iald C (tk T_cX7_countSums 44 rfl) lc81 hb ?_
        refine a_iload_n C (tk T_cX7_countSums 45 rfl) rfl ?_
        refine a_statI C [.int (M1 81 x4.toNatClampNeg), .int (M1 81 x3.toNatClampNeg), .int (M1 81 x5.toNatClampNeg), .int x1] me_yX7_isSum lk_RX7_95 (ct_Rows_isSum h) (by decide) rfl rfl (Nat.le_of_ble_eq_true rfl) (tk T_cX7_countSums 46 rfl) hr (fun r2 M2 h => ?_)
        refine a_if_ne C 112 (tk T_cX7_countSums 47 rfl) rfl (fun c => ?_) (fun c => ?_)
        · have h := h.1 c
          exact a_to (k_Rows_countSums_112 C hr hR k4 k15 ih x1 x2 x3 x4 x5 M2 h) rfl
        · have h := h.2 c
          refine a_aload_n C (tk T_cX7_countSums 48 rfl) rfl ?_
          refine a_getR C f_RX7_11 (tk T_cX7_countSums 49 rfl) lc80 rfl ?_
          refine a_iload C (tk T_cX7_countSums 50 rfl) rfl ?_
          obtain ⟨hb, h⟩ := h
          refine a_iald C (tk T_cX7_countSums 51 rfl) lc81 hb ?_
          refine a_aload_n C (tk T_cX7_countSums 52 rfl) rfl ?_
          refine a_getR C f_RX7_11 (tk T_cX7_countSums 53 rfl) lc80 rfl ?_
          refine a_iload_n C (tk T_cX7_countSums 54 rfl) rfl ?_
          obtain ⟨hb, h⟩ := h
          refine a_iald C (tk T_cX7_countSums 55 rfl) lc81 hb ?_
          refine a_aload_n C (tk T_cX7_countSums 56 rfl) rfl ?_
          refine a_getR C f_RX7_11 (tk T_cX7_countSums 57 rfl) lc80 rfl ?_
          refine a_iload C (tk T_cX7_countSums 58 rfl) rfl ?_
          obtain ⟨hb, h⟩ := h
          refine a_iald C (tk T_cX7_countSums 59 rfl) lc81 hb ?_
          refine a_iload_n C (tk T_cX7_countSums 60 rfl) rfl ?_
          refine a_statI C [.int (M2 81 x5.toNatClampNeg), .int (M2 81 x3.toNatClampNeg), .int (M2 81 x4.toNatClampNeg), .int x1] me_yX7_isSum lk_RX7_95 (ct_Rows_isSum h) (by decide) rfl rfl (Nat.le_of_ble_eq_true rfl) (tk T_cX7_countSums 61 rfl) hr (fun r3 M3 h => ?_)
          refine a_if_eq C 115 (tk T_cX7_countSums 62 rfl) rfl (fun c => ?_) (fun c => ?_)
          · have h := h.1 c
            exact a_to (k_Rows_countSums_115 C hr hR k4 k15 ih x1 x2 x3 x4 x5 M3 h) rfl
          · have h := h.2 c
            exact a_to (k_Rows_countSums_112 C hr hR k4 k15 ih x1 x2 x3 x4 x5 M3 h) rfl
def P_Rows_countSums_15 (post : Int32 → Mem → Prop) (R4 : Int32 → Int32 → Int32 → Mem → Prop) : Nat → Int32 → Int32 → Int32 → Int32 → Mem → Prop
  | 0, _, _, _, _, _ => False
  | n + 1, x1, x2, x3, x4, M =>
    (x3 ≤ x4 → (R4 x1 x2 (x3 + (1 : Int32)) M)) ∧
  (¬ x3 ≤ x4 → (∃ j24, P_Rows_countSums_24 post R4 (P_Rows_countSums_15 post R4 n) j24 x1 x2 x3 x4 (0 : Int32) M))
theorem k_Rows_countSums_15 {X : FX} {g : GT} {ext : List CD} {A : Nat → Prop} {Z : State → Prop} {post : Int32 → Mem → Prop} {R4 : Int32 → Int32 → Int32 → Mem → Prop} (C : Cx X g (layC ++ ext) A cX7_countSums 6 RX7 2) (hr : 0 ≤ X.2.2.2.1.cells ∧ 0 ≤ X.2.2.2.1.slots) (hR : RetI X g (layC ++ ext) A cX7_countSums 6 0 0 Z post) (k4 : ∀ (y1 y2 y3 : Int32) (M : Mem), R4 y1 y2 y3 M → AtX X g (layC ++ ext) A 6 0 0 Z 4 [(0, .ref (ad g 80)), (1, .int y1), (2, .int y2), (3, .int y3)] [] M) : ∀ (n : Nat) (x1 x2 x3 x4 : Int32) (M : Mem), P_Rows_countSums_15 post R4 n x1 x2 x3 x4 M → AtX X g (layC ++ ext) A 6 0 0 Z 15 [(0, .ref (ad g 80)), (1, .int x1), (2, .int x2), (3, .int x3), (4, .int x4)] [] M := by
  intro n
  induction n with
  | zero =>
    intro x1 x2 x3 x4 M h
    exact h.elim
  | succ n ih =>
    intro x1 x2 x3 x4 M h
    refine a_iload C (tk T_cX7_countSums 10 rfl) rfl ?_
    refine a_iload_n C (tk T_cX7_countSums 11 rfl) rfl ?_
    refine a_icmp_ge C 127 (tk T_cX7_countSums 12 rfl) rfl (fun c => ?_) (fun c => ?_)
    · have h := h.1 c
      refine a_iinc C (1 : Int32) (tk T_cX7_countSums 68 rfl) rfl kI_1 (by decide) rfl ?_
      refine a_goto C 4 (tk T_cX7_countSums 69 rfl) rfl ?_
      exact a_to (k4 x1 x2 (x3 + (1 : Int32)) M h) rfl
    · have h := h.2 c
      refine a_iconst C (0 : Int32) (tk T_cX7_countSums 13 rfl) kI_0 ?_
      refine a_istore C (tk T_cX7_countSums 14 rfl) (by decide) rfl ?_
      obtain ⟨n1, h⟩ := h
      exact a_to (k_Rows_countSums_24 C hr hR k4 ih n1 x1 x2 x3 x4 (0 : Int32) M h) rfl
def P_Rows_countSums_4 (post : Int32 → Mem → Prop) : Nat → Int32 → Int32 → Int32 → Mem → Prop
  | 0, _, _, _, _ => False
  | n + 1, x1, x2, x3, M =>
    ((M 80 5) ≤ x3 → (post x2 M)) ∧
  (¬ (M 80 5) ≤ x3 → (∃ j15, P_Rows_countSums_15 post (P_Rows_countSums_4 post n) j15 x1 x2 x3 (0 : Int32) M))
theorem k_Rows_countSums_4 {X : FX} {g : GT} {ext : List CD} {A : Nat → Prop} {Z : State → Prop} {post : Int32 → Mem → Prop} (C : Cx X g (layC ++ ext) A cX7_countSums 6 RX7 2) (hr : 0 ≤ X.2.2.2.1.cells ∧ 0 ≤ X.2.2.2.1.slots) (hR : RetI X g (layC ++ ext) A cX7_countSums 6 0 0 Z post) : ∀ (n : Nat) (x1 x2 x3 : Int32) (M : Mem), P_Rows_countSums_4 post n x1 x2 x3 M → AtX X g (layC ++ ext) A 6 0 0 Z 4 [(0, .ref (ad g 80)), (1, .int x1), (2, .int x2), (3, .int x3)] [] M := by
  intro n
  induction n with
  | zero =>
    intro x1 x2 x3 M h
    exact h.elim
  | succ n ih =>
    intro x1 x2 x3 M h
    refine a_iload_n C (tk T_cX7_countSums 4 rfl) rfl ?_
    refine a_aload_n C (tk T_cX7_countSums 5 rfl) rfl ?_
    refine a_getI C f_RX7_36 (tk T_cX7_countSums 6 rfl) lc80 rfl ?_
    refine a_icmp_ge C 133 (tk T_cX7_countSums 7 rfl) rfl (fun c => ?_) (fun c => ?_)
    · have h := h.1 c
      refine a_iload_n C (tk T_cX7_countSums 70 rfl) rfl ?_
      exact hR _ _ _ _ (tk T_cX7_countSums 71 rfl) h
    · have h := h.2 c
      refine a_iconst C (0 : Int32) (tk T_cX7_countSums 8 rfl) kI_0 ?_
      refine a_istore C (tk T_cX7_countSums 9 rfl) (by decide) rfl ?_
      obtain ⟨n1, h⟩ := h
      exact a_to (k_Rows_countSums_15 C hr hR ih n1 x1 x2 x3 (0 : Int32) M h) rfl
def P_Rows_countSums (post : Int32 → Mem → Prop) (x1 : Int32) (M : Mem) : Prop :=
  ∃ j4, P_Rows_countSums_4 post j4 x1 (0 : Int32) (0 : Int32) M
theorem k_Rows_countSums {X : FX} {g : GT} {ext : List CD} {A : Nat → Prop} {Z : State → Prop} {post : Int32 → Mem → Prop} (C : Cx X g (layC ++ ext) A cX7_countSums 6 RX7 2) (hr : 0 ≤ X.2.2.2.1.cells ∧ 0 ≤ X.2.2.2.1.slots) (hR : RetI X g (layC ++ ext) A cX7_countSums 6 0 0 Z post) (x1 : Int32) (M : Mem) (h : P_Rows_countSums post x1 M) : AtX X g (layC ++ ext) A 6 0 0 Z 0 [(0, .ref (ad g 80)), (1, .int x1)] [] M := by
  refine a_iconst C (0 : Int32) (tk T_cX7_countSums 0 rfl) kI_0 ?_
  refine a_istore_n C (tk T_cX7_countSums 1 rfl) (by decide) rfl ?_
  refine a_iconst C (0 : Int32) (tk T_cX7_countSums 2 rfl) kI_0 ?_
  refine a_istore_n C (tk T_cX7_countSums 3 rfl) (by decide) rfl ?_
  obtain ⟨n1, h⟩ := h
  exact a_to (k_Rows_countSums_4 C hr hR n1 x1 (0 : Int32) (0 : Int32) M h) rfl
theorem ct_Rows_countSums {l : Launch} {g : GT} {ext : List CD} {post : Int32 → Mem → Prop} {x1 : Int32} {M : Mem} (h : P_Rows_countSums post x1 M) : CI l g (layC ++ ext) yX7_countSums cX7_countSums 6 (some .int) 2 [.ref (ad g 80), .int x1] M post :=
  ci_of (plainFor_of_name (by decide +kernel)) (Nat.le_of_ble_eq_true rfl) (fun X A Z hl C hr hR => by subst hl; exact k_Rows_countSums C hr hR x1 M h)
def T_cX11_sumsL : List (Nat × Instr × Nat) := [(0, .aload_n 0, 1), (1, .iload_n 1, 1), (2, .invokevirtual 232, 3), (5, .iload_n 3, 1), (6, .iconst 0, 1), (7, .sipush 999, 3), (10, .invokestatic 68, 3), (13, .invokestatic 72, 3), (16, .aload_n 0, 1), (17, .getfield 33, 3), (20, .iload_n 1, 1), (21, .invokevirtual 264, 3), (24, .aload_n 0, 1), (25, .getfield 49, 3), (28, .iload_n 2, 1), (29, .invokevirtual 314, 3), (32, .aload_n 0, 1), (33, .getfield 49, 3), (36, .iload_n 3, 1), (37, .invokevirtual 372, 3), (40, .ireturn, 1)]
theorem T_cX11_sums : tabOK cX11_sums T_cX11_sumsL = true := by decide +kernel
def P_R_sums (post : Int32 → Mem → Prop) (ex : String → Mem → Prop) (x1 x2 x3 : Int32) (M : Mem) : Prop :=
  P_R_wantPlate (fun M1 =>
  P_R_within (fun r2 M2 =>
  P_R_wantNumber (fun M3 =>
  P_Judge_open (fun M4 =>
  P_Rows_gather (fun M5 =>
  P_Rows_countSums (fun r6 M6 =>
  post r6 M6) x3 M5) x2 M4) x1 M3) ex r2 M2) x3 (0 : Int32) (999 : Int32) M1) ex x1 M
theorem k_R_sums {X : FX} {g : GT} {ext : List CD} {A : Nat → Prop} {Z : State → Prop} {post : Int32 → Mem → Prop} {ex : String → Mem → Prop} {sk : Nat → Nat} (C : CxX X g (layC ++ ext) A cX11_sums 4 RX11 8 2 sk) (hT : ThX X g (layC ++ ext) A 2 Z ex) (hR : RetI X g (layC ++ ext) A cX11_sums 4 2 (6 * 2) Z post) (x1 x2 x3 : Int32) (M : Mem) (h : P_R_sums post ex x1 x2 x3 M) : AtX X g (layC ++ ext) A 4 0 0 Z 0 [(0, .ref (ad g 0)), (1, .int x1), (2, .int x2), (3, .int x3)] [] M := by
  refine a_aload_n C.1 (tk T_cX11_sums 0 rfl) rfl ?_
  refine a_iload_n C.1 (tk T_cX11_sums 1 rfl) rfl ?_
  refine x_callV C hT [.int x1] me_yX11_wantPlate lk_RX11_232 (ct_R_wantPlate h) (by decide) lc0 rfl rfl rfl (Nat.le_of_ble_eq_true rfl) (tk T_cX11_sums 2 rfl) (by decide) (fun M1 h => ?_)
  refine a_iload_n C.1 (tk T_cX11_sums 3 rfl) rfl ?_
  refine a_iconst C.1 (0 : Int32) (tk T_cX11_sums 4 rfl) kI_0 ?_
  refine a_sipush C.1 (999 : Int32) (tk T_cX11_sums 5 rfl) kS_999 ?_
  refine a_statI C.1 [.int x3, .int (0 : Int32), .int (999 : Int32)] me_yX11_within lk_RX11_68 (ct_R_within h) (by decide) rfl rfl (Nat.le_of_ble_eq_true rfl) (tk T_cX11_sums 6 rfl) ⟨Nat.le_trans (by decide) C.2.2.1, Nat.le_trans (by decide) C.2.2.2⟩ (fun r2 M2 h => ?_)
  refine x_statV C hT [.int r2] me_yX11_wantNumber lk_RX11_72 (ct_R_wantNumber h) (by decide) rfl rfl (Nat.le_of_ble_eq_true rfl) (tk T_cX11_sums 7 rfl) (by decide) (fun M3 h => ?_)
  refine a_aload_n C.1 (tk T_cX11_sums 8 rfl) rfl ?_
  refine a_getR C.1 f_RX11_33 (tk T_cX11_sums 9 rfl) lc0 rfl ?_
  refine a_iload_n C.1 (tk T_cX11_sums 10 rfl) rfl ?_
  refine a_callV C.1 [.int x1] me_yX3_open lk_RX11_264 (ct_Judge_open h) (by decide) lc69 rfl rfl rfl (Nat.le_of_ble_eq_true rfl) (tk T_cX11_sums 11 rfl) ⟨Nat.le_trans (by decide) C.2.2.1, Nat.le_trans (by decide) C.2.2.2⟩ (fun M4 h => ?_)
  refine a_aload_n C.1 (tk T_cX11_sums 12 rfl) rfl ?_
  refine a_getR C.1 f_RX11_49 (tk T_cX11_sums 13 rfl) lc0 rfl ?_
  refine a_iload_n C.1 (tk T_cX11_sums 14 rfl) rfl ?_
  refine a_callV C.1 [.int x2] me_yX7_gather lk_RX11_314 (ct_Rows_gather h) (by decide) lc80 rfl rfl rfl (Nat.le_of_ble_eq_true rfl) (tk T_cX11_sums 15 rfl) ⟨Nat.le_trans (by decide) C.2.2.1, Nat.le_trans (by decide) C.2.2.2⟩ (fun M5 h => ?_)
  refine a_aload_n C.1 (tk T_cX11_sums 16 rfl) rfl ?_
  refine a_getR C.1 f_RX11_49 (tk T_cX11_sums 17 rfl) lc0 rfl ?_
  refine a_iload_n C.1 (tk T_cX11_sums 18 rfl) rfl ?_
  refine a_callI C.1 [.int x3] me_yX7_countSums lk_RX11_372 (ct_Rows_countSums h) (by decide) lc80 rfl rfl rfl (Nat.le_of_ble_eq_true rfl) (tk T_cX11_sums 19 rfl) ⟨Nat.le_trans (by decide) C.2.2.1, Nat.le_trans (by decide) C.2.2.2⟩ (fun r6 M6 h => ?_)
  exact x_widen (by decide) (by decide) (hR _ _ _ _ (tk T_cX11_sums 20 rfl) h)
theorem ct_R_sums {l : Launch} {g : GT} {ext : List CD} {sk : Nat → Nat} {post : Int32 → Mem → Prop} {ex : String → Mem → Prop} {x1 x2 x3 : Int32} {M : Mem} (h : P_R_sums post ex x1 x2 x3 M) : XI l g (layC ++ ext) sk yX11_sums cX11_sums 4 (some .int) 8 2 [.ref (ad g 0), .int x1, .int x2, .int x3] M post ex :=
  xi_of (by decide +kernel) (Nat.le_of_ble_eq_true rfl) (fun X A Z hl C hR hT _ => by subst hl; exact k_R_sums C hT hR x1 x2 x3 M h)
def T_cX11_grainL : List (Nat × Instr × Nat) := [(0, .aload_n 0, 1), (1, .iload_n 1, 1), (2, .invokevirtual 232, 3), (5, .aload_n 0, 1), (6, .getfield 33, 3), (9, .iload_n 1, 1), (10, .invokevirtual 264, 3), (13, .aload_n 0, 1), (14, .getfield 33, 3), (17, .iload_n 2, 1), (18, .iconst 0, 1), (19, .invokevirtual 286, 3), (22, .istore_n 3, 1), (23, .iconst 0, 1), (24, .istore 4, 2), (26, .iconst 0, 1), (27, .istore 5, 2), (29, .iload 5, 2), (31, .aload_n 0, 1), (32, .getfield 10, 3), (35, .getfield 208, 3), (38, .getfield 235, 3), (41, .if_icmp .ge 44, 3), (44, .iload_n 3, 1), (45, .iload 5, 2), (47, .invokestatic 305, 3), (50, .ifCond .eq 29, 3), (53, .aload_n 0, 1), (54, .getfield 10, 3), (57, .getfield 208, 3), (60, .getfield 243, 3), (63, .iload 5, 2), (65, .iaload, 1), (66, .iconst 1, 1), (67, .if_icmp .ne 12, 3), (70, .iload 4, 2), (72, .iconst 1, 1), (73, .iload 5, 2), (75, .ishl, 1), (76, .ior, 1), (77, .istore 4, 2), (79, .iinc 5 1, 3), (82, .goto (-53), 3), (85, .iload 4, 2), (87, .ireturn, 1)]
theorem T_cX11_grain : tabOK cX11_grain T_cX11_grainL = true := by decide +kernel
def P_R_grain_79 (post : Int32 → Mem → Prop) (ex : String → Mem → Prop) (R29 : Int32 → Int32 → Int32 → Mem → Prop) (x3 x4 x5 : Int32) (M : Mem) : Prop :=
  R29 x3 x4 (x5 + (1 : Int32)) M
theorem k_R_grain_79 {X : FX} {g : GT} {ext : List CD} {A : Nat → Prop} {Z : State → Prop} {post : Int32 → Mem → Prop} {R29 : Int32 → Int32 → Int32 → Mem → Prop} {ex : String → Mem → Prop} {sk : Nat → Nat} (C : CxX X g (layC ++ ext) A cX11_grain 6 RX11 8 1 sk) (hT : ThX X g (layC ++ ext) A 1 Z ex) (hR : RetI X g (layC ++ ext) A cX11_grain 6 1 (6 * 1) Z post) (k29 : ∀ (y3 y4 y5 : Int32) (M : Mem), R29 y3 y4 y5 M → AtX X g (layC ++ ext) A 6 1 (6 * 1) Z 29 [(0, .ref (ad g 0)), (3, .int y3), (4, .int y4), (5, .int y5)] [] M) (x3 x4 x5 : Int32) (M : Mem) (h : P_R_grain_79 post ex R29 x3 x4 x5 M) : AtX X g (layC ++ ext) A 6 1 (6 * 1) Z 79 [(0, .ref (ad g 0)), (3, .int x3), (4, .int x4), (5, .int x5)] [] M := by
  refine a_iinc C.1 (1 : Int32) (tk T_cX11_grain 41 rfl) rfl kI_1 (by decide) rfl ?_
  refine a_goto C.1 29 (tk T_cX11_grain 42 rfl) rfl ?_
  exact x_widen (by decide) (by decide) (a_to (k29 x3 x4 (x5 + (1 : Int32)) M h) rfl)
def P_R_grain_29 (post : Int32 → Mem → Prop) (ex : String → Mem → Prop) : Nat → Int32 → Int32 → Int32 → Mem → Prop
  | 0, _, _, _, _ => False
  | n + 1, x3, x4, x5, M =>
    ((M 18 11) ≤ x5 → (post x4 M)) ∧
  (¬ (M 18 11) ≤ x5 → (P_R_has (fun r1 M1 =>
  (r1 = 0 → (P_R_grain_79 post ex (P_R_grain_29 post ex n) x3 x4 x5 M1)) ∧
  (¬ r1 = 0 → (vp_in x5 24 ∧ (¬ (M1 27 x5.toNatClampNeg) = (1 : Int32) → (P_R_grain_79 post ex (P_R_grain_29 post ex n) x3 x4 x5 M1)) ∧
  ((M1 27 x5.toNatClampNeg) = (1 : Int32) → (∀ x4_2, x4_2 = (x4 ||| ((1 : Int32) <<< (x5 &&& 31))) → P_R_grain_79 post ex (P_R_grain_29 post ex n) x3 x4_2 x5 M1))))) x3 x5 M))
theorem k_R_grain_29 {X : FX} {g : GT} {ext : List CD} {A : Nat → Prop} {Z : State → Prop} {post : Int32 → Mem → Prop} {ex : String → Mem → Prop} {sk : Nat → Nat} (C : CxX X g (layC ++ ext) A cX11_grain 6 RX11 8 1 sk) (hT : ThX X g (layC ++ ext) A 1 Z ex) (hR : RetI X g (layC ++ ext) A cX11_grain 6 1 (6 * 1) Z post) : ∀ (n : Nat) (x3 x4 x5 : Int32) (M : Mem), P_R_grain_29 post ex n x3 x4 x5 M → AtX X g (layC ++ ext) A 6 1 (6 * 1) Z 29 [(0, .ref (ad g 0)), (3, .int x3), (4, .int x4), (5, .int x5)] [] M := by
  intro n
  induction n with
  | zero =>
    intro x3 x4 x5 M h
    exact h.elim
  | succ n ih =>
    intro x3 x4 x5 M h
    refine a_iload C.1 (tk T_cX11_grain 17 rfl) rfl ?_
    refine a_aload_n C.1 (tk T_cX11_grain 18 rfl) rfl ?_
    refine a_getR C.1 f_RX11_10 (tk T_cX11_grain 19 rfl) lc0 rfl ?_
    refine a_getR C.1 f_RX11_208 (tk T_cX11_grain 20 rfl) lc1 rfl ?_
    refine a_getI C.1 f_RX11_235 (tk T_cX11_grain 21 rfl) lc18 rfl ?_
    refine a_icmp_ge C.1 85 (tk T_cX11_grain 22 rfl) rfl (fun c => ?_) (fun c => ?_)
    · have h := h.1 c
      refine a_iload C.1 (tk T_cX11_grain 43 rfl) rfl ?_
      exact x_widen (by decide) (by decide) (hR _ _ _ _ (tk T_cX11_grain 44 rfl) h)
    · have h := h.2 c
      refine a_iload_n C.1 (tk T_cX11_grain 23 rfl) rfl ?_
      refine a_iload C.1 (tk T_cX11_grain 24 rfl) rfl ?_
      refine a_statI C.1 [.int x3, .int x5] me_yX11_has lk_RX11_305 (ct_R_has h) (by decide) rfl rfl (Nat.le_of_ble_eq_true rfl) (tk T_cX11_grain 25 rfl) ⟨Nat.le_trans (by decide) C.2.2.1, Nat.le_trans (by decide) C.2.2.2⟩ (fun r1 M1 h => ?_)
      refine a_if_eq C.1 79 (tk T_cX11_grain 26 rfl) rfl (fun c => ?_) (fun c => ?_)
      · have h := h.1 c
        exact x_widen (by decide) (by decide) (a_to (k_R_grain_79 C hT hR ih x3 x4 x5 M1 h) rfl)
      · have h := h.2 c
        refine a_aload_n C.1 (tk T_cX11_grain 27 rfl) rfl ?_
        refine a_getR C.1 f_RX11_10 (tk T_cX11_grain 28 rfl) lc0 rfl ?_
        refine a_getR C.1 f_RX11_208 (tk T_cX11_grain 29 rfl) lc1 rfl ?_
        refine a_getR C.1 f_RX11_243 (tk T_cX11_grain 30 rfl) lc18 rfl ?_
        refine a_iload C.1 (tk T_cX11_grain 31 rfl) rfl ?_
        obtain ⟨hb, h⟩ := h
        refine a_iald C.1 (tk T_cX11_grain 32 rfl) lc27 hb ?_
        refine a_iconst C.1 (1 : Int32) (tk T_cX11_grain 33 rfl) kI_1 ?_
        refine a_icmp_ne C.1 79 (tk T_cX11_grain 34 rfl) rfl (fun c => ?_) (fun c => ?_)
        · have h := h.1 c
          exact x_widen (by decide) (by decide) (a_to (k_R_grain_79 C hT hR ih x3 x4 x5 M1 h) rfl)
        · have h := h.2 c
          refine a_iload C.1 (tk T_cX11_grain 35 rfl) rfl ?_
          refine a_iconst C.1 (1 : Int32) (tk T_cX11_grain 36 rfl) kI_1 ?_
          refine a_iload C.1 (tk T_cX11_grain 37 rfl) rfl ?_
          refine a_ishl C.1 (tk T_cX11_grain 38 rfl) ?_
          refine a_ior C.1 (tk T_cX11_grain 39 rfl) ?_
          refine a_top (fun x4_2 e_x4_2 => ?_)
          have h := h x4_2 e_x4_2
          refine a_istore C.1 (tk T_cX11_grain 40 rfl) (by decide) rfl ?_
          exact x_widen (by decide) (by decide) (a_to (k_R_grain_79 C hT hR ih x3 x4_2 x5 M1 h) rfl)
def P_R_grain (post : Int32 → Mem → Prop) (ex : String → Mem → Prop) (x1 x2 : Int32) (M : Mem) : Prop :=
  P_R_wantPlate (fun M1 =>
  P_Judge_open (fun M2 =>
  P_Judge_leftBits (fun r3 M3 =>
  ∃ j29, P_R_grain_29 post ex j29 r3 (0 : Int32) (0 : Int32) M3) x2 (0 : Int32) M2) x1 M1) ex x1 M
theorem k_R_grain {X : FX} {g : GT} {ext : List CD} {A : Nat → Prop} {Z : State → Prop} {post : Int32 → Mem → Prop} {ex : String → Mem → Prop} {sk : Nat → Nat} (C : CxX X g (layC ++ ext) A cX11_grain 6 RX11 8 1 sk) (hT : ThX X g (layC ++ ext) A 1 Z ex) (hR : RetI X g (layC ++ ext) A cX11_grain 6 1 (6 * 1) Z post) (x1 x2 : Int32) (M : Mem) (h : P_R_grain post ex x1 x2 M) : AtX X g (layC ++ ext) A 6 0 0 Z 0 [(0, .ref (ad g 0)), (1, .int x1), (2, .int x2)] [] M := by
  refine a_aload_n C.1 (tk T_cX11_grain 0 rfl) rfl ?_
  refine a_iload_n C.1 (tk T_cX11_grain 1 rfl) rfl ?_
  refine x_callV C hT [.int x1] me_yX11_wantPlate lk_RX11_232 (ct_R_wantPlate h) (by decide) lc0 rfl rfl rfl (Nat.le_of_ble_eq_true rfl) (tk T_cX11_grain 2 rfl) (by decide) (fun M1 h => ?_)
  refine a_aload_n C.1 (tk T_cX11_grain 3 rfl) rfl ?_
  refine a_getR C.1 f_RX11_33 (tk T_cX11_grain 4 rfl) lc0 rfl ?_
  refine a_iload_n C.1 (tk T_cX11_grain 5 rfl) rfl ?_
  refine a_callV C.1 [.int x1] me_yX3_open lk_RX11_264 (ct_Judge_open h) (by decide) lc69 rfl rfl rfl (Nat.le_of_ble_eq_true rfl) (tk T_cX11_grain 6 rfl) ⟨Nat.le_trans (by decide) C.2.2.1, Nat.le_trans (by decide) C.2.2.2⟩ (fun M2 h => ?_)
  refine a_aload_n C.1 (tk T_cX11_grain 7 rfl) rfl ?_
  refine a_getR C.1 f_RX11_33 (tk T_cX11_grain 8 rfl) lc0 rfl ?_
  refine a_iload_n C.1 (tk T_cX11_grain 9 rfl) rfl ?_
  refine a_iconst C.1 (0 : Int32) (tk T_cX11_grain 10 rfl) kI_0 ?_
  refine a_callI C.1 [.int x2, .int (0 : Int32)] me_yX3_leftBits lk_RX11_286 (ct_Judge_leftBits h) (by decide) lc69 rfl rfl rfl (Nat.le_of_ble_eq_true rfl) (tk T_cX11_grain 11 rfl) ⟨Nat.le_trans (by decide) C.2.2.1, Nat.le_trans (by decide) C.2.2.2⟩ (fun r3 M3 h => ?_)
  refine a_istore_n C.1 (tk T_cX11_grain 12 rfl) (by decide) rfl ?_
  refine a_iconst C.1 (0 : Int32) (tk T_cX11_grain 13 rfl) kI_0 ?_
  refine a_istore C.1 (tk T_cX11_grain 14 rfl) (by decide) rfl ?_
  refine a_iconst C.1 (0 : Int32) (tk T_cX11_grain 15 rfl) kI_0 ?_
  refine a_istore C.1 (tk T_cX11_grain 16 rfl) (by decide) rfl ?_
  obtain ⟨n1, h⟩ := h
  exact x_widen (by decide) (by decide) (a_to (k_R_grain_29 C hT hR n1 r3 (0 : Int32) (0 : Int32) M3 h) rfl)
theorem ct_R_grain {l : Launch} {g : GT} {ext : List CD} {sk : Nat → Nat} {post : Int32 → Mem → Prop} {ex : String → Mem → Prop} {x1 x2 : Int32} {M : Mem} (h : P_R_grain post ex x1 x2 M) : XI l g (layC ++ ext) sk yX11_grain cX11_grain 6 (some .int) 8 1 [.ref (ad g 0), .int x1, .int x2] M post ex :=
  xi_of (by decide +kernel) (Nat.le_of_ble_eq_true rfl) (fun X A Z hl C hR hT _ => by subst hl; exact k_R_grain C hT hR x1 x2 M h)
def T_cX11_nearL : List (Nat × Instr × Nat) := [(0, .aload_n 0, 1), (1, .iload_n 1, 1), (2, .invokevirtual 299, 3), (5, .aload_n 0, 1), (6, .iload_n 2, 1), (7, .invokevirtual 299, 3), (10, .iload_n 3, 1), (11, .iconst 0, 1), (12, .sipush 999, 3), (15, .invokestatic 68, 3), (18, .invokestatic 72, 3), (21, .iconst 0, 1), (22, .istore 4, 2), (24, .iconst 0, 1), (25, .istore 5, 2), (27, .iload 5, 2), (29, .aload_n 0, 1), (30, .getfield 10, 3), (33, .getfield 188, 3), (36, .getfield 198, 3), (39, .iload_n 1, 1), (40, .iaload, 1), (41, .if_icmp .ge 51, 3), (44, .aload_n 0, 1), (45, .getfield 10, 3), (48, .getfield 188, 3), (51, .getfield 204, 3), (54, .iload_n 1, 1), (55, .bipush 6, 2), (57, .imul, 1), (58, .iload 5, 2), (60, .iadd, 1), (61, .iaload, 1), (62, .istore 6, 2), (64, .aload_n 0, 1), (65, .getfield 10, 3), (68, .getfield 188, 3), (71, .iload 6, 2), (73, .iconst 1, 1), (74, .iload_n 2, 1), (75, .ishl, 1), (76, .iload_n 3, 1), (77, .invokevirtual 375, 3), (80, .ifCond .ne 6, 3), (83, .iinc 4 1, 3), (86, .iinc 5 1, 3), (89, .goto (-62), 3), (92, .iload 4, 2), (94, .ireturn, 1)]
theorem T_cX11_near : tabOK cX11_near T_cX11_nearL = true := by decide +kernel
def P_R_near_86 (post : Int32 → Mem → Prop) (ex : String → Mem → Prop) (R27 : Int32 → Int32 → Int32 → Int32 → Int32 → Mem → Prop) (x1 x2 x3 x4 x5 : Int32) (M : Mem) : Prop :=
  R27 x1 x2 x3 x4 (x5 + (1 : Int32)) M
theorem k_R_near_86 {X : FX} {g : GT} {ext : List CD} {A : Nat → Prop} {Z : State → Prop} {post : Int32 → Mem → Prop} {R27 : Int32 → Int32 → Int32 → Int32 → Int32 → Mem → Prop} {ex : String → Mem → Prop} {sk : Nat → Nat} (C : CxX X g (layC ++ ext) A cX11_near 7 RX11 8 3 sk) (hT : ThX X g (layC ++ ext) A 3 Z ex) (hR : RetI X g (layC ++ ext) A cX11_near 7 3 (6 * 3) Z post) (k27 : ∀ (y1 y2 y3 y4 y5 : Int32) (M : Mem), R27 y1 y2 y3 y4 y5 M → AtX X g (layC ++ ext) A 7 3 (6 * 3) Z 27 [(0, .ref (ad g 0)), (1, .int y1), (2, .int y2), (3, .int y3), (4, .int y4), (5, .int y5)] [] M) (x1 x2 x3 x4 x5 : Int32) (M : Mem) (h : P_R_near_86 post ex R27 x1 x2 x3 x4 x5 M) : AtX X g (layC ++ ext) A 7 3 (6 * 3) Z 86 [(0, .ref (ad g 0)), (1, .int x1), (2, .int x2), (3, .int x3), (4, .int x4), (5, .int x5)] [] M := by
  refine a_iinc C.1 (1 : Int32) (tk T_cX11_near 45 rfl) rfl kI_1 (by decide) rfl ?_
  refine a_goto C.1 27 (tk T_cX11_near 46 rfl) rfl ?_
  exact x_widen (by decide) (by decide) (a_to (k27 x1 x2 x3 x4 (x5 + (1 : Int32)) M h) rfl)
def P_R_near_27 (post : Int32 → Mem → Prop) (ex : String → Mem → Prop) : Nat → Int32 → Int32 → Int32 → Int32 → Int32 → Mem → Prop
  | 0, _, _, _, _, _, _ => False
  | n + 1, x1, x2, x3, x4, x5, M =>
    vp_in x1 6 ∧ ((M 15 x1.toNatClampNeg) ≤ x5 → (post x4 M)) ∧
  (¬ (M 15 x1.toNatClampNeg) ≤ x5 → (vp_in ((x1 * (6 : Int32)) + x5) 36 ∧ ∀ x6_1, x6_1 = (M 16 ((x1 * (6 : Int32)) + x5).toNatClampNeg) → P_Table_isFar (fun r2 M2 =>
  (¬ r2 = 0 → (P_R_near_86 post ex (P_R_near_27 post ex n) x1 x2 x3 x4 x5 M2)) ∧
  (r2 = 0 → (P_R_near_86 post ex (P_R_near_27 post ex n) x1 x2 x3 (x4 + (1 : Int32)) x5 M2))) x6_1 ((1 : Int32) <<< (x2 &&& 31)) x3 M))
theorem k_R_near_27 {X : FX} {g : GT} {ext : List CD} {A : Nat → Prop} {Z : State → Prop} {post : Int32 → Mem → Prop} {ex : String → Mem → Prop} {sk : Nat → Nat} (C : CxX X g (layC ++ ext) A cX11_near 7 RX11 8 3 sk) (hT : ThX X g (layC ++ ext) A 3 Z ex) (hR : RetI X g (layC ++ ext) A cX11_near 7 3 (6 * 3) Z post) : ∀ (n : Nat) (x1 x2 x3 x4 x5 : Int32) (M : Mem), P_R_near_27 post ex n x1 x2 x3 x4 x5 M → AtX X g (layC ++ ext) A 7 3 (6 * 3) Z 27 [(0, .ref (ad g 0)), (1, .int x1), (2, .int x2), (3, .int x3), (4, .int x4), (5, .int x5)] [] M := by
  intro n
  induction n with
  | zero =>
    intro x1 x2 x3 x4 x5 M h
    exact h.elim
  | succ n ih =>
    intro x1 x2 x3 x4 x5 M h
    refine a_iload C.1 (tk T_cX11_near 15 rfl) rfl ?_
    refine a_aload_n C.1 (tk T_cX11_near 16 rfl) rfl ?_
    refine a_getR C.1 f_RX11_10 (tk T_cX11_near 17 rfl) lc0 rfl ?_
    refine a_getR C.1 f_RX11_188 (tk T_cX11_near 18 rfl) lc1 rfl ?_
    refine a_getR C.1 f_RX11_198 (tk T_cX11_near 19 rfl) lc13 rfl ?_
    refine a_iload_n C.1 (tk T_cX11_near 20 rfl) rfl ?_
    obtain ⟨hb, h⟩ := h
    refine a_iald C.1 (tk T_cX11_near 21 rfl) lc15 hb ?_
    refine a_icmp_ge C.1 92 (tk T_cX11_near 22 rfl) rfl (fun c => ?_) (fun c => ?_)
    · have h := h.1 c
      refine a_iload C.1 (tk T_cX11_near 47 rfl) rfl ?_
      exact x_widen (by decide) (by decide) (hR _ _ _ _ (tk T_cX11_near 48 rfl) h)
    · have h := h.2 c
      refine a_aload_n C.1 (tk T_cX11_near 23 rfl) rfl ?_
      refine a_getR C.1 f_RX11_10 (tk T_cX11_near 24 rfl) lc0 rfl ?_
      refine a_getR C.1 f_RX11_188 (tk T_cX11_near 25 rfl) lc1 rfl ?_
      refine a_getR C.1 f_RX11_204 (tk T_cX11_near 26 rfl) lc13 rfl ?_
      refine a_iload_n C.1 (tk T_cX11_near 27 rfl) rfl ?_
      refine a_bipush C.1 (6 : Int32) (tk T_cX11_near 28 rfl) kB_6 ?_
      refine a_imul C.1 (tk T_cX11_near 29 rfl) ?_
      refine a_iload C.1 (tk T_cX11_near 30 rfl) rfl ?_
      refine a_iadd C.1 (tk T_cX11_near 31 rfl) ?_
      obtain ⟨hb, h⟩ := h
      refine a_iald C.1 (tk T_cX11_near 32 rfl) lc16 hb ?_
      refine a_top (fun x6_1 e_x6_1 => ?_)
      have h := h x6_1 e_x6_1
      refine a_istore C.1 (tk T_cX11_near 33 rfl) (by decide) rfl ?_
      refine a_aload_n C.1 (tk T_cX11_near 34 rfl) rfl ?_
      refine a_getR C.1 f_RX11_10 (tk T_cX11_near 35 rfl) lc0 rfl ?_
      refine a_getR C.1 f_RX11_188 (tk T_cX11_near 36 rfl) lc1 rfl ?_
      refine a_iload C.1 (tk T_cX11_near 37 rfl) rfl ?_
      refine a_iconst C.1 (1 : Int32) (tk T_cX11_near 38 rfl) kI_1 ?_
      refine a_iload_n C.1 (tk T_cX11_near 39 rfl) rfl ?_
      refine a_ishl C.1 (tk T_cX11_near 40 rfl) ?_
      refine a_iload_n C.1 (tk T_cX11_near 41 rfl) rfl ?_
      refine a_callI C.1 [.int x6_1, .int ((1 : Int32) <<< (x2 &&& 31)), .int x3] me_yX10_isFar lk_RX11_375 (ct_Table_isFar h) (by decide) lc13 rfl rfl rfl (Nat.le_of_ble_eq_true rfl) (tk T_cX11_near 42 rfl) ⟨Nat.le_trans (by decide) C.2.2.1, Nat.le_trans (by decide) C.2.2.2⟩ (fun r2 M2 h => ?_)
      refine a_if_ne C.1 86 (tk T_cX11_near 43 rfl) rfl (fun c => ?_) (fun c => ?_)
      · have h := h.1 c
        exact x_widen (by decide) (by decide) (a_to (k_R_near_86 C hT hR ih x1 x2 x3 x4 x5 M2 h) rfl)
      · have h := h.2 c
        refine a_iinc C.1 (1 : Int32) (tk T_cX11_near 44 rfl) rfl kI_1 (by decide) rfl ?_
        exact x_widen (by decide) (by decide) (a_to (k_R_near_86 C hT hR ih x1 x2 x3 (x4 + (1 : Int32)) x5 M2 h) rfl)
def P_R_near (post : Int32 → Mem → Prop) (ex : String → Mem → Prop) (x1 x2 x3 : Int32) (M : Mem) : Prop :=
  P_R_wantElement (fun M1 =>
  P_R_wantElement (fun M2 =>
  P_R_within (fun r3 M3 =>
  P_R_wantNumber (fun M4 =>
  ∃ j27, P_R_near_27 post ex j27 x1 x2 x3 (0 : Int32) (0 : Int32) M4) ex r3 M3) x3 (0 : Int32) (999 : Int32) M2) ex x2 M1) ex x1 M
theorem k_R_near {X : FX} {g : GT} {ext : List CD} {A : Nat → Prop} {Z : State → Prop} {post : Int32 → Mem → Prop} {ex : String → Mem → Prop} {sk : Nat → Nat} (C : CxX X g (layC ++ ext) A cX11_near 7 RX11 8 3 sk) (hT : ThX X g (layC ++ ext) A 3 Z ex) (hR : RetI X g (layC ++ ext) A cX11_near 7 3 (6 * 3) Z post) (x1 x2 x3 : Int32) (M : Mem) (h : P_R_near post ex x1 x2 x3 M) : AtX X g (layC ++ ext) A 7 0 0 Z 0 [(0, .ref (ad g 0)), (1, .int x1), (2, .int x2), (3, .int x3)] [] M := by
  refine a_aload_n C.1 (tk T_cX11_near 0 rfl) rfl ?_
  refine a_iload_n C.1 (tk T_cX11_near 1 rfl) rfl ?_
  refine x_callV C hT [.int x1] me_yX11_wantElement lk_RX11_299 (ct_R_wantElement h) (by decide) lc0 rfl rfl rfl (Nat.le_of_ble_eq_true rfl) (tk T_cX11_near 2 rfl) (by decide) (fun M1 h => ?_)
  refine a_aload_n C.1 (tk T_cX11_near 3 rfl) rfl ?_
  refine a_iload_n C.1 (tk T_cX11_near 4 rfl) rfl ?_
  refine x_callV C hT [.int x2] me_yX11_wantElement lk_RX11_299 (ct_R_wantElement h) (by decide) lc0 rfl rfl rfl (Nat.le_of_ble_eq_true rfl) (tk T_cX11_near 5 rfl) (by decide) (fun M2 h => ?_)
  refine a_iload_n C.1 (tk T_cX11_near 6 rfl) rfl ?_
  refine a_iconst C.1 (0 : Int32) (tk T_cX11_near 7 rfl) kI_0 ?_
  refine a_sipush C.1 (999 : Int32) (tk T_cX11_near 8 rfl) kS_999 ?_
  refine a_statI C.1 [.int x3, .int (0 : Int32), .int (999 : Int32)] me_yX11_within lk_RX11_68 (ct_R_within h) (by decide) rfl rfl (Nat.le_of_ble_eq_true rfl) (tk T_cX11_near 9 rfl) ⟨Nat.le_trans (by decide) C.2.2.1, Nat.le_trans (by decide) C.2.2.2⟩ (fun r3 M3 h => ?_)
  refine x_statV C hT [.int r3] me_yX11_wantNumber lk_RX11_72 (ct_R_wantNumber h) (by decide) rfl rfl (Nat.le_of_ble_eq_true rfl) (tk T_cX11_near 10 rfl) (by decide) (fun M4 h => ?_)
  refine a_iconst C.1 (0 : Int32) (tk T_cX11_near 11 rfl) kI_0 ?_
  refine a_istore C.1 (tk T_cX11_near 12 rfl) (by decide) rfl ?_
  refine a_iconst C.1 (0 : Int32) (tk T_cX11_near 13 rfl) kI_0 ?_
  refine a_istore C.1 (tk T_cX11_near 14 rfl) (by decide) rfl ?_
  obtain ⟨n1, h⟩ := h
  exact x_widen (by decide) (by decide) (a_to (k_R_near_27 C hT hR n1 x1 x2 x3 (0 : Int32) (0 : Int32) M4 h) rfl)
theorem ct_R_near {l : Launch} {g : GT} {ext : List CD} {sk : Nat → Nat} {post : Int32 → Mem → Prop} {ex : String → Mem → Prop} {x1 x2 x3 : Int32} {M : Mem} (h : P_R_near post ex x1 x2 x3 M) : XI l g (layC ++ ext) sk yX11_near cX11_near 7 (some .int) 8 3 [.ref (ad g 0), .int x1, .int x2, .int x3] M post ex :=
  xi_of (by decide +kernel) (Nat.le_of_ble_eq_true rfl) (fun X A Z hl C hR hT _ => by subst hl; exact k_R_near C hT hR x1 x2 x3 M h)
def T_cX11_faultL : List (Nat × Instr × Nat) := [(0, .aload_n 0, 1), (1, .getfield 56, 3), (4, .getfield 398, 3), (7, .ireturn, 1)]
theorem T_cX11_fault : tabOK cX11_fault T_cX11_faultL = true := by decide +kernel
def P_R_fault (post : Int32 → Mem → Prop) (M : Mem) : Prop :=
  post (M 84 8) M
theorem k_R_fault {X : FX} {g : GT} {ext : List CD} {A : Nat → Prop} {Z : State → Prop} {post : Int32 → Mem → Prop} (C : Cx X g (layC ++ ext) A cX11_fault 1 RX11 0) (hr : 0 ≤ X.2.2.2.1.cells ∧ 0 ≤ X.2.2.2.1.slots) (hR : RetI X g (layC ++ ext) A cX11_fault 1 0 0 Z post) (M : Mem) (h : P_R_fault post M) : AtX X g (layC ++ ext) A 1 0 0 Z 0 [(0, .ref (ad g 0))] [] M := by
  refine a_aload_n C (tk T_cX11_fault 0 rfl) rfl ?_
  refine a_getR C f_RX11_56 (tk T_cX11_fault 1 rfl) lc0 rfl ?_
  refine a_getI C f_RX11_398 (tk T_cX11_fault 2 rfl) lc84 rfl ?_
  exact hR _ _ _ _ (tk T_cX11_fault 3 rfl) h
theorem ct_R_fault {l : Launch} {g : GT} {ext : List CD} {post : Int32 → Mem → Prop} {M : Mem} (h : P_R_fault post M) : CI l g (layC ++ ext) yX11_fault cX11_fault 1 (some .int) 0 [.ref (ad g 0)] M post :=
  ci_of (plainFor_of_name (by decide +kernel)) (Nat.le_of_ble_eq_true rfl) (fun X A Z hl C hr hR => by subst hl; exact k_R_fault C hr hR  M h)
def T_cX1_joinedL : List (Nat × Instr × Nat) := [(0, .iload_n 0, 1), (1, .tableswitch 61 9 12 #[31, 35, 46, 57], 31), (32, .iload_n 1, 1), (33, .iload_n 2, 1), (34, .iadd, 1), (35, .ireturn, 1), (36, .iload_n 1, 1), (37, .iload_n 2, 1), (38, .if_icmp .ge 7, 3), (41, .iconst 1, 1), (42, .goto 4, 3), (45, .iconst 0, 1), (46, .ireturn, 1), (47, .iload_n 1, 1), (48, .iload_n 2, 1), (49, .if_icmp .le 7, 3), (52, .iconst 1, 1), (53, .goto 4, 3), (56, .iconst 0, 1), (57, .ireturn, 1), (58, .iload_n 1, 1), (59, .iload_n 2, 1), (60, .iand, 1), (61, .ireturn, 1), (62, .iload_n 1, 1), (63, .iload_n 2, 1), (64, .ior, 1), (65, .ireturn, 1)]
theorem T_cX1_joined : tabOK cX1_joined T_cX1_joinedL = true := by decide +kernel
def P_Claim_joined_57 (post : Int32 → Mem → Prop) (s0 : Int32) (M : Mem) : Prop :=
  post s0 M
theorem k_Claim_joined_57 {X : FX} {g : GT} {ext : List CD} {A : Nat → Prop} {Z : State → Prop} {post : Int32 → Mem → Prop} (C : Cx X g (layC ++ ext) A cX1_joined 3 RX1 0) (hr : 0 ≤ X.2.2.2.1.cells ∧ 0 ≤ X.2.2.2.1.slots) (hR : RetI X g (layC ++ ext) A cX1_joined 3 0 0 Z post) (s0 : Int32) (M : Mem) (h : P_Claim_joined_57 post s0 M) : AtX X g (layC ++ ext) A 3 0 0 Z 57 [] [.int s0] M := by
  exact hR _ _ _ _ (tk T_cX1_joined 19 rfl) h
def P_Claim_joined_46 (post : Int32 → Mem → Prop) (s0 : Int32) (M : Mem) : Prop :=
  post s0 M
theorem k_Claim_joined_46 {X : FX} {g : GT} {ext : List CD} {A : Nat → Prop} {Z : State → Prop} {post : Int32 → Mem → Prop} (C : Cx X g (layC ++ ext) A cX1_joined 3 RX1 0) (hr : 0 ≤ X.2.2.2.1.cells ∧ 0 ≤ X.2.2.2.1.slots) (hR : RetI X g (layC ++ ext) A cX1_joined 3 0 0 Z post) (s0 : Int32) (M : Mem) (h : P_Claim_joined_46 post s0 M) : AtX X g (layC ++ ext) A 3 0 0 Z 46 [] [.int s0] M := by
  exact hR _ _ _ _ (tk T_cX1_joined 12 rfl) h
def P_Claim_joined (post : Int32 → Mem → Prop) (x0 x1 x2 : Int32) (M : Mem) : Prop :=
  (x0 = (9 : Int32) → (post (x1 + x2) M)) ∧
  (¬ x0 = (9 : Int32) → (x0 = (10 : Int32) → ((x2 ≤ x1 → (P_Claim_joined_46 post (0 : Int32) M)) ∧
  (¬ x2 ≤ x1 → (P_Claim_joined_46 post (1 : Int32) M)))) ∧
  (¬ x0 = (10 : Int32) → (x0 = (11 : Int32) → ((x1 ≤ x2 → (P_Claim_joined_57 post (0 : Int32) M)) ∧
  (¬ x1 ≤ x2 → (P_Claim_joined_57 post (1 : Int32) M)))) ∧
  (¬ x0 = (11 : Int32) → (x0 = (12 : Int32) → (post (x1 &&& x2) M)) ∧
  (¬ x0 = (12 : Int32) → (post (x1 ||| x2) M)))))
theorem k_Claim_joined {X : FX} {g : GT} {ext : List CD} {A : Nat → Prop} {Z : State → Prop} {post : Int32 → Mem → Prop} (C : Cx X g (layC ++ ext) A cX1_joined 3 RX1 0) (hr : 0 ≤ X.2.2.2.1.cells ∧ 0 ≤ X.2.2.2.1.slots) (hR : RetI X g (layC ++ ext) A cX1_joined 3 0 0 Z post) (x0 x1 x2 : Int32) (M : Mem) (h : P_Claim_joined post x0 x1 x2 M) : AtX X g (layC ++ ext) A 3 0 0 Z 0 [(0, .int x0), (1, .int x1), (2, .int x2)] [] M := by
  refine a_iload_n C (tk T_cX1_joined 0 rfl) rfl ?_
  refine a_case (9 : Int32) (fun c => ?_) (fun c9 => ?_)
  · have h := h.1 c
    refine a_tswI C (31) 32 (tk T_cX1_joined 1 rfl) (by decide) rfl ?_
    refine a_iload_n C (tk T_cX1_joined 2 rfl) rfl ?_
    refine a_iload_n C (tk T_cX1_joined 3 rfl) rfl ?_
    refine a_iadd C (tk T_cX1_joined 4 rfl) ?_
    exact hR _ _ _ _ (tk T_cX1_joined 5 rfl) h
  · have h := h.2 c9
    refine a_case (10 : Int32) (fun c => ?_) (fun c10 => ?_)
    · have h := h.1 c
      refine a_tswI C (35) 36 (tk T_cX1_joined 1 rfl) (by decide) rfl ?_
      refine a_iload_n C (tk T_cX1_joined 6 rfl) rfl ?_
      refine a_iload_n C (tk T_cX1_joined 7 rfl) rfl ?_
      refine a_icmp_ge C 45 (tk T_cX1_joined 8 rfl) rfl (fun c => ?_) (fun c => ?_)
      · have h := h.1 c
        refine a_iconst C (0 : Int32) (tk T_cX1_joined 11 rfl) kI_0 ?_
        exact a_to (k_Claim_joined_46 C hr hR (0 : Int32) M h) rfl
      · have h := h.2 c
        refine a_iconst C (1 : Int32) (tk T_cX1_joined 9 rfl) kI_1 ?_
        refine a_goto C 46 (tk T_cX1_joined 10 rfl) rfl ?_
        exact a_to (k_Claim_joined_46 C hr hR (1 : Int32) M h) rfl
    · have h := h.2 c10
      refine a_case (11 : Int32) (fun c => ?_) (fun c11 => ?_)
      · have h := h.1 c
        refine a_tswI C (46) 47 (tk T_cX1_joined 1 rfl) (by decide) rfl ?_
        refine a_iload_n C (tk T_cX1_joined 13 rfl) rfl ?_
        refine a_iload_n C (tk T_cX1_joined 14 rfl) rfl ?_
        refine a_icmp_le C 56 (tk T_cX1_joined 15 rfl) rfl (fun c => ?_) (fun c => ?_)
        · have h := h.1 c
          refine a_iconst C (0 : Int32) (tk T_cX1_joined 18 rfl) kI_0 ?_
          exact a_to (k_Claim_joined_57 C hr hR (0 : Int32) M h) rfl
        · have h := h.2 c
          refine a_iconst C (1 : Int32) (tk T_cX1_joined 16 rfl) kI_1 ?_
          refine a_goto C 57 (tk T_cX1_joined 17 rfl) rfl ?_
          exact a_to (k_Claim_joined_57 C hr hR (1 : Int32) M h) rfl
      · have h := h.2 c11
        refine a_case (12 : Int32) (fun c => ?_) (fun c12 => ?_)
        · have h := h.1 c
          refine a_tswI C (57) 58 (tk T_cX1_joined 1 rfl) (by decide) rfl ?_
          refine a_iload_n C (tk T_cX1_joined 20 rfl) rfl ?_
          refine a_iload_n C (tk T_cX1_joined 21 rfl) rfl ?_
          refine a_iand C (tk T_cX1_joined 22 rfl) ?_
          exact hR _ _ _ _ (tk T_cX1_joined 23 rfl) h
        · have h := h.2 c12
          have d9 := ne_toInt (z := 9) c9 (by decide)
          have d10 := ne_toInt (z := 10) c10 (by decide)
          have d11 := ne_toInt (z := 11) c11 (by decide)
          have d12 := ne_toInt (z := 12) c12 (by decide)
          refine a_tswO C 62 (tk T_cX1_joined 1 rfl) (by omega) rfl ?_
          refine a_iload_n C (tk T_cX1_joined 24 rfl) rfl ?_
          refine a_iload_n C (tk T_cX1_joined 25 rfl) rfl ?_
          refine a_ior C (tk T_cX1_joined 26 rfl) ?_
          exact hR _ _ _ _ (tk T_cX1_joined 27 rfl) h
theorem ct_Claim_joined {l : Launch} {g : GT} {ext : List CD} {post : Int32 → Mem → Prop} {x0 x1 x2 : Int32} {M : Mem} (h : P_Claim_joined post x0 x1 x2 M) : CI l g (layC ++ ext) yX1_joined cX1_joined 3 (some .int) 0 [.int x0, .int x1, .int x2] M post :=
  ci_of (plainFor_of_name (by decide +kernel)) (Nat.le_of_ble_eq_true rfl) (fun X A Z hl C hr hR => by subst hl; exact k_Claim_joined C hr hR x0 x1 x2 M h)
def T_cX1_foundL : List (Nat × Instr × Nat) := [(0, .iload_n 0, 1), (1, .tableswitch 117 1 7 #[43, 48, 69, 77, 85, 99, 108], 43), (44, .aload_n 2, 1), (45, .getfield 34, 3), (48, .ireturn, 1), (49, .aload_n 2, 1), (50, .getfield 38, 3), (53, .iconst (-1), 1), (54, .if_icmp .ne 8, 3), (57, .bipush 99, 2), (59, .goto 10, 3), (62, .aload_n 2, 1), (63, .getfield 38, 3), (66, .invokestatic 41, 3), (69, .ireturn, 1), (70, .aload_n 2, 1), (71, .getfield 47, 3), (74, .invokestatic 41, 3), (77, .ireturn, 1), (78, .aload_n 2, 1), (79, .getfield 50, 3), (82, .invokestatic 41, 3), (85, .ireturn, 1), (86, .aload_n 2, 1), (87, .getfield 53, 3), (90, .getfield 57, 3), (93, .sipush 9999, 3), (96, .invokestatic 62, 3), (99, .ireturn, 1), (100, .aload_n 2, 1), (101, .getfield 68, 3), (104, .iload_n 1, 1), (105, .ishr, 1), (106, .iconst 1, 1), (107, .iand, 1), (108, .ireturn, 1), (109, .aload_n 2, 1), (110, .getfield 71, 3), (113, .iload_n 1, 1), (114, .ishr, 1), (115, .iconst 1, 1), (116, .iand, 1), (117, .ireturn, 1), (118, .iload_n 1, 1), (119, .ireturn, 1)]
theorem T_cX1_found : tabOK cX1_found T_cX1_foundL = true := by decide +kernel
def P_Claim_found_69 (post : Int32 → Mem → Prop) (s0 : Int32) (M : Mem) : Prop :=
  post s0 M
theorem k_Claim_found_69 {X : FX} {g : GT} {ext : List CD} {A : Nat → Prop} {Z : State → Prop} {post : Int32 → Mem → Prop} (C : Cx X g (layC ++ ext) A cX1_found 3 RX1 1) (hr : 0 ≤ X.2.2.2.1.cells ∧ 0 ≤ X.2.2.2.1.slots) (hR : RetI X g (layC ++ ext) A cX1_found 3 0 0 Z post) (s0 : Int32) (M : Mem) (h : P_Claim_found_69 post s0 M) : AtX X g (layC ++ ext) A 3 0 0 Z 69 [] [.int s0] M := by
  exact hR _ _ _ _ (tk T_cX1_found 14 rfl) h
def P_Claim_found (post : Int32 → Mem → Prop) (x0 x1 : Int32) (M : Mem) : Prop :=
  (x0 = (1 : Int32) → (post (M 69 15) M)) ∧
  (¬ x0 = (1 : Int32) → (x0 = (2 : Int32) → ((¬ (M 69 16) = (-1 : Int32) → (P_Integer_bitCount (fun r1 M1 =>
  P_Claim_found_69 post r1 M1) (M 69 16) M)) ∧
  ((M 69 16) = (-1 : Int32) → (P_Claim_found_69 post (99 : Int32) M)))) ∧
  (¬ x0 = (2 : Int32) → (x0 = (3 : Int32) → (P_Integer_bitCount (fun r2 M2 =>
  post r2 M2) (M 69 11) M)) ∧
  (¬ x0 = (3 : Int32) → (x0 = (4 : Int32) → (P_Integer_bitCount (fun r3 M3 =>
  post r3 M3) (M 69 12) M)) ∧
  (¬ x0 = (4 : Int32) → (x0 = (5 : Int32) → (P_Math_min (fun r4 M4 =>
  post r4 M4) (M 63 8) (9999 : Int32) M)) ∧
  (¬ x0 = (5 : Int32) → (x0 = (6 : Int32) → (post (((M 69 17) >>> (x1 &&& 31)) &&& (1 : Int32)) M)) ∧
  (¬ x0 = (6 : Int32) → (x0 = (7 : Int32) → (post (((M 69 18) >>> (x1 &&& 31)) &&& (1 : Int32)) M)) ∧
  (¬ x0 = (7 : Int32) → (post x1 M))))))))
theorem k_Claim_found {X : FX} {g : GT} {ext : List CD} {A : Nat → Prop} {Z : State → Prop} {post : Int32 → Mem → Prop} (C : Cx X g (layC ++ ext) A cX1_found 3 RX1 1) (hr : 0 ≤ X.2.2.2.1.cells ∧ 0 ≤ X.2.2.2.1.slots) (hR : RetI X g (layC ++ ext) A cX1_found 3 0 0 Z post) (x0 x1 : Int32) (M : Mem) (h : P_Claim_found post x0 x1 M) : AtX X g (layC ++ ext) A 3 0 0 Z 0 [(0, .int x0), (1, .int x1), (2, .ref (ad g 69))] [] M := by
  refine a_iload_n C (tk T_cX1_found 0 rfl) rfl ?_
  refine a_case (1 : Int32) (fun c => ?_) (fun c1 => ?_)
  · have h := h.1 c
    refine a_tswI C (43) 44 (tk T_cX1_found 1 rfl) (by decide) rfl ?_
    refine a_aload_n C (tk T_cX1_found 2 rfl) rfl ?_
    refine a_getI C f_RX1_34 (tk T_cX1_found 3 rfl) lc69 rfl ?_
    exact hR _ _ _ _ (tk T_cX1_found 4 rfl) h
  · have h := h.2 c1
    refine a_case (2 : Int32) (fun c => ?_) (fun c2 => ?_)
    · have h := h.1 c
      refine a_tswI C (48) 49 (tk T_cX1_found 1 rfl) (by decide) rfl ?_
      refine a_aload_n C (tk T_cX1_found 5 rfl) rfl ?_
      refine a_getI C f_RX1_38 (tk T_cX1_found 6 rfl) lc69 rfl ?_
      refine a_iconst C (-1 : Int32) (tk T_cX1_found 7 rfl) kI_m1 ?_
      refine a_icmp_ne C 62 (tk T_cX1_found 8 rfl) rfl (fun c => ?_) (fun c => ?_)
      · have h := h.1 c
        refine a_aload_n C (tk T_cX1_found 11 rfl) rfl ?_
        refine a_getI C f_RX1_38 (tk T_cX1_found 12 rfl) lc69 rfl ?_
        refine a_statI C [.int (M 69 16)] me_yJ6_bitCount_0f7a4 lk_RX1_41 (ct_Integer_bitCount h) (by decide) rfl rfl (Nat.le_of_ble_eq_true rfl) (tk T_cX1_found 13 rfl) hr (fun r1 M1 h => ?_)
        exact a_to (k_Claim_found_69 C hr hR r1 M1 h) rfl
      · have h := h.2 c
        refine a_bipush C (99 : Int32) (tk T_cX1_found 9 rfl) kB_99 ?_
        refine a_goto C 69 (tk T_cX1_found 10 rfl) rfl ?_
        exact a_to (k_Claim_found_69 C hr hR (99 : Int32) M h) rfl
    · have h := h.2 c2
      refine a_case (3 : Int32) (fun c => ?_) (fun c3 => ?_)
      · have h := h.1 c
        refine a_tswI C (69) 70 (tk T_cX1_found 1 rfl) (by decide) rfl ?_
        refine a_aload_n C (tk T_cX1_found 15 rfl) rfl ?_
        refine a_getI C f_RX1_47 (tk T_cX1_found 16 rfl) lc69 rfl ?_
        refine a_statI C [.int (M 69 11)] me_yJ6_bitCount_0f7a4 lk_RX1_41 (ct_Integer_bitCount h) (by decide) rfl rfl (Nat.le_of_ble_eq_true rfl) (tk T_cX1_found 17 rfl) hr (fun r2 M2 h => ?_)
        exact hR _ _ _ _ (tk T_cX1_found 18 rfl) h
      · have h := h.2 c3
        refine a_case (4 : Int32) (fun c => ?_) (fun c4 => ?_)
        · have h := h.1 c
          refine a_tswI C (77) 78 (tk T_cX1_found 1 rfl) (by decide) rfl ?_
          refine a_aload_n C (tk T_cX1_found 19 rfl) rfl ?_
          refine a_getI C f_RX1_50 (tk T_cX1_found 20 rfl) lc69 rfl ?_
          refine a_statI C [.int (M 69 12)] me_yJ6_bitCount_0f7a4 lk_RX1_41 (ct_Integer_bitCount h) (by decide) rfl rfl (Nat.le_of_ble_eq_true rfl) (tk T_cX1_found 21 rfl) hr (fun r3 M3 h => ?_)
          exact hR _ _ _ _ (tk T_cX1_found 22 rfl) h
        · have h := h.2 c4
          refine a_case (5 : Int32) (fun c => ?_) (fun c5 => ?_)
          · have h := h.1 c
            refine a_tswI C (85) 86 (tk T_cX1_found 1 rfl) (by decide) rfl ?_
            refine a_aload_n C (tk T_cX1_found 23 rfl) rfl ?_
            refine a_getR C f_RX1_53 (tk T_cX1_found 24 rfl) lc69 rfl ?_
            refine a_getI C f_RX1_57 (tk T_cX1_found 25 rfl) lc63 rfl ?_
            refine a_sipush C (9999 : Int32) (tk T_cX1_found 26 rfl) kS_9999 ?_
            refine a_statI C [.int (M 63 8), .int (9999 : Int32)] me_yJ9_min_7cf53 lk_RX1_62 (ct_Math_min h) (by decide) rfl rfl (Nat.le_of_ble_eq_true rfl) (tk T_cX1_found 27 rfl) hr (fun r4 M4 h => ?_)
            exact hR _ _ _ _ (tk T_cX1_found 28 rfl) h
          · have h := h.2 c5
            refine a_case (6 : Int32) (fun c => ?_) (fun c6 => ?_)
            · have h := h.1 c
              refine a_tswI C (99) 100 (tk T_cX1_found 1 rfl) (by decide) rfl ?_
              refine a_aload_n C (tk T_cX1_found 29 rfl) rfl ?_
              refine a_getI C f_RX1_68 (tk T_cX1_found 30 rfl) lc69 rfl ?_
              refine a_iload_n C (tk T_cX1_found 31 rfl) rfl ?_
              refine a_ishr C (tk T_cX1_found 32 rfl) ?_
              refine a_iconst C (1 : Int32) (tk T_cX1_found 33 rfl) kI_1 ?_
              refine a_iand C (tk T_cX1_found 34 rfl) ?_
              exact hR _ _ _ _ (tk T_cX1_found 35 rfl) h
            · have h := h.2 c6
              refine a_case (7 : Int32) (fun c => ?_) (fun c7 => ?_)
              · have h := h.1 c
                refine a_tswI C (108) 109 (tk T_cX1_found 1 rfl) (by decide) rfl ?_
                refine a_aload_n C (tk T_cX1_found 36 rfl) rfl ?_
                refine a_getI C f_RX1_71 (tk T_cX1_found 37 rfl) lc69 rfl ?_
                refine a_iload_n C (tk T_cX1_found 38 rfl) rfl ?_
                refine a_ishr C (tk T_cX1_found 39 rfl) ?_
                refine a_iconst C (1 : Int32) (tk T_cX1_found 40 rfl) kI_1 ?_
                refine a_iand C (tk T_cX1_found 41 rfl) ?_
                exact hR _ _ _ _ (tk T_cX1_found 42 rfl) h
              · have h := h.2 c7
                have d1 := ne_toInt (z := 1) c1 (by decide)
                have d2 := ne_toInt (z := 2) c2 (by decide)
                have d3 := ne_toInt (z := 3) c3 (by decide)
                have d4 := ne_toInt (z := 4) c4 (by decide)
                have d5 := ne_toInt (z := 5) c5 (by decide)
                have d6 := ne_toInt (z := 6) c6 (by decide)
                have d7 := ne_toInt (z := 7) c7 (by decide)
                refine a_tswO C 118 (tk T_cX1_found 1 rfl) (by omega) rfl ?_
                refine a_iload_n C (tk T_cX1_found 43 rfl) rfl ?_
                exact hR _ _ _ _ (tk T_cX1_found 44 rfl) h
theorem ct_Claim_found {l : Launch} {g : GT} {ext : List CD} {post : Int32 → Mem → Prop} {x0 x1 : Int32} {M : Mem} (h : P_Claim_found post x0 x1 M) : CI l g (layC ++ ext) yX1_found cX1_found 3 (some .int) 1 [.int x0, .int x1, .ref (ad g 69)] M post :=
  ci_of (plainFor_of_name (by decide +kernel)) (Nat.le_of_ble_eq_true rfl) (fun X A Z hl C hr hR => by subst hl; exact k_Claim_found C hr hR x0 x1 M h)
def T_cX1_isTrueL : List (Nat × Instr × Nat) := [(0, .aload_n 1, 1), (1, .getfield 21, 3), (4, .astore_n 2, 1), (5, .iconst 0, 1), (6, .istore_n 3, 1), (7, .iconst 0, 1), (8, .istore 4, 2), (10, .iload 4, 2), (12, .aload_n 0, 1), (13, .getfield 15, 3), (16, .arraylength, 1), (17, .if_icmp .ge 119, 3), (20, .aload_n 0, 1), (21, .getfield 15, 3), (24, .iload 4, 2), (26, .iaload, 1), (27, .bipush 32, 2), (29, .irem, 1), (30, .istore 5, 2), (32, .iload 5, 2), (34, .bipush 8, 2), (36, .if_icmp .ge 34, 3), (39, .iload_n 3, 1), (40, .bipush 32, 2), (42, .if_icmp .ge 28, 3), (45, .aload_n 2, 1), (46, .iload_n 3, 1), (47, .iload 5, 2), (49, .aload_n 0, 1), (50, .getfield 15, 3), (53, .iload 4, 2), (55, .iaload, 1), (56, .bipush 32, 2), (58, .idiv, 1), (59, .aload_n 1, 1), (60, .invokestatic 26, 3), (63, .iastore, 1), (64, .iinc 3 1, 3), (67, .goto 63, 3), (70, .iload 5, 2), (72, .bipush 8, 2), (74, .if_icmp .ne 23, 3), (77, .iload_n 3, 1), (78, .iconst 1, 1), (79, .if_icmp .lt 18, 3), (82, .aload_n 2, 1), (83, .iload_n 3, 1), (84, .iconst 1, 1), (85, .isub, 1), (86, .iconst 1, 1), (87, .aload_n 2, 1), (88, .iload_n 3, 1), (89, .iconst 1, 1), (90, .isub, 1), (91, .iaload, 1), (92, .isub, 1), (93, .iastore, 1), (94, .goto 36, 3), (97, .iload 5, 2), (99, .bipush 8, 2), (101, .if_icmp .le 29, 3), (104, .iload_n 3, 1), (105, .iconst 2, 1), (106, .if_icmp .lt 24, 3), (109, .iinc 3 (-1), 3), (112, .aload_n 2, 1), (113, .iload_n 3, 1), (114, .iconst 1, 1), (115, .isub, 1), (116, .iload 5, 2), (118, .aload_n 2, 1), (119, .iload_n 3, 1), (120, .iconst 1, 1), (121, .isub, 1), (122, .iaload, 1), (123, .aload_n 2, 1), (124, .iload_n 3, 1), (125, .iaload, 1), (126, .invokestatic 30, 3), (129, .iastore, 1), (130, .iinc 4 1, 3), (133, .goto (-123), 3), (136, .iload_n 3, 1), (137, .ifCond .le 14, 3), (140, .aload_n 2, 1), (141, .iconst 0, 1), (142, .iaload, 1), (143, .iconst 1, 1), (144, .if_icmp .ne 7, 3), (147, .iconst 1, 1), (148, .goto 4, 3), (151, .iconst 0, 1), (152, .ireturn, 1)]
theorem T_cX1_isTrue : tabOK cX1_isTrue T_cX1_isTrueL = true := by decide +kernel
def P_Claim_isTrue_152 (kc len : Nat) (post : Int32 → Mem → Prop) (s0 : Int32) (M : Mem) : Prop :=
  (s0 = 0 ∨ s0 = 1) ∧ post s0 M
theorem k_Claim_isTrue_152 {X : FX} {g : GT} {ext : List CD} {A : Nat → Prop} {Z : State → Prop} {post : Int32 → Mem → Prop} {kc len : Nat} (hk : (layC ++ ext)[kc]? = some (4, 1, [some (kc + 1)])) (hk2 : (layC ++ ext)[kc + 1]? = some (0, len, [])) (C : Cx X g (layC ++ ext) A cX1_isTrue 6 RX1 2) (hr : 0 ≤ X.2.2.2.1.cells ∧ 0 ≤ X.2.2.2.1.slots) (hR : RetZ X g (layC ++ ext) A cX1_isTrue 6 0 0 Z post) (s0 : Int32) (M : Mem) (h : P_Claim_isTrue_152 kc len post s0 M) : AtX X g (layC ++ ext) A 6 0 0 Z 152 [] [.int s0] M := by
  exact hR _ _ _ _ (tk T_cX1_isTrue 92 rfl) h
def P_Claim_isTrue_151 (kc len : Nat) (post : Int32 → Mem → Prop) (M : Mem) : Prop :=
  P_Claim_isTrue_152 kc len post (0 : Int32) M
theorem k_Claim_isTrue_151 {X : FX} {g : GT} {ext : List CD} {A : Nat → Prop} {Z : State → Prop} {post : Int32 → Mem → Prop} {kc len : Nat} (hk : (layC ++ ext)[kc]? = some (4, 1, [some (kc + 1)])) (hk2 : (layC ++ ext)[kc + 1]? = some (0, len, [])) (C : Cx X g (layC ++ ext) A cX1_isTrue 6 RX1 2) (hr : 0 ≤ X.2.2.2.1.cells ∧ 0 ≤ X.2.2.2.1.slots) (hR : RetZ X g (layC ++ ext) A cX1_isTrue 6 0 0 Z post)  (M : Mem) (h : P_Claim_isTrue_151 kc len post M) : AtX X g (layC ++ ext) A 6 0 0 Z 151 [] [] M := by
  refine a_iconst C (0 : Int32) (tk T_cX1_isTrue 91 rfl) kI_0 ?_
  exact a_to (k_Claim_isTrue_152 hk hk2 C hr hR (0 : Int32) M h) rfl
def P_Claim_isTrue_130 (kc len : Nat) (post : Int32 → Mem → Prop) (R10 : Int32 → Int32 → Mem → Prop) (x3 x4 : Int32) (M : Mem) : Prop :=
  R10 x3 (x4 + (1 : Int32)) M
theorem k_Claim_isTrue_130 {X : FX} {g : GT} {ext : List CD} {A : Nat → Prop} {Z : State → Prop} {post : Int32 → Mem → Prop} {R10 : Int32 → Int32 → Mem → Prop} {kc len : Nat} (hk : (layC ++ ext)[kc]? = some (4, 1, [some (kc + 1)])) (hk2 : (layC ++ ext)[kc + 1]? = some (0, len, [])) (C : Cx X g (layC ++ ext) A cX1_isTrue 6 RX1 2) (hr : 0 ≤ X.2.2.2.1.cells ∧ 0 ≤ X.2.2.2.1.slots) (hR : RetZ X g (layC ++ ext) A cX1_isTrue 6 0 0 Z post) (k10 : ∀ (y3 y4 : Int32) (M : Mem), R10 y3 y4 M → AtX X g (layC ++ ext) A 6 0 0 Z 10 [(0, .ref (ad g kc)), (1, .ref (ad g 69)), (2, .ref (ad g 77)), (3, .int y3), (4, .int y4)] [] M) (x3 x4 : Int32) (M : Mem) (h : P_Claim_isTrue_130 kc len post R10 x3 x4 M) : AtX X g (layC ++ ext) A 6 0 0 Z 130 [(0, .ref (ad g kc)), (1, .ref (ad g 69)), (2, .ref (ad g 77)), (3, .int x3), (4, .int x4)] [] M := by
  refine a_iinc C (1 : Int32) (tk T_cX1_isTrue 80 rfl) rfl kI_1 (by decide) rfl ?_
  refine a_goto C 10 (tk T_cX1_isTrue 81 rfl) rfl ?_
  exact a_to (k10 x3 (x4 + (1 : Int32)) M h) rfl
def P_Claim_isTrue_97 (kc len : Nat) (post : Int32 → Mem → Prop) (R10 : Int32 → Int32 → Mem → Prop) (x3 x4 x5 : Int32) (M : Mem) : Prop :=
  (x5 ≤ (8 : Int32) → (P_Claim_isTrue_130 kc len post R10 x3 x4 M)) ∧
  (¬ x5 ≤ (8 : Int32) → ((x3 < (2 : Int32) → (P_Claim_isTrue_130 kc len post R10 x3 x4 M)) ∧
  (¬ x3 < (2 : Int32) → (∀ i1, i1 = ((x3 + (-1 : Int32)) - (1 : Int32)) → vp_in i1 32 ∧ vp_in (x3 + (-1 : Int32)) 32 ∧ P_Claim_joined (fun r2 M2 =>
  vp_in ((x3 + (-1 : Int32)) - (1 : Int32)) 32 ∧ ∀ M3, M3 = ms M2 77 ((x3 + (-1 : Int32)) - (1 : Int32)).toNatClampNeg r2 → P_Claim_isTrue_130 kc len post R10 (x3 + (-1 : Int32)) x4 M3) x5 (M 77 i1.toNatClampNeg) (M 77 (x3 + (-1 : Int32)).toNatClampNeg) M))))
theorem k_Claim_isTrue_97 {X : FX} {g : GT} {ext : List CD} {A : Nat → Prop} {Z : State → Prop} {post : Int32 → Mem → Prop} {R10 : Int32 → Int32 → Mem → Prop} {kc len : Nat} (hk : (layC ++ ext)[kc]? = some (4, 1, [some (kc + 1)])) (hk2 : (layC ++ ext)[kc + 1]? = some (0, len, [])) (C : Cx X g (layC ++ ext) A cX1_isTrue 6 RX1 2) (hr : 0 ≤ X.2.2.2.1.cells ∧ 0 ≤ X.2.2.2.1.slots) (hR : RetZ X g (layC ++ ext) A cX1_isTrue 6 0 0 Z post) (k10 : ∀ (y3 y4 : Int32) (M : Mem), R10 y3 y4 M → AtX X g (layC ++ ext) A 6 0 0 Z 10 [(0, .ref (ad g kc)), (1, .ref (ad g 69)), (2, .ref (ad g 77)), (3, .int y3), (4, .int y4)] [] M) (x3 x4 x5 : Int32) (M : Mem) (h : P_Claim_isTrue_97 kc len post R10 x3 x4 x5 M) : AtX X g (layC ++ ext) A 6 0 0 Z 97 [(0, .ref (ad g kc)), (1, .ref (ad g 69)), (2, .ref (ad g 77)), (3, .int x3), (4, .int x4), (5, .int x5)] [] M := by
  refine a_iload C (tk T_cX1_isTrue 58 rfl) rfl ?_
  refine a_bipush C (8 : Int32) (tk T_cX1_isTrue 59 rfl) kB_8 ?_
  refine a_icmp_le C 130 (tk T_cX1_isTrue 60 rfl) rfl (fun c => ?_) (fun c => ?_)
  · have h := h.1 c
    exact a_to (k_Claim_isTrue_130 hk hk2 C hr hR k10 x3 x4 M h) rfl
  · have h := h.2 c
    refine a_iload_n C (tk T_cX1_isTrue 61 rfl) rfl ?_
    refine a_iconst C (2 : Int32) (tk T_cX1_isTrue 62 rfl) kI_2 ?_
    refine a_icmp_lt C 130 (tk T_cX1_isTrue 63 rfl) rfl (fun c => ?_) (fun c => ?_)
    · have h := h.1 c
      exact a_to (k_Claim_isTrue_130 hk hk2 C hr hR k10 x3 x4 M h) rfl
    · have h := h.2 c
      refine a_iinc C (-1 : Int32) (tk T_cX1_isTrue 64 rfl) rfl kI_m1 (by decide) rfl ?_
      refine a_aload_n C (tk T_cX1_isTrue 65 rfl) rfl ?_
      refine a_iload_n C (tk T_cX1_isTrue 66 rfl) rfl ?_
      refine a_iconst C (1 : Int32) (tk T_cX1_isTrue 67 rfl) kI_1 ?_
      refine a_isub C (tk T_cX1_isTrue 68 rfl) ?_
      refine a_iload C (tk T_cX1_isTrue 69 rfl) rfl ?_
      refine a_aload_n C (tk T_cX1_isTrue 70 rfl) rfl ?_
      refine a_iload_n C (tk T_cX1_isTrue 71 rfl) rfl ?_
      refine a_iconst C (1 : Int32) (tk T_cX1_isTrue 72 rfl) kI_1 ?_
      refine a_isub C (tk T_cX1_isTrue 73 rfl) ?_
      refine a_top (fun i1 e_i1 => ?_)
      have h := h i1 e_i1
      obtain ⟨hb, h⟩ := h
      refine a_iald C (tk T_cX1_isTrue 74 rfl) lc77 hb ?_
      refine a_aload_n C (tk T_cX1_isTrue 75 rfl) rfl ?_
      refine a_iload_n C (tk T_cX1_isTrue 76 rfl) rfl ?_
      obtain ⟨hb, h⟩ := h
      refine a_iald C (tk T_cX1_isTrue 77 rfl) lc77 hb ?_
      refine a_statI C [.int x5, .int (M 77 i1.toNatClampNeg), .int (M 77 (x3 + (-1 : Int32)).toNatClampNeg)] me_yX1_joined lk_RX1_30 (ct_Claim_joined h) (by decide) rfl rfl (Nat.le_of_ble_eq_true rfl) (tk T_cX1_isTrue 78 rfl) hr (fun r2 M2 h => ?_)
      obtain ⟨hb, h⟩ := h
      refine a_iast C (tk T_cX1_isTrue 79 rfl) lc77 hb ?_
      refine a_mem (fun M3 e_M3 => ?_)
      have h := h M3 e_M3
      exact a_to (k_Claim_isTrue_130 hk hk2 C hr hR k10 (x3 + (-1 : Int32)) x4 M3 h) rfl
def P_Claim_isTrue_70 (kc len : Nat) (post : Int32 → Mem → Prop) (R10 : Int32 → Int32 → Mem → Prop) (x3 x4 x5 : Int32) (M : Mem) : Prop :=
  (¬ x5 = (8 : Int32) → (P_Claim_isTrue_97 kc len post R10 x3 x4 x5 M)) ∧
  (x5 = (8 : Int32) → ((x3 < (1 : Int32) → (P_Claim_isTrue_97 kc len post R10 x3 x4 x5 M)) ∧
  (¬ x3 < (1 : Int32) → (vp_in (x3 - (1 : Int32)) 32 ∧ vp_in (x3 - (1 : Int32)) 32 ∧ ∀ M1, M1 = ms M 77 (x3 - (1 : Int32)).toNatClampNeg ((1 : Int32) - (M 77 (x3 - (1 : Int32)).toNatClampNeg)) → P_Claim_isTrue_130 kc len post R10 x3 x4 M1))))
theorem k_Claim_isTrue_70 {X : FX} {g : GT} {ext : List CD} {A : Nat → Prop} {Z : State → Prop} {post : Int32 → Mem → Prop} {R10 : Int32 → Int32 → Mem → Prop} {kc len : Nat} (hk : (layC ++ ext)[kc]? = some (4, 1, [some (kc + 1)])) (hk2 : (layC ++ ext)[kc + 1]? = some (0, len, [])) (C : Cx X g (layC ++ ext) A cX1_isTrue 6 RX1 2) (hr : 0 ≤ X.2.2.2.1.cells ∧ 0 ≤ X.2.2.2.1.slots) (hR : RetZ X g (layC ++ ext) A cX1_isTrue 6 0 0 Z post) (k10 : ∀ (y3 y4 : Int32) (M : Mem), R10 y3 y4 M → AtX X g (layC ++ ext) A 6 0 0 Z 10 [(0, .ref (ad g kc)), (1, .ref (ad g 69)), (2, .ref (ad g 77)), (3, .int y3), (4, .int y4)] [] M) (x3 x4 x5 : Int32) (M : Mem) (h : P_Claim_isTrue_70 kc len post R10 x3 x4 x5 M) : AtX X g (layC ++ ext) A 6 0 0 Z 70 [(0, .ref (ad g kc)), (1, .ref (ad g 69)), (2, .ref (ad g 77)), (3, .int x3), (4, .int x4), (5, .int x5)] [] M := by
  refine a_iload C (tk T_cX1_isTrue 39 rfl) rfl ?_
  refine a_bipush C (8 : Int32) (tk T_cX1_isTrue 40 rfl) kB_8 ?_
  refine a_icmp_ne C 97 (tk T_cX1_isTrue 41 rfl) rfl (fun c => ?_) (fun c => ?_)
  · have h := h.1 c
    exact a_to (k_Claim_isTrue_97 hk hk2 C hr hR k10 x3 x4 x5 M h) rfl
  · have h := h.2 c
    refine a_iload_n C (tk T_cX1_isTrue 42 rfl) rfl ?_
    refine a_iconst C (1 : Int32) (tk T_cX1_isTrue 43 rfl) kI_1 ?_
    refine a_icmp_lt C 97 (tk T_cX1_isTrue 44 rfl) rfl (fun c => ?_) (fun c => ?_)
    · have h := h.1 c
      exact a_to (k_Claim_isTrue_97 hk hk2 C hr hR k10 x3 x4 x5 M h) rfl
    · have h := h.2 c
      refine a_aload_n C (tk T_cX1_isTrue 45 rfl) rfl ?_
      refine a_iload_n C (tk T_cX1_isTrue 46 rfl) rfl ?_
      refine a_iconst C (1 : Int32) (tk T_cX1_isTrue 47 rfl) kI_1 ?_
      refine a_isub C (tk T_cX1_isTrue 48 rfl) ?_
      refine a_iconst C (1 : Int32) (tk T_cX1_isTrue 49 rfl) kI_1 ?_
      refine a_aload_n C (tk T_cX1_isTrue 50 rfl) rfl ?_
      refine a_iload_n C (tk T_cX1_isTrue 51 rfl) rfl ?_
      refine a_iconst C (1 : Int32) (tk T_cX1_isTrue 52 rfl) kI_1 ?_
      refine a_isub C (tk T_cX1_isTrue 53 rfl) ?_
      obtain ⟨hb, h⟩ := h
      refine a_iald C (tk T_cX1_isTrue 54 rfl) lc77 hb ?_
      refine a_isub C (tk T_cX1_isTrue 55 rfl) ?_
      obtain ⟨hb, h⟩ := h
      refine a_iast C (tk T_cX1_isTrue 56 rfl) lc77 hb ?_
      refine a_mem (fun M1 e_M1 => ?_)
      have h := h M1 e_M1
      refine a_goto C 130 (tk T_cX1_isTrue 57 rfl) rfl ?_
      exact a_to (k_Claim_isTrue_130 hk hk2 C hr hR k10 x3 x4 M1 h) rfl
def P_Claim_isTrue_10 (kc len : Nat) (post : Int32 → Mem → Prop) : Nat → Int32 → Int32 → Mem → Prop
  | 0, _, _, _ => False
  | n + 1, x3, x4, M =>
    ((Int32.ofNat len) ≤ x4 → ((x3 ≤ 0 → (P_Claim_isTrue_151 kc len post M)) ∧
  (¬ x3 ≤ 0 → (vp_in (0 : Int32) 32 ∧ (¬ (M 77 (0 : Int32).toNatClampNeg) = (1 : Int32) → (P_Claim_isTrue_151 kc len post M)) ∧
  ((M 77 (0 : Int32).toNatClampNeg) = (1 : Int32) → (P_Claim_isTrue_152 kc len post (1 : Int32) M)))))) ∧
  (¬ (Int32.ofNat len) ≤ x4 → (vp_in x4 len ∧ ∀ x5_1, x5_1 = (irm (M (kc + 1) x4.toNatClampNeg) (32 : Int32)) → ((8 : Int32) ≤ x5_1 → (P_Claim_isTrue_70 kc len post (P_Claim_isTrue_10 kc len post n) x3 x4 x5_1 M)) ∧
  (¬ (8 : Int32) ≤ x5_1 → (((32 : Int32) ≤ x3 → (P_Claim_isTrue_70 kc len post (P_Claim_isTrue_10 kc len post n) x3 x4 x5_1 M)) ∧
  (¬ (32 : Int32) ≤ x3 → (vp_in x4 len ∧ P_Claim_found (fun r2 M2 =>
  vp_in x3 32 ∧ ∀ M3, M3 = ms M2 77 x3.toNatClampNeg r2 → P_Claim_isTrue_130 kc len post (P_Claim_isTrue_10 kc len post n) (x3 + (1 : Int32)) x4 M3) x5_1 ((M (kc + 1) x4.toNatClampNeg) / (32 : Int32)) M))))))
theorem k_Claim_isTrue_10 {X : FX} {g : GT} {ext : List CD} {A : Nat → Prop} {Z : State → Prop} {post : Int32 → Mem → Prop} {kc len : Nat} (hk : (layC ++ ext)[kc]? = some (4, 1, [some (kc + 1)])) (hk2 : (layC ++ ext)[kc + 1]? = some (0, len, [])) (C : Cx X g (layC ++ ext) A cX1_isTrue 6 RX1 2) (hr : 0 ≤ X.2.2.2.1.cells ∧ 0 ≤ X.2.2.2.1.slots) (hR : RetZ X g (layC ++ ext) A cX1_isTrue 6 0 0 Z post) : ∀ (n : Nat) (x3 x4 : Int32) (M : Mem), P_Claim_isTrue_10 kc len post n x3 x4 M → AtX X g (layC ++ ext) A 6 0 0 Z 10 [(0, .ref (ad g kc)), (1, .ref (ad g 69)), (2, .ref (ad g 77)), (3, .int x3), (4, .int x4)] [] M := by
  intro n
  induction n with
  | zero =>
    intro x3 x4 M h
    exact h.elim
  | succ n ih =>
    intro x3 x4 M h
    refine a_iload C (tk T_cX1_isTrue 7 rfl) rfl ?_
    refine a_aload_n C (tk T_cX1_isTrue 8 rfl) rfl ?_
    refine a_getR C f_RX1_15 (tk T_cX1_isTrue 9 rfl) hk rfl ?_
    refine a_alen0 C (tk T_cX1_isTrue 10 rfl) hk2 rfl ?_
    refine a_icmp_ge C 136 (tk T_cX1_isTrue 11 rfl) rfl (fun c => ?_) (fun c => ?_)
    · have h := h.1 c
      refine a_iload_n C (tk T_cX1_isTrue 82 rfl) rfl ?_
      refine a_if_le C 151 (tk T_cX1_isTrue 83 rfl) rfl (fun c => ?_) (fun c => ?_)
      · have h := h.1 c
        exact a_to (k_Claim_isTrue_151 hk hk2 C hr hR M h) rfl
      · have h := h.2 c
        refine a_aload_n C (tk T_cX1_isTrue 84 rfl) rfl ?_
        refine a_iconst C (0 : Int32) (tk T_cX1_isTrue 85 rfl) kI_0 ?_
        obtain ⟨hb, h⟩ := h
        refine a_iald C (tk T_cX1_isTrue 86 rfl) lc77 hb ?_
        refine a_iconst C (1 : Int32) (tk T_cX1_isTrue 87 rfl) kI_1 ?_
        refine a_icmp_ne C 151 (tk T_cX1_isTrue 88 rfl) rfl (fun c => ?_) (fun c => ?_)
        · have h := h.1 c
          exact a_to (k_Claim_isTrue_151 hk hk2 C hr hR M h) rfl
        · have h := h.2 c
          refine a_iconst C (1 : Int32) (tk T_cX1_isTrue 89 rfl) kI_1 ?_
          refine a_goto C 152 (tk T_cX1_isTrue 90 rfl) rfl ?_
          exact a_to (k_Claim_isTrue_152 hk hk2 C hr hR (1 : Int32) M h) rfl
    · have h := h.2 c
      refine a_aload_n C (tk T_cX1_isTrue 12 rfl) rfl ?_
      refine a_getR C f_RX1_15 (tk T_cX1_isTrue 13 rfl) hk rfl ?_
      refine a_iload C (tk T_cX1_isTrue 14 rfl) rfl ?_
      obtain ⟨hb, h⟩ := h
      refine a_iald C (tk T_cX1_isTrue 15 rfl) hk2 hb ?_
      refine a_bipush C (32 : Int32) (tk T_cX1_isTrue 16 rfl) kB_32 ?_
      refine a_irem C (tk T_cX1_isTrue 17 rfl) (by decide) ?_
      refine a_top (fun x5_1 e_x5_1 => ?_)
      have h := h x5_1 e_x5_1
      refine a_istore C (tk T_cX1_isTrue 18 rfl) (by decide) rfl ?_
      refine a_iload C (tk T_cX1_isTrue 19 rfl) rfl ?_
      refine a_bipush C (8 : Int32) (tk T_cX1_isTrue 20 rfl) kB_8 ?_
      refine a_icmp_ge C 70 (tk T_cX1_isTrue 21 rfl) rfl (fun c => ?_) (fun c => ?_)
      · have h := h.1 c
        exact a_to (k_Claim_isTrue_70 hk hk2 C hr hR ih x3 x4 x5_1 M h) rfl
      · have h := h.2 c
        refine a_iload_n C (tk T_cX1_isTrue 22 rfl) rfl ?_
        refine a_bipush C (32 : Int32) (tk T_cX1_isTrue 23 rfl) kB_32 ?_
        refine a_icmp_ge C 70 (tk T_cX1_isTrue 24 rfl) rfl (fun c => ?_) (fun c => ?_)
        · have h := h.1 c
          exact a_to (k_Claim_isTrue_70 hk hk2 C hr hR ih x3 x4 x5_1 M h) rfl
        · have h := h.2 c
          refine a_aload_n C (tk T_cX1_isTrue 25 rfl) rfl ?_
          refine a_iload_n C (tk T_cX1_isTrue 26 rfl) rfl ?_
          refine a_iload C (tk T_cX1_isTrue 27 rfl) rfl ?_
          refine a_aload_n C (tk T_cX1_isTrue 28 rfl) rfl ?_
          refine a_getR C f_RX1_15 (tk T_cX1_isTrue 29 rfl) hk rfl ?_
          refine a_iload C (tk T_cX1_isTrue 30 rfl) rfl ?_
          obtain ⟨hb, h⟩ := h
          refine a_iald C (tk T_cX1_isTrue 31 rfl) hk2 hb ?_
          refine a_bipush C (32 : Int32) (tk T_cX1_isTrue 32 rfl) kB_32 ?_
          refine a_idiv C (tk T_cX1_isTrue 33 rfl) (by decide) ?_
          refine a_aload_n C (tk T_cX1_isTrue 34 rfl) rfl ?_
          refine a_statI C [.int x5_1, .int ((M (kc + 1) x4.toNatClampNeg) / (32 : Int32)), .ref (ad g 69)] me_yX1_found lk_RX1_26 (ct_Claim_found h) (by decide) rfl rfl (Nat.le_of_ble_eq_true rfl) (tk T_cX1_isTrue 35 rfl) hr (fun r2 M2 h => ?_)
          obtain ⟨hb, h⟩ := h
          refine a_iast C (tk T_cX1_isTrue 36 rfl) lc77 hb ?_
          refine a_mem (fun M3 e_M3 => ?_)
          have h := h M3 e_M3
          refine a_iinc C (1 : Int32) (tk T_cX1_isTrue 37 rfl) rfl kI_1 (by decide) rfl ?_
          refine a_goto C 130 (tk T_cX1_isTrue 38 rfl) rfl ?_
          exact a_to (k_Claim_isTrue_130 hk hk2 C hr hR ih (x3 + (1 : Int32)) x4 M3 h) rfl
def P_Claim_isTrue (kc len : Nat) (post : Int32 → Mem → Prop) (M : Mem) : Prop :=
  ∃ j10, P_Claim_isTrue_10 kc len post j10 (0 : Int32) (0 : Int32) M
theorem k_Claim_isTrue {X : FX} {g : GT} {ext : List CD} {A : Nat → Prop} {Z : State → Prop} {post : Int32 → Mem → Prop} {kc len : Nat} (hk : (layC ++ ext)[kc]? = some (4, 1, [some (kc + 1)])) (hk2 : (layC ++ ext)[kc + 1]? = some (0, len, [])) (C : Cx X g (layC ++ ext) A cX1_isTrue 6 RX1 2) (hr : 0 ≤ X.2.2.2.1.cells ∧ 0 ≤ X.2.2.2.1.slots) (hR : RetZ X g (layC ++ ext) A cX1_isTrue 6 0 0 Z post) (M : Mem) (h : P_Claim_isTrue kc len post M) : AtX X g (layC ++ ext) A 6 0 0 Z 0 [(0, .ref (ad g kc)), (1, .ref (ad g 69))] [] M := by
  refine a_aload_n C (tk T_cX1_isTrue 0 rfl) rfl ?_
  refine a_getR C f_RX1_21 (tk T_cX1_isTrue 1 rfl) lc69 rfl ?_
  refine a_astore_n C (tk T_cX1_isTrue 2 rfl) (by decide) rfl ?_
  refine a_iconst C (0 : Int32) (tk T_cX1_isTrue 3 rfl) kI_0 ?_
  refine a_istore_n C (tk T_cX1_isTrue 4 rfl) (by decide) rfl ?_
  refine a_iconst C (0 : Int32) (tk T_cX1_isTrue 5 rfl) kI_0 ?_
  refine a_istore C (tk T_cX1_isTrue 6 rfl) (by decide) rfl ?_
  obtain ⟨n1, h⟩ := h
  exact a_to (k_Claim_isTrue_10 hk hk2 C hr hR n1 (0 : Int32) (0 : Int32) M h) rfl
theorem ct_Claim_isTrue {l : Launch} {g : GT} {ext : List CD} {post : Int32 → Mem → Prop} {kc len : Nat} (hk : (layC ++ ext)[kc]? = some (4, 1, [some (kc + 1)])) (hk2 : (layC ++ ext)[kc + 1]? = some (0, len, [])) {M : Mem} (h : P_Claim_isTrue kc len post M) : CI l g (layC ++ ext) yX1_isTrue cX1_isTrue 6 (some .boolean) 2 [.ref (ad g kc), .ref (ad g 69)] M post :=
  cz_of (plainFor_of_name (by decide +kernel)) (Nat.le_of_ble_eq_true rfl) (fun X A Z hl C hr hR => by subst hl; exact k_Claim_isTrue hk hk2 C hr hR  M h)
def T_cX11_holdsL : List (Nat × Instr × Nat) := [(0, .iload_n 1, 1), (1, .iconst 0, 1), (2, .aload_n 0, 1), (3, .getfield 10, 3), (6, .getfield 382, 3), (9, .iconst 1, 1), (10, .isub, 1), (11, .invokestatic 68, 3), (14, .invokestatic 201, 3), (17, .aload_n 0, 1), (18, .iload_n 2, 1), (19, .invokevirtual 232, 3), (22, .aload_n 0, 1), (23, .getfield 10, 3), (26, .getfield 385, 3), (29, .iload_n 1, 1), (30, .aaload, 1), (31, .astore_n 3, 1), (32, .aload_n 3, 1), (33, .ifnonnull 5, 3), (36, .iconst 0, 1), (37, .ireturn, 1), (38, .aload_n 0, 1), (39, .getfield 33, 3), (42, .iload_n 2, 1), (43, .invokevirtual 264, 3), (46, .aload_n 0, 1), (47, .getfield 33, 3), (50, .invokevirtual 271, 3), (53, .aload_n 3, 1), (54, .aload_n 0, 1), (55, .getfield 33, 3), (58, .invokevirtual 401, 3), (61, .ireturn, 1)]
theorem T_cX11_holds : tabOK cX11_holds T_cX11_holdsL = true := by decide +kernel
def P_R_holds (ext : List CD) (post : Int32 → Mem → Prop) (ex : String → Mem → Prop) (x1 x2 : Int32) (M : Mem) : Prop :=
  P_R_within (fun r1 M1 =>
  P_R_wantThere (fun M2 =>
  P_R_wantPlate (fun M3 =>
  vp_in x1 6 ∧ (¬ (M3 31 x1.toNatClampNeg) = 0) ∧ ∃ kc len : Nat, kc = (M3 31 x1.toNatClampNeg).toNatClampNeg ∧ (layC ++ ext)[kc]? = some (4, 1, [some (kc + 1)]) ∧ (layC ++ ext)[kc + 1]? = some (0, len, []) ∧ P_Judge_open (fun M4 =>
  P_Judge_tallySets (fun M5 =>
  P_Claim_isTrue kc len (fun r6 M6 =>
  (r6 = 0 ∨ r6 = 1) ∧ post r6 M6) M5) M4) x2 M3) ex x2 M2) ex r1 M1) x1 (0 : Int32) ((M 1 8) - (1 : Int32)) M
theorem k_R_holds {X : FX} {g : GT} {ext : List CD} {A : Nat → Prop} {Z : State → Prop} {post : Int32 → Mem → Prop} {ex : String → Mem → Prop} {sk : Nat → Nat} (C : CxX X g (layC ++ ext) A cX11_holds 4 RX11 8 2 sk) (hT : ThX X g (layC ++ ext) A 2 Z ex) (hR : RetZ X g (layC ++ ext) A cX11_holds 4 2 (6 * 2) Z post) (x1 x2 : Int32) (M : Mem) (h : P_R_holds ext post ex x1 x2 M) : AtX X g (layC ++ ext) A 4 0 0 Z 0 [(0, .ref (ad g 0)), (1, .int x1), (2, .int x2)] [] M := by
  refine a_iload_n C.1 (tk T_cX11_holds 0 rfl) rfl ?_
  refine a_iconst C.1 (0 : Int32) (tk T_cX11_holds 1 rfl) kI_0 ?_
  refine a_aload_n C.1 (tk T_cX11_holds 2 rfl) rfl ?_
  refine a_getR C.1 f_RX11_10 (tk T_cX11_holds 3 rfl) lc0 rfl ?_
  refine a_getI C.1 f_RX11_382 (tk T_cX11_holds 4 rfl) lc1 rfl ?_
  refine a_iconst C.1 (1 : Int32) (tk T_cX11_holds 5 rfl) kI_1 ?_
  refine a_isub C.1 (tk T_cX11_holds 6 rfl) ?_
  refine a_statI C.1 [.int x1, .int (0 : Int32), .int ((M 1 8) - (1 : Int32))] me_yX11_within lk_RX11_68 (ct_R_within h) (by decide) rfl rfl (Nat.le_of_ble_eq_true rfl) (tk T_cX11_holds 7 rfl) ⟨Nat.le_trans (by decide) C.2.2.1, Nat.le_trans (by decide) C.2.2.2⟩ (fun r1 M1 h => ?_)
  refine x_statV C hT [.int r1] me_yX11_wantThere lk_RX11_201 (ct_R_wantThere h) (by decide) rfl rfl (Nat.le_of_ble_eq_true rfl) (tk T_cX11_holds 8 rfl) (by decide) (fun M2 h => ?_)
  refine a_aload_n C.1 (tk T_cX11_holds 9 rfl) rfl ?_
  refine a_iload_n C.1 (tk T_cX11_holds 10 rfl) rfl ?_
  refine x_callV C hT [.int x2] me_yX11_wantPlate lk_RX11_232 (ct_R_wantPlate h) (by decide) lc0 rfl rfl rfl (Nat.le_of_ble_eq_true rfl) (tk T_cX11_holds 11 rfl) (by decide) (fun M3 h => ?_)
  refine a_aload_n C.1 (tk T_cX11_holds 12 rfl) rfl ?_
  refine a_getR C.1 f_RX11_10 (tk T_cX11_holds 13 rfl) lc0 rfl ?_
  refine a_getR C.1 f_RX11_385 (tk T_cX11_holds 14 rfl) lc1 rfl ?_
  refine a_iload_n C.1 (tk T_cX11_holds 15 rfl) rfl ?_
  obtain ⟨hb, h⟩ := h
  refine a_aald C.1 (tk T_cX11_holds 16 rfl) lc31 hb ?_
  obtain ⟨hx0, kc, len, ekc, hk, hk2, h⟩ := h
  refine a_cref hx0 ekc ?_
  refine a_astore_n C.1 (tk T_cX11_holds 17 rfl) (by decide) rfl ?_
  refine a_aload_n C.1 (tk T_cX11_holds 18 rfl) rfl ?_
  refine a_ifnn C.1 38 (tk T_cX11_holds 19 rfl) rfl ?_
  refine a_aload_n C.1 (tk T_cX11_holds 22 rfl) rfl ?_
  refine a_getR C.1 f_RX11_33 (tk T_cX11_holds 23 rfl) lc0 rfl ?_
  refine a_iload_n C.1 (tk T_cX11_holds 24 rfl) rfl ?_
  refine a_callV C.1 [.int x2] me_yX3_open lk_RX11_264 (ct_Judge_open h) (by decide) lc69 rfl rfl rfl (Nat.le_of_ble_eq_true rfl) (tk T_cX11_holds 25 rfl) ⟨Nat.le_trans (by decide) C.2.2.1, Nat.le_trans (by decide) C.2.2.2⟩ (fun M4 h => ?_)
  refine a_aload_n C.1 (tk T_cX11_holds 26 rfl) rfl ?_
  refine a_getR C.1 f_RX11_33 (tk T_cX11_holds 27 rfl) lc0 rfl ?_
  refine a_callV C.1 [] me_yX3_tallySets lk_RX11_271 (ct_Judge_tallySets h) (by decide) lc69 rfl rfl rfl (Nat.le_of_ble_eq_true rfl) (tk T_cX11_holds 28 rfl) ⟨Nat.le_trans (by decide) C.2.2.1, Nat.le_trans (by decide) C.2.2.2⟩ (fun M5 h => ?_)
  refine a_aload_n C.1 (tk T_cX11_holds 29 rfl) rfl ?_
  refine a_aload_n C.1 (tk T_cX11_holds 30 rfl) rfl ?_
  refine a_getR C.1 f_RX11_33 (tk T_cX11_holds 31 rfl) lc0 rfl ?_
  refine a_callI C.1 [.ref (ad g 69)] me_yX1_isTrue lk_RX11_401 (ct_Claim_isTrue hk hk2 h) (by decide) hk rfl rfl rfl (Nat.le_of_ble_eq_true rfl) (tk T_cX11_holds 32 rfl) ⟨Nat.le_trans (by decide) C.2.2.1, Nat.le_trans (by decide) C.2.2.2⟩ (fun r6 M6 h => ?_)
  exact x_widen (by decide) (by decide) (hR _ _ _ _ (tk T_cX11_holds 33 rfl) h)
theorem ct_R_holds {l : Launch} {g : GT} {ext : List CD} {sk : Nat → Nat} {post : Int32 → Mem → Prop} {ex : String → Mem → Prop} {x1 x2 : Int32} {M : Mem} (h : P_R_holds ext post ex x1 x2 M) : XI l g (layC ++ ext) sk yX11_holds cX11_holds 4 (some .boolean) 8 2 [.ref (ad g 0), .int x1, .int x2] M post ex :=
  xz_of (by decide +kernel) (Nat.le_of_ble_eq_true rfl) (fun X A Z hl C hR hT _ => by subst hl; exact k_R_holds C hT hR x1 x2 M h)
def T_cX8_becomeL : List (Nat × Instr × Nat) := [(0, .iconst 0, 1), (1, .istore_n 2, 1), (2, .iload_n 2, 1), (3, .bipush 8, 2), (5, .if_icmp .ge 69, 3), (8, .aload_n 0, 1), (9, .getfield 9, 3), (12, .iload_n 2, 1), (13, .aload_n 1, 1), (14, .getfield 9, 3), (17, .iload_n 2, 1), (18, .iaload, 1), (19, .iastore, 1), (20, .aload_n 0, 1), (21, .getfield 15, 3), (24, .iload_n 2, 1), (25, .aload_n 1, 1), (26, .getfield 15, 3), (29, .iload_n 2, 1), (30, .baload, 1), (31, .bastore, 1), (32, .aload_n 0, 1), (33, .getfield 19, 3), (36, .iload_n 2, 1), (37, .aload_n 1, 1), (38, .getfield 19, 3), (41, .iload_n 2, 1), (42, .iaload, 1), (43, .iastore, 1), (44, .aload_n 0, 1), (45, .getfield 22, 3), (48, .iload_n 2, 1), (49, .aload_n 1, 1), (50, .getfield 22, 3), (53, .iload_n 2, 1), (54, .baload, 1), (55, .bastore, 1), (56, .aload_n 0, 1), (57, .getfield 25, 3), (60, .iload_n 2, 1), (61, .aload_n 1, 1), (62, .getfield 25, 3), (65, .iload_n 2, 1), (66, .iaload, 1), (67, .iastore, 1), (68, .iinc 2 1, 3), (71, .goto (-69), 3), (74, .aload_n 0, 1), (75, .aload_n 1, 1), (76, .getfield 32, 3), (79, .putfield 32, 3), (82, .aload_n 0, 1), (83, .aload_n 1, 1), (84, .getfield 28, 3), (87, .putfield 28, 3), (90, .aload_n 0, 1), (91, .aload_n 1, 1), (92, .getfield 35, 3), (95, .putfield 35, 3), (98, .aload_n 0, 1), (99, .aload_n 1, 1), (100, .getfield 38, 3), (103, .putfield 38, 3), (106, .aload_n 0, 1), (107, .aload_n 1, 1), (108, .getfield 41, 3), (111, .putfield 41, 3), (114, .return_, 1)]
theorem T_cX8_become : tabOK cX8_become T_cX8_becomeL = true := by decide +kernel
def P_Screw_become_2 (post : Mem → Prop) : Nat → Int32 → Mem → Prop
  | 0, _, _ => False
  | n + 1, x2, M =>
    ((8 : Int32) ≤ x2 → (∀ M1, M1 = ms M 33 5 (M 2 5) → ∀ M2, M2 = ms M1 33 6 (M1 2 6) → ∀ M3, M3 = ms M2 33 7 (M2 2 7) → ∀ M4, M4 = ms M3 33 8 (M3 2 8) → ∀ M5, M5 = ms M4 33 9 (M4 2 9) → post M5)) ∧
  (¬ (8 : Int32) ≤ x2 → (vp_in x2 8 ∧ vp_in x2 8 ∧ ∀ M6, M6 = ms M 34 x2.toNatClampNeg (M 3 x2.toNatClampNeg) → vp_in x2 8 ∧ vp_in x2 8 ∧ ∀ M7, M7 = ms M6 35 x2.toNatClampNeg (vp_nar .boolean (M6 4 x2.toNatClampNeg)) → vp_in x2 8 ∧ vp_in x2 8 ∧ ∀ M8, M8 = ms M7 36 x2.toNatClampNeg (M7 5 x2.toNatClampNeg) → vp_in x2 8 ∧ vp_in x2 8 ∧ ∀ M9, M9 = ms M8 37 x2.toNatClampNeg (vp_nar .boolean (M8 6 x2.toNatClampNeg)) → vp_in x2 8 ∧ vp_in x2 8 ∧ ∀ M10, M10 = ms M9 38 x2.toNatClampNeg (M9 7 x2.toNatClampNeg) → P_Screw_become_2 post n (x2 + (1 : Int32)) M10))
theorem k_Screw_become_2 {X : FX} {g : GT} {ext : List CD} {A : Nat → Prop} {Z : State → Prop} {post : Mem → Prop} (C : Cx X g (layC ++ ext) A cX8_become 3 RX8 0) (hr : 0 ≤ X.2.2.2.1.cells ∧ 0 ≤ X.2.2.2.1.slots) (hR : RetV X g (layC ++ ext) A cX8_become 3 0 0 Z post) : ∀ (n : Nat) (x2 : Int32) (M : Mem), P_Screw_become_2 post n x2 M → AtX X g (layC ++ ext) A 3 0 0 Z 2 [(0, .ref (ad g 33)), (1, .ref (ad g 2)), (2, .int x2)] [] M := by
  intro n
  induction n with
  | zero =>
    intro x2 M h
    exact h.elim
  | succ n ih =>
    intro x2 M h
    refine a_iload_n C (tk T_cX8_become 2 rfl) rfl ?_
    refine a_bipush C (8 : Int32) (tk T_cX8_become 3 rfl) kB_8 ?_
    refine a_icmp_ge C 74 (tk T_cX8_become 4 rfl) rfl (fun c => ?_) (fun c => ?_)
    · have h := h.1 c
      refine a_aload_n C (tk T_cX8_become 47 rfl) rfl ?_
      refine a_aload_n C (tk T_cX8_become 48 rfl) rfl ?_
      refine a_getI C f_RX8_32 (tk T_cX8_become 49 rfl) lc2 rfl ?_
      refine a_put C f_RX8_32 f_RX8_32p rfl rfl (tk T_cX8_become 50 rfl) lc33 rfl ?_
      refine a_mem (fun M1 e_M1 => ?_)
      have h := h M1 e_M1
      refine a_aload_n C (tk T_cX8_become 51 rfl) rfl ?_
      refine a_aload_n C (tk T_cX8_become 52 rfl) rfl ?_
      refine a_getI C f_RX8_28 (tk T_cX8_become 53 rfl) lc2 rfl ?_
      refine a_put C f_RX8_28 f_RX8_28p rfl rfl (tk T_cX8_become 54 rfl) lc33 rfl ?_
      refine a_mem (fun M2 e_M2 => ?_)
      have h := h M2 e_M2
      refine a_aload_n C (tk T_cX8_become 55 rfl) rfl ?_
      refine a_aload_n C (tk T_cX8_become 56 rfl) rfl ?_
      refine a_getI C f_RX8_35 (tk T_cX8_become 57 rfl) lc2 rfl ?_
      refine a_put C f_RX8_35 f_RX8_35p rfl rfl (tk T_cX8_become 58 rfl) lc33 rfl ?_
      refine a_mem (fun M3 e_M3 => ?_)
      have h := h M3 e_M3
      refine a_aload_n C (tk T_cX8_become 59 rfl) rfl ?_
      refine a_aload_n C (tk T_cX8_become 60 rfl) rfl ?_
      refine a_getI C f_RX8_38 (tk T_cX8_become 61 rfl) lc2 rfl ?_
      refine a_put C f_RX8_38 f_RX8_38p rfl rfl (tk T_cX8_become 62 rfl) lc33 rfl ?_
      refine a_mem (fun M4 e_M4 => ?_)
      have h := h M4 e_M4
      refine a_aload_n C (tk T_cX8_become 63 rfl) rfl ?_
      refine a_aload_n C (tk T_cX8_become 64 rfl) rfl ?_
      refine a_getI C f_RX8_41 (tk T_cX8_become 65 rfl) lc2 rfl ?_
      refine a_put C f_RX8_41 f_RX8_41p rfl rfl (tk T_cX8_become 66 rfl) lc33 rfl ?_
      refine a_mem (fun M5 e_M5 => ?_)
      have h := h M5 e_M5
      exact hR _ _ _ (tk T_cX8_become 67 rfl) h
    · have h := h.2 c
      refine a_aload_n C (tk T_cX8_become 5 rfl) rfl ?_
      refine a_getR C f_RX8_9 (tk T_cX8_become 6 rfl) lc33 rfl ?_
      refine a_iload_n C (tk T_cX8_become 7 rfl) rfl ?_
      refine a_aload_n C (tk T_cX8_become 8 rfl) rfl ?_
      refine a_getR C f_RX8_9 (tk T_cX8_become 9 rfl) lc2 rfl ?_
      refine a_iload_n C (tk T_cX8_become 10 rfl) rfl ?_
      obtain ⟨hb, h⟩ := h
      refine a_iald C (tk T_cX8_become 11 rfl) lc3 hb ?_
      obtain ⟨hb, h⟩ := h
      refine a_iast C (tk T_cX8_become 12 rfl) lc34 hb ?_
      refine a_mem (fun M6 e_M6 => ?_)
      have h := h M6 e_M6
      refine a_aload_n C (tk T_cX8_become 13 rfl) rfl ?_
      refine a_getR C f_RX8_15 (tk T_cX8_become 14 rfl) lc33 rfl ?_
      refine a_iload_n C (tk T_cX8_become 15 rfl) rfl ?_
      refine a_aload_n C (tk T_cX8_become 16 rfl) rfl ?_
      refine a_getR C f_RX8_15 (tk T_cX8_become 17 rfl) lc2 rfl ?_
      refine a_iload_n C (tk T_cX8_become 18 rfl) rfl ?_
      obtain ⟨hb, h⟩ := h
      refine a_zald C (tk T_cX8_become 19 rfl) lc4 hb ?_
      obtain ⟨hb, h⟩ := h
      refine a_zast C (tk T_cX8_become 20 rfl) lc35 hb ?_
      refine a_mem (fun M7 e_M7 => ?_)
      have h := h M7 e_M7
      refine a_aload_n C (tk T_cX8_become 21 rfl) rfl ?_
      refine a_getR C f_RX8_19 (tk T_cX8_become 22 rfl) lc33 rfl ?_
      refine a_iload_n C (tk T_cX8_become 23 rfl) rfl ?_
      refine a_aload_n C (tk T_cX8_become 24 rfl) rfl ?_
      refine a_getR C f_RX8_19 (tk T_cX8_become 25 rfl) lc2 rfl ?_
      refine a_iload_n C (tk T_cX8_become 26 rfl) rfl ?_
      obtain ⟨hb, h⟩ := h
      refine a_iald C (tk T_cX8_become 27 rfl) lc5 hb ?_
      obtain ⟨hb, h⟩ := h
      refine a_iast C (tk T_cX8_become 28 rfl) lc36 hb ?_
      refine a_mem (fun M8 e_M8 => ?_)
      have h := h M8 e_M8
      refine a_aload_n C (tk T_cX8_become 29 rfl) rfl ?_
      refine a_getR C f_RX8_22 (tk T_cX8_become 30 rfl) lc33 rfl ?_
      refine a_iload_n C (tk T_cX8_become 31 rfl) rfl ?_
      refine a_aload_n C (tk T_cX8_become 32 rfl) rfl ?_
      refine a_getR C f_RX8_22 (tk T_cX8_become 33 rfl) lc2 rfl ?_
      refine a_iload_n C (tk T_cX8_become 34 rfl) rfl ?_
      obtain ⟨hb, h⟩ := h
      refine a_zald C (tk T_cX8_become 35 rfl) lc6 hb ?_
      obtain ⟨hb, h⟩ := h
      refine a_zast C (tk T_cX8_become 36 rfl) lc37 hb ?_
      refine a_mem (fun M9 e_M9 => ?_)
      have h := h M9 e_M9
      refine a_aload_n C (tk T_cX8_become 37 rfl) rfl ?_
      refine a_getR C f_RX8_25 (tk T_cX8_become 38 rfl) lc33 rfl ?_
      refine a_iload_n C (tk T_cX8_become 39 rfl) rfl ?_
      refine a_aload_n C (tk T_cX8_become 40 rfl) rfl ?_
      refine a_getR C f_RX8_25 (tk T_cX8_become 41 rfl) lc2 rfl ?_
      refine a_iload_n C (tk T_cX8_become 42 rfl) rfl ?_
      obtain ⟨hb, h⟩ := h
      refine a_iald C (tk T_cX8_become 43 rfl) lc7 hb ?_
      obtain ⟨hb, h⟩ := h
      refine a_iast C (tk T_cX8_become 44 rfl) lc38 hb ?_
      refine a_mem (fun M10 e_M10 => ?_)
      have h := h M10 e_M10
      refine a_iinc C (1 : Int32) (tk T_cX8_become 45 rfl) rfl kI_1 (by decide) rfl ?_
      refine a_goto C 2 (tk T_cX8_become 46 rfl) rfl ?_
      exact a_to (ih (x2 + (1 : Int32)) M10 h) rfl
def P_Screw_become (post : Mem → Prop) (M : Mem) : Prop :=
  ∃ j2, P_Screw_become_2 post j2 (0 : Int32) M
theorem k_Screw_become {X : FX} {g : GT} {ext : List CD} {A : Nat → Prop} {Z : State → Prop} {post : Mem → Prop} (C : Cx X g (layC ++ ext) A cX8_become 3 RX8 0) (hr : 0 ≤ X.2.2.2.1.cells ∧ 0 ≤ X.2.2.2.1.slots) (hR : RetV X g (layC ++ ext) A cX8_become 3 0 0 Z post) (M : Mem) (h : P_Screw_become post M) : AtX X g (layC ++ ext) A 3 0 0 Z 0 [(0, .ref (ad g 33)), (1, .ref (ad g 2))] [] M := by
  refine a_iconst C (0 : Int32) (tk T_cX8_become 0 rfl) kI_0 ?_
  refine a_istore_n C (tk T_cX8_become 1 rfl) (by decide) rfl ?_
  obtain ⟨n1, h⟩ := h
  exact a_to (k_Screw_become_2 C hr hR n1 (0 : Int32) M h) rfl
theorem ct_Screw_become {l : Launch} {g : GT} {ext : List CD} {post : Mem → Prop} {M : Mem} (h : P_Screw_become post M) : CV l g (layC ++ ext) yX8_become cX8_become 3 none 0 [.ref (ad g 33), .ref (ad g 2)] M post :=
  cv_of (plainFor_of_name (by decide +kernel)) (Nat.le_of_ble_eq_true rfl) (fun X A Z hl C hr hR => by subst hl; exact k_Screw_become C hr hR  M h)
def T_cX4_becomeL : List (Nat × Instr × Nat) := [(0, .iconst 0, 1), (1, .istore_n 2, 1), (2, .iload_n 2, 1), (3, .bipush 10, 2), (5, .if_icmp .ge 57, 3), (8, .aload_n 0, 1), (9, .getfield 9, 3), (12, .iload_n 2, 1), (13, .aload_n 1, 1), (14, .getfield 9, 3), (17, .iload_n 2, 1), (18, .iaload, 1), (19, .iastore, 1), (20, .aload_n 0, 1), (21, .getfield 15, 3), (24, .iload_n 2, 1), (25, .aload_n 1, 1), (26, .getfield 15, 3), (29, .iload_n 2, 1), (30, .baload, 1), (31, .bastore, 1), (32, .aload_n 0, 1), (33, .getfield 19, 3), (36, .iload_n 2, 1), (37, .aload_n 1, 1), (38, .getfield 19, 3), (41, .iload_n 2, 1), (42, .iaload, 1), (43, .iastore, 1), (44, .aload_n 0, 1), (45, .getfield 22, 3), (48, .iload_n 2, 1), (49, .aload_n 1, 1), (50, .getfield 22, 3), (53, .iload_n 2, 1), (54, .baload, 1), (55, .bastore, 1), (56, .iinc 2 1, 3), (59, .goto (-57), 3), (62, .aload_n 0, 1), (63, .aload_n 1, 1), (64, .getfield 29, 3), (67, .putfield 29, 3), (70, .aload_n 0, 1), (71, .aload_n 1, 1), (72, .getfield 25, 3), (75, .putfield 25, 3), (78, .return_, 1)]
theorem T_cX4_become : tabOK cX4_become T_cX4_becomeL = true := by decide +kernel
def P_Knowns_become_2 (post : Mem → Prop) : Nat → Int32 → Mem → Prop
  | 0, _, _ => False
  | n + 1, x2, M =>
    ((10 : Int32) ≤ x2 → (∀ M1, M1 = ms M 39 4 (M 8 4) → ∀ M2, M2 = ms M1 39 5 (M1 8 5) → post M2)) ∧
  (¬ (10 : Int32) ≤ x2 → (vp_in x2 10 ∧ vp_in x2 10 ∧ ∀ M3, M3 = ms M 40 x2.toNatClampNeg (M 9 x2.toNatClampNeg) → vp_in x2 10 ∧ vp_in x2 10 ∧ ∀ M4, M4 = ms M3 41 x2.toNatClampNeg (vp_nar .boolean (M3 10 x2.toNatClampNeg)) → vp_in x2 10 ∧ vp_in x2 10 ∧ ∀ M5, M5 = ms M4 42 x2.toNatClampNeg (M4 11 x2.toNatClampNeg) → vp_in x2 10 ∧ vp_in x2 10 ∧ ∀ M6, M6 = ms M5 43 x2.toNatClampNeg (vp_nar .boolean (M5 12 x2.toNatClampNeg)) → P_Knowns_become_2 post n (x2 + (1 : Int32)) M6))
theorem k_Knowns_become_2 {X : FX} {g : GT} {ext : List CD} {A : Nat → Prop} {Z : State → Prop} {post : Mem → Prop} (C : Cx X g (layC ++ ext) A cX4_become 3 RX4 0) (hr : 0 ≤ X.2.2.2.1.cells ∧ 0 ≤ X.2.2.2.1.slots) (hR : RetV X g (layC ++ ext) A cX4_become 3 0 0 Z post) : ∀ (n : Nat) (x2 : Int32) (M : Mem), P_Knowns_become_2 post n x2 M → AtX X g (layC ++ ext) A 3 0 0 Z 2 [(0, .ref (ad g 39)), (1, .ref (ad g 8)), (2, .int x2)] [] M := by
  intro n
  induction n with
  | zero =>
    intro x2 M h
    exact h.elim
  | succ n ih =>
    intro x2 M h
    refine a_iload_n C (tk T_cX4_become 2 rfl) rfl ?_
    refine a_bipush C (10 : Int32) (tk T_cX4_become 3 rfl) kB_10 ?_
    refine a_icmp_ge C 62 (tk T_cX4_become 4 rfl) rfl (fun c => ?_) (fun c => ?_)
    · have h := h.1 c
      refine a_aload_n C (tk T_cX4_become 39 rfl) rfl ?_
      refine a_aload_n C (tk T_cX4_become 40 rfl) rfl ?_
      refine a_getI C f_RX4_29 (tk T_cX4_become 41 rfl) lc8 rfl ?_
      refine a_put C f_RX4_29 f_RX4_29p rfl rfl (tk T_cX4_become 42 rfl) lc39 rfl ?_
      refine a_mem (fun M1 e_M1 => ?_)
      have h := h M1 e_M1
      refine a_aload_n C (tk T_cX4_become 43 rfl) rfl ?_
      refine a_aload_n C (tk T_cX4_become 44 rfl) rfl ?_
      refine a_getI C f_RX4_25 (tk T_cX4_become 45 rfl) lc8 rfl ?_
      refine a_put C f_RX4_25 f_RX4_25p rfl rfl (tk T_cX4_become 46 rfl) lc39 rfl ?_
      refine a_mem (fun M2 e_M2 => ?_)
      have h := h M2 e_M2
      exact hR _ _ _ (tk T_cX4_become 47 rfl) h
    · have h := h.2 c
      refine a_aload_n C (tk T_cX4_become 5 rfl) rfl ?_
      refine a_getR C f_RX4_9 (tk T_cX4_become 6 rfl) lc39 rfl ?_
      refine a_iload_n C (tk T_cX4_become 7 rfl) rfl ?_
      refine a_aload_n C (tk T_cX4_become 8 rfl) rfl ?_
      refine a_getR C f_RX4_9 (tk T_cX4_become 9 rfl) lc8 rfl ?_
      refine a_iload_n C (tk T_cX4_become 10 rfl) rfl ?_
      obtain ⟨hb, h⟩ := h
      refine a_iald C (tk T_cX4_become 11 rfl) lc9 hb ?_
      obtain ⟨hb, h⟩ := h
      refine a_iast C (tk T_cX4_become 12 rfl) lc40 hb ?_
      refine a_mem (fun M3 e_M3 => ?_)
      have h := h M3 e_M3
      refine a_aload_n C (tk T_cX4_become 13 rfl) rfl ?_
      refine a_getR C f_RX4_15 (tk T_cX4_become 14 rfl) lc39 rfl ?_
      refine a_iload_n C (tk T_cX4_become 15 rfl) rfl ?_
      refine a_aload_n C (tk T_cX4_become 16 rfl) rfl ?_
      refine a_getR C f_RX4_15 (tk T_cX4_become 17 rfl) lc8 rfl ?_
      refine a_iload_n C (tk T_cX4_become 18 rfl) rfl ?_
      obtain ⟨hb, h⟩ := h
      refine a_zald C (tk T_cX4_become 19 rfl) lc10 hb ?_
      obtain ⟨hb, h⟩ := h
      refine a_zast C (tk T_cX4_become 20 rfl) lc41 hb ?_
      refine a_mem (fun M4 e_M4 => ?_)
      have h := h M4 e_M4
      refine a_aload_n C (tk T_cX4_become 21 rfl) rfl ?_
      refine a_getR C f_RX4_19 (tk T_cX4_become 22 rfl) lc39 rfl ?_
      refine a_iload_n C (tk T_cX4_become 23 rfl) rfl ?_
      refine a_aload_n C (tk T_cX4_become 24 rfl) rfl ?_
      refine a_getR C f_RX4_19 (tk T_cX4_become 25 rfl) lc8 rfl ?_
      refine a_iload_n C (tk T_cX4_become 26 rfl) rfl ?_
      obtain ⟨hb, h⟩ := h
      refine a_iald C (tk T_cX4_become 27 rfl) lc11 hb ?_
      obtain ⟨hb, h⟩ := h
      refine a_iast C (tk T_cX4_become 28 rfl) lc42 hb ?_
      refine a_mem (fun M5 e_M5 => ?_)
      have h := h M5 e_M5
      refine a_aload_n C (tk T_cX4_become 29 rfl) rfl ?_
      refine a_getR C f_RX4_22 (tk T_cX4_become 30 rfl) lc39 rfl ?_
      refine a_iload_n C (tk T_cX4_become 31 rfl) rfl ?_
      refine a_aload_n C (tk T_cX4_become 32 rfl) rfl ?_
      refine a_getR C f_RX4_22 (tk T_cX4_become 33 rfl) lc8 rfl ?_
      refine a_iload_n C (tk T_cX4_become 34 rfl) rfl ?_
      obtain ⟨hb, h⟩ := h
      refine a_zald C (tk T_cX4_become 35 rfl) lc12 hb ?_
      obtain ⟨hb, h⟩ := h
      refine a_zast C (tk T_cX4_become 36 rfl) lc43 hb ?_
      refine a_mem (fun M6 e_M6 => ?_)
      have h := h M6 e_M6
      refine a_iinc C (1 : Int32) (tk T_cX4_become 37 rfl) rfl kI_1 (by decide) rfl ?_
      refine a_goto C 2 (tk T_cX4_become 38 rfl) rfl ?_
      exact a_to (ih (x2 + (1 : Int32)) M6 h) rfl
def P_Knowns_become (post : Mem → Prop) (M : Mem) : Prop :=
  ∃ j2, P_Knowns_become_2 post j2 (0 : Int32) M
theorem k_Knowns_become {X : FX} {g : GT} {ext : List CD} {A : Nat → Prop} {Z : State → Prop} {post : Mem → Prop} (C : Cx X g (layC ++ ext) A cX4_become 3 RX4 0) (hr : 0 ≤ X.2.2.2.1.cells ∧ 0 ≤ X.2.2.2.1.slots) (hR : RetV X g (layC ++ ext) A cX4_become 3 0 0 Z post) (M : Mem) (h : P_Knowns_become post M) : AtX X g (layC ++ ext) A 3 0 0 Z 0 [(0, .ref (ad g 39)), (1, .ref (ad g 8))] [] M := by
  refine a_iconst C (0 : Int32) (tk T_cX4_become 0 rfl) kI_0 ?_
  refine a_istore_n C (tk T_cX4_become 1 rfl) (by decide) rfl ?_
  obtain ⟨n1, h⟩ := h
  exact a_to (k_Knowns_become_2 C hr hR n1 (0 : Int32) M h) rfl
theorem ct_Knowns_become {l : Launch} {g : GT} {ext : List CD} {post : Mem → Prop} {M : Mem} (h : P_Knowns_become post M) : CV l g (layC ++ ext) yX4_become cX4_become 3 none 0 [.ref (ad g 39), .ref (ad g 8)] M post :=
  cv_of (plainFor_of_name (by decide +kernel)) (Nat.le_of_ble_eq_true rfl) (fun X A Z hl C hr hR => by subst hl; exact k_Knowns_become C hr hR  M h)
def T_cX10_becomeL : List (Nat × Instr × Nat) := [(0, .iconst 0, 1), (1, .istore_n 2, 1), (2, .iload_n 2, 1), (3, .bipush 6, 2), (5, .if_icmp .ge 33, 3), (8, .aload_n 0, 1), (9, .getfield 9, 3), (12, .iload_n 2, 1), (13, .aload_n 1, 1), (14, .getfield 9, 3), (17, .iload_n 2, 1), (18, .baload, 1), (19, .bastore, 1), (20, .aload_n 0, 1), (21, .getfield 15, 3), (24, .iload_n 2, 1), (25, .aload_n 1, 1), (26, .getfield 15, 3), (29, .iload_n 2, 1), (30, .iaload, 1), (31, .iastore, 1), (32, .iinc 2 1, 3), (35, .goto (-33), 3), (38, .iconst 0, 1), (39, .istore_n 2, 1), (40, .iload_n 2, 1), (41, .bipush 36, 2), (43, .if_icmp .ge 33, 3), (46, .aload_n 0, 1), (47, .getfield 19, 3), (50, .iload_n 2, 1), (51, .aload_n 1, 1), (52, .getfield 19, 3), (55, .iload_n 2, 1), (56, .iaload, 1), (57, .iastore, 1), (58, .aload_n 0, 1), (59, .getfield 22, 3), (62, .iload_n 2, 1), (63, .aload_n 1, 1), (64, .getfield 22, 3), (67, .iload_n 2, 1), (68, .iaload, 1), (69, .iastore, 1), (70, .iinc 2 1, 3), (73, .goto (-33), 3), (76, .aload_n 0, 1), (77, .aload_n 1, 1), (78, .getfield 25, 3), (81, .putfield 25, 3), (84, .return_, 1)]
theorem T_cX10_become : tabOK cX10_become T_cX10_becomeL = true := by decide +kernel
def P_Table_become_40 (post : Mem → Prop) : Nat → Int32 → Mem → Prop
  | 0, _, _ => False
  | n + 1, x2, M =>
    ((36 : Int32) ≤ x2 → (∀ M1, M1 = ms M 44 4 (M 13 4) → post M1)) ∧
  (¬ (36 : Int32) ≤ x2 → (vp_in x2 36 ∧ vp_in x2 36 ∧ ∀ M2, M2 = ms M 47 x2.toNatClampNeg (M 16 x2.toNatClampNeg) → vp_in x2 36 ∧ vp_in x2 36 ∧ ∀ M3, M3 = ms M2 48 x2.toNatClampNeg (M2 17 x2.toNatClampNeg) → P_Table_become_40 post n (x2 + (1 : Int32)) M3))
theorem k_Table_become_40 {X : FX} {g : GT} {ext : List CD} {A : Nat → Prop} {Z : State → Prop} {post : Mem → Prop} (C : Cx X g (layC ++ ext) A cX10_become 3 RX10 0) (hr : 0 ≤ X.2.2.2.1.cells ∧ 0 ≤ X.2.2.2.1.slots) (hR : RetV X g (layC ++ ext) A cX10_become 3 0 0 Z post) : ∀ (n : Nat) (x2 : Int32) (M : Mem), P_Table_become_40 post n x2 M → AtX X g (layC ++ ext) A 3 0 0 Z 40 [(0, .ref (ad g 44)), (1, .ref (ad g 13)), (2, .int x2)] [] M := by
  intro n
  induction n with
  | zero =>
    intro x2 M h
    exact h.elim
  | succ n ih =>
    intro x2 M h
    refine a_iload_n C (tk T_cX10_become 25 rfl) rfl ?_
    refine a_bipush C (36 : Int32) (tk T_cX10_become 26 rfl) kB_36 ?_
    refine a_icmp_ge C 76 (tk T_cX10_become 27 rfl) rfl (fun c => ?_) (fun c => ?_)
    · have h := h.1 c
      refine a_aload_n C (tk T_cX10_become 46 rfl) rfl ?_
      refine a_aload_n C (tk T_cX10_become 47 rfl) rfl ?_
      refine a_getI C f_RX10_25 (tk T_cX10_become 48 rfl) lc13 rfl ?_
      refine a_put C f_RX10_25 f_RX10_25p rfl rfl (tk T_cX10_become 49 rfl) lc44 rfl ?_
      refine a_mem (fun M1 e_M1 => ?_)
      have h := h M1 e_M1
      exact hR _ _ _ (tk T_cX10_become 50 rfl) h
    · have h := h.2 c
      refine a_aload_n C (tk T_cX10_become 28 rfl) rfl ?_
      refine a_getR C f_RX10_19 (tk T_cX10_become 29 rfl) lc44 rfl ?_
      refine a_iload_n C (tk T_cX10_become 30 rfl) rfl ?_
      refine a_aload_n C (tk T_cX10_become 31 rfl) rfl ?_
      refine a_getR C f_RX10_19 (tk T_cX10_become 32 rfl) lc13 rfl ?_
      refine a_iload_n C (tk T_cX10_become 33 rfl) rfl ?_
      obtain ⟨hb, h⟩ := h
      refine a_iald C (tk T_cX10_become 34 rfl) lc16 hb ?_
      obtain ⟨hb, h⟩ := h
      refine a_iast C (tk T_cX10_become 35 rfl) lc47 hb ?_
      refine a_mem (fun M2 e_M2 => ?_)
      have h := h M2 e_M2
      refine a_aload_n C (tk T_cX10_become 36 rfl) rfl ?_
      refine a_getR C f_RX10_22 (tk T_cX10_become 37 rfl) lc44 rfl ?_
      refine a_iload_n C (tk T_cX10_become 38 rfl) rfl ?_
      refine a_aload_n C (tk T_cX10_become 39 rfl) rfl ?_
      refine a_getR C f_RX10_22 (tk T_cX10_become 40 rfl) lc13 rfl ?_
      refine a_iload_n C (tk T_cX10_become 41 rfl) rfl ?_
      obtain ⟨hb, h⟩ := h
      refine a_iald C (tk T_cX10_become 42 rfl) lc17 hb ?_
      obtain ⟨hb, h⟩ := h
      refine a_iast C (tk T_cX10_become 43 rfl) lc48 hb ?_
      refine a_mem (fun M3 e_M3 => ?_)
      have h := h M3 e_M3
      refine a_iinc C (1 : Int32) (tk T_cX10_become 44 rfl) rfl kI_1 (by decide) rfl ?_
      refine a_goto C 40 (tk T_cX10_become 45 rfl) rfl ?_
      exact a_to (ih (x2 + (1 : Int32)) M3 h) rfl
def P_Table_become_2 (post : Mem → Prop) : Nat → Int32 → Mem → Prop
  | 0, _, _ => False
  | n + 1, x2, M =>
    ((6 : Int32) ≤ x2 → (∃ j40, P_Table_become_40 post j40 (0 : Int32) M)) ∧
  (¬ (6 : Int32) ≤ x2 → (vp_in x2 6 ∧ vp_in x2 6 ∧ ∀ M1, M1 = ms M 45 x2.toNatClampNeg (vp_nar .boolean (M 14 x2.toNatClampNeg)) → vp_in x2 6 ∧ vp_in x2 6 ∧ ∀ M2, M2 = ms M1 46 x2.toNatClampNeg (M1 15 x2.toNatClampNeg) → P_Table_become_2 post n (x2 + (1 : Int32)) M2))
theorem k_Table_become_2 {X : FX} {g : GT} {ext : List CD} {A : Nat → Prop} {Z : State → Prop} {post : Mem → Prop} (C : Cx X g (layC ++ ext) A cX10_become 3 RX10 0) (hr : 0 ≤ X.2.2.2.1.cells ∧ 0 ≤ X.2.2.2.1.slots) (hR : RetV X g (layC ++ ext) A cX10_become 3 0 0 Z post) : ∀ (n : Nat) (x2 : Int32) (M : Mem), P_Table_become_2 post n x2 M → AtX X g (layC ++ ext) A 3 0 0 Z 2 [(0, .ref (ad g 44)), (1, .ref (ad g 13)), (2, .int x2)] [] M := by
  intro n
  induction n with
  | zero =>
    intro x2 M h
    exact h.elim
  | succ n ih =>
    intro x2 M h
    refine a_iload_n C (tk T_cX10_become 2 rfl) rfl ?_
    refine a_bipush C (6 : Int32) (tk T_cX10_become 3 rfl) kB_6 ?_
    refine a_icmp_ge C 38 (tk T_cX10_become 4 rfl) rfl (fun c => ?_) (fun c => ?_)
    · have h := h.1 c
      refine a_iconst C (0 : Int32) (tk T_cX10_become 23 rfl) kI_0 ?_
      refine a_istore_n C (tk T_cX10_become 24 rfl) (by decide) rfl ?_
      obtain ⟨n1, h⟩ := h
      exact a_to (k_Table_become_40 C hr hR n1 (0 : Int32) M h) rfl
    · have h := h.2 c
      refine a_aload_n C (tk T_cX10_become 5 rfl) rfl ?_
      refine a_getR C f_RX10_9 (tk T_cX10_become 6 rfl) lc44 rfl ?_
      refine a_iload_n C (tk T_cX10_become 7 rfl) rfl ?_
      refine a_aload_n C (tk T_cX10_become 8 rfl) rfl ?_
      refine a_getR C f_RX10_9 (tk T_cX10_become 9 rfl) lc13 rfl ?_
      refine a_iload_n C (tk T_cX10_become 10 rfl) rfl ?_
      obtain ⟨hb, h⟩ := h
      refine a_zald C (tk T_cX10_become 11 rfl) lc14 hb ?_
      obtain ⟨hb, h⟩ := h
      refine a_zast C (tk T_cX10_become 12 rfl) lc45 hb ?_
      refine a_mem (fun M1 e_M1 => ?_)
      have h := h M1 e_M1
      refine a_aload_n C (tk T_cX10_become 13 rfl) rfl ?_
      refine a_getR C f_RX10_15 (tk T_cX10_become 14 rfl) lc44 rfl ?_
      refine a_iload_n C (tk T_cX10_become 15 rfl) rfl ?_
      refine a_aload_n C (tk T_cX10_become 16 rfl) rfl ?_
      refine a_getR C f_RX10_15 (tk T_cX10_become 17 rfl) lc13 rfl ?_
      refine a_iload_n C (tk T_cX10_become 18 rfl) rfl ?_
      obtain ⟨hb, h⟩ := h
      refine a_iald C (tk T_cX10_become 19 rfl) lc15 hb ?_
      obtain ⟨hb, h⟩ := h
      refine a_iast C (tk T_cX10_become 20 rfl) lc46 hb ?_
      refine a_mem (fun M2 e_M2 => ?_)
      have h := h M2 e_M2
      refine a_iinc C (1 : Int32) (tk T_cX10_become 21 rfl) rfl kI_1 (by decide) rfl ?_
      refine a_goto C 2 (tk T_cX10_become 22 rfl) rfl ?_
      exact a_to (ih (x2 + (1 : Int32)) M2 h) rfl
def P_Table_become (post : Mem → Prop) (M : Mem) : Prop :=
  ∃ j2, P_Table_become_2 post j2 (0 : Int32) M
theorem k_Table_become {X : FX} {g : GT} {ext : List CD} {A : Nat → Prop} {Z : State → Prop} {post : Mem → Prop} (C : Cx X g (layC ++ ext) A cX10_become 3 RX10 0) (hr : 0 ≤ X.2.2.2.1.cells ∧ 0 ≤ X.2.2.2.1.slots) (hR : RetV X g (layC ++ ext) A cX10_become 3 0 0 Z post) (M : Mem) (h : P_Table_become post M) : AtX X g (layC ++ ext) A 3 0 0 Z 0 [(0, .ref (ad g 44)), (1, .ref (ad g 13))] [] M := by
  refine a_iconst C (0 : Int32) (tk T_cX10_become 0 rfl) kI_0 ?_
  refine a_istore_n C (tk T_cX10_become 1 rfl) (by decide) rfl ?_
  obtain ⟨n1, h⟩ := h
  exact a_to (k_Table_become_2 C hr hR n1 (0 : Int32) M h) rfl
theorem ct_Table_become {l : Launch} {g : GT} {ext : List CD} {post : Mem → Prop} {M : Mem} (h : P_Table_become post M) : CV l g (layC ++ ext) yX10_become cX10_become 3 none 0 [.ref (ad g 44), .ref (ad g 13)] M post :=
  cv_of (plainFor_of_name (by decide +kernel)) (Nat.le_of_ble_eq_true rfl) (fun X A Z hl C hr hR => by subst hl; exact k_Table_become C hr hR  M h)
def T_cX9_becomeL : List (Nat × Instr × Nat) := [(0, .iconst 0, 1), (1, .istore_n 2, 1), (2, .iload_n 2, 1), (3, .iconst 3, 1), (4, .if_icmp .ge 69, 3), (7, .aload_n 0, 1), (8, .getfield 9, 3), (11, .iload_n 2, 1), (12, .aload_n 1, 1), (13, .getfield 9, 3), (16, .iload_n 2, 1), (17, .iaload, 1), (18, .iastore, 1), (19, .aload_n 0, 1), (20, .getfield 15, 3), (23, .iload_n 2, 1), (24, .aload_n 1, 1), (25, .getfield 15, 3), (28, .iload_n 2, 1), (29, .iaload, 1), (30, .iastore, 1), (31, .aload_n 0, 1), (32, .getfield 18, 3), (35, .iload_n 2, 1), (36, .aload_n 1, 1), (37, .getfield 18, 3), (40, .iload_n 2, 1), (41, .iaload, 1), (42, .iastore, 1), (43, .aload_n 0, 1), (44, .getfield 21, 3), (47, .iload_n 2, 1), (48, .aload_n 1, 1), (49, .getfield 21, 3), (52, .iload_n 2, 1), (53, .iaload, 1), (54, .iastore, 1), (55, .aload_n 0, 1), (56, .getfield 24, 3), (59, .iload_n 2, 1), (60, .aload_n 1, 1), (61, .getfield 24, 3), (64, .iload_n 2, 1), (65, .iaload, 1), (66, .iastore, 1), (67, .iinc 2 1, 3), (70, .goto (-68), 3), (73, .aload_n 0, 1), (74, .aload_n 1, 1), (75, .getfield 43, 3), (78, .putfield 43, 3), (81, .iconst 0, 1), (82, .istore_n 2, 1), (83, .iload_n 2, 1), (84, .bipush 24, 2), (86, .if_icmp .ge 69, 3), (89, .aload_n 0, 1), (90, .getfield 27, 3), (93, .iload_n 2, 1), (94, .aload_n 1, 1), (95, .getfield 27, 3), (98, .iload_n 2, 1), (99, .iaload, 1), (100, .iastore, 1), (101, .aload_n 0, 1), (102, .getfield 30, 3), (105, .iload_n 2, 1), (106, .aload_n 1, 1), (107, .getfield 30, 3), (110, .iload_n 2, 1), (111, .iaload, 1), (112, .iastore, 1), (113, .aload_n 0, 1), (114, .getfield 33, 3), (117, .iload_n 2, 1), (118, .aload_n 1, 1), (119, .getfield 33, 3), (122, .iload_n 2, 1), (123, .baload, 1), (124, .bastore, 1), (125, .aload_n 0, 1), (126, .getfield 37, 3), (129, .iload_n 2, 1), (130, .aload_n 1, 1), (131, .getfield 37, 3), (134, .iload_n 2, 1), (135, .iaload, 1), (136, .iastore, 1), (137, .aload_n 0, 1), (138, .getfield 40, 3), (141, .iload_n 2, 1), (142, .aload_n 1, 1), (143, .getfield 40, 3), (146, .iload_n 2, 1), (147, .iaload, 1), (148, .iastore, 1), (149, .iinc 2 1, 3), (152, .goto (-69), 3), (155, .aload_n 0, 1), (156, .aload_n 1, 1), (157, .getfield 47, 3), (160, .putfield 47, 3), (163, .return_, 1)]
theorem T_cX9_become : tabOK cX9_become T_cX9_becomeL = true := by decide +kernel
def P_Shelf_become_83 (post : Mem → Prop) : Nat → Int32 → Mem → Prop
  | 0, _, _ => False
  | n + 1, x2, M =>
    ((24 : Int32) ≤ x2 → (∀ M1, M1 = ms M 49 11 (M 18 11) → post M1)) ∧
  (¬ (24 : Int32) ≤ x2 → (vp_in x2 24 ∧ vp_in x2 24 ∧ ∀ M2, M2 = ms M 55 x2.toNatClampNeg (M 24 x2.toNatClampNeg) → vp_in x2 24 ∧ vp_in x2 24 ∧ ∀ M3, M3 = ms M2 56 x2.toNatClampNeg (M2 25 x2.toNatClampNeg) → vp_in x2 24 ∧ vp_in x2 24 ∧ ∀ M4, M4 = ms M3 57 x2.toNatClampNeg (vp_nar .boolean (M3 26 x2.toNatClampNeg)) → vp_in x2 24 ∧ vp_in x2 24 ∧ ∀ M5, M5 = ms M4 58 x2.toNatClampNeg (M4 27 x2.toNatClampNeg) → vp_in x2 24 ∧ vp_in x2 24 ∧ ∀ M6, M6 = ms M5 59 x2.toNatClampNeg (M5 28 x2.toNatClampNeg) → P_Shelf_become_83 post n (x2 + (1 : Int32)) M6))
theorem k_Shelf_become_83 {X : FX} {g : GT} {ext : List CD} {A : Nat → Prop} {Z : State → Prop} {post : Mem → Prop} (C : Cx X g (layC ++ ext) A cX9_become 3 RX9 0) (hr : 0 ≤ X.2.2.2.1.cells ∧ 0 ≤ X.2.2.2.1.slots) (hR : RetV X g (layC ++ ext) A cX9_become 3 0 0 Z post) : ∀ (n : Nat) (x2 : Int32) (M : Mem), P_Shelf_become_83 post n x2 M → AtX X g (layC ++ ext) A 3 0 0 Z 83 [(0, .ref (ad g 49)), (1, .ref (ad g 18)), (2, .int x2)] [] M := by
  intro n
  induction n with
  | zero =>
    intro x2 M h
    exact h.elim
  | succ n ih =>
    intro x2 M h
    refine a_iload_n C (tk T_cX9_become 53 rfl) rfl ?_
    refine a_bipush C (24 : Int32) (tk T_cX9_become 54 rfl) kB_24 ?_
    refine a_icmp_ge C 155 (tk T_cX9_become 55 rfl) rfl (fun c => ?_) (fun c => ?_)
    · have h := h.1 c
      refine a_aload_n C (tk T_cX9_become 98 rfl) rfl ?_
      refine a_aload_n C (tk T_cX9_become 99 rfl) rfl ?_
      refine a_getI C f_RX9_47 (tk T_cX9_become 100 rfl) lc18 rfl ?_
      refine a_put C f_RX9_47 f_RX9_47p rfl rfl (tk T_cX9_become 101 rfl) lc49 rfl ?_
      refine a_mem (fun M1 e_M1 => ?_)
      have h := h M1 e_M1
      exact hR _ _ _ (tk T_cX9_become 102 rfl) h
    · have h := h.2 c
      refine a_aload_n C (tk T_cX9_become 56 rfl) rfl ?_
      refine a_getR C f_RX9_27 (tk T_cX9_become 57 rfl) lc49 rfl ?_
      refine a_iload_n C (tk T_cX9_become 58 rfl) rfl ?_
      refine a_aload_n C (tk T_cX9_become 59 rfl) rfl ?_
      refine a_getR C f_RX9_27 (tk T_cX9_become 60 rfl) lc18 rfl ?_
      refine a_iload_n C (tk T_cX9_become 61 rfl) rfl ?_
      obtain ⟨hb, h⟩ := h
      refine a_iald C (tk T_cX9_become 62 rfl) lc24 hb ?_
      obtain ⟨hb, h⟩ := h
      refine a_iast C (tk T_cX9_become 63 rfl) lc55 hb ?_
      refine a_mem (fun M2 e_M2 => ?_)
      have h := h M2 e_M2
      refine a_aload_n C (tk T_cX9_become 64 rfl) rfl ?_
      refine a_getR C f_RX9_30 (tk T_cX9_become 65 rfl) lc49 rfl ?_
      refine a_iload_n C (tk T_cX9_become 66 rfl) rfl ?_
      refine a_aload_n C (tk T_cX9_become 67 rfl) rfl ?_
      refine a_getR C f_RX9_30 (tk T_cX9_become 68 rfl) lc18 rfl ?_
      refine a_iload_n C (tk T_cX9_become 69 rfl) rfl ?_
      obtain ⟨hb, h⟩ := h
      refine a_iald C (tk T_cX9_become 70 rfl) lc25 hb ?_
      obtain ⟨hb, h⟩ := h
      refine a_iast C (tk T_cX9_become 71 rfl) lc56 hb ?_
      refine a_mem (fun M3 e_M3 => ?_)
      have h := h M3 e_M3
      refine a_aload_n C (tk T_cX9_become 72 rfl) rfl ?_
      refine a_getR C f_RX9_33 (tk T_cX9_become 73 rfl) lc49 rfl ?_
      refine a_iload_n C (tk T_cX9_become 74 rfl) rfl ?_
      refine a_aload_n C (tk T_cX9_become 75 rfl) rfl ?_
      refine a_getR C f_RX9_33 (tk T_cX9_become 76 rfl) lc18 rfl ?_
      refine a_iload_n C (tk T_cX9_become 77 rfl) rfl ?_
      obtain ⟨hb, h⟩ := h
      refine a_zald C (tk T_cX9_become 78 rfl) lc26 hb ?_
      obtain ⟨hb, h⟩ := h
      refine a_zast C (tk T_cX9_become 79 rfl) lc57 hb ?_
      refine a_mem (fun M4 e_M4 => ?_)
      have h := h M4 e_M4
      refine a_aload_n C (tk T_cX9_become 80 rfl) rfl ?_
      refine a_getR C f_RX9_37 (tk T_cX9_become 81 rfl) lc49 rfl ?_
      refine a_iload_n C (tk T_cX9_become 82 rfl) rfl ?_
      refine a_aload_n C (tk T_cX9_become 83 rfl) rfl ?_
      refine a_getR C f_RX9_37 (tk T_cX9_become 84 rfl) lc18 rfl ?_
      refine a_iload_n C (tk T_cX9_become 85 rfl) rfl ?_
      obtain ⟨hb, h⟩ := h
      refine a_iald C (tk T_cX9_become 86 rfl) lc27 hb ?_
      obtain ⟨hb, h⟩ := h
      refine a_iast C (tk T_cX9_become 87 rfl) lc58 hb ?_
      refine a_mem (fun M5 e_M5 => ?_)
      have h := h M5 e_M5
      refine a_aload_n C (tk T_cX9_become 88 rfl) rfl ?_
      refine a_getR C f_RX9_40 (tk T_cX9_become 89 rfl) lc49 rfl ?_
      refine a_iload_n C (tk T_cX9_become 90 rfl) rfl ?_
      refine a_aload_n C (tk T_cX9_become 91 rfl) rfl ?_
      refine a_getR C f_RX9_40 (tk T_cX9_become 92 rfl) lc18 rfl ?_
      refine a_iload_n C (tk T_cX9_become 93 rfl) rfl ?_
      obtain ⟨hb, h⟩ := h
      refine a_iald C (tk T_cX9_become 94 rfl) lc28 hb ?_
      obtain ⟨hb, h⟩ := h
      refine a_iast C (tk T_cX9_become 95 rfl) lc59 hb ?_
      refine a_mem (fun M6 e_M6 => ?_)
      have h := h M6 e_M6
      refine a_iinc C (1 : Int32) (tk T_cX9_become 96 rfl) rfl kI_1 (by decide) rfl ?_
      refine a_goto C 83 (tk T_cX9_become 97 rfl) rfl ?_
      exact a_to (ih (x2 + (1 : Int32)) M6 h) rfl
def P_Shelf_become_2 (post : Mem → Prop) : Nat → Int32 → Mem → Prop
  | 0, _, _ => False
  | n + 1, x2, M =>
    ((3 : Int32) ≤ x2 → (∀ M1, M1 = ms M 49 5 (M 18 5) → ∃ j83, P_Shelf_become_83 post j83 (0 : Int32) M1)) ∧
  (¬ (3 : Int32) ≤ x2 → (vp_in x2 3 ∧ vp_in x2 3 ∧ ∀ M2, M2 = ms M 50 x2.toNatClampNeg (M 19 x2.toNatClampNeg) → vp_in x2 3 ∧ vp_in x2 3 ∧ ∀ M3, M3 = ms M2 51 x2.toNatClampNeg (M2 20 x2.toNatClampNeg) → vp_in x2 3 ∧ vp_in x2 3 ∧ ∀ M4, M4 = ms M3 52 x2.toNatClampNeg (M3 21 x2.toNatClampNeg) → vp_in x2 3 ∧ vp_in x2 3 ∧ ∀ M5, M5 = ms M4 53 x2.toNatClampNeg (M4 22 x2.toNatClampNeg) → vp_in x2 3 ∧ vp_in x2 3 ∧ ∀ M6, M6 = ms M5 54 x2.toNatClampNeg (M5 23 x2.toNatClampNeg) → P_Shelf_become_2 post n (x2 + (1 : Int32)) M6))
theorem k_Shelf_become_2 {X : FX} {g : GT} {ext : List CD} {A : Nat → Prop} {Z : State → Prop} {post : Mem → Prop} (C : Cx X g (layC ++ ext) A cX9_become 3 RX9 0) (hr : 0 ≤ X.2.2.2.1.cells ∧ 0 ≤ X.2.2.2.1.slots) (hR : RetV X g (layC ++ ext) A cX9_become 3 0 0 Z post) : ∀ (n : Nat) (x2 : Int32) (M : Mem), P_Shelf_become_2 post n x2 M → AtX X g (layC ++ ext) A 3 0 0 Z 2 [(0, .ref (ad g 49)), (1, .ref (ad g 18)), (2, .int x2)] [] M := by
  intro n
  induction n with
  | zero =>
    intro x2 M h
    exact h.elim
  | succ n ih =>
    intro x2 M h
    refine a_iload_n C (tk T_cX9_become 2 rfl) rfl ?_
    refine a_iconst C (3 : Int32) (tk T_cX9_become 3 rfl) kI_3 ?_
    refine a_icmp_ge C 73 (tk T_cX9_become 4 rfl) rfl (fun c => ?_) (fun c => ?_)
    · have h := h.1 c
      refine a_aload_n C (tk T_cX9_become 47 rfl) rfl ?_
      refine a_aload_n C (tk T_cX9_become 48 rfl) rfl ?_
      refine a_getI C f_RX9_43 (tk T_cX9_become 49 rfl) lc18 rfl ?_
      refine a_put C f_RX9_43 f_RX9_43p rfl rfl (tk T_cX9_become 50 rfl) lc49 rfl ?_
      refine a_mem (fun M1 e_M1 => ?_)
      have h := h M1 e_M1
      refine a_iconst C (0 : Int32) (tk T_cX9_become 51 rfl) kI_0 ?_
      refine a_istore_n C (tk T_cX9_become 52 rfl) (by decide) rfl ?_
      obtain ⟨n1, h⟩ := h
      exact a_to (k_Shelf_become_83 C hr hR n1 (0 : Int32) M1 h) rfl
    · have h := h.2 c
      refine a_aload_n C (tk T_cX9_become 5 rfl) rfl ?_
      refine a_getR C f_RX9_9 (tk T_cX9_become 6 rfl) lc49 rfl ?_
      refine a_iload_n C (tk T_cX9_become 7 rfl) rfl ?_
      refine a_aload_n C (tk T_cX9_become 8 rfl) rfl ?_
      refine a_getR C f_RX9_9 (tk T_cX9_become 9 rfl) lc18 rfl ?_
      refine a_iload_n C (tk T_cX9_become 10 rfl) rfl ?_
      obtain ⟨hb, h⟩ := h
      refine a_iald C (tk T_cX9_become 11 rfl) lc19 hb ?_
      obtain ⟨hb, h⟩ := h
      refine a_iast C (tk T_cX9_become 12 rfl) lc50 hb ?_
      refine a_mem (fun M2 e_M2 => ?_)
      have h := h M2 e_M2
      refine a_aload_n C (tk T_cX9_become 13 rfl) rfl ?_
      refine a_getR C f_RX9_15 (tk T_cX9_become 14 rfl) lc49 rfl ?_
      refine a_iload_n C (tk T_cX9_become 15 rfl) rfl ?_
      refine a_aload_n C (tk T_cX9_become 16 rfl) rfl ?_
      refine a_getR C f_RX9_15 (tk T_cX9_become 17 rfl) lc18 rfl ?_
      refine a_iload_n C (tk T_cX9_become 18 rfl) rfl ?_
      obtain ⟨hb, h⟩ := h
      refine a_iald C (tk T_cX9_become 19 rfl) lc20 hb ?_
      obtain ⟨hb, h⟩ := h
      refine a_iast C (tk T_cX9_become 20 rfl) lc51 hb ?_
      refine a_mem (fun M3 e_M3 => ?_)
      have h := h M3 e_M3
      refine a_aload_n C (tk T_cX9_become 21 rfl) rfl ?_
      refine a_getR C f_RX9_18 (tk T_cX9_become 22 rfl) lc49 rfl ?_
      refine a_iload_n C (tk T_cX9_become 23 rfl) rfl ?_
      refine a_aload_n C (tk T_cX9_become 24 rfl) rfl ?_
      refine a_getR C f_RX9_18 (tk T_cX9_become 25 rfl) lc18 rfl ?_
      refine a_iload_n C (tk T_cX9_become 26 rfl) rfl ?_
      obtain ⟨hb, h⟩ := h
      refine a_iald C (tk T_cX9_become 27 rfl) lc21 hb ?_
      obtain ⟨hb, h⟩ := h
      refine a_iast C (tk T_cX9_become 28 rfl) lc52 hb ?_
      refine a_mem (fun M4 e_M4 => ?_)
      have h := h M4 e_M4
      refine a_aload_n C (tk T_cX9_become 29 rfl) rfl ?_
      refine a_getR C f_RX9_21 (tk T_cX9_become 30 rfl) lc49 rfl ?_
      refine a_iload_n C (tk T_cX9_become 31 rfl) rfl ?_
      refine a_aload_n C (tk T_cX9_become 32 rfl) rfl ?_
      refine a_getR C f_RX9_21 (tk T_cX9_become 33 rfl) lc18 rfl ?_
      refine a_iload_n C (tk T_cX9_become 34 rfl) rfl ?_
      obtain ⟨hb, h⟩ := h
      refine a_iald C (tk T_cX9_become 35 rfl) lc22 hb ?_
      obtain ⟨hb, h⟩ := h
      refine a_iast C (tk T_cX9_become 36 rfl) lc53 hb ?_
      refine a_mem (fun M5 e_M5 => ?_)
      have h := h M5 e_M5
      refine a_aload_n C (tk T_cX9_become 37 rfl) rfl ?_
      refine a_getR C f_RX9_24 (tk T_cX9_become 38 rfl) lc49 rfl ?_
      refine a_iload_n C (tk T_cX9_become 39 rfl) rfl ?_
      refine a_aload_n C (tk T_cX9_become 40 rfl) rfl ?_
      refine a_getR C f_RX9_24 (tk T_cX9_become 41 rfl) lc18 rfl ?_
      refine a_iload_n C (tk T_cX9_become 42 rfl) rfl ?_
      obtain ⟨hb, h⟩ := h
      refine a_iald C (tk T_cX9_become 43 rfl) lc23 hb ?_
      obtain ⟨hb, h⟩ := h
      refine a_iast C (tk T_cX9_become 44 rfl) lc54 hb ?_
      refine a_mem (fun M6 e_M6 => ?_)
      have h := h M6 e_M6
      refine a_iinc C (1 : Int32) (tk T_cX9_become 45 rfl) rfl kI_1 (by decide) rfl ?_
      refine a_goto C 2 (tk T_cX9_become 46 rfl) rfl ?_
      exact a_to (ih (x2 + (1 : Int32)) M6 h) rfl
def P_Shelf_become (post : Mem → Prop) (M : Mem) : Prop :=
  ∃ j2, P_Shelf_become_2 post j2 (0 : Int32) M
theorem k_Shelf_become {X : FX} {g : GT} {ext : List CD} {A : Nat → Prop} {Z : State → Prop} {post : Mem → Prop} (C : Cx X g (layC ++ ext) A cX9_become 3 RX9 0) (hr : 0 ≤ X.2.2.2.1.cells ∧ 0 ≤ X.2.2.2.1.slots) (hR : RetV X g (layC ++ ext) A cX9_become 3 0 0 Z post) (M : Mem) (h : P_Shelf_become post M) : AtX X g (layC ++ ext) A 3 0 0 Z 0 [(0, .ref (ad g 49)), (1, .ref (ad g 18))] [] M := by
  refine a_iconst C (0 : Int32) (tk T_cX9_become 0 rfl) kI_0 ?_
  refine a_istore_n C (tk T_cX9_become 1 rfl) (by decide) rfl ?_
  obtain ⟨n1, h⟩ := h
  exact a_to (k_Shelf_become_2 C hr hR n1 (0 : Int32) M h) rfl
theorem ct_Shelf_become {l : Launch} {g : GT} {ext : List CD} {post : Mem → Prop} {M : Mem} (h : P_Shelf_become post M) : CV l g (layC ++ ext) yX9_become cX9_become 3 none 0 [.ref (ad g 49), .ref (ad g 18)] M post :=
  cv_of (plainFor_of_name (by decide +kernel)) (Nat.le_of_ble_eq_true rfl) (fun X A Z hl C hr hR => by subst hl; exact k_Shelf_become C hr hR  M h)
def T_cX2_becomeL : List (Nat × Instr × Nat) := [(0, .aload_n 0, 1), (1, .getfield 12, 3), (4, .aload_n 1, 1), (5, .getfield 12, 3), (8, .invokevirtual 52, 3), (11, .aload_n 0, 1), (12, .getfield 21, 3), (15, .aload_n 1, 1), (16, .getfield 21, 3), (19, .invokevirtual 56, 3), (22, .aload_n 0, 1), (23, .getfield 28, 3), (26, .aload_n 1, 1), (27, .getfield 28, 3), (30, .invokevirtual 59, 3), (33, .aload_n 0, 1), (34, .getfield 35, 3), (37, .aload_n 1, 1), (38, .getfield 35, 3), (41, .invokevirtual 62, 3), (44, .iconst 0, 1), (45, .istore_n 2, 1), (46, .iload_n 2, 1), (47, .bipush 24, 2), (49, .if_icmp .ge 33, 3), (52, .aload_n 0, 1), (53, .getfield 39, 3), (56, .iload_n 2, 1), (57, .aload_n 1, 1), (58, .getfield 39, 3), (61, .iload_n 2, 1), (62, .iaload, 1), (63, .iastore, 1), (64, .aload_n 0, 1), (65, .getfield 43, 3), (68, .iload_n 2, 1), (69, .aload_n 1, 1), (70, .getfield 43, 3), (73, .iload_n 2, 1), (74, .iaload, 1), (75, .iastore, 1), (76, .iinc 2 1, 3), (79, .goto (-33), 3), (82, .iconst 0, 1), (83, .istore_n 2, 1), (84, .iload_n 2, 1), (85, .bipush 6, 2), (87, .if_icmp .ge 21, 3), (90, .aload_n 0, 1), (91, .getfield 48, 3), (94, .iload_n 2, 1), (95, .aload_n 1, 1), (96, .getfield 48, 3), (99, .iload_n 2, 1), (100, .aaload, 1), (101, .aastore, 1), (102, .iinc 2 1, 3), (105, .goto (-21), 3), (108, .aload_n 0, 1), (109, .aload_n 1, 1), (110, .getfield 65, 3), (113, .putfield 65, 3), (116, .aload_n 0, 1), (117, .aload_n 1, 1), (118, .getfield 69, 3), (121, .putfield 69, 3), (124, .return_, 1)]
theorem T_cX2_become : tabOK cX2_become T_cX2_becomeL = true := by decide +kernel
def P_Desk_become_84 (ext : List CD) (post : Mem → Prop) : Nat → Int32 → Mem → Prop
  | 0, _, _ => False
  | n + 1, x2, M =>
    ((6 : Int32) ≤ x2 → (∀ M1, M1 = ms M 32 7 (M 1 7) → ∀ M2, M2 = ms M1 32 8 (M1 1 8) → post M2)) ∧
  (¬ (6 : Int32) ≤ x2 → (vp_in x2 6 ∧ vp_in x2 6 ∧ ((M 31 x2.toNatClampNeg) = 0 ∨ ∃ fl, (layC ++ ext)[(M 31 x2.toNatClampNeg).toNatClampNeg]? = some (4, 1, fl)) ∧ ∀ M3, M3 = ms M 62 x2.toNatClampNeg (M 31 x2.toNatClampNeg) → P_Desk_become_84 ext post n (x2 + (1 : Int32)) M3))
theorem k_Desk_become_84 {X : FX} {g : GT} {ext : List CD} {A : Nat → Prop} {Z : State → Prop} {post : Mem → Prop} (C : Cx X g (layC ++ ext) A cX2_become 3 RX2 1) (hr : 0 ≤ X.2.2.2.1.cells ∧ 0 ≤ X.2.2.2.1.slots) (hR : RetV X g (layC ++ ext) A cX2_become 3 0 0 Z post) : ∀ (n : Nat) (x2 : Int32) (M : Mem), P_Desk_become_84 ext post n x2 M → AtX X g (layC ++ ext) A 3 0 0 Z 84 [(0, .ref (ad g 32)), (1, .ref (ad g 1)), (2, .int x2)] [] M := by
  intro n
  induction n with
  | zero =>
    intro x2 M h
    exact h.elim
  | succ n ih =>
    intro x2 M h
    refine a_iload_n C (tk T_cX2_become 45 rfl) rfl ?_
    refine a_bipush C (6 : Int32) (tk T_cX2_become 46 rfl) kB_6 ?_
    refine a_icmp_ge C 108 (tk T_cX2_become 47 rfl) rfl (fun c => ?_) (fun c => ?_)
    · have h := h.1 c
      refine a_aload_n C (tk T_cX2_become 58 rfl) rfl ?_
      refine a_aload_n C (tk T_cX2_become 59 rfl) rfl ?_
      refine a_getI C f_RX2_65 (tk T_cX2_become 60 rfl) lc1 rfl ?_
      refine a_put C f_RX2_65 f_RX2_65p rfl rfl (tk T_cX2_become 61 rfl) lc32 rfl ?_
      refine a_mem (fun M1 e_M1 => ?_)
      have h := h M1 e_M1
      refine a_aload_n C (tk T_cX2_become 62 rfl) rfl ?_
      refine a_aload_n C (tk T_cX2_become 63 rfl) rfl ?_
      refine a_getI C f_RX2_69 (tk T_cX2_become 64 rfl) lc1 rfl ?_
      refine a_put C f_RX2_69 f_RX2_69p rfl rfl (tk T_cX2_become 65 rfl) lc32 rfl ?_
      refine a_mem (fun M2 e_M2 => ?_)
      have h := h M2 e_M2
      exact hR _ _ _ (tk T_cX2_become 66 rfl) h
    · have h := h.2 c
      refine a_aload_n C (tk T_cX2_become 48 rfl) rfl ?_
      refine a_getR C f_RX2_48 (tk T_cX2_become 49 rfl) lc32 rfl ?_
      refine a_iload_n C (tk T_cX2_become 50 rfl) rfl ?_
      refine a_aload_n C (tk T_cX2_become 51 rfl) rfl ?_
      refine a_getR C f_RX2_48 (tk T_cX2_become 52 rfl) lc1 rfl ?_
      refine a_iload_n C (tk T_cX2_become 53 rfl) rfl ?_
      obtain ⟨hb, h⟩ := h
      refine a_aald C (tk T_cX2_become 54 rfl) lc31 hb ?_
      obtain ⟨hb, hx, h⟩ := h
      refine a_aast C (tk T_cX2_become 55 rfl) lc62 hb hx ?_
      refine a_mem (fun M3 e_M3 => ?_)
      have h := h M3 e_M3
      refine a_iinc C (1 : Int32) (tk T_cX2_become 56 rfl) rfl kI_1 (by decide) rfl ?_
      refine a_goto C 84 (tk T_cX2_become 57 rfl) rfl ?_
      exact a_to (ih (x2 + (1 : Int32)) M3 h) rfl
def P_Desk_become_46 (ext : List CD) (post : Mem → Prop) : Nat → Int32 → Mem → Prop
  | 0, _, _ => False
  | n + 1, x2, M =>
    ((24 : Int32) ≤ x2 → (∃ j84, P_Desk_become_84 ext post j84 (0 : Int32) M)) ∧
  (¬ (24 : Int32) ≤ x2 → (vp_in x2 24 ∧ vp_in x2 24 ∧ ∀ M1, M1 = ms M 60 x2.toNatClampNeg (M 29 x2.toNatClampNeg) → vp_in x2 24 ∧ vp_in x2 24 ∧ ∀ M2, M2 = ms M1 61 x2.toNatClampNeg (M1 30 x2.toNatClampNeg) → P_Desk_become_46 ext post n (x2 + (1 : Int32)) M2))
theorem k_Desk_become_46 {X : FX} {g : GT} {ext : List CD} {A : Nat → Prop} {Z : State → Prop} {post : Mem → Prop} (C : Cx X g (layC ++ ext) A cX2_become 3 RX2 1) (hr : 0 ≤ X.2.2.2.1.cells ∧ 0 ≤ X.2.2.2.1.slots) (hR : RetV X g (layC ++ ext) A cX2_become 3 0 0 Z post) : ∀ (n : Nat) (x2 : Int32) (M : Mem), P_Desk_become_46 ext post n x2 M → AtX X g (layC ++ ext) A 3 0 0 Z 46 [(0, .ref (ad g 32)), (1, .ref (ad g 1)), (2, .int x2)] [] M := by
  intro n
  induction n with
  | zero =>
    intro x2 M h
    exact h.elim
  | succ n ih =>
    intro x2 M h
    refine a_iload_n C (tk T_cX2_become 22 rfl) rfl ?_
    refine a_bipush C (24 : Int32) (tk T_cX2_become 23 rfl) kB_24 ?_
    refine a_icmp_ge C 82 (tk T_cX2_become 24 rfl) rfl (fun c => ?_) (fun c => ?_)
    · have h := h.1 c
      refine a_iconst C (0 : Int32) (tk T_cX2_become 43 rfl) kI_0 ?_
      refine a_istore_n C (tk T_cX2_become 44 rfl) (by decide) rfl ?_
      obtain ⟨n1, h⟩ := h
      exact a_to (k_Desk_become_84 C hr hR n1 (0 : Int32) M h) rfl
    · have h := h.2 c
      refine a_aload_n C (tk T_cX2_become 25 rfl) rfl ?_
      refine a_getR C f_RX2_39 (tk T_cX2_become 26 rfl) lc32 rfl ?_
      refine a_iload_n C (tk T_cX2_become 27 rfl) rfl ?_
      refine a_aload_n C (tk T_cX2_become 28 rfl) rfl ?_
      refine a_getR C f_RX2_39 (tk T_cX2_become 29 rfl) lc1 rfl ?_
      refine a_iload_n C (tk T_cX2_become 30 rfl) rfl ?_
      obtain ⟨hb, h⟩ := h
      refine a_iald C (tk T_cX2_become 31 rfl) lc29 hb ?_
      obtain ⟨hb, h⟩ := h
      refine a_iast C (tk T_cX2_become 32 rfl) lc60 hb ?_
      refine a_mem (fun M1 e_M1 => ?_)
      have h := h M1 e_M1
      refine a_aload_n C (tk T_cX2_become 33 rfl) rfl ?_
      refine a_getR C f_RX2_43 (tk T_cX2_become 34 rfl) lc32 rfl ?_
      refine a_iload_n C (tk T_cX2_become 35 rfl) rfl ?_
      refine a_aload_n C (tk T_cX2_become 36 rfl) rfl ?_
      refine a_getR C f_RX2_43 (tk T_cX2_become 37 rfl) lc1 rfl ?_
      refine a_iload_n C (tk T_cX2_become 38 rfl) rfl ?_
      obtain ⟨hb, h⟩ := h
      refine a_iald C (tk T_cX2_become 39 rfl) lc30 hb ?_
      obtain ⟨hb, h⟩ := h
      refine a_iast C (tk T_cX2_become 40 rfl) lc61 hb ?_
      refine a_mem (fun M2 e_M2 => ?_)
      have h := h M2 e_M2
      refine a_iinc C (1 : Int32) (tk T_cX2_become 41 rfl) rfl kI_1 (by decide) rfl ?_
      refine a_goto C 46 (tk T_cX2_become 42 rfl) rfl ?_
      exact a_to (ih (x2 + (1 : Int32)) M2 h) rfl
def P_Desk_become (ext : List CD) (post : Mem → Prop) (M : Mem) : Prop :=
  P_Screw_become (fun M1 =>
  P_Knowns_become (fun M2 =>
  P_Table_become (fun M3 =>
  P_Shelf_become (fun M4 =>
  ∃ j46, P_Desk_become_46 ext post j46 (0 : Int32) M4) M3) M2) M1) M
theorem k_Desk_become {X : FX} {g : GT} {ext : List CD} {A : Nat → Prop} {Z : State → Prop} {post : Mem → Prop} (C : Cx X g (layC ++ ext) A cX2_become 3 RX2 1) (hr : 0 ≤ X.2.2.2.1.cells ∧ 0 ≤ X.2.2.2.1.slots) (hR : RetV X g (layC ++ ext) A cX2_become 3 0 0 Z post) (M : Mem) (h : P_Desk_become ext post M) : AtX X g (layC ++ ext) A 3 0 0 Z 0 [(0, .ref (ad g 32)), (1, .ref (ad g 1))] [] M := by
  refine a_aload_n C (tk T_cX2_become 0 rfl) rfl ?_
  refine a_getR C f_RX2_12 (tk T_cX2_become 1 rfl) lc32 rfl ?_
  refine a_aload_n C (tk T_cX2_become 2 rfl) rfl ?_
  refine a_getR C f_RX2_12 (tk T_cX2_become 3 rfl) lc1 rfl ?_
  refine a_callV C [.ref (ad g 2)] me_yX8_become lk_RX2_52 (ct_Screw_become h) (by decide) lc33 rfl rfl rfl (Nat.le_of_ble_eq_true rfl) (tk T_cX2_become 4 rfl) hr (fun M1 h => ?_)
  refine a_aload_n C (tk T_cX2_become 5 rfl) rfl ?_
  refine a_getR C f_RX2_21 (tk T_cX2_become 6 rfl) lc32 rfl ?_
  refine a_aload_n C (tk T_cX2_become 7 rfl) rfl ?_
  refine a_getR C f_RX2_21 (tk T_cX2_become 8 rfl) lc1 rfl ?_
  refine a_callV C [.ref (ad g 8)] me_yX4_become lk_RX2_56 (ct_Knowns_become h) (by decide) lc39 rfl rfl rfl (Nat.le_of_ble_eq_true rfl) (tk T_cX2_become 9 rfl) hr (fun M2 h => ?_)
  refine a_aload_n C (tk T_cX2_become 10 rfl) rfl ?_
  refine a_getR C f_RX2_28 (tk T_cX2_become 11 rfl) lc32 rfl ?_
  refine a_aload_n C (tk T_cX2_become 12 rfl) rfl ?_
  refine a_getR C f_RX2_28 (tk T_cX2_become 13 rfl) lc1 rfl ?_
  refine a_callV C [.ref (ad g 13)] me_yX10_become lk_RX2_59 (ct_Table_become h) (by decide) lc44 rfl rfl rfl (Nat.le_of_ble_eq_true rfl) (tk T_cX2_become 14 rfl) hr (fun M3 h => ?_)
  refine a_aload_n C (tk T_cX2_become 15 rfl) rfl ?_
  refine a_getR C f_RX2_35 (tk T_cX2_become 16 rfl) lc32 rfl ?_
  refine a_aload_n C (tk T_cX2_become 17 rfl) rfl ?_
  refine a_getR C f_RX2_35 (tk T_cX2_become 18 rfl) lc1 rfl ?_
  refine a_callV C [.ref (ad g 18)] me_yX9_become lk_RX2_62 (ct_Shelf_become h) (by decide) lc49 rfl rfl rfl (Nat.le_of_ble_eq_true rfl) (tk T_cX2_become 19 rfl) hr (fun M4 h => ?_)
  refine a_iconst C (0 : Int32) (tk T_cX2_become 20 rfl) kI_0 ?_
  refine a_istore_n C (tk T_cX2_become 21 rfl) (by decide) rfl ?_
  obtain ⟨n1, h⟩ := h
  exact a_to (k_Desk_become_46 C hr hR n1 (0 : Int32) M4 h) rfl
theorem ct_Desk_become {l : Launch} {g : GT} {ext : List CD} {post : Mem → Prop} {M : Mem} (h : P_Desk_become ext post M) : CV l g (layC ++ ext) yX2_become cX2_become 3 none 1 [.ref (ad g 32), .ref (ad g 1)] M post :=
  cv_of (plainFor_of_name (by decide +kernel)) (Nat.le_of_ble_eq_true rfl) (fun X A Z hl C hr hR => by subst hl; exact k_Desk_become C hr hR  M h)
