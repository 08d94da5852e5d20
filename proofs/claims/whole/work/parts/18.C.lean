def T_cX6_takeL : List (Nat × Instr × Nat) := [(0, .bipush 24, 2), (2, .istore_n 2, 1), (3, .iload_n 2, 1), (4, .ifCond .lt 42, 3), (7, .aload_n 0, 1), (8, .getfield 29, 3), (11, .sipush 400, 3), (14, .if_icmp .ge 32, 3), (17, .aload_n 0, 1), (18, .getfield 9, 3), (21, .aload_n 0, 1), (22, .getfield 29, 3), (25, .iload_n 1, 1), (26, .iload_n 2, 1), (27, .ishr, 1), (28, .i2b, 1), (29, .bastore, 1), (30, .aload_n 0, 1), (31, .dup, 1), (32, .getfield 29, 3), (35, .iconst 1, 1), (36, .iadd, 1), (37, .putfield 29, 3), (40, .iinc 2 (-8), 3), (43, .goto (-40), 3), (46, .return_, 1)]
theorem T_cX6_take : tabOK cX6_take T_cX6_takeL = true := by decide +kernel
def P_Reader_take_46 (post : Mem → Prop) (M : Mem) : Prop :=
  post M
theorem k_Reader_take_46 {X : FX} {g : GT} {ext : List CD} {A : Nat → Prop} {Z : State → Prop} {post : Mem → Prop} (C : Cx X g (layC ++ ext) A cX6_take 3 RX6 0) (hr : 0 ≤ X.2.2.2.1.cells ∧ 0 ≤ X.2.2.2.1.slots) (hR : RetV X g (layC ++ ext) A cX6_take 3 0 0 Z post)  (M : Mem) (h : P_Reader_take_46 post M) : AtX X g (layC ++ ext) A 3 0 0 Z 46 [] [] M := by
  exact hR _ _ _ (tk T_cX6_take 25 rfl) h
def P_Reader_take_3 (post : Mem → Prop) : Nat → Int32 → Int32 → Mem → Prop
  | 0, _, _, _ => False
  | n + 1, x1, x2, M =>
    (x2 < 0 → (P_Reader_take_46 post M)) ∧
  (¬ x2 < 0 → (((400 : Int32) ≤ (M 84 4) → (P_Reader_take_46 post M)) ∧
  (¬ (400 : Int32) ≤ (M 84 4) → (vp_in (M 84 4) 400 ∧ ∀ M1, M1 = ms M 85 (M 84 4).toNatClampNeg (vp_nar .byte (x1 >>> (x2 &&& 31)).toInt8.toInt32) → ∀ M2, M2 = ms M1 84 4 ((M1 84 4) + (1 : Int32)) → P_Reader_take_3 post n x1 (x2 + (-8 : Int32)) M2))))
theorem k_Reader_take_3 {X : FX} {g : GT} {ext : List CD} {A : Nat → Prop} {Z : State → Prop} {post : Mem → Prop} (C : Cx X g (layC ++ ext) A cX6_take 3 RX6 0) (hr : 0 ≤ X.2.2.2.1.cells ∧ 0 ≤ X.2.2.2.1.slots) (hR : RetV X g (layC ++ ext) A cX6_take 3 0 0 Z post) : ∀ (n : Nat) (x1 x2 : Int32) (M : Mem), P_Reader_take_3 post n x1 x2 M → AtX X g (layC ++ ext) A 3 0 0 Z 3 [(0, .ref (ad g 84)), (1, .int x1), (2, .int x2)] [] M := by
  intro n
  induction n with
  | zero =>
    intro x1 x2 M h
    exact h.elim
  | succ n ih =>
    intro x1 x2 M h
    refine a_iload_n C (tk T_cX6_take 2 rfl) rfl ?_
    refine a_if_lt C 46 (tk T_cX6_take 3 rfl) rfl (fun c => ?_) (fun c => ?_)
    · have h := h.1 c
      exact a_to (k_Reader_take_46 C hr hR M h) rfl
    · have h := h.2 c
      refine a_aload_n C (tk T_cX6_take 4 rfl) rfl ?_
      refine a_getI C f_RX6_29 (tk T_cX6_take 5 rfl) lc84 rfl ?_
      refine a_sipush C (400 : Int32) (tk T_cX6_take 6 rfl) kS_400 ?_
      refine a_icmp_ge C 46 (tk T_cX6_take 7 rfl) rfl (fun c => ?_) (fun c => ?_)
      · have h := h.1 c
        exact a_to (k_Reader_take_46 C hr hR M h) rfl
      · have h := h.2 c
        refine a_aload_n C (tk T_cX6_take 8 rfl) rfl ?_
        refine a_getR C f_RX6_9 (tk T_cX6_take 9 rfl) lc84 rfl ?_
        refine a_aload_n C (tk T_cX6_take 10 rfl) rfl ?_
        refine a_getI C f_RX6_29 (tk T_cX6_take 11 rfl) lc84 rfl ?_
        refine a_iload_n C (tk T_cX6_take 12 rfl) rfl ?_
        refine a_iload_n C (tk T_cX6_take 13 rfl) rfl ?_
        refine a_ishr C (tk T_cX6_take 14 rfl) ?_
        refine a_i2b C (tk T_cX6_take 15 rfl) ?_
        obtain ⟨hb, h⟩ := h
        refine a_bast C (tk T_cX6_take 16 rfl) lc85 hb ?_
        refine a_mem (fun M1 e_M1 => ?_)
        have h := h M1 e_M1
        refine a_aload_n C (tk T_cX6_take 17 rfl) rfl ?_
        refine a_dupr C (tk T_cX6_take 18 rfl) ?_
        refine a_getI C f_RX6_29 (tk T_cX6_take 19 rfl) lc84 rfl ?_
        refine a_iconst C (1 : Int32) (tk T_cX6_take 20 rfl) kI_1 ?_
        refine a_iadd C (tk T_cX6_take 21 rfl) ?_
        refine a_put C f_RX6_29 f_RX6_29p rfl rfl (tk T_cX6_take 22 rfl) lc84 rfl ?_
        refine a_mem (fun M2 e_M2 => ?_)
        have h := h M2 e_M2
        refine a_iinc C (-8 : Int32) (tk T_cX6_take 23 rfl) rfl kI_m8 (by decide) rfl ?_
        refine a_goto C 3 (tk T_cX6_take 24 rfl) rfl ?_
        exact a_to (ih x1 (x2 + (-8 : Int32)) M2 h) rfl
def P_Reader_take (post : Mem → Prop) (x1 : Int32) (M : Mem) : Prop :=
  ∃ j3, P_Reader_take_3 post j3 x1 (24 : Int32) M
theorem k_Reader_take {X : FX} {g : GT} {ext : List CD} {A : Nat → Prop} {Z : State → Prop} {post : Mem → Prop} (C : Cx X g (layC ++ ext) A cX6_take 3 RX6 0) (hr : 0 ≤ X.2.2.2.1.cells ∧ 0 ≤ X.2.2.2.1.slots) (hR : RetV X g (layC ++ ext) A cX6_take 3 0 0 Z post) (x1 : Int32) (M : Mem) (h : P_Reader_take post x1 M) : AtX X g (layC ++ ext) A 3 0 0 Z 0 [(0, .ref (ad g 84)), (1, .int x1)] [] M := by
  refine a_bipush C (24 : Int32) (tk T_cX6_take 0 rfl) kB_24 ?_
  refine a_istore_n C (tk T_cX6_take 1 rfl) (by decide) rfl ?_
  obtain ⟨n1, h⟩ := h
  exact a_to (k_Reader_take_3 C hr hR n1 x1 (24 : Int32) M h) rfl
theorem ct_Reader_take {l : Launch} {g : GT} {ext : List CD} {post : Mem → Prop} {x1 : Int32} {M : Mem} (h : P_Reader_take post x1 M) : CV l g (layC ++ ext) yX6_take cX6_take 3 none 0 [.ref (ad g 84), .int x1] M post :=
  cv_of (plainFor_of_name (by decide +kernel)) (Nat.le_of_ble_eq_true rfl) (fun X A Z hl C hr hR => by subst hl; exact k_Reader_take C hr hR x1 M h)
def T_cX11_feedL : List (Nat × Instr × Nat) := [(0, .aload_n 0, 1), (1, .getfield 56, 3), (4, .getfield 60, 3), (7, .bipush 20, 2), (9, .iadd, 1), (10, .sipush 400, 3), (13, .if_icmp .le 5, 3), (16, .iconst (-1), 1), (17, .ireturn, 1), (18, .aload_n 0, 1), (19, .getfield 56, 3), (22, .iload_n 1, 1), (23, .invokevirtual 64, 3), (26, .aload_n 0, 1), (27, .getfield 56, 3), (30, .iload_n 2, 1), (31, .invokevirtual 64, 3), (34, .aload_n 0, 1), (35, .getfield 56, 3), (38, .iload_n 3, 1), (39, .invokevirtual 64, 3), (42, .aload_n 0, 1), (43, .getfield 56, 3), (46, .iload 4, 2), (48, .invokevirtual 64, 3), (51, .aload_n 0, 1), (52, .getfield 56, 3), (55, .iload 5, 2), (57, .invokevirtual 64, 3), (60, .aload_n 0, 1), (61, .getfield 56, 3), (64, .getfield 60, 3), (67, .ireturn, 1)]
theorem T_cX11_feed : tabOK cX11_feed T_cX11_feedL = true := by decide +kernel
def P_R_feed (post : Int32 → Mem → Prop) (x1 x2 x3 x4 x5 : Int32) (M : Mem) : Prop :=
  (((M 84 4) + (20 : Int32)) ≤ (400 : Int32) → (P_Reader_take (fun M1 =>
  P_Reader_take (fun M2 =>
  P_Reader_take (fun M3 =>
  P_Reader_take (fun M4 =>
  P_Reader_take (fun M5 =>
  post (M5 84 4) M5) x5 M4) x4 M3) x3 M2) x2 M1) x1 M)) ∧
  (¬ ((M 84 4) + (20 : Int32)) ≤ (400 : Int32) → (post (-1 : Int32) M))
theorem k_R_feed {X : FX} {g : GT} {ext : List CD} {A : Nat → Prop} {Z : State → Prop} {post : Int32 → Mem → Prop} (C : Cx X g (layC ++ ext) A cX11_feed 6 RX11 1) (hr : 0 ≤ X.2.2.2.1.cells ∧ 0 ≤ X.2.2.2.1.slots) (hR : RetI X g (layC ++ ext) A cX11_feed 6 0 0 Z post) (x1 x2 x3 x4 x5 : Int32) (M : Mem) (h : P_R_feed post x1 x2 x3 x4 x5 M) : AtX X g (layC ++ ext) A 6 0 0 Z 0 [(0, .ref (ad g 0)), (1, .int x1), (2, .int x2), (3, .int x3), (4, .int x4), (5, .int x5)] [] M := by
  refine a_aload_n C (tk T_cX11_feed 0 rfl) rfl ?_
  refine a_getR C f_RX11_56 (tk T_cX11_feed 1 rfl) lc0 rfl ?_
  refine a_getI C f_RX11_60 (tk T_cX11_feed 2 rfl) lc84 rfl ?_
  refine a_bipush C (20 : Int32) (tk T_cX11_feed 3 rfl) kB_20 ?_
  refine a_iadd C (tk T_cX11_feed 4 rfl) ?_
  refine a_sipush C (400 : Int32) (tk T_cX11_feed 5 rfl) kS_400 ?_
  refine a_icmp_le C 18 (tk T_cX11_feed 6 rfl) rfl (fun c => ?_) (fun c => ?_)
  · have h := h.1 c
    refine a_aload_n C (tk T_cX11_feed 9 rfl) rfl ?_
    refine a_getR C f_RX11_56 (tk T_cX11_feed 10 rfl) lc0 rfl ?_
    refine a_iload_n C (tk T_cX11_feed 11 rfl) rfl ?_
    refine a_callV C [.int x1] me_yX6_take lk_RX11_64 (ct_Reader_take h) (by decide) lc84 rfl rfl rfl (Nat.le_of_ble_eq_true rfl) (tk T_cX11_feed 12 rfl) hr (fun M1 h => ?_)
    refine a_aload_n C (tk T_cX11_feed 13 rfl) rfl ?_
    refine a_getR C f_RX11_56 (tk T_cX11_feed 14 rfl) lc0 rfl ?_
    refine a_iload_n C (tk T_cX11_feed 15 rfl) rfl ?_
    refine a_callV C [.int x2] me_yX6_take lk_RX11_64 (ct_Reader_take h) (by decide) lc84 rfl rfl rfl (Nat.le_of_ble_eq_true rfl) (tk T_cX11_feed 16 rfl) hr (fun M2 h => ?_)
    refine a_aload_n C (tk T_cX11_feed 17 rfl) rfl ?_
    refine a_getR C f_RX11_56 (tk T_cX11_feed 18 rfl) lc0 rfl ?_
    refine a_iload_n C (tk T_cX11_feed 19 rfl) rfl ?_
    refine a_callV C [.int x3] me_yX6_take lk_RX11_64 (ct_Reader_take h) (by decide) lc84 rfl rfl rfl (Nat.le_of_ble_eq_true rfl) (tk T_cX11_feed 20 rfl) hr (fun M3 h => ?_)
    refine a_aload_n C (tk T_cX11_feed 21 rfl) rfl ?_
    refine a_getR C f_RX11_56 (tk T_cX11_feed 22 rfl) lc0 rfl ?_
    refine a_iload C (tk T_cX11_feed 23 rfl) rfl ?_
    refine a_callV C [.int x4] me_yX6_take lk_RX11_64 (ct_Reader_take h) (by decide) lc84 rfl rfl rfl (Nat.le_of_ble_eq_true rfl) (tk T_cX11_feed 24 rfl) hr (fun M4 h => ?_)
    refine a_aload_n C (tk T_cX11_feed 25 rfl) rfl ?_
    refine a_getR C f_RX11_56 (tk T_cX11_feed 26 rfl) lc0 rfl ?_
    refine a_iload C (tk T_cX11_feed 27 rfl) rfl ?_
    refine a_callV C [.int x5] me_yX6_take lk_RX11_64 (ct_Reader_take h) (by decide) lc84 rfl rfl rfl (Nat.le_of_ble_eq_true rfl) (tk T_cX11_feed 28 rfl) hr (fun M5 h => ?_)
    refine a_aload_n C (tk T_cX11_feed 29 rfl) rfl ?_
    refine a_getR C f_RX11_56 (tk T_cX11_feed 30 rfl) lc0 rfl ?_
    refine a_getI C f_RX11_60 (tk T_cX11_feed 31 rfl) lc84 rfl ?_
    exact hR _ _ _ _ (tk T_cX11_feed 32 rfl) h
  · have h := h.2 c
    refine a_iconst C (-1 : Int32) (tk T_cX11_feed 7 rfl) kI_m1 ?_
    exact hR _ _ _ _ (tk T_cX11_feed 8 rfl) h
theorem ct_R_feed {l : Launch} {g : GT} {ext : List CD} {post : Int32 → Mem → Prop} {x1 x2 x3 x4 x5 : Int32} {M : Mem} (h : P_R_feed post x1 x2 x3 x4 x5 M) : CI l g (layC ++ ext) yX11_feed cX11_feed 6 (some .int) 1 [.ref (ad g 0), .int x1, .int x2, .int x3, .int x4, .int x5] M post :=
  ci_of (plainFor_of_name (by decide +kernel)) (Nat.le_of_ble_eq_true rfl) (fun X A Z hl C hr hR => by subst hl; exact k_R_feed C hr hR x1 x2 x3 x4 x5 M h)
def T_cX11_endL : List (Nat × Instr × Nat) := [(0, .iload_n 1, 1), (1, .ifCond .lt 14, 3), (4, .iload_n 1, 1), (5, .aload_n 0, 1), (6, .getfield 56, 3), (9, .getfield 60, 3), (12, .if_icmp .le 5, 3), (15, .iconst 0, 1), (16, .ireturn, 1), (17, .aload_n 0, 1), (18, .getfield 56, 3), (21, .iload_n 1, 1), (22, .putfield 60, 3), (25, .iconst 1, 1), (26, .ireturn, 1)]
theorem T_cX11_end : tabOK cX11_end T_cX11_endL = true := by decide +kernel
def P_R_end_15 (post : Int32 → Mem → Prop) (M : Mem) : Prop :=
  post (0 : Int32) M
theorem k_R_end_15 {X : FX} {g : GT} {ext : List CD} {A : Nat → Prop} {Z : State → Prop} {post : Int32 → Mem → Prop} (C : Cx X g (layC ++ ext) A cX11_end 2 RX11 0) (hr : 0 ≤ X.2.2.2.1.cells ∧ 0 ≤ X.2.2.2.1.slots) (hR : RetZ X g (layC ++ ext) A cX11_end 2 0 0 Z post)  (M : Mem) (h : P_R_end_15 post M) : AtX X g (layC ++ ext) A 2 0 0 Z 15 [] [] M := by
  refine a_iconst C (0 : Int32) (tk T_cX11_end 7 rfl) kI_0 ?_
  exact hR _ _ _ _ (tk T_cX11_end 8 rfl) ⟨Or.inl rfl, h⟩
def P_R_end (post : Int32 → Mem → Prop) (x1 : Int32) (M : Mem) : Prop :=
  (x1 < 0 → (P_R_end_15 post M)) ∧
  (¬ x1 < 0 → ((x1 ≤ (M 84 4) → (∀ M1, M1 = ms M 84 4 x1 → post (1 : Int32) M1)) ∧
  (¬ x1 ≤ (M 84 4) → (P_R_end_15 post M))))
theorem k_R_end {X : FX} {g : GT} {ext : List CD} {A : Nat → Prop} {Z : State → Prop} {post : Int32 → Mem → Prop} (C : Cx X g (layC ++ ext) A cX11_end 2 RX11 0) (hr : 0 ≤ X.2.2.2.1.cells ∧ 0 ≤ X.2.2.2.1.slots) (hR : RetZ X g (layC ++ ext) A cX11_end 2 0 0 Z post) (x1 : Int32) (M : Mem) (h : P_R_end post x1 M) : AtX X g (layC ++ ext) A 2 0 0 Z 0 [(0, .ref (ad g 0)), (1, .int x1)] [] M := by
  refine a_iload_n C (tk T_cX11_end 0 rfl) rfl ?_
  refine a_if_lt C 15 (tk T_cX11_end 1 rfl) rfl (fun c => ?_) (fun c => ?_)
  · have h := h.1 c
    exact a_to (k_R_end_15 C hr hR M h) rfl
  · have h := h.2 c
    refine a_iload_n C (tk T_cX11_end 2 rfl) rfl ?_
    refine a_aload_n C (tk T_cX11_end 3 rfl) rfl ?_
    refine a_getR C f_RX11_56 (tk T_cX11_end 4 rfl) lc0 rfl ?_
    refine a_getI C f_RX11_60 (tk T_cX11_end 5 rfl) lc84 rfl ?_
    refine a_icmp_le C 17 (tk T_cX11_end 6 rfl) rfl (fun c => ?_) (fun c => ?_)
    · have h := h.1 c
      refine a_aload_n C (tk T_cX11_end 9 rfl) rfl ?_
      refine a_getR C f_RX11_56 (tk T_cX11_end 10 rfl) lc0 rfl ?_
      refine a_iload_n C (tk T_cX11_end 11 rfl) rfl ?_
      refine a_put C f_RX11_60 f_RX11_60p rfl rfl (tk T_cX11_end 12 rfl) lc84 rfl ?_
      refine a_mem (fun M1 e_M1 => ?_)
      have h := h M1 e_M1
      refine a_iconst C (1 : Int32) (tk T_cX11_end 13 rfl) kI_1 ?_
      exact hR _ _ _ _ (tk T_cX11_end 14 rfl) ⟨Or.inr rfl, h⟩
    · have h := h.2 c
      exact a_to (k_R_end_15 C hr hR M h) rfl
theorem ct_R_end {l : Launch} {g : GT} {ext : List CD} {post : Int32 → Mem → Prop} {x1 : Int32} {M : Mem} (h : P_R_end post x1 M) : CI l g (layC ++ ext) yX11_end cX11_end 2 (some .boolean) 0 [.ref (ad g 0), .int x1] M post :=
  cz_of (plainFor_of_name (by decide +kernel)) (Nat.le_of_ble_eq_true rfl) (fun X A Z hl C hr hR => by subst hl; exact k_R_end C hr hR x1 M h)
def T_cX5_forgetL : List (Nat × Instr × Nat) := [(0, .aload_n 0, 1), (1, .iconst 0, 1), (2, .putfield 31, 3), (5, .return_, 1)]
theorem T_cX5_forget : tabOK cX5_forget T_cX5_forgetL = true := by decide +kernel
def P_Laws_forget (post : Mem → Prop) (M : Mem) : Prop :=
  ∀ M1, M1 = ms M 63 12 (0 : Int32) → post M1
theorem k_Laws_forget {X : FX} {g : GT} {ext : List CD} {A : Nat → Prop} {Z : State → Prop} {post : Mem → Prop} (C : Cx X g (layC ++ ext) A cX5_forget 1 RX5 0) (hr : 0 ≤ X.2.2.2.1.cells ∧ 0 ≤ X.2.2.2.1.slots) (hR : RetV X g (layC ++ ext) A cX5_forget 1 0 0 Z post) (M : Mem) (h : P_Laws_forget post M) : AtX X g (layC ++ ext) A 1 0 0 Z 0 [(0, .ref (ad g 63))] [] M := by
  refine a_aload_n C (tk T_cX5_forget 0 rfl) rfl ?_
  refine a_iconst C (0 : Int32) (tk T_cX5_forget 1 rfl) kI_0 ?_
  refine a_put C f_RX5_31 f_RX5_31p (nar_z (Or.inl rfl)) (fit_z (Or.inl rfl)) (tk T_cX5_forget 2 rfl) lc63 rfl ?_
  refine a_mem (fun M1 e_M1 => ?_)
  have h := h M1 e_M1
  exact hR _ _ _ (tk T_cX5_forget 3 rfl) h
theorem ct_Laws_forget {l : Launch} {g : GT} {ext : List CD} {post : Mem → Prop} {M : Mem} (h : P_Laws_forget post M) : CV l g (layC ++ ext) yX5_forget cX5_forget 1 none 0 [.ref (ad g 63)] M post :=
  cv_of (plainFor_of_name (by decide +kernel)) (Nat.le_of_ble_eq_true rfl) (fun X A Z hl C hr hR => by subst hl; exact k_Laws_forget C hr hR  M h)
def T_cX11_withinL : List (Nat × Instr × Nat) := [(0, .iload_n 0, 1), (1, .iload_n 1, 1), (2, .if_icmp .lt 12, 3), (5, .iload_n 0, 1), (6, .iload_n 2, 1), (7, .if_icmp .gt 7, 3), (10, .iconst 1, 1), (11, .goto 4, 3), (14, .iconst 0, 1), (15, .ireturn, 1)]
theorem T_cX11_within : tabOK cX11_within T_cX11_withinL = true := by decide +kernel
def P_R_within_15 (post : Int32 → Mem → Prop) (s0 : Int32) (M : Mem) : Prop :=
  (s0 = 0 ∨ s0 = 1) ∧ post s0 M
theorem k_R_within_15 {X : FX} {g : GT} {ext : List CD} {A : Nat → Prop} {Z : State → Prop} {post : Int32 → Mem → Prop} (C : Cx X g (layC ++ ext) A cX11_within 3 RX11 0) (hr : 0 ≤ X.2.2.2.1.cells ∧ 0 ≤ X.2.2.2.1.slots) (hR : RetZ X g (layC ++ ext) A cX11_within 3 0 0 Z post) (s0 : Int32) (M : Mem) (h : P_R_within_15 post s0 M) : AtX X g (layC ++ ext) A 3 0 0 Z 15 [] [.int s0] M := by
  exact hR _ _ _ _ (tk T_cX11_within 9 rfl) h
def P_R_within_14 (post : Int32 → Mem → Prop) (M : Mem) : Prop :=
  P_R_within_15 post (0 : Int32) M
theorem k_R_within_14 {X : FX} {g : GT} {ext : List CD} {A : Nat → Prop} {Z : State → Prop} {post : Int32 → Mem → Prop} (C : Cx X g (layC ++ ext) A cX11_within 3 RX11 0) (hr : 0 ≤ X.2.2.2.1.cells ∧ 0 ≤ X.2.2.2.1.slots) (hR : RetZ X g (layC ++ ext) A cX11_within 3 0 0 Z post)  (M : Mem) (h : P_R_within_14 post M) : AtX X g (layC ++ ext) A 3 0 0 Z 14 [] [] M := by
  refine a_iconst C (0 : Int32) (tk T_cX11_within 8 rfl) kI_0 ?_
  exact a_to (k_R_within_15 C hr hR (0 : Int32) M h) rfl
def P_R_within (post : Int32 → Mem → Prop) (x0 x1 x2 : Int32) (M : Mem) : Prop :=
  (x0 < x1 → (P_R_within_14 post M)) ∧
  (¬ x0 < x1 → ((x2 < x0 → (P_R_within_14 post M)) ∧
  (¬ x2 < x0 → (P_R_within_15 post (1 : Int32) M))))
theorem k_R_within {X : FX} {g : GT} {ext : List CD} {A : Nat → Prop} {Z : State → Prop} {post : Int32 → Mem → Prop} (C : Cx X g (layC ++ ext) A cX11_within 3 RX11 0) (hr : 0 ≤ X.2.2.2.1.cells ∧ 0 ≤ X.2.2.2.1.slots) (hR : RetZ X g (layC ++ ext) A cX11_within 3 0 0 Z post) (x0 x1 x2 : Int32) (M : Mem) (h : P_R_within post x0 x1 x2 M) : AtX X g (layC ++ ext) A 3 0 0 Z 0 [(0, .int x0), (1, .int x1), (2, .int x2)] [] M := by
  refine a_iload_n C (tk T_cX11_within 0 rfl) rfl ?_
  refine a_iload_n C (tk T_cX11_within 1 rfl) rfl ?_
  refine a_icmp_lt C 14 (tk T_cX11_within 2 rfl) rfl (fun c => ?_) (fun c => ?_)
  · have h := h.1 c
    exact a_to (k_R_within_14 C hr hR M h) rfl
  · have h := h.2 c
    refine a_iload_n C (tk T_cX11_within 3 rfl) rfl ?_
    refine a_iload_n C (tk T_cX11_within 4 rfl) rfl ?_
    refine a_icmp_gt C 14 (tk T_cX11_within 5 rfl) rfl (fun c => ?_) (fun c => ?_)
    · have h := h.1 c
      exact a_to (k_R_within_14 C hr hR M h) rfl
    · have h := h.2 c
      refine a_iconst C (1 : Int32) (tk T_cX11_within 6 rfl) kI_1 ?_
      refine a_goto C 15 (tk T_cX11_within 7 rfl) rfl ?_
      exact a_to (k_R_within_15 C hr hR (1 : Int32) M h) rfl
theorem ct_R_within {l : Launch} {g : GT} {ext : List CD} {post : Int32 → Mem → Prop} {x0 x1 x2 : Int32} {M : Mem} (h : P_R_within post x0 x1 x2 M) : CI l g (layC ++ ext) yX11_within cX11_within 3 (some .boolean) 0 [.int x0, .int x1, .int x2] M post :=
  cz_of (plainFor_of_name (by decide +kernel)) (Nat.le_of_ble_eq_true rfl) (fun X A Z hl C hr hR => by subst hl; exact k_R_within C hr hR x0 x1 x2 M h)
def T_cX11_screwL : List (Nat × Instr × Nat) := [(0, .iload_n 1, 1), (1, .iconst 2, 1), (2, .bipush 50, 2), (4, .invokestatic 68, 3), (7, .ifCond .eq 17, 3), (10, .iload_n 2, 1), (11, .iconst 0, 1), (12, .bipush 9, 2), (14, .invokestatic 68, 3), (17, .ifCond .eq 7, 3), (20, .iconst 1, 1), (21, .goto 4, 3), (24, .iconst 0, 1), (25, .invokestatic 72, 3), (28, .iload_n 3, 1), (29, .iconst 0, 1), (30, .iload_n 1, 1), (31, .iconst 1, 1), (32, .isub, 1), (33, .invokestatic 68, 3), (36, .ifCond .eq 18, 3), (39, .iload 4, 2), (41, .iconst 0, 1), (42, .bipush 9, 2), (44, .invokestatic 68, 3), (47, .ifCond .eq 7, 3), (50, .iconst 1, 1), (51, .goto 4, 3), (54, .iconst 0, 1), (55, .invokestatic 72, 3), (58, .aload_n 0, 1), (59, .getfield 10, 3), (62, .getfield 76, 3), (65, .iload_n 1, 1), (66, .putfield 80, 3), (69, .aload_n 0, 1), (70, .getfield 10, 3), (73, .getfield 76, 3), (76, .iload_n 2, 1), (77, .putfield 85, 3), (80, .aload_n 0, 1), (81, .getfield 10, 3), (84, .getfield 76, 3), (87, .iload_n 3, 1), (88, .putfield 88, 3), (91, .aload_n 0, 1), (92, .getfield 10, 3), (95, .getfield 76, 3), (98, .iload 4, 2), (100, .putfield 91, 3), (103, .aload_n 0, 1), (104, .getfield 24, 3), (107, .invokevirtual 94, 3), (110, .return_, 1)]
theorem T_cX11_screw : tabOK cX11_screw T_cX11_screwL = true := by decide +kernel
def P_R_screw_55 (post : Mem → Prop) (ex : String → Mem → Prop) (x1 x2 x3 x4 s0 : Int32) (M : Mem) : Prop :=
  P_R_wantNumber (fun M1 =>
  ∀ M2, M2 = ms M1 2 6 x1 → ∀ M3, M3 = ms M2 2 7 x2 → ∀ M4, M4 = ms M3 2 8 x3 → ∀ M5, M5 = ms M4 2 9 x4 → P_Laws_forget (fun M6 =>
  post M6) M5) ex s0 M
theorem k_R_screw_55 {X : FX} {g : GT} {ext : List CD} {A : Nat → Prop} {Z : State → Prop} {post : Mem → Prop} {ex : String → Mem → Prop} {sk : Nat → Nat} (C : CxX X g (layC ++ ext) A cX11_screw 5 RX11 7 2 sk) (hT : ThX X g (layC ++ ext) A 2 Z ex) (hR : RetV X g (layC ++ ext) A cX11_screw 5 2 (6 * 2) Z post) (x1 x2 x3 x4 s0 : Int32) (M : Mem) (h : P_R_screw_55 post ex x1 x2 x3 x4 s0 M) : AtX X g (layC ++ ext) A 5 1 (6 * 1) Z 55 [(0, .ref (ad g 0)), (1, .int x1), (2, .int x2), (3, .int x3), (4, .int x4)] [.int s0] M := by
  refine x_statV C hT [.int s0] me_yX11_wantNumber lk_RX11_72 (ct_R_wantNumber h) (by decide) rfl rfl (Nat.le_of_ble_eq_true rfl) (tk T_cX11_screw 29 rfl) (by decide) (fun M1 h => ?_)
  refine a_aload_n C.1 (tk T_cX11_screw 30 rfl) rfl ?_
  refine a_getR C.1 f_RX11_10 (tk T_cX11_screw 31 rfl) lc0 rfl ?_
  refine a_getR C.1 f_RX11_76 (tk T_cX11_screw 32 rfl) lc1 rfl ?_
  refine a_iload_n C.1 (tk T_cX11_screw 33 rfl) rfl ?_
  refine a_put C.1 f_RX11_80 f_RX11_80p rfl rfl (tk T_cX11_screw 34 rfl) lc2 rfl ?_
  refine a_mem (fun M2 e_M2 => ?_)
  have h := h M2 e_M2
  refine a_aload_n C.1 (tk T_cX11_screw 35 rfl) rfl ?_
  refine a_getR C.1 f_RX11_10 (tk T_cX11_screw 36 rfl) lc0 rfl ?_
  refine a_getR C.1 f_RX11_76 (tk T_cX11_screw 37 rfl) lc1 rfl ?_
  refine a_iload_n C.1 (tk T_cX11_screw 38 rfl) rfl ?_
  refine a_put C.1 f_RX11_85 f_RX11_85p rfl rfl (tk T_cX11_screw 39 rfl) lc2 rfl ?_
  refine a_mem (fun M3 e_M3 => ?_)
  have h := h M3 e_M3
  refine a_aload_n C.1 (tk T_cX11_screw 40 rfl) rfl ?_
  refine a_getR C.1 f_RX11_10 (tk T_cX11_screw 41 rfl) lc0 rfl ?_
  refine a_getR C.1 f_RX11_76 (tk T_cX11_screw 42 rfl) lc1 rfl ?_
  refine a_iload_n C.1 (tk T_cX11_screw 43 rfl) rfl ?_
  refine a_put C.1 f_RX11_88 f_RX11_88p rfl rfl (tk T_cX11_screw 44 rfl) lc2 rfl ?_
  refine a_mem (fun M4 e_M4 => ?_)
  have h := h M4 e_M4
  refine a_aload_n C.1 (tk T_cX11_screw 45 rfl) rfl ?_
  refine a_getR C.1 f_RX11_10 (tk T_cX11_screw 46 rfl) lc0 rfl ?_
  refine a_getR C.1 f_RX11_76 (tk T_cX11_screw 47 rfl) lc1 rfl ?_
  refine a_iload C.1 (tk T_cX11_screw 48 rfl) rfl ?_
  refine a_put C.1 f_RX11_91 f_RX11_91p rfl rfl (tk T_cX11_screw 49 rfl) lc2 rfl ?_
  refine a_mem (fun M5 e_M5 => ?_)
  have h := h M5 e_M5
  refine a_aload_n C.1 (tk T_cX11_screw 50 rfl) rfl ?_
  refine a_getR C.1 f_RX11_24 (tk T_cX11_screw 51 rfl) lc0 rfl ?_
  refine a_callV C.1 [] me_yX5_forget lk_RX11_94 (ct_Laws_forget h) (by decide) lc63 rfl rfl rfl (Nat.le_of_ble_eq_true rfl) (tk T_cX11_screw 52 rfl) ⟨Nat.le_trans (by decide) C.2.2.1, Nat.le_trans (by decide) C.2.2.2⟩ (fun M6 h => ?_)
  exact x_widen (by decide) (by decide) (hR _ _ _ (tk T_cX11_screw 53 rfl) h)
def P_R_screw_54 (post : Mem → Prop) (ex : String → Mem → Prop) (x1 x2 x3 x4 : Int32) (M : Mem) : Prop :=
  P_R_screw_55 post ex x1 x2 x3 x4 (0 : Int32) M
theorem k_R_screw_54 {X : FX} {g : GT} {ext : List CD} {A : Nat → Prop} {Z : State → Prop} {post : Mem → Prop} {ex : String → Mem → Prop} {sk : Nat → Nat} (C : CxX X g (layC ++ ext) A cX11_screw 5 RX11 7 2 sk) (hT : ThX X g (layC ++ ext) A 2 Z ex) (hR : RetV X g (layC ++ ext) A cX11_screw 5 2 (6 * 2) Z post) (x1 x2 x3 x4 : Int32) (M : Mem) (h : P_R_screw_54 post ex x1 x2 x3 x4 M) : AtX X g (layC ++ ext) A 5 1 (6 * 1) Z 54 [(0, .ref (ad g 0)), (1, .int x1), (2, .int x2), (3, .int x3), (4, .int x4)] [] M := by
  refine a_iconst C.1 (0 : Int32) (tk T_cX11_screw 28 rfl) kI_0 ?_
  exact x_widen (by decide) (by decide) (a_to (k_R_screw_55 C hT hR x1 x2 x3 x4 (0 : Int32) M h) rfl)
def P_R_screw_25 (post : Mem → Prop) (ex : String → Mem → Prop) (x1 x2 x3 x4 s0 : Int32) (M : Mem) : Prop :=
  P_R_wantNumber (fun M1 =>
  P_R_within (fun r2 M2 =>
  (r2 = 0 → (P_R_screw_54 post ex x1 x2 x3 x4 M2)) ∧
  (¬ r2 = 0 → (P_R_within (fun r3 M3 =>
  (r3 = 0 → (P_R_screw_54 post ex x1 x2 x3 x4 M3)) ∧
  (¬ r3 = 0 → (P_R_screw_55 post ex x1 x2 x3 x4 (1 : Int32) M3))) x4 (0 : Int32) (9 : Int32) M2))) x3 (0 : Int32) (x1 - (1 : Int32)) M1) ex s0 M
theorem k_R_screw_25 {X : FX} {g : GT} {ext : List CD} {A : Nat → Prop} {Z : State → Prop} {post : Mem → Prop} {ex : String → Mem → Prop} {sk : Nat → Nat} (C : CxX X g (layC ++ ext) A cX11_screw 5 RX11 7 2 sk) (hT : ThX X g (layC ++ ext) A 2 Z ex) (hR : RetV X g (layC ++ ext) A cX11_screw 5 2 (6 * 2) Z post) (x1 x2 x3 x4 s0 : Int32) (M : Mem) (h : P_R_screw_25 post ex x1 x2 x3 x4 s0 M) : AtX X g (layC ++ ext) A 5 0 (6 * 0) Z 25 [(0, .ref (ad g 0)), (1, .int x1), (2, .int x2), (3, .int x3), (4, .int x4)] [.int s0] M := by
  refine x_statV C hT [.int s0] me_yX11_wantNumber lk_RX11_72 (ct_R_wantNumber h) (by decide) rfl rfl (Nat.le_of_ble_eq_true rfl) (tk T_cX11_screw 13 rfl) (by decide) (fun M1 h => ?_)
  refine a_iload_n C.1 (tk T_cX11_screw 14 rfl) rfl ?_
  refine a_iconst C.1 (0 : Int32) (tk T_cX11_screw 15 rfl) kI_0 ?_
  refine a_iload_n C.1 (tk T_cX11_screw 16 rfl) rfl ?_
  refine a_iconst C.1 (1 : Int32) (tk T_cX11_screw 17 rfl) kI_1 ?_
  refine a_isub C.1 (tk T_cX11_screw 18 rfl) ?_
  refine a_statI C.1 [.int x3, .int (0 : Int32), .int (x1 - (1 : Int32))] me_yX11_within lk_RX11_68 (ct_R_within h) (by decide) rfl rfl (Nat.le_of_ble_eq_true rfl) (tk T_cX11_screw 19 rfl) ⟨Nat.le_trans (by decide) C.2.2.1, Nat.le_trans (by decide) C.2.2.2⟩ (fun r2 M2 h => ?_)
  refine a_if_eq C.1 54 (tk T_cX11_screw 20 rfl) rfl (fun c => ?_) (fun c => ?_)
  · have h := h.1 c
    exact x_widen (by decide) (by decide) (a_to (k_R_screw_54 C hT hR x1 x2 x3 x4 M2 h) rfl)
  · have h := h.2 c
    refine a_iload C.1 (tk T_cX11_screw 21 rfl) rfl ?_
    refine a_iconst C.1 (0 : Int32) (tk T_cX11_screw 22 rfl) kI_0 ?_
    refine a_bipush C.1 (9 : Int32) (tk T_cX11_screw 23 rfl) kB_9 ?_
    refine a_statI C.1 [.int x4, .int (0 : Int32), .int (9 : Int32)] me_yX11_within lk_RX11_68 (ct_R_within h) (by decide) rfl rfl (Nat.le_of_ble_eq_true rfl) (tk T_cX11_screw 24 rfl) ⟨Nat.le_trans (by decide) C.2.2.1, Nat.le_trans (by decide) C.2.2.2⟩ (fun r3 M3 h => ?_)
    refine a_if_eq C.1 54 (tk T_cX11_screw 25 rfl) rfl (fun c => ?_) (fun c => ?_)
    · have h := h.1 c
      exact x_widen (by decide) (by decide) (a_to (k_R_screw_54 C hT hR x1 x2 x3 x4 M3 h) rfl)
    · have h := h.2 c
      refine a_iconst C.1 (1 : Int32) (tk T_cX11_screw 26 rfl) kI_1 ?_
      refine a_goto C.1 55 (tk T_cX11_screw 27 rfl) rfl ?_
      exact x_widen (by decide) (by decide) (a_to (k_R_screw_55 C hT hR x1 x2 x3 x4 (1 : Int32) M3 h) rfl)
def P_R_screw_24 (post : Mem → Prop) (ex : String → Mem → Prop) (x1 x2 x3 x4 : Int32) (M : Mem) : Prop :=
  P_R_screw_25 post ex x1 x2 x3 x4 (0 : Int32) M
theorem k_R_screw_24 {X : FX} {g : GT} {ext : List CD} {A : Nat → Prop} {Z : State → Prop} {post : Mem → Prop} {ex : String → Mem → Prop} {sk : Nat → Nat} (C : CxX X g (layC ++ ext) A cX11_screw 5 RX11 7 2 sk) (hT : ThX X g (layC ++ ext) A 2 Z ex) (hR : RetV X g (layC ++ ext) A cX11_screw 5 2 (6 * 2) Z post) (x1 x2 x3 x4 : Int32) (M : Mem) (h : P_R_screw_24 post ex x1 x2 x3 x4 M) : AtX X g (layC ++ ext) A 5 0 (6 * 0) Z 24 [(0, .ref (ad g 0)), (1, .int x1), (2, .int x2), (3, .int x3), (4, .int x4)] [] M := by
  refine a_iconst C.1 (0 : Int32) (tk T_cX11_screw 12 rfl) kI_0 ?_
  exact x_widen (by decide) (by decide) (a_to (k_R_screw_25 C hT hR x1 x2 x3 x4 (0 : Int32) M h) rfl)
def P_R_screw (post : Mem → Prop) (ex : String → Mem → Prop) (x1 x2 x3 x4 : Int32) (M : Mem) : Prop :=
  P_R_within (fun r1 M1 =>
  (r1 = 0 → (P_R_screw_24 post ex x1 x2 x3 x4 M1)) ∧
  (¬ r1 = 0 → (P_R_within (fun r2 M2 =>
  (r2 = 0 → (P_R_screw_24 post ex x1 x2 x3 x4 M2)) ∧
  (¬ r2 = 0 → (P_R_screw_25 post ex x1 x2 x3 x4 (1 : Int32) M2))) x2 (0 : Int32) (9 : Int32) M1))) x1 (2 : Int32) (50 : Int32) M
theorem k_R_screw {X : FX} {g : GT} {ext : List CD} {A : Nat → Prop} {Z : State → Prop} {post : Mem → Prop} {ex : String → Mem → Prop} {sk : Nat → Nat} (C : CxX X g (layC ++ ext) A cX11_screw 5 RX11 7 2 sk) (hT : ThX X g (layC ++ ext) A 2 Z ex) (hR : RetV X g (layC ++ ext) A cX11_screw 5 2 (6 * 2) Z post) (x1 x2 x3 x4 : Int32) (M : Mem) (h : P_R_screw post ex x1 x2 x3 x4 M) : AtX X g (layC ++ ext) A 5 0 0 Z 0 [(0, .ref (ad g 0)), (1, .int x1), (2, .int x2), (3, .int x3), (4, .int x4)] [] M := by
  refine a_iload_n C.1 (tk T_cX11_screw 0 rfl) rfl ?_
  refine a_iconst C.1 (2 : Int32) (tk T_cX11_screw 1 rfl) kI_2 ?_
  refine a_bipush C.1 (50 : Int32) (tk T_cX11_screw 2 rfl) kB_50 ?_
  refine a_statI C.1 [.int x1, .int (2 : Int32), .int (50 : Int32)] me_yX11_within lk_RX11_68 (ct_R_within h) (by decide) rfl rfl (Nat.le_of_ble_eq_true rfl) (tk T_cX11_screw 3 rfl) ⟨Nat.le_trans (by decide) C.2.2.1, Nat.le_trans (by decide) C.2.2.2⟩ (fun r1 M1 h => ?_)
  refine a_if_eq C.1 24 (tk T_cX11_screw 4 rfl) rfl (fun c => ?_) (fun c => ?_)
  · have h := h.1 c
    exact x_widen (by decide) (by decide) (a_to (k_R_screw_24 C hT hR x1 x2 x3 x4 M1 h) rfl)
  · have h := h.2 c
    refine a_iload_n C.1 (tk T_cX11_screw 5 rfl) rfl ?_
    refine a_iconst C.1 (0 : Int32) (tk T_cX11_screw 6 rfl) kI_0 ?_
    refine a_bipush C.1 (9 : Int32) (tk T_cX11_screw 7 rfl) kB_9 ?_
    refine a_statI C.1 [.int x2, .int (0 : Int32), .int (9 : Int32)] me_yX11_within lk_RX11_68 (ct_R_within h) (by decide) rfl rfl (Nat.le_of_ble_eq_true rfl) (tk T_cX11_screw 8 rfl) ⟨Nat.le_trans (by decide) C.2.2.1, Nat.le_trans (by decide) C.2.2.2⟩ (fun r2 M2 h => ?_)
    refine a_if_eq C.1 24 (tk T_cX11_screw 9 rfl) rfl (fun c => ?_) (fun c => ?_)
    · have h := h.1 c
      exact x_widen (by decide) (by decide) (a_to (k_R_screw_24 C hT hR x1 x2 x3 x4 M2 h) rfl)
    · have h := h.2 c
      refine a_iconst C.1 (1 : Int32) (tk T_cX11_screw 10 rfl) kI_1 ?_
      refine a_goto C.1 25 (tk T_cX11_screw 11 rfl) rfl ?_
      exact x_widen (by decide) (by decide) (a_to (k_R_screw_25 C hT hR x1 x2 x3 x4 (1 : Int32) M2 h) rfl)
theorem ct_R_screw {l : Launch} {g : GT} {ext : List CD} {sk : Nat → Nat} {post : Mem → Prop} {ex : String → Mem → Prop} {x1 x2 x3 x4 : Int32} {M : Mem} (h : P_R_screw post ex x1 x2 x3 x4 M) : XV l g (layC ++ ext) sk yX11_screw cX11_screw 5 none 7 2 [.ref (ad g 0), .int x1, .int x2, .int x3, .int x4] M post ex :=
  xv_of (by decide +kernel) (Nat.le_of_ble_eq_true rfl) (fun X A Z hl C hR hT _ => by subst hl; exact k_R_screw C hT hR x1 x2 x3 x4 M h)
def T_cX8_turnedL : List (Nat × Instr × Nat) := [(0, .aload_n 0, 1), (1, .getfield 28, 3), (4, .iconst 1, 1), (5, .if_icmp .ge 5, 3), (8, .iload_n 1, 1), (9, .ireturn, 1), (10, .iload_n 1, 1), (11, .iload_n 3, 1), (12, .isub, 1), (13, .aload_n 0, 1), (14, .getfield 28, 3), (17, .invokestatic 48, 3), (20, .aload_n 0, 1), (21, .getfield 28, 3), (24, .iconst 2, 1), (25, .idiv, 1), (26, .if_icmp .ge 7, 3), (29, .iconst 1, 1), (30, .goto 4, 3), (33, .iconst 0, 1), (34, .istore 4, 2), (36, .iload 4, 2), (38, .ifCond .eq 9, 3), (41, .iload_n 1, 1), (42, .iload_n 2, 1), (43, .iadd, 1), (44, .goto 6, 3), (47, .iload_n 1, 1), (48, .iload_n 2, 1), (49, .isub, 1), (50, .ireturn, 1)]
theorem T_cX8_turned : tabOK cX8_turned T_cX8_turnedL = true := by decide +kernel
def P_Screw_turned_50 (post : Int32 → Mem → Prop) (s0 : Int32) (M : Mem) : Prop :=
  post s0 M
theorem k_Screw_turned_50 {X : FX} {g : GT} {ext : List CD} {A : Nat → Prop} {Z : State → Prop} {post : Int32 → Mem → Prop} (C : Cx X g (layC ++ ext) A cX8_turned 5 RX8 1) (hr : 0 ≤ X.2.2.2.1.cells ∧ 0 ≤ X.2.2.2.1.slots) (hR : RetI X g (layC ++ ext) A cX8_turned 5 0 0 Z post) (s0 : Int32) (M : Mem) (h : P_Screw_turned_50 post s0 M) : AtX X g (layC ++ ext) A 5 0 0 Z 50 [] [.int s0] M := by
  exact hR _ _ _ _ (tk T_cX8_turned 30 rfl) h
def P_Screw_turned_34 (post : Int32 → Mem → Prop) (x1 x2 s0 : Int32) (M : Mem) : Prop :=
  (s0 = 0 → (P_Screw_turned_50 post (x1 - x2) M)) ∧
  (¬ s0 = 0 → (P_Screw_turned_50 post (x1 + x2) M))
theorem k_Screw_turned_34 {X : FX} {g : GT} {ext : List CD} {A : Nat → Prop} {Z : State → Prop} {post : Int32 → Mem → Prop} (C : Cx X g (layC ++ ext) A cX8_turned 5 RX8 1) (hr : 0 ≤ X.2.2.2.1.cells ∧ 0 ≤ X.2.2.2.1.slots) (hR : RetI X g (layC ++ ext) A cX8_turned 5 0 0 Z post) (x1 x2 s0 : Int32) (M : Mem) (h : P_Screw_turned_34 post x1 x2 s0 M) : AtX X g (layC ++ ext) A 5 0 0 Z 34 [(1, .int x1), (2, .int x2)] [.int s0] M := by
  refine a_istore C (tk T_cX8_turned 20 rfl) (by decide) rfl ?_
  refine a_iload C (tk T_cX8_turned 21 rfl) rfl ?_
  refine a_if_eq C 47 (tk T_cX8_turned 22 rfl) rfl (fun c => ?_) (fun c => ?_)
  · have h := h.1 c
    refine a_iload_n C (tk T_cX8_turned 27 rfl) rfl ?_
    refine a_iload_n C (tk T_cX8_turned 28 rfl) rfl ?_
    refine a_isub C (tk T_cX8_turned 29 rfl) ?_
    exact a_to (k_Screw_turned_50 C hr hR (x1 - x2) M h) rfl
  · have h := h.2 c
    refine a_iload_n C (tk T_cX8_turned 23 rfl) rfl ?_
    refine a_iload_n C (tk T_cX8_turned 24 rfl) rfl ?_
    refine a_iadd C (tk T_cX8_turned 25 rfl) ?_
    refine a_goto C 50 (tk T_cX8_turned 26 rfl) rfl ?_
    exact a_to (k_Screw_turned_50 C hr hR (x1 + x2) M h) rfl
def P_Screw_turned (post : Int32 → Mem → Prop) (x1 x2 x3 : Int32) (M : Mem) : Prop :=
  ((1 : Int32) ≤ (M 2 6) → (P_Math_floorMod (fun r1 M1 =>
  (((M1 2 6) / (2 : Int32)) ≤ r1 → (P_Screw_turned_34 post x1 x2 (0 : Int32) M1)) ∧
  (¬ ((M1 2 6) / (2 : Int32)) ≤ r1 → (P_Screw_turned_34 post x1 x2 (1 : Int32) M1))) (x1 - x3) (M 2 6) M)) ∧
  (¬ (1 : Int32) ≤ (M 2 6) → (post x1 M))
theorem k_Screw_turned {X : FX} {g : GT} {ext : List CD} {A : Nat → Prop} {Z : State → Prop} {post : Int32 → Mem → Prop} (C : Cx X g (layC ++ ext) A cX8_turned 5 RX8 1) (hr : 0 ≤ X.2.2.2.1.cells ∧ 0 ≤ X.2.2.2.1.slots) (hR : RetI X g (layC ++ ext) A cX8_turned 5 0 0 Z post) (x1 x2 x3 : Int32) (M : Mem) (h : P_Screw_turned post x1 x2 x3 M) : AtX X g (layC ++ ext) A 5 0 0 Z 0 [(0, .ref (ad g 2)), (1, .int x1), (2, .int x2), (3, .int x3)] [] M := by
  refine a_aload_n C (tk T_cX8_turned 0 rfl) rfl ?_
  refine a_getI C f_RX8_28 (tk T_cX8_turned 1 rfl) lc2 rfl ?_
  refine a_iconst C (1 : Int32) (tk T_cX8_turned 2 rfl) kI_1 ?_
  refine a_icmp_ge C 10 (tk T_cX8_turned 3 rfl) rfl (fun c => ?_) (fun c => ?_)
  · have h := h.1 c
    refine a_iload_n C (tk T_cX8_turned 6 rfl) rfl ?_
    refine a_iload_n C (tk T_cX8_turned 7 rfl) rfl ?_
    refine a_isub C (tk T_cX8_turned 8 rfl) ?_
    refine a_aload_n C (tk T_cX8_turned 9 rfl) rfl ?_
    refine a_getI C f_RX8_28 (tk T_cX8_turned 10 rfl) lc2 rfl ?_
    refine a_statI C [.int (x1 - x3), .int (M 2 6)] me_yJ9_floorMod_7cf53 lk_RX8_48 (ct_Math_floorMod h) (by decide) rfl rfl (Nat.le_of_ble_eq_true rfl) (tk T_cX8_turned 11 rfl) hr (fun r1 M1 h => ?_)
    refine a_aload_n C (tk T_cX8_turned 12 rfl) rfl ?_
    refine a_getI C f_RX8_28 (tk T_cX8_turned 13 rfl) lc2 rfl ?_
    refine a_iconst C (2 : Int32) (tk T_cX8_turned 14 rfl) kI_2 ?_
    refine a_idiv C (tk T_cX8_turned 15 rfl) (by decide) ?_
    refine a_icmp_ge C 33 (tk T_cX8_turned 16 rfl) rfl (fun c => ?_) (fun c => ?_)
    · have h := h.1 c
      refine a_iconst C (0 : Int32) (tk T_cX8_turned 19 rfl) kI_0 ?_
      exact a_to (k_Screw_turned_34 C hr hR x1 x2 (0 : Int32) M1 h) rfl
    · have h := h.2 c
      refine a_iconst C (1 : Int32) (tk T_cX8_turned 17 rfl) kI_1 ?_
      refine a_goto C 34 (tk T_cX8_turned 18 rfl) rfl ?_
      exact a_to (k_Screw_turned_34 C hr hR x1 x2 (1 : Int32) M1 h) rfl
  · have h := h.2 c
    refine a_iload_n C (tk T_cX8_turned 4 rfl) rfl ?_
    exact hR _ _ _ _ (tk T_cX8_turned 5 rfl) h
theorem ct_Screw_turned {l : Launch} {g : GT} {ext : List CD} {post : Int32 → Mem → Prop} {x1 x2 x3 : Int32} {M : Mem} (h : P_Screw_turned post x1 x2 x3 M) : CI l g (layC ++ ext) yX8_turned cX8_turned 5 (some .int) 1 [.ref (ad g 2), .int x1, .int x2, .int x3] M post :=
  ci_of (plainFor_of_name (by decide +kernel)) (Nat.le_of_ble_eq_true rfl) (fun X A Z hl C hr hR => by subst hl; exact k_Screw_turned C hr hR x1 x2 x3 M h)
def T_cX8_truePlaceL : List (Nat × Instr × Nat) := [(0, .aload_n 0, 1), (1, .iload_n 1, 1), (2, .aload_n 0, 1), (3, .getfield 35, 3), (6, .aload_n 0, 1), (7, .getfield 38, 3), (10, .invokevirtual 44, 3), (13, .iload_n 2, 1), (14, .ifCond .eq 10, 3), (17, .aload_n 0, 1), (18, .getfield 41, 3), (21, .goto 4, 3), (24, .iconst 0, 1), (25, .iadd, 1), (26, .ireturn, 1)]
theorem T_cX8_truePlace : tabOK cX8_truePlace T_cX8_truePlaceL = true := by decide +kernel
def P_Screw_truePlace_25 (post : Int32 → Mem → Prop) (s0 s1 : Int32) (M : Mem) : Prop :=
  post (s0 + s1) M
theorem k_Screw_truePlace_25 {X : FX} {g : GT} {ext : List CD} {A : Nat → Prop} {Z : State → Prop} {post : Int32 → Mem → Prop} (C : Cx X g (layC ++ ext) A cX8_truePlace 3 RX8 2) (hr : 0 ≤ X.2.2.2.1.cells ∧ 0 ≤ X.2.2.2.1.slots) (hR : RetI X g (layC ++ ext) A cX8_truePlace 3 0 0 Z post) (s0 s1 : Int32) (M : Mem) (h : P_Screw_truePlace_25 post s0 s1 M) : AtX X g (layC ++ ext) A 3 0 0 Z 25 [] [.int s1, .int s0] M := by
  refine a_iadd C (tk T_cX8_truePlace 13 rfl) ?_
  exact hR _ _ _ _ (tk T_cX8_truePlace 14 rfl) h
def P_Screw_truePlace (post : Int32 → Mem → Prop) (x1 x2 : Int32) (M : Mem) : Prop :=
  P_Screw_turned (fun r1 M1 =>
  (x2 = 0 → (P_Screw_truePlace_25 post r1 (0 : Int32) M1)) ∧
  (¬ x2 = 0 → (P_Screw_truePlace_25 post r1 (M1 2 9) M1))) x1 (M 2 7) (M 2 8) M
theorem k_Screw_truePlace {X : FX} {g : GT} {ext : List CD} {A : Nat → Prop} {Z : State → Prop} {post : Int32 → Mem → Prop} (C : Cx X g (layC ++ ext) A cX8_truePlace 3 RX8 2) (hr : 0 ≤ X.2.2.2.1.cells ∧ 0 ≤ X.2.2.2.1.slots) (hR : RetI X g (layC ++ ext) A cX8_truePlace 3 0 0 Z post) (x1 x2 : Int32) (M : Mem) (h : P_Screw_truePlace post x1 x2 M) : AtX X g (layC ++ ext) A 3 0 0 Z 0 [(0, .ref (ad g 2)), (1, .int x1), (2, .int x2)] [] M := by
  refine a_aload_n C (tk T_cX8_truePlace 0 rfl) rfl ?_
  refine a_iload_n C (tk T_cX8_truePlace 1 rfl) rfl ?_
  refine a_aload_n C (tk T_cX8_truePlace 2 rfl) rfl ?_
  refine a_getI C f_RX8_35 (tk T_cX8_truePlace 3 rfl) lc2 rfl ?_
  refine a_aload_n C (tk T_cX8_truePlace 4 rfl) rfl ?_
  refine a_getI C f_RX8_38 (tk T_cX8_truePlace 5 rfl) lc2 rfl ?_
  refine a_callI C [.int x1, .int (M 2 7), .int (M 2 8)] me_yX8_turned lk_RX8_44 (ct_Screw_turned h) (by decide) lc2 rfl rfl rfl (Nat.le_of_ble_eq_true rfl) (tk T_cX8_truePlace 6 rfl) hr (fun r1 M1 h => ?_)
  refine a_iload_n C (tk T_cX8_truePlace 7 rfl) rfl ?_
  refine a_if_eq C 24 (tk T_cX8_truePlace 8 rfl) rfl (fun c => ?_) (fun c => ?_)
  · have h := h.1 c
    refine a_iconst C (0 : Int32) (tk T_cX8_truePlace 12 rfl) kI_0 ?_
    exact a_to (k_Screw_truePlace_25 C hr hR r1 (0 : Int32) M1 h) rfl
  · have h := h.2 c
    refine a_aload_n C (tk T_cX8_truePlace 9 rfl) rfl ?_
    refine a_getI C f_RX8_41 (tk T_cX8_truePlace 10 rfl) lc2 rfl ?_
    refine a_goto C 25 (tk T_cX8_truePlace 11 rfl) rfl ?_
    exact a_to (k_Screw_truePlace_25 C hr hR r1 (M1 2 9) M1 h) rfl
theorem ct_Screw_truePlace {l : Launch} {g : GT} {ext : List CD} {post : Int32 → Mem → Prop} {x1 x2 : Int32} {M : Mem} (h : P_Screw_truePlace post x1 x2 M) : CI l g (layC ++ ext) yX8_truePlace cX8_truePlace 3 (some .int) 2 [.ref (ad g 2), .int x1, .int x2] M post :=
  ci_of (plainFor_of_name (by decide +kernel)) (Nat.le_of_ble_eq_true rfl) (fun X A Z hl C hr hR => by subst hl; exact k_Screw_truePlace C hr hR x1 x2 M h)
def T_cX11_trulyL : List (Nat × Instr × Nat) := [(0, .iload_n 1, 1), (1, .iconst 0, 1), (2, .sipush 999, 3), (5, .invokestatic 68, 3), (8, .invokestatic 72, 3), (11, .aload_n 0, 1), (12, .getfield 10, 3), (15, .getfield 76, 3), (18, .iload_n 1, 1), (19, .iload_n 2, 1), (20, .invokevirtual 97, 3), (23, .ireturn, 1)]
theorem T_cX11_truly : tabOK cX11_truly T_cX11_trulyL = true := by decide +kernel
def P_R_truly (post : Int32 → Mem → Prop) (ex : String → Mem → Prop) (x1 x2 : Int32) (M : Mem) : Prop :=
  P_R_within (fun r1 M1 =>
  P_R_wantNumber (fun M2 =>
  P_Screw_truePlace (fun r3 M3 =>
  post r3 M3) x1 x2 M2) ex r1 M1) x1 (0 : Int32) (999 : Int32) M
theorem k_R_truly {X : FX} {g : GT} {ext : List CD} {A : Nat → Prop} {Z : State → Prop} {post : Int32 → Mem → Prop} {ex : String → Mem → Prop} {sk : Nat → Nat} (C : CxX X g (layC ++ ext) A cX11_truly 3 RX11 7 1 sk) (hT : ThX X g (layC ++ ext) A 1 Z ex) (hR : RetI X g (layC ++ ext) A cX11_truly 3 1 (6 * 1) Z post) (x1 x2 : Int32) (M : Mem) (h : P_R_truly post ex x1 x2 M) : AtX X g (layC ++ ext) A 3 0 0 Z 0 [(0, .ref (ad g 0)), (1, .int x1), (2, .int x2)] [] M := by
  refine a_iload_n C.1 (tk T_cX11_truly 0 rfl) rfl ?_
  refine a_iconst C.1 (0 : Int32) (tk T_cX11_truly 1 rfl) kI_0 ?_
  refine a_sipush C.1 (999 : Int32) (tk T_cX11_truly 2 rfl) kS_999 ?_
  refine a_statI C.1 [.int x1, .int (0 : Int32), .int (999 : Int32)] me_yX11_within lk_RX11_68 (ct_R_within h) (by decide) rfl rfl (Nat.le_of_ble_eq_true rfl) (tk T_cX11_truly 3 rfl) ⟨Nat.le_trans (by decide) C.2.2.1, Nat.le_trans (by decide) C.2.2.2⟩ (fun r1 M1 h => ?_)
  refine x_statV C hT [.int r1] me_yX11_wantNumber lk_RX11_72 (ct_R_wantNumber h) (by decide) rfl rfl (Nat.le_of_ble_eq_true rfl) (tk T_cX11_truly 4 rfl) (by decide) (fun M2 h => ?_)
  refine a_aload_n C.1 (tk T_cX11_truly 5 rfl) rfl ?_
  refine a_getR C.1 f_RX11_10 (tk T_cX11_truly 6 rfl) lc0 rfl ?_
  refine a_getR C.1 f_RX11_76 (tk T_cX11_truly 7 rfl) lc1 rfl ?_
  refine a_iload_n C.1 (tk T_cX11_truly 8 rfl) rfl ?_
  refine a_iload_n C.1 (tk T_cX11_truly 9 rfl) rfl ?_
  refine a_callI C.1 [.int x1, .int x2] me_yX8_truePlace lk_RX11_97 (ct_Screw_truePlace h) (by decide) lc2 rfl rfl rfl (Nat.le_of_ble_eq_true rfl) (tk T_cX11_truly 10 rfl) ⟨Nat.le_trans (by decide) C.2.2.1, Nat.le_trans (by decide) C.2.2.2⟩ (fun r3 M3 h => ?_)
  exact x_widen (by decide) (by decide) (hR _ _ _ _ (tk T_cX11_truly 11 rfl) h)
theorem ct_R_truly {l : Launch} {g : GT} {ext : List CD} {sk : Nat → Nat} {post : Int32 → Mem → Prop} {ex : String → Mem → Prop} {x1 x2 : Int32} {M : Mem} (h : P_R_truly post ex x1 x2 M) : XI l g (layC ++ ext) sk yX11_truly cX11_truly 3 (some .int) 7 1 [.ref (ad g 0), .int x1, .int x2] M post ex :=
  xi_of (by decide +kernel) (Nat.le_of_ble_eq_true rfl) (fun X A Z hl C hR hT _ => by subst hl; exact k_R_truly C hT hR x1 x2 M h)
def T_cX11_gaugeL : List (Nat × Instr × Nat) := [(0, .iload_n 1, 1), (1, .iconst 0, 1), (2, .sipush 999, 3), (5, .invokestatic 68, 3), (8, .ifCond .eq 30, 3), (11, .iload_n 3, 1), (12, .iconst 0, 1), (13, .sipush 999, 3), (16, .invokestatic 68, 3), (19, .ifCond .eq 19, 3), (22, .iload 5, 2), (24, .iconst 0, 1), (25, .sipush 1200, 3), (28, .invokestatic 68, 3), (31, .ifCond .eq 7, 3), (34, .iconst 1, 1), (35, .goto 4, 3), (38, .iconst 0, 1), (39, .invokestatic 72, 3), (42, .aload_n 0, 1), (43, .getfield 10, 3), (46, .getfield 76, 3), (49, .getfield 101, 3), (52, .bipush 8, 2), (54, .if_icmp .ge 7, 3), (57, .iconst 1, 1), (58, .goto 4, 3), (61, .iconst 0, 1), (62, .invokestatic 104, 3), (65, .aload_n 0, 1), (66, .getfield 10, 3), (69, .getfield 76, 3), (72, .astore 6, 2), (74, .aload 6, 2), (76, .getfield 101, 3), (79, .istore 7, 2), (81, .aload 6, 2), (83, .getfield 107, 3), (86, .iload 7, 2), (88, .iload_n 1, 1), (89, .iastore, 1), (90, .aload 6, 2), (92, .getfield 111, 3), (95, .iload 7, 2), (97, .iload_n 2, 1), (98, .bastore, 1), (99, .aload 6, 2), (101, .getfield 115, 3), (104, .iload 7, 2), (106, .iload_n 3, 1), (107, .iastore, 1), (108, .aload 6, 2), (110, .getfield 118, 3), (113, .iload 7, 2), (115, .iload 4, 2), (117, .bastore, 1), (118, .aload 6, 2), (120, .getfield 121, 3), (123, .iload 7, 2), (125, .iload 5, 2), (127, .iastore, 1), (128, .aload 6, 2), (130, .iload 7, 2), (132, .iconst 1, 1), (133, .iadd, 1), (134, .putfield 101, 3), (137, .aload 6, 2), (139, .getfield 101, 3), (142, .ireturn, 1)]
theorem T_cX11_gauge : tabOK cX11_gauge T_cX11_gaugeL = true := by decide +kernel
def P_R_gauge_62 (post : Int32 → Mem → Prop) (ex : String → Mem → Prop) (x1 x2 x3 x4 x5 s0 : Int32) (M : Mem) : Prop :=
  P_R_wantRoom (fun M1 =>
  vp_in (M1 2 5) 8 ∧ ∀ M2, M2 = ms M1 3 (M1 2 5).toNatClampNeg x1 → vp_in (M1 2 5) 8 ∧ ∀ M3, M3 = ms M2 4 (M1 2 5).toNatClampNeg (vp_nar .boolean x2) → vp_in (M1 2 5) 8 ∧ ∀ M4, M4 = ms M3 5 (M1 2 5).toNatClampNeg x3 → vp_in (M1 2 5) 8 ∧ ∀ M5, M5 = ms M4 6 (M1 2 5).toNatClampNeg (vp_nar .boolean x4) → vp_in (M1 2 5) 8 ∧ ∀ M6, M6 = ms M5 7 (M1 2 5).toNatClampNeg x5 → ∀ M7, M7 = ms M6 2 5 ((M1 2 5) + (1 : Int32)) → post (M7 2 5) M7) ex s0 M
theorem k_R_gauge_62 {X : FX} {g : GT} {ext : List CD} {A : Nat → Prop} {Z : State → Prop} {post : Int32 → Mem → Prop} {ex : String → Mem → Prop} {sk : Nat → Nat} (C : CxX X g (layC ++ ext) A cX11_gauge 8 RX11 7 2 sk) (hT : ThX X g (layC ++ ext) A 2 Z ex) (hR : RetI X g (layC ++ ext) A cX11_gauge 8 2 (6 * 2) Z post) (x1 x2 x3 x4 x5 s0 : Int32) (M : Mem) (h : P_R_gauge_62 post ex x1 x2 x3 x4 x5 s0 M) : AtX X g (layC ++ ext) A 8 1 (6 * 1) Z 62 [(0, .ref (ad g 0)), (1, .int x1), (2, .int x2), (3, .int x3), (4, .int x4), (5, .int x5)] [.int s0] M := by
  refine x_statV C hT [.int s0] me_yX11_wantRoom lk_RX11_104 (ct_R_wantRoom h) (by decide) rfl rfl (Nat.le_of_ble_eq_true rfl) (tk T_cX11_gauge 28 rfl) (by decide) (fun M1 h => ?_)
  refine a_aload_n C.1 (tk T_cX11_gauge 29 rfl) rfl ?_
  refine a_getR C.1 f_RX11_10 (tk T_cX11_gauge 30 rfl) lc0 rfl ?_
  refine a_getR C.1 f_RX11_76 (tk T_cX11_gauge 31 rfl) lc1 rfl ?_
  refine a_astore C.1 (tk T_cX11_gauge 32 rfl) (by decide) rfl ?_
  refine a_aload C.1 (tk T_cX11_gauge 33 rfl) rfl ?_
  refine a_getI C.1 f_RX11_101 (tk T_cX11_gauge 34 rfl) lc2 rfl ?_
  refine a_istore C.1 (tk T_cX11_gauge 35 rfl) (by decide) rfl ?_
  refine a_aload C.1 (tk T_cX11_gauge 36 rfl) rfl ?_
  refine a_getR C.1 f_RX11_107 (tk T_cX11_gauge 37 rfl) lc2 rfl ?_
  refine a_iload C.1 (tk T_cX11_gauge 38 rfl) rfl ?_
  refine a_iload_n C.1 (tk T_cX11_gauge 39 rfl) rfl ?_
  obtain ⟨hb, h⟩ := h
  refine a_iast C.1 (tk T_cX11_gauge 40 rfl) lc3 hb ?_
  refine a_mem (fun M2 e_M2 => ?_)
  have h := h M2 e_M2
  refine a_aload C.1 (tk T_cX11_gauge 41 rfl) rfl ?_
  refine a_getR C.1 f_RX11_111 (tk T_cX11_gauge 42 rfl) lc2 rfl ?_
  refine a_iload C.1 (tk T_cX11_gauge 43 rfl) rfl ?_
  refine a_iload_n C.1 (tk T_cX11_gauge 44 rfl) rfl ?_
  obtain ⟨hb, h⟩ := h
  refine a_zast C.1 (tk T_cX11_gauge 45 rfl) lc4 hb ?_
  refine a_mem (fun M3 e_M3 => ?_)
  have h := h M3 e_M3
  refine a_aload C.1 (tk T_cX11_gauge 46 rfl) rfl ?_
  refine a_getR C.1 f_RX11_115 (tk T_cX11_gauge 47 rfl) lc2 rfl ?_
  refine a_iload C.1 (tk T_cX11_gauge 48 rfl) rfl ?_
  refine a_iload_n C.1 (tk T_cX11_gauge 49 rfl) rfl ?_
  obtain ⟨hb, h⟩ := h
  refine a_iast C.1 (tk T_cX11_gauge 50 rfl) lc5 hb ?_
  refine a_mem (fun M4 e_M4 => ?_)
  have h := h M4 e_M4
  refine a_aload C.1 (tk T_cX11_gauge 51 rfl) rfl ?_
  refine a_getR C.1 f_RX11_118 (tk T_cX11_gauge 52 rfl) lc2 rfl ?_
  refine a_iload C.1 (tk T_cX11_gauge 53 rfl) rfl ?_
  refine a_iload C.1 (tk T_cX11_gauge 54 rfl) rfl ?_
  obtain ⟨hb, h⟩ := h
  refine a_zast C.1 (tk T_cX11_gauge 55 rfl) lc6 hb ?_
  refine a_mem (fun M5 e_M5 => ?_)
  have h := h M5 e_M5
  refine a_aload C.1 (tk T_cX11_gauge 56 rfl) rfl ?_
  refine a_getR C.1 f_RX11_121 (tk T_cX11_gauge 57 rfl) lc2 rfl ?_
  refine a_iload C.1 (tk T_cX11_gauge 58 rfl) rfl ?_
  refine a_iload C.1 (tk T_cX11_gauge 59 rfl) rfl ?_
  obtain ⟨hb, h⟩ := h
  refine a_iast C.1 (tk T_cX11_gauge 60 rfl) lc7 hb ?_
  refine a_mem (fun M6 e_M6 => ?_)
  have h := h M6 e_M6
  refine a_aload C.1 (tk T_cX11_gauge 61 rfl) rfl ?_
  refine a_iload C.1 (tk T_cX11_gauge 62 rfl) rfl ?_
  refine a_iconst C.1 (1 : Int32) (tk T_cX11_gauge 63 rfl) kI_1 ?_
  refine a_iadd C.1 (tk T_cX11_gauge 64 rfl) ?_
  refine a_put C.1 f_RX11_101 f_RX11_101p rfl rfl (tk T_cX11_gauge 65 rfl) lc2 rfl ?_
  refine a_mem (fun M7 e_M7 => ?_)
  have h := h M7 e_M7
  refine a_aload C.1 (tk T_cX11_gauge 66 rfl) rfl ?_
  refine a_getI C.1 f_RX11_101 (tk T_cX11_gauge 67 rfl) lc2 rfl ?_
  exact x_widen (by decide) (by decide) (hR _ _ _ _ (tk T_cX11_gauge 68 rfl) h)
def P_R_gauge_39 (post : Int32 → Mem → Prop) (ex : String → Mem → Prop) (x1 x2 x3 x4 x5 s0 : Int32) (M : Mem) : Prop :=
  P_R_wantNumber (fun M1 =>
  ((8 : Int32) ≤ (M1 2 5) → (P_R_gauge_62 post ex x1 x2 x3 x4 x5 (0 : Int32) M1)) ∧
  (¬ (8 : Int32) ≤ (M1 2 5) → (P_R_gauge_62 post ex x1 x2 x3 x4 x5 (1 : Int32) M1))) ex s0 M
theorem k_R_gauge_39 {X : FX} {g : GT} {ext : List CD} {A : Nat → Prop} {Z : State → Prop} {post : Int32 → Mem → Prop} {ex : String → Mem → Prop} {sk : Nat → Nat} (C : CxX X g (layC ++ ext) A cX11_gauge 8 RX11 7 2 sk) (hT : ThX X g (layC ++ ext) A 2 Z ex) (hR : RetI X g (layC ++ ext) A cX11_gauge 8 2 (6 * 2) Z post) (x1 x2 x3 x4 x5 s0 : Int32) (M : Mem) (h : P_R_gauge_39 post ex x1 x2 x3 x4 x5 s0 M) : AtX X g (layC ++ ext) A 8 0 (6 * 0) Z 39 [(0, .ref (ad g 0)), (1, .int x1), (2, .int x2), (3, .int x3), (4, .int x4), (5, .int x5)] [.int s0] M := by
  refine x_statV C hT [.int s0] me_yX11_wantNumber lk_RX11_72 (ct_R_wantNumber h) (by decide) rfl rfl (Nat.le_of_ble_eq_true rfl) (tk T_cX11_gauge 18 rfl) (by decide) (fun M1 h => ?_)
  refine a_aload_n C.1 (tk T_cX11_gauge 19 rfl) rfl ?_
  refine a_getR C.1 f_RX11_10 (tk T_cX11_gauge 20 rfl) lc0 rfl ?_
  refine a_getR C.1 f_RX11_76 (tk T_cX11_gauge 21 rfl) lc1 rfl ?_
  refine a_getI C.1 f_RX11_101 (tk T_cX11_gauge 22 rfl) lc2 rfl ?_
  refine a_bipush C.1 (8 : Int32) (tk T_cX11_gauge 23 rfl) kB_8 ?_
  refine a_icmp_ge C.1 61 (tk T_cX11_gauge 24 rfl) rfl (fun c => ?_) (fun c => ?_)
  · have h := h.1 c
    refine a_iconst C.1 (0 : Int32) (tk T_cX11_gauge 27 rfl) kI_0 ?_
    exact x_widen (by decide) (by decide) (a_to (k_R_gauge_62 C hT hR x1 x2 x3 x4 x5 (0 : Int32) M1 h) rfl)
  · have h := h.2 c
    refine a_iconst C.1 (1 : Int32) (tk T_cX11_gauge 25 rfl) kI_1 ?_
    refine a_goto C.1 62 (tk T_cX11_gauge 26 rfl) rfl ?_
    exact x_widen (by decide) (by decide) (a_to (k_R_gauge_62 C hT hR x1 x2 x3 x4 x5 (1 : Int32) M1 h) rfl)
def P_R_gauge_38 (post : Int32 → Mem → Prop) (ex : String → Mem → Prop) (x1 x2 x3 x4 x5 : Int32) (M : Mem) : Prop :=
  P_R_gauge_39 post ex x1 x2 x3 x4 x5 (0 : Int32) M
theorem k_R_gauge_38 {X : FX} {g : GT} {ext : List CD} {A : Nat → Prop} {Z : State → Prop} {post : Int32 → Mem → Prop} {ex : String → Mem → Prop} {sk : Nat → Nat} (C : CxX X g (layC ++ ext) A cX11_gauge 8 RX11 7 2 sk) (hT : ThX X g (layC ++ ext) A 2 Z ex) (hR : RetI X g (layC ++ ext) A cX11_gauge 8 2 (6 * 2) Z post) (x1 x2 x3 x4 x5 : Int32) (M : Mem) (h : P_R_gauge_38 post ex x1 x2 x3 x4 x5 M) : AtX X g (layC ++ ext) A 8 0 (6 * 0) Z 38 [(0, .ref (ad g 0)), (1, .int x1), (2, .int x2), (3, .int x3), (4, .int x4), (5, .int x5)] [] M := by
  refine a_iconst C.1 (0 : Int32) (tk T_cX11_gauge 17 rfl) kI_0 ?_
  exact x_widen (by decide) (by decide) (a_to (k_R_gauge_39 C hT hR x1 x2 x3 x4 x5 (0 : Int32) M h) rfl)
def P_R_gauge (post : Int32 → Mem → Prop) (ex : String → Mem → Prop) (x1 x2 x3 x4 x5 : Int32) (M : Mem) : Prop :=
  P_R_within (fun r1 M1 =>
  (r1 = 0 → (P_R_gauge_38 post ex x1 x2 x3 x4 x5 M1)) ∧
  (¬ r1 = 0 → (P_R_within (fun r2 M2 =>
  (r2 = 0 → (P_R_gauge_38 post ex x1 x2 x3 x4 x5 M2)) ∧
  (¬ r2 = 0 → (P_R_within (fun r3 M3 =>
  (r3 = 0 → (P_R_gauge_38 post ex x1 x2 x3 x4 x5 M3)) ∧
  (¬ r3 = 0 → (P_R_gauge_39 post ex x1 x2 x3 x4 x5 (1 : Int32) M3))) x5 (0 : Int32) (1200 : Int32) M2))) x3 (0 : Int32) (999 : Int32) M1))) x1 (0 : Int32) (999 : Int32) M
theorem k_R_gauge {X : FX} {g : GT} {ext : List CD} {A : Nat → Prop} {Z : State → Prop} {post : Int32 → Mem → Prop} {ex : String → Mem → Prop} {sk : Nat → Nat} (C : CxX X g (layC ++ ext) A cX11_gauge 8 RX11 7 2 sk) (hT : ThX X g (layC ++ ext) A 2 Z ex) (hR : RetI X g (layC ++ ext) A cX11_gauge 8 2 (6 * 2) Z post) (x1 x2 x3 x4 x5 : Int32) (M : Mem) (h : P_R_gauge post ex x1 x2 x3 x4 x5 M) : AtX X g (layC ++ ext) A 8 0 0 Z 0 [(0, .ref (ad g 0)), (1, .int x1), (2, .int x2), (3, .int x3), (4, .int x4), (5, .int x5)] [] M := by
  refine a_iload_n C.1 (tk T_cX11_gauge 0 rfl) rfl ?_
  refine a_iconst C.1 (0 : Int32) (tk T_cX11_gauge 1 rfl) kI_0 ?_
  refine a_sipush C.1 (999 : Int32) (tk T_cX11_gauge 2 rfl) kS_999 ?_
  refine a_statI C.1 [.int x1, .int (0 : Int32), .int (999 : Int32)] me_yX11_within lk_RX11_68 (ct_R_within h) (by decide) rfl rfl (Nat.le_of_ble_eq_true rfl) (tk T_cX11_gauge 3 rfl) ⟨Nat.le_trans (by decide) C.2.2.1, Nat.le_trans (by decide) C.2.2.2⟩ (fun r1 M1 h => ?_)
  refine a_if_eq C.1 38 (tk T_cX11_gauge 4 rfl) rfl (fun c => ?_) (fun c => ?_)
  · have h := h.1 c
    exact x_widen (by decide) (by decide) (a_to (k_R_gauge_38 C hT hR x1 x2 x3 x4 x5 M1 h) rfl)
  · have h := h.2 c
    refine a_iload_n C.1 (tk T_cX11_gauge 5 rfl) rfl ?_
    refine a_iconst C.1 (0 : Int32) (tk T_cX11_gauge 6 rfl) kI_0 ?_
    refine a_sipush C.1 (999 : Int32) (tk T_cX11_gauge 7 rfl) kS_999 ?_
    refine a_statI C.1 [.int x3, .int (0 : Int32), .int (999 : Int32)] me_yX11_within lk_RX11_68 (ct_R_within h) (by decide) rfl rfl (Nat.le_of_ble_eq_true rfl) (tk T_cX11_gauge 8 rfl) ⟨Nat.le_trans (by decide) C.2.2.1, Nat.le_trans (by decide) C.2.2.2⟩ (fun r2 M2 h => ?_)
    refine a_if_eq C.1 38 (tk T_cX11_gauge 9 rfl) rfl (fun c => ?_) (fun c => ?_)
    · have h := h.1 c
      exact x_widen (by decide) (by decide) (a_to (k_R_gauge_38 C hT hR x1 x2 x3 x4 x5 M2 h) rfl)
    · have h := h.2 c
      refine a_iload C.1 (tk T_cX11_gauge 10 rfl) rfl ?_
      refine a_iconst C.1 (0 : Int32) (tk T_cX11_gauge 11 rfl) kI_0 ?_
      refine a_sipush C.1 (1200 : Int32) (tk T_cX11_gauge 12 rfl) kS_1200 ?_
      refine a_statI C.1 [.int x5, .int (0 : Int32), .int (1200 : Int32)] me_yX11_within lk_RX11_68 (ct_R_within h) (by decide) rfl rfl (Nat.le_of_ble_eq_true rfl) (tk T_cX11_gauge 13 rfl) ⟨Nat.le_trans (by decide) C.2.2.1, Nat.le_trans (by decide) C.2.2.2⟩ (fun r3 M3 h => ?_)
      refine a_if_eq C.1 38 (tk T_cX11_gauge 14 rfl) rfl (fun c => ?_) (fun c => ?_)
      · have h := h.1 c
        exact x_widen (by decide) (by decide) (a_to (k_R_gauge_38 C hT hR x1 x2 x3 x4 x5 M3 h) rfl)
      · have h := h.2 c
        refine a_iconst C.1 (1 : Int32) (tk T_cX11_gauge 15 rfl) kI_1 ?_
        refine a_goto C.1 39 (tk T_cX11_gauge 16 rfl) rfl ?_
        exact x_widen (by decide) (by decide) (a_to (k_R_gauge_39 C hT hR x1 x2 x3 x4 x5 (1 : Int32) M3 h) rfl)
theorem ct_R_gauge {l : Launch} {g : GT} {ext : List CD} {sk : Nat → Nat} {post : Int32 → Mem → Prop} {ex : String → Mem → Prop} {x1 x2 x3 x4 x5 : Int32} {M : Mem} (h : P_R_gauge post ex x1 x2 x3 x4 x5 M) : XI l g (layC ++ ext) sk yX11_gauge cX11_gauge 8 (some .int) 7 2 [.ref (ad g 0), .int x1, .int x2, .int x3, .int x4, .int x5] M post ex :=
  xi_of (by decide +kernel) (Nat.le_of_ble_eq_true rfl) (fun X A Z hl C hR hT _ => by subst hl; exact k_R_gauge C hT hR x1 x2 x3 x4 x5 M h)
def T_cX8_candidatesL : List (Nat × Instr × Nat) := [(0, .bipush 10, 2), (2, .bipush 90, 2), (4, .aload_n 0, 1), (5, .getfield 28, 3), (8, .imul, 1), (9, .iadd, 1), (10, .ireturn, 1)]
theorem T_cX8_candidates : tabOK cX8_candidates T_cX8_candidatesL = true := by decide +kernel
def P_Screw_candidates (post : Int32 → Mem → Prop) (M : Mem) : Prop :=
  post ((10 : Int32) + ((90 : Int32) * (M 2 6))) M
theorem k_Screw_candidates {X : FX} {g : GT} {ext : List CD} {A : Nat → Prop} {Z : State → Prop} {post : Int32 → Mem → Prop} (C : Cx X g (layC ++ ext) A cX8_candidates 1 RX8 0) (hr : 0 ≤ X.2.2.2.1.cells ∧ 0 ≤ X.2.2.2.1.slots) (hR : RetI X g (layC ++ ext) A cX8_candidates 1 0 0 Z post) (M : Mem) (h : P_Screw_candidates post M) : AtX X g (layC ++ ext) A 1 0 0 Z 0 [(0, .ref (ad g 2))] [] M := by
  refine a_bipush C (10 : Int32) (tk T_cX8_candidates 0 rfl) kB_10 ?_
  refine a_bipush C (90 : Int32) (tk T_cX8_candidates 1 rfl) kB_90 ?_
  refine a_aload_n C (tk T_cX8_candidates 2 rfl) rfl ?_
  refine a_getI C f_RX8_28 (tk T_cX8_candidates 3 rfl) lc2 rfl ?_
  refine a_imul C (tk T_cX8_candidates 4 rfl) ?_
  refine a_iadd C (tk T_cX8_candidates 5 rfl) ?_
  exact hR _ _ _ _ (tk T_cX8_candidates 6 rfl) h
theorem ct_Screw_candidates {l : Launch} {g : GT} {ext : List CD} {post : Int32 → Mem → Prop} {M : Mem} (h : P_Screw_candidates post M) : CI l g (layC ++ ext) yX8_candidates cX8_candidates 1 (some .int) 0 [.ref (ad g 2)] M post :=
  ci_of (plainFor_of_name (by decide +kernel)) (Nat.le_of_ble_eq_true rfl) (fun X A Z hl C hr hR => by subst hl; exact k_Screw_candidates C hr hR  M h)
def T_cX8_wearOfL : List (Nat × Instr × Nat) := [(0, .iload_n 1, 1), (1, .bipush 10, 2), (3, .if_icmp .lt 11, 3), (6, .aload_n 0, 1), (7, .getfield 28, 3), (10, .iconst 1, 1), (11, .if_icmp .ge 7, 3), (14, .iconst 0, 1), (15, .goto 17, 3), (18, .iconst 1, 1), (19, .iload_n 1, 1), (20, .bipush 10, 2), (22, .isub, 1), (23, .aload_n 0, 1), (24, .getfield 28, 3), (27, .idiv, 1), (28, .bipush 10, 2), (30, .idiv, 1), (31, .iadd, 1), (32, .ireturn, 1)]
theorem T_cX8_wearOf : tabOK cX8_wearOf T_cX8_wearOfL = true := by decide +kernel
def P_Screw_wearOf_32 (post : Int32 → Mem → Prop) (s0 : Int32) (M : Mem) : Prop :=
  post s0 M
theorem k_Screw_wearOf_32 {X : FX} {g : GT} {ext : List CD} {A : Nat → Prop} {Z : State → Prop} {post : Int32 → Mem → Prop} (C : Cx X g (layC ++ ext) A cX8_wearOf 2 RX8 0) (hr : 0 ≤ X.2.2.2.1.cells ∧ 0 ≤ X.2.2.2.1.slots) (hR : RetI X g (layC ++ ext) A cX8_wearOf 2 0 0 Z post) (s0 : Int32) (M : Mem) (h : P_Screw_wearOf_32 post s0 M) : AtX X g (layC ++ ext) A 2 0 0 Z 32 [] [.int s0] M := by
  exact hR _ _ _ _ (tk T_cX8_wearOf 19 rfl) h
def P_Screw_wearOf_14 (post : Int32 → Mem → Prop) (M : Mem) : Prop :=
  P_Screw_wearOf_32 post (0 : Int32) M
theorem k_Screw_wearOf_14 {X : FX} {g : GT} {ext : List CD} {A : Nat → Prop} {Z : State → Prop} {post : Int32 → Mem → Prop} (C : Cx X g (layC ++ ext) A cX8_wearOf 2 RX8 0) (hr : 0 ≤ X.2.2.2.1.cells ∧ 0 ≤ X.2.2.2.1.slots) (hR : RetI X g (layC ++ ext) A cX8_wearOf 2 0 0 Z post)  (M : Mem) (h : P_Screw_wearOf_14 post M) : AtX X g (layC ++ ext) A 2 0 0 Z 14 [] [] M := by
  refine a_iconst C (0 : Int32) (tk T_cX8_wearOf 7 rfl) kI_0 ?_
  refine a_goto C 32 (tk T_cX8_wearOf 8 rfl) rfl ?_
  exact a_to (k_Screw_wearOf_32 C hr hR (0 : Int32) M h) rfl
def P_Screw_wearOf (post : Int32 → Mem → Prop) (x1 : Int32) (M : Mem) : Prop :=
  (x1 < (10 : Int32) → (P_Screw_wearOf_14 post M)) ∧
  (¬ x1 < (10 : Int32) → (((1 : Int32) ≤ (M 2 6) → ((¬ (M 2 6) = 0) ∧ ∀ v1, v1 = ((1 : Int32) + (((x1 - (10 : Int32)) / (M 2 6)) / (10 : Int32))) → P_Screw_wearOf_32 post v1 M)) ∧
  (¬ (1 : Int32) ≤ (M 2 6) → (P_Screw_wearOf_14 post M))))
theorem k_Screw_wearOf {X : FX} {g : GT} {ext : List CD} {A : Nat → Prop} {Z : State → Prop} {post : Int32 → Mem → Prop} (C : Cx X g (layC ++ ext) A cX8_wearOf 2 RX8 0) (hr : 0 ≤ X.2.2.2.1.cells ∧ 0 ≤ X.2.2.2.1.slots) (hR : RetI X g (layC ++ ext) A cX8_wearOf 2 0 0 Z post) (x1 : Int32) (M : Mem) (h : P_Screw_wearOf post x1 M) : AtX X g (layC ++ ext) A 2 0 0 Z 0 [(0, .ref (ad g 2)), (1, .int x1)] [] M := by
  refine a_iload_n C (tk T_cX8_wearOf 0 rfl) rfl ?_
  refine a_bipush C (10 : Int32) (tk T_cX8_wearOf 1 rfl) kB_10 ?_
  refine a_icmp_lt C 14 (tk T_cX8_wearOf 2 rfl) rfl (fun c => ?_) (fun c => ?_)
  · have h := h.1 c
    exact a_to (k_Screw_wearOf_14 C hr hR M h) rfl
  · have h := h.2 c
    refine a_aload_n C (tk T_cX8_wearOf 3 rfl) rfl ?_
    refine a_getI C f_RX8_28 (tk T_cX8_wearOf 4 rfl) lc2 rfl ?_
    refine a_iconst C (1 : Int32) (tk T_cX8_wearOf 5 rfl) kI_1 ?_
    refine a_icmp_ge C 18 (tk T_cX8_wearOf 6 rfl) rfl (fun c => ?_) (fun c => ?_)
    · have h := h.1 c
      refine a_iconst C (1 : Int32) (tk T_cX8_wearOf 9 rfl) kI_1 ?_
      refine a_iload_n C (tk T_cX8_wearOf 10 rfl) rfl ?_
      refine a_bipush C (10 : Int32) (tk T_cX8_wearOf 11 rfl) kB_10 ?_
      refine a_isub C (tk T_cX8_wearOf 12 rfl) ?_
      refine a_aload_n C (tk T_cX8_wearOf 13 rfl) rfl ?_
      refine a_getI C f_RX8_28 (tk T_cX8_wearOf 14 rfl) lc2 rfl ?_
      obtain ⟨hy, h⟩ := h
      refine a_idiv C (tk T_cX8_wearOf 15 rfl) hy ?_
      refine a_bipush C (10 : Int32) (tk T_cX8_wearOf 16 rfl) kB_10 ?_
      refine a_idiv C (tk T_cX8_wearOf 17 rfl) (by decide) ?_
      refine a_iadd C (tk T_cX8_wearOf 18 rfl) ?_
      refine a_top (fun v1 e_v1 => ?_)
      have h := h v1 e_v1
      exact a_to (k_Screw_wearOf_32 C hr hR v1 M h) rfl
    · have h := h.2 c
      exact a_to (k_Screw_wearOf_14 C hr hR M h) rfl
theorem ct_Screw_wearOf {l : Launch} {g : GT} {ext : List CD} {post : Int32 → Mem → Prop} {x1 : Int32} {M : Mem} (h : P_Screw_wearOf post x1 M) : CI l g (layC ++ ext) yX8_wearOf cX8_wearOf 2 (some .int) 0 [.ref (ad g 2), .int x1] M post :=
  ci_of (plainFor_of_name (by decide +kernel)) (Nat.le_of_ble_eq_true rfl) (fun X A Z hl C hr hR => by subst hl; exact k_Screw_wearOf C hr hR x1 M h)
def T_cX8_lagOfL : List (Nat × Instr × Nat) := [(0, .iload_n 1, 1), (1, .bipush 10, 2), (3, .if_icmp .lt 11, 3), (6, .aload_n 0, 1), (7, .getfield 28, 3), (10, .iconst 1, 1), (11, .if_icmp .ge 7, 3), (14, .iload_n 1, 1), (15, .goto 15, 3), (18, .iload_n 1, 1), (19, .bipush 10, 2), (21, .isub, 1), (22, .aload_n 0, 1), (23, .getfield 28, 3), (26, .idiv, 1), (27, .bipush 10, 2), (29, .irem, 1), (30, .ireturn, 1)]
theorem T_cX8_lagOf : tabOK cX8_lagOf T_cX8_lagOfL = true := by decide +kernel
def P_Screw_lagOf_30 (post : Int32 → Mem → Prop) (s0 : Int32) (M : Mem) : Prop :=
  post s0 M
theorem k_Screw_lagOf_30 {X : FX} {g : GT} {ext : List CD} {A : Nat → Prop} {Z : State → Prop} {post : Int32 → Mem → Prop} (C : Cx X g (layC ++ ext) A cX8_lagOf 2 RX8 0) (hr : 0 ≤ X.2.2.2.1.cells ∧ 0 ≤ X.2.2.2.1.slots) (hR : RetI X g (layC ++ ext) A cX8_lagOf 2 0 0 Z post) (s0 : Int32) (M : Mem) (h : P_Screw_lagOf_30 post s0 M) : AtX X g (layC ++ ext) A 2 0 0 Z 30 [] [.int s0] M := by
  exact hR _ _ _ _ (tk T_cX8_lagOf 17 rfl) h
def P_Screw_lagOf_14 (post : Int32 → Mem → Prop) (x1 : Int32) (M : Mem) : Prop :=
  P_Screw_lagOf_30 post x1 M
theorem k_Screw_lagOf_14 {X : FX} {g : GT} {ext : List CD} {A : Nat → Prop} {Z : State → Prop} {post : Int32 → Mem → Prop} (C : Cx X g (layC ++ ext) A cX8_lagOf 2 RX8 0) (hr : 0 ≤ X.2.2.2.1.cells ∧ 0 ≤ X.2.2.2.1.slots) (hR : RetI X g (layC ++ ext) A cX8_lagOf 2 0 0 Z post) (x1 : Int32) (M : Mem) (h : P_Screw_lagOf_14 post x1 M) : AtX X g (layC ++ ext) A 2 0 0 Z 14 [(1, .int x1)] [] M := by
  refine a_iload_n C (tk T_cX8_lagOf 7 rfl) rfl ?_
  refine a_goto C 30 (tk T_cX8_lagOf 8 rfl) rfl ?_
  exact a_to (k_Screw_lagOf_30 C hr hR x1 M h) rfl
def P_Screw_lagOf (post : Int32 → Mem → Prop) (x1 : Int32) (M : Mem) : Prop :=
  (x1 < (10 : Int32) → (P_Screw_lagOf_14 post x1 M)) ∧
  (¬ x1 < (10 : Int32) → (((1 : Int32) ≤ (M 2 6) → ((¬ (M 2 6) = 0) ∧ P_Screw_lagOf_30 post (irm ((x1 - (10 : Int32)) / (M 2 6)) (10 : Int32)) M)) ∧
  (¬ (1 : Int32) ≤ (M 2 6) → (P_Screw_lagOf_14 post x1 M))))
theorem k_Screw_lagOf {X : FX} {g : GT} {ext : List CD} {A : Nat → Prop} {Z : State → Prop} {post : Int32 → Mem → Prop} (C : Cx X g (layC ++ ext) A cX8_lagOf 2 RX8 0) (hr : 0 ≤ X.2.2.2.1.cells ∧ 0 ≤ X.2.2.2.1.slots) (hR : RetI X g (layC ++ ext) A cX8_lagOf 2 0 0 Z post) (x1 : Int32) (M : Mem) (h : P_Screw_lagOf post x1 M) : AtX X g (layC ++ ext) A 2 0 0 Z 0 [(0, .ref (ad g 2)), (1, .int x1)] [] M := by
  refine a_iload_n C (tk T_cX8_lagOf 0 rfl) rfl ?_
  refine a_bipush C (10 : Int32) (tk T_cX8_lagOf 1 rfl) kB_10 ?_
  refine a_icmp_lt C 14 (tk T_cX8_lagOf 2 rfl) rfl (fun c => ?_) (fun c => ?_)
  · have h := h.1 c
    exact a_to (k_Screw_lagOf_14 C hr hR x1 M h) rfl
  · have h := h.2 c
    refine a_aload_n C (tk T_cX8_lagOf 3 rfl) rfl ?_
    refine a_getI C f_RX8_28 (tk T_cX8_lagOf 4 rfl) lc2 rfl ?_
    refine a_iconst C (1 : Int32) (tk T_cX8_lagOf 5 rfl) kI_1 ?_
    refine a_icmp_ge C 18 (tk T_cX8_lagOf 6 rfl) rfl (fun c => ?_) (fun c => ?_)
    · have h := h.1 c
      refine a_iload_n C (tk T_cX8_lagOf 9 rfl) rfl ?_
      refine a_bipush C (10 : Int32) (tk T_cX8_lagOf 10 rfl) kB_10 ?_
      refine a_isub C (tk T_cX8_lagOf 11 rfl) ?_
      refine a_aload_n C (tk T_cX8_lagOf 12 rfl) rfl ?_
      refine a_getI C f_RX8_28 (tk T_cX8_lagOf 13 rfl) lc2 rfl ?_
      obtain ⟨hy, h⟩ := h
      refine a_idiv C (tk T_cX8_lagOf 14 rfl) hy ?_
      refine a_bipush C (10 : Int32) (tk T_cX8_lagOf 15 rfl) kB_10 ?_
      refine a_irem C (tk T_cX8_lagOf 16 rfl) (by decide) ?_
      exact a_to (k_Screw_lagOf_30 C hr hR (irm ((x1 - (10 : Int32)) / (M 2 6)) (10 : Int32)) M h) rfl
    · have h := h.2 c
      exact a_to (k_Screw_lagOf_14 C hr hR x1 M h) rfl
theorem ct_Screw_lagOf {l : Launch} {g : GT} {ext : List CD} {post : Int32 → Mem → Prop} {x1 : Int32} {M : Mem} (h : P_Screw_lagOf post x1 M) : CI l g (layC ++ ext) yX8_lagOf cX8_lagOf 2 (some .int) 0 [.ref (ad g 2), .int x1] M post :=
  ci_of (plainFor_of_name (by decide +kernel)) (Nat.le_of_ble_eq_true rfl) (fun X A Z hl C hr hR => by subst hl; exact k_Screw_lagOf C hr hR x1 M h)
def T_cX8_phaseOfL : List (Nat × Instr × Nat) := [(0, .iload_n 1, 1), (1, .bipush 10, 2), (3, .if_icmp .lt 11, 3), (6, .aload_n 0, 1), (7, .getfield 28, 3), (10, .iconst 1, 1), (11, .if_icmp .ge 7, 3), (14, .iconst 0, 1), (15, .goto 12, 3), (18, .iload_n 1, 1), (19, .bipush 10, 2), (21, .isub, 1), (22, .aload_n 0, 1), (23, .getfield 28, 3), (26, .irem, 1), (27, .ireturn, 1)]
theorem T_cX8_phaseOf : tabOK cX8_phaseOf T_cX8_phaseOfL = true := by decide +kernel
def P_Screw_phaseOf_27 (post : Int32 → Mem → Prop) (s0 : Int32) (M : Mem) : Prop :=
  post s0 M
theorem k_Screw_phaseOf_27 {X : FX} {g : GT} {ext : List CD} {A : Nat → Prop} {Z : State → Prop} {post : Int32 → Mem → Prop} (C : Cx X g (layC ++ ext) A cX8_phaseOf 2 RX8 0) (hr : 0 ≤ X.2.2.2.1.cells ∧ 0 ≤ X.2.2.2.1.slots) (hR : RetI X g (layC ++ ext) A cX8_phaseOf 2 0 0 Z post) (s0 : Int32) (M : Mem) (h : P_Screw_phaseOf_27 post s0 M) : AtX X g (layC ++ ext) A 2 0 0 Z 27 [] [.int s0] M := by
  exact hR _ _ _ _ (tk T_cX8_phaseOf 15 rfl) h
def P_Screw_phaseOf_14 (post : Int32 → Mem → Prop) (M : Mem) : Prop :=
  P_Screw_phaseOf_27 post (0 : Int32) M
theorem k_Screw_phaseOf_14 {X : FX} {g : GT} {ext : List CD} {A : Nat → Prop} {Z : State → Prop} {post : Int32 → Mem → Prop} (C : Cx X g (layC ++ ext) A cX8_phaseOf 2 RX8 0) (hr : 0 ≤ X.2.2.2.1.cells ∧ 0 ≤ X.2.2.2.1.slots) (hR : RetI X g (layC ++ ext) A cX8_phaseOf 2 0 0 Z post)  (M : Mem) (h : P_Screw_phaseOf_14 post M) : AtX X g (layC ++ ext) A 2 0 0 Z 14 [] [] M := by
  refine a_iconst C (0 : Int32) (tk T_cX8_phaseOf 7 rfl) kI_0 ?_
  refine a_goto C 27 (tk T_cX8_phaseOf 8 rfl) rfl ?_
  exact a_to (k_Screw_phaseOf_27 C hr hR (0 : Int32) M h) rfl
def P_Screw_phaseOf (post : Int32 → Mem → Prop) (x1 : Int32) (M : Mem) : Prop :=
  (x1 < (10 : Int32) → (P_Screw_phaseOf_14 post M)) ∧
  (¬ x1 < (10 : Int32) → (((1 : Int32) ≤ (M 2 6) → ((¬ (M 2 6) = 0) ∧ P_Screw_phaseOf_27 post (irm (x1 - (10 : Int32)) (M 2 6)) M)) ∧
  (¬ (1 : Int32) ≤ (M 2 6) → (P_Screw_phaseOf_14 post M))))
theorem k_Screw_phaseOf {X : FX} {g : GT} {ext : List CD} {A : Nat → Prop} {Z : State → Prop} {post : Int32 → Mem → Prop} (C : Cx X g (layC ++ ext) A cX8_phaseOf 2 RX8 0) (hr : 0 ≤ X.2.2.2.1.cells ∧ 0 ≤ X.2.2.2.1.slots) (hR : RetI X g (layC ++ ext) A cX8_phaseOf 2 0 0 Z post) (x1 : Int32) (M : Mem) (h : P_Screw_phaseOf post x1 M) : AtX X g (layC ++ ext) A 2 0 0 Z 0 [(0, .ref (ad g 2)), (1, .int x1)] [] M := by
  refine a_iload_n C (tk T_cX8_phaseOf 0 rfl) rfl ?_
  refine a_bipush C (10 : Int32) (tk T_cX8_phaseOf 1 rfl) kB_10 ?_
  refine a_icmp_lt C 14 (tk T_cX8_phaseOf 2 rfl) rfl (fun c => ?_) (fun c => ?_)
  · have h := h.1 c
    exact a_to (k_Screw_phaseOf_14 C hr hR M h) rfl
  · have h := h.2 c
    refine a_aload_n C (tk T_cX8_phaseOf 3 rfl) rfl ?_
    refine a_getI C f_RX8_28 (tk T_cX8_phaseOf 4 rfl) lc2 rfl ?_
    refine a_iconst C (1 : Int32) (tk T_cX8_phaseOf 5 rfl) kI_1 ?_
    refine a_icmp_ge C 18 (tk T_cX8_phaseOf 6 rfl) rfl (fun c => ?_) (fun c => ?_)
    · have h := h.1 c
      refine a_iload_n C (tk T_cX8_phaseOf 9 rfl) rfl ?_
      refine a_bipush C (10 : Int32) (tk T_cX8_phaseOf 10 rfl) kB_10 ?_
      refine a_isub C (tk T_cX8_phaseOf 11 rfl) ?_
      refine a_aload_n C (tk T_cX8_phaseOf 12 rfl) rfl ?_
      refine a_getI C f_RX8_28 (tk T_cX8_phaseOf 13 rfl) lc2 rfl ?_
      obtain ⟨hy, h⟩ := h
      refine a_irem C (tk T_cX8_phaseOf 14 rfl) hy ?_
      exact a_to (k_Screw_phaseOf_27 C hr hR (irm (x1 - (10 : Int32)) (M 2 6)) M h) rfl
    · have h := h.2 c
      exact a_to (k_Screw_phaseOf_14 C hr hR M h) rfl
theorem ct_Screw_phaseOf {l : Launch} {g : GT} {ext : List CD} {post : Int32 → Mem → Prop} {x1 : Int32} {M : Mem} (h : P_Screw_phaseOf post x1 M) : CI l g (layC ++ ext) yX8_phaseOf cX8_phaseOf 2 (some .int) 0 [.ref (ad g 2), .int x1] M post :=
  ci_of (plainFor_of_name (by decide +kernel)) (Nat.le_of_ble_eq_true rfl) (fun X A Z hl C hr hR => by subst hl; exact k_Screw_phaseOf C hr hR x1 M h)
def T_cX8_isFitL : List (Nat × Instr × Nat) := [(0, .aload_n 0, 1), (1, .iload_n 1, 1), (2, .invokevirtual 62, 3), (5, .istore_n 2, 1), (6, .aload_n 0, 1), (7, .iload_n 1, 1), (8, .invokevirtual 66, 3), (11, .istore_n 3, 1), (12, .aload_n 0, 1), (13, .iload_n 1, 1), (14, .invokevirtual 69, 3), (17, .istore 4, 2), (19, .iconst 0, 1), (20, .istore 5, 2), (22, .iload 5, 2), (24, .aload_n 0, 1), (25, .getfield 32, 3), (28, .if_icmp .ge 99, 3), (31, .aload_n 0, 1), (32, .aload_n 0, 1), (33, .getfield 9, 3), (36, .iload 5, 2), (38, .iaload, 1), (39, .iload_n 2, 1), (40, .iload 4, 2), (42, .invokevirtual 44, 3), (45, .aload_n 0, 1), (46, .getfield 15, 3), (49, .iload 5, 2), (51, .baload, 1), (52, .ifCond .eq 7, 3), (55, .iload_n 3, 1), (56, .goto 4, 3), (59, .iconst 0, 1), (60, .iadd, 1), (61, .istore 6, 2), (63, .aload_n 0, 1), (64, .aload_n 0, 1), (65, .getfield 19, 3), (68, .iload 5, 2), (70, .iaload, 1), (71, .iload_n 2, 1), (72, .iload 4, 2), (74, .invokevirtual 44, 3), (77, .aload_n 0, 1), (78, .getfield 22, 3), (81, .iload 5, 2), (83, .baload, 1), (84, .ifCond .eq 7, 3), (87, .iload_n 3, 1), (88, .goto 4, 3), (91, .iconst 0, 1), (92, .iadd, 1), (93, .istore 7, 2), (95, .iload 6, 2), (97, .iload 7, 2), (99, .isub, 1), (100, .invokestatic 72, 3), (103, .aload_n 0, 1), (104, .getfield 25, 3), (107, .iload 5, 2), (109, .iaload, 1), (110, .isub, 1), (111, .iconst (-1), 1), (112, .iconst 1, 1), (113, .invokestatic 75, 3), (116, .ifCond .ne 5, 3), (119, .iconst 0, 1), (120, .ireturn, 1), (121, .iinc 5 1, 3), (124, .goto (-102), 3), (127, .iconst 1, 1), (128, .ireturn, 1)]
theorem T_cX8_isFit : tabOK cX8_isFit T_cX8_isFitL = true := by decide +kernel
def P_Screw_isFit_92 (post : Int32 → Mem → Prop) (R22 : Int32 → Int32 → Int32 → Int32 → Mem → Prop) (x2 x3 x4 x5 x6 s0 s1 : Int32) (M : Mem) : Prop :=
  ∀ x7_1, x7_1 = (s0 + s1) → P_Math_abs (fun r2 M2 =>
  vp_in x5 8 ∧ P_R_within (fun r3 M3 =>
  (¬ r3 = 0 → (R22 x2 x3 x4 (x5 + (1 : Int32)) M3)) ∧
  (r3 = 0 → (post (0 : Int32) M3))) (r2 - (M2 7 x5.toNatClampNeg)) (-1 : Int32) (1 : Int32) M2) (x6 - x7_1) M
theorem k_Screw_isFit_92 {X : FX} {g : GT} {ext : List CD} {A : Nat → Prop} {Z : State → Prop} {post : Int32 → Mem → Prop} {R22 : Int32 → Int32 → Int32 → Int32 → Mem → Prop} (C : Cx X g (layC ++ ext) A cX8_isFit 8 RX8 2) (hr : 0 ≤ X.2.2.2.1.cells ∧ 0 ≤ X.2.2.2.1.slots) (hR : RetZ X g (layC ++ ext) A cX8_isFit 8 0 0 Z post) (k22 : ∀ (y2 y3 y4 y5 : Int32) (M : Mem), R22 y2 y3 y4 y5 M → AtX X g (layC ++ ext) A 8 0 0 Z 22 [(0, .ref (ad g 2)), (2, .int y2), (3, .int y3), (4, .int y4), (5, .int y5)] [] M) (x2 x3 x4 x5 x6 s0 s1 : Int32) (M : Mem) (h : P_Screw_isFit_92 post R22 x2 x3 x4 x5 x6 s0 s1 M) : AtX X g (layC ++ ext) A 8 0 0 Z 92 [(0, .ref (ad g 2)), (2, .int x2), (3, .int x3), (4, .int x4), (5, .int x5), (6, .int x6)] [.int s1, .int s0] M := by
  refine a_iadd C (tk T_cX8_isFit 52 rfl) ?_
  refine a_top (fun x7_1 e_x7_1 => ?_)
  have h := h x7_1 e_x7_1
  refine a_istore C (tk T_cX8_isFit 53 rfl) (by decide) rfl ?_
  refine a_iload C (tk T_cX8_isFit 54 rfl) rfl ?_
  refine a_iload C (tk T_cX8_isFit 55 rfl) rfl ?_
  refine a_isub C (tk T_cX8_isFit 56 rfl) ?_
  refine a_statI C [.int (x6 - x7_1)] me_yJ9_abs_0f7a4 lk_RX8_72 (ct_Math_abs h) (by decide) rfl rfl (Nat.le_of_ble_eq_true rfl) (tk T_cX8_isFit 57 rfl) hr (fun r2 M2 h => ?_)
  refine a_aload_n C (tk T_cX8_isFit 58 rfl) rfl ?_
  refine a_getR C f_RX8_25 (tk T_cX8_isFit 59 rfl) lc2 rfl ?_
  refine a_iload C (tk T_cX8_isFit 60 rfl) rfl ?_
  obtain ⟨hb, h⟩ := h
  refine a_iald C (tk T_cX8_isFit 61 rfl) lc7 hb ?_
  refine a_isub C (tk T_cX8_isFit 62 rfl) ?_
  refine a_iconst C (-1 : Int32) (tk T_cX8_isFit 63 rfl) kI_m1 ?_
  refine a_iconst C (1 : Int32) (tk T_cX8_isFit 64 rfl) kI_1 ?_
  refine a_nestI C [.int (r2 - (M2 7 x5.toNatClampNeg)), .int (-1 : Int32), .int (1 : Int32)] me_yX11_within lk_RX8_75 (ct_R_within h) (by decide) rfl rfl (Nat.le_of_ble_eq_true rfl) (tk T_cX8_isFit 65 rfl) hr (fun r3 M3 h => ?_)
  refine a_if_ne C 121 (tk T_cX8_isFit 66 rfl) rfl (fun c => ?_) (fun c => ?_)
  · have h := h.1 c
    refine a_iinc C (1 : Int32) (tk T_cX8_isFit 69 rfl) rfl kI_1 (by decide) rfl ?_
    refine a_goto C 22 (tk T_cX8_isFit 70 rfl) rfl ?_
    exact a_to (k22 x2 x3 x4 (x5 + (1 : Int32)) M3 h) rfl
  · have h := h.2 c
    refine a_iconst C (0 : Int32) (tk T_cX8_isFit 67 rfl) kI_0 ?_
    exact hR _ _ _ _ (tk T_cX8_isFit 68 rfl) ⟨Or.inl rfl, h⟩
def P_Screw_isFit_60 (post : Int32 → Mem → Prop) (R22 : Int32 → Int32 → Int32 → Int32 → Mem → Prop) (x2 x3 x4 x5 s0 s1 : Int32) (M : Mem) : Prop :=
  ∀ x6_1, x6_1 = (s0 + s1) → vp_in x5 8 ∧ P_Screw_turned (fun r2 M2 =>
  vp_in x5 8 ∧ ((M2 6 x5.toNatClampNeg) = 0 → (P_Screw_isFit_92 post R22 x2 x3 x4 x5 x6_1 r2 (0 : Int32) M2)) ∧
  (¬ (M2 6 x5.toNatClampNeg) = 0 → (P_Screw_isFit_92 post R22 x2 x3 x4 x5 x6_1 r2 x3 M2))) (M 5 x5.toNatClampNeg) x2 x4 M
theorem k_Screw_isFit_60 {X : FX} {g : GT} {ext : List CD} {A : Nat → Prop} {Z : State → Prop} {post : Int32 → Mem → Prop} {R22 : Int32 → Int32 → Int32 → Int32 → Mem → Prop} (C : Cx X g (layC ++ ext) A cX8_isFit 8 RX8 2) (hr : 0 ≤ X.2.2.2.1.cells ∧ 0 ≤ X.2.2.2.1.slots) (hR : RetZ X g (layC ++ ext) A cX8_isFit 8 0 0 Z post) (k22 : ∀ (y2 y3 y4 y5 : Int32) (M : Mem), R22 y2 y3 y4 y5 M → AtX X g (layC ++ ext) A 8 0 0 Z 22 [(0, .ref (ad g 2)), (2, .int y2), (3, .int y3), (4, .int y4), (5, .int y5)] [] M) (x2 x3 x4 x5 s0 s1 : Int32) (M : Mem) (h : P_Screw_isFit_60 post R22 x2 x3 x4 x5 s0 s1 M) : AtX X g (layC ++ ext) A 8 0 0 Z 60 [(0, .ref (ad g 2)), (2, .int x2), (3, .int x3), (4, .int x4), (5, .int x5)] [.int s1, .int s0] M := by
  refine a_iadd C (tk T_cX8_isFit 34 rfl) ?_
  refine a_top (fun x6_1 e_x6_1 => ?_)
  have h := h x6_1 e_x6_1
  refine a_istore C (tk T_cX8_isFit 35 rfl) (by decide) rfl ?_
  refine a_aload_n C (tk T_cX8_isFit 36 rfl) rfl ?_
  refine a_aload_n C (tk T_cX8_isFit 37 rfl) rfl ?_
  refine a_getR C f_RX8_19 (tk T_cX8_isFit 38 rfl) lc2 rfl ?_
  refine a_iload C (tk T_cX8_isFit 39 rfl) rfl ?_
  obtain ⟨hb, h⟩ := h
  refine a_iald C (tk T_cX8_isFit 40 rfl) lc5 hb ?_
  refine a_iload_n C (tk T_cX8_isFit 41 rfl) rfl ?_
  refine a_iload C (tk T_cX8_isFit 42 rfl) rfl ?_
  refine a_callI C [.int (M 5 x5.toNatClampNeg), .int x2, .int x4] me_yX8_turned lk_RX8_44 (ct_Screw_turned h) (by decide) lc2 rfl rfl rfl (Nat.le_of_ble_eq_true rfl) (tk T_cX8_isFit 43 rfl) hr (fun r2 M2 h => ?_)
  refine a_aload_n C (tk T_cX8_isFit 44 rfl) rfl ?_
  refine a_getR C f_RX8_22 (tk T_cX8_isFit 45 rfl) lc2 rfl ?_
  refine a_iload C (tk T_cX8_isFit 46 rfl) rfl ?_
  obtain ⟨hb, h⟩ := h
  refine a_zald C (tk T_cX8_isFit 47 rfl) lc6 hb ?_
  refine a_if_eq C 91 (tk T_cX8_isFit 48 rfl) rfl (fun c => ?_) (fun c => ?_)
  · have h := h.1 c
    refine a_iconst C (0 : Int32) (tk T_cX8_isFit 51 rfl) kI_0 ?_
    exact a_to (k_Screw_isFit_92 C hr hR k22 x2 x3 x4 x5 x6_1 r2 (0 : Int32) M2 h) rfl
  · have h := h.2 c
    refine a_iload_n C (tk T_cX8_isFit 49 rfl) rfl ?_
    refine a_goto C 92 (tk T_cX8_isFit 50 rfl) rfl ?_
    exact a_to (k_Screw_isFit_92 C hr hR k22 x2 x3 x4 x5 x6_1 r2 x3 M2 h) rfl
def P_Screw_isFit_22 (post : Int32 → Mem → Prop) : Nat → Int32 → Int32 → Int32 → Int32 → Mem → Prop
  | 0, _, _, _, _, _ => False
  | n + 1, x2, x3, x4, x5, M =>
    ((M 2 5) ≤ x5 → (post (1 : Int32) M)) ∧
  (¬ (M 2 5) ≤ x5 → (vp_in x5 8 ∧ P_Screw_turned (fun r1 M1 =>
  vp_in x5 8 ∧ ((M1 4 x5.toNatClampNeg) = 0 → (P_Screw_isFit_60 post (P_Screw_isFit_22 post n) x2 x3 x4 x5 r1 (0 : Int32) M1)) ∧
  (¬ (M1 4 x5.toNatClampNeg) = 0 → (P_Screw_isFit_60 post (P_Screw_isFit_22 post n) x2 x3 x4 x5 r1 x3 M1))) (M 3 x5.toNatClampNeg) x2 x4 M))
theorem k_Screw_isFit_22 {X : FX} {g : GT} {ext : List CD} {A : Nat → Prop} {Z : State → Prop} {post : Int32 → Mem → Prop} (C : Cx X g (layC ++ ext) A cX8_isFit 8 RX8 2) (hr : 0 ≤ X.2.2.2.1.cells ∧ 0 ≤ X.2.2.2.1.slots) (hR : RetZ X g (layC ++ ext) A cX8_isFit 8 0 0 Z post) : ∀ (n : Nat) (x2 x3 x4 x5 : Int32) (M : Mem), P_Screw_isFit_22 post n x2 x3 x4 x5 M → AtX X g (layC ++ ext) A 8 0 0 Z 22 [(0, .ref (ad g 2)), (2, .int x2), (3, .int x3), (4, .int x4), (5, .int x5)] [] M := by
  intro n
  induction n with
  | zero =>
    intro x2 x3 x4 x5 M h
    exact h.elim
  | succ n ih =>
    intro x2 x3 x4 x5 M h
    refine a_iload C (tk T_cX8_isFit 14 rfl) rfl ?_
    refine a_aload_n C (tk T_cX8_isFit 15 rfl) rfl ?_
    refine a_getI C f_RX8_32 (tk T_cX8_isFit 16 rfl) lc2 rfl ?_
    refine a_icmp_ge C 127 (tk T_cX8_isFit 17 rfl) rfl (fun c => ?_) (fun c => ?_)
    · have h := h.1 c
      refine a_iconst C (1 : Int32) (tk T_cX8_isFit 71 rfl) kI_1 ?_
      exact hR _ _ _ _ (tk T_cX8_isFit 72 rfl) ⟨Or.inr rfl, h⟩
    · have h := h.2 c
      refine a_aload_n C (tk T_cX8_isFit 18 rfl) rfl ?_
      refine a_aload_n C (tk T_cX8_isFit 19 rfl) rfl ?_
      refine a_getR C f_RX8_9 (tk T_cX8_isFit 20 rfl) lc2 rfl ?_
      refine a_iload C (tk T_cX8_isFit 21 rfl) rfl ?_
      obtain ⟨hb, h⟩ := h
      refine a_iald C (tk T_cX8_isFit 22 rfl) lc3 hb ?_
      refine a_iload_n C (tk T_cX8_isFit 23 rfl) rfl ?_
      refine a_iload C (tk T_cX8_isFit 24 rfl) rfl ?_
      refine a_callI C [.int (M 3 x5.toNatClampNeg), .int x2, .int x4] me_yX8_turned lk_RX8_44 (ct_Screw_turned h) (by decide) lc2 rfl rfl rfl (Nat.le_of_ble_eq_true rfl) (tk T_cX8_isFit 25 rfl) hr (fun r1 M1 h => ?_)
      refine a_aload_n C (tk T_cX8_isFit 26 rfl) rfl ?_
      refine a_getR C f_RX8_15 (tk T_cX8_isFit 27 rfl) lc2 rfl ?_
      refine a_iload C (tk T_cX8_isFit 28 rfl) rfl ?_
      obtain ⟨hb, h⟩ := h
      refine a_zald C (tk T_cX8_isFit 29 rfl) lc4 hb ?_
      refine a_if_eq C 59 (tk T_cX8_isFit 30 rfl) rfl (fun c => ?_) (fun c => ?_)
      · have h := h.1 c
        refine a_iconst C (0 : Int32) (tk T_cX8_isFit 33 rfl) kI_0 ?_
        exact a_to (k_Screw_isFit_60 C hr hR ih x2 x3 x4 x5 r1 (0 : Int32) M1 h) rfl
      · have h := h.2 c
        refine a_iload_n C (tk T_cX8_isFit 31 rfl) rfl ?_
        refine a_goto C 60 (tk T_cX8_isFit 32 rfl) rfl ?_
        exact a_to (k_Screw_isFit_60 C hr hR ih x2 x3 x4 x5 r1 x3 M1 h) rfl
def P_Screw_isFit (post : Int32 → Mem → Prop) (x1 : Int32) (M : Mem) : Prop :=
  P_Screw_wearOf (fun r1 M1 =>
  P_Screw_lagOf (fun r2 M2 =>
  P_Screw_phaseOf (fun r3 M3 =>
  ∃ j22, P_Screw_isFit_22 post j22 r1 r2 r3 (0 : Int32) M3) x1 M2) x1 M1) x1 M
theorem k_Screw_isFit {X : FX} {g : GT} {ext : List CD} {A : Nat → Prop} {Z : State → Prop} {post : Int32 → Mem → Prop} (C : Cx X g (layC ++ ext) A cX8_isFit 8 RX8 2) (hr : 0 ≤ X.2.2.2.1.cells ∧ 0 ≤ X.2.2.2.1.slots) (hR : RetZ X g (layC ++ ext) A cX8_isFit 8 0 0 Z post) (x1 : Int32) (M : Mem) (h : P_Screw_isFit post x1 M) : AtX X g (layC ++ ext) A 8 0 0 Z 0 [(0, .ref (ad g 2)), (1, .int x1)] [] M := by
  refine a_aload_n C (tk T_cX8_isFit 0 rfl) rfl ?_
  refine a_iload_n C (tk T_cX8_isFit 1 rfl) rfl ?_
  refine a_callI C [.int x1] me_yX8_wearOf lk_RX8_62 (ct_Screw_wearOf h) (by decide) lc2 rfl rfl rfl (Nat.le_of_ble_eq_true rfl) (tk T_cX8_isFit 2 rfl) hr (fun r1 M1 h => ?_)
  refine a_istore_n C (tk T_cX8_isFit 3 rfl) (by decide) rfl ?_
  refine a_aload_n C (tk T_cX8_isFit 4 rfl) rfl ?_
  refine a_iload_n C (tk T_cX8_isFit 5 rfl) rfl ?_
  refine a_callI C [.int x1] me_yX8_lagOf lk_RX8_66 (ct_Screw_lagOf h) (by decide) lc2 rfl rfl rfl (Nat.le_of_ble_eq_true rfl) (tk T_cX8_isFit 6 rfl) hr (fun r2 M2 h => ?_)
  refine a_istore_n C (tk T_cX8_isFit 7 rfl) (by decide) rfl ?_
  refine a_aload_n C (tk T_cX8_isFit 8 rfl) rfl ?_
  refine a_iload_n C (tk T_cX8_isFit 9 rfl) rfl ?_
  refine a_callI C [.int x1] me_yX8_phaseOf lk_RX8_69 (ct_Screw_phaseOf h) (by decide) lc2 rfl rfl rfl (Nat.le_of_ble_eq_true rfl) (tk T_cX8_isFit 10 rfl) hr (fun r3 M3 h => ?_)
  refine a_istore C (tk T_cX8_isFit 11 rfl) (by decide) rfl ?_
  refine a_iconst C (0 : Int32) (tk T_cX8_isFit 12 rfl) kI_0 ?_
  refine a_istore C (tk T_cX8_isFit 13 rfl) (by decide) rfl ?_
  obtain ⟨n1, h⟩ := h
  exact a_to (k_Screw_isFit_22 C hr hR n1 r1 r2 r3 (0 : Int32) M3 h) rfl
theorem ct_Screw_isFit {l : Launch} {g : GT} {ext : List CD} {post : Int32 → Mem → Prop} {x1 : Int32} {M : Mem} (h : P_Screw_isFit post x1 M) : CI l g (layC ++ ext) yX8_isFit cX8_isFit 8 (some .boolean) 2 [.ref (ad g 2), .int x1] M post :=
  cz_of (plainFor_of_name (by decide +kernel)) (Nat.le_of_ble_eq_true rfl) (fun X A Z hl C hr hR => by subst hl; exact k_Screw_isFit C hr hR x1 M h)
def T_cX8_countFitsL : List (Nat × Instr × Nat) := [(0, .iconst 0, 1), (1, .istore_n 1, 1), (2, .iconst 0, 1), (3, .istore_n 2, 1), (4, .iload_n 2, 1), (5, .aload_n 0, 1), (6, .invokevirtual 54, 3), (9, .if_icmp .ge 20, 3), (12, .aload_n 0, 1), (13, .iload_n 2, 1), (14, .invokevirtual 58, 3), (17, .ifCond .eq 6, 3), (20, .iinc 1 1, 3), (23, .iinc 2 1, 3), (26, .goto (-22), 3), (29, .iload_n 1, 1), (30, .ireturn, 1)]
theorem T_cX8_countFits : tabOK cX8_countFits T_cX8_countFitsL = true := by decide +kernel
def P_Screw_countFits_23 (post : Int32 → Mem → Prop) (R4 : Int32 → Int32 → Mem → Prop) (x1 x2 : Int32) (M : Mem) : Prop :=
  R4 x1 (x2 + (1 : Int32)) M
theorem k_Screw_countFits_23 {X : FX} {g : GT} {ext : List CD} {A : Nat → Prop} {Z : State → Prop} {post : Int32 → Mem → Prop} {R4 : Int32 → Int32 → Mem → Prop} (C : Cx X g (layC ++ ext) A cX8_countFits 3 RX8 3) (hr : 0 ≤ X.2.2.2.1.cells ∧ 0 ≤ X.2.2.2.1.slots) (hR : RetI X g (layC ++ ext) A cX8_countFits 3 0 0 Z post) (k4 : ∀ (y1 y2 : Int32) (M : Mem), R4 y1 y2 M → AtX X g (layC ++ ext) A 3 0 0 Z 4 [(0, .ref (ad g 2)), (1, .int y1), (2, .int y2)] [] M) (x1 x2 : Int32) (M : Mem) (h : P_Screw_countFits_23 post R4 x1 x2 M) : AtX X g (layC ++ ext) A 3 0 0 Z 23 [(0, .ref (ad g 2)), (1, .int x1), (2, .int x2)] [] M := by
  refine a_iinc C (1 : Int32) (tk T_cX8_countFits 13 rfl) rfl kI_1 (by decide) rfl ?_
  refine a_goto C 4 (tk T_cX8_countFits 14 rfl) rfl ?_
  exact a_to (k4 x1 (x2 + (1 : Int32)) M h) rfl
def P_Screw_countFits_4 (post : Int32 → Mem → Prop) : Nat → Int32 → Int32 → Mem → Prop
  | 0, _, _, _ => False
  | n + 1, x1, x2, M =>
    P_Screw_candidates (fun r1 M1 =>
  (r1 ≤ x2 → (post x1 M1)) ∧
  (¬ r1 ≤ x2 → (P_Screw_isFit (fun r2 M2 =>
  (r2 = 0 → (P_Screw_countFits_23 post (P_Screw_countFits_4 post n) x1 x2 M2)) ∧
  (¬ r2 = 0 → (P_Screw_countFits_23 post (P_Screw_countFits_4 post n) (x1 + (1 : Int32)) x2 M2))) x2 M1))) M
theorem k_Screw_countFits_4 {X : FX} {g : GT} {ext : List CD} {A : Nat → Prop} {Z : State → Prop} {post : Int32 → Mem → Prop} (C : Cx X g (layC ++ ext) A cX8_countFits 3 RX8 3) (hr : 0 ≤ X.2.2.2.1.cells ∧ 0 ≤ X.2.2.2.1.slots) (hR : RetI X g (layC ++ ext) A cX8_countFits 3 0 0 Z post) : ∀ (n : Nat) (x1 x2 : Int32) (M : Mem), P_Screw_countFits_4 post n x1 x2 M → AtX X g (layC ++ ext) A 3 0 0 Z 4 [(0, .ref (ad g 2)), (1, .int x1), (2, .int x2)] [] M := by
  intro n
  induction n with
  | zero =>
    intro x1 x2 M h
    exact h.elim
  | succ n ih =>
    intro x1 x2 M h
    refine a_iload_n C (tk T_cX8_countFits 4 rfl) rfl ?_
    refine a_aload_n C (tk T_cX8_countFits 5 rfl) rfl ?_
    refine a_callI C [] me_yX8_candidates lk_RX8_54 (ct_Screw_candidates h) (by decide) lc2 rfl rfl rfl (Nat.le_of_ble_eq_true rfl) (tk T_cX8_countFits 6 rfl) hr (fun r1 M1 h => ?_)
    refine a_icmp_ge C 29 (tk T_cX8_countFits 7 rfl) rfl (fun c => ?_) (fun c => ?_)
    · have h := h.1 c
      refine a_iload_n C (tk T_cX8_countFits 15 rfl) rfl ?_
      exact hR _ _ _ _ (tk T_cX8_countFits 16 rfl) h
    · have h := h.2 c
      refine a_aload_n C (tk T_cX8_countFits 8 rfl) rfl ?_
      refine a_iload_n C (tk T_cX8_countFits 9 rfl) rfl ?_
      refine a_callI C [.int x2] me_yX8_isFit lk_RX8_58 (ct_Screw_isFit h) (by decide) lc2 rfl rfl rfl (Nat.le_of_ble_eq_true rfl) (tk T_cX8_countFits 10 rfl) hr (fun r2 M2 h => ?_)
      refine a_if_eq C 23 (tk T_cX8_countFits 11 rfl) rfl (fun c => ?_) (fun c => ?_)
      · have h := h.1 c
        exact a_to (k_Screw_countFits_23 C hr hR ih x1 x2 M2 h) rfl
      · have h := h.2 c
        refine a_iinc C (1 : Int32) (tk T_cX8_countFits 12 rfl) rfl kI_1 (by decide) rfl ?_
        exact a_to (k_Screw_countFits_23 C hr hR ih (x1 + (1 : Int32)) x2 M2 h) rfl
def P_Screw_countFits (post : Int32 → Mem → Prop) (M : Mem) : Prop :=
  ∃ j4, P_Screw_countFits_4 post j4 (0 : Int32) (0 : Int32) M
theorem k_Screw_countFits {X : FX} {g : GT} {ext : List CD} {A : Nat → Prop} {Z : State → Prop} {post : Int32 → Mem → Prop} (C : Cx X g (layC ++ ext) A cX8_countFits 3 RX8 3) (hr : 0 ≤ X.2.2.2.1.cells ∧ 0 ≤ X.2.2.2.1.slots) (hR : RetI X g (layC ++ ext) A cX8_countFits 3 0 0 Z post) (M : Mem) (h : P_Screw_countFits post M) : AtX X g (layC ++ ext) A 3 0 0 Z 0 [(0, .ref (ad g 2))] [] M := by
  refine a_iconst C (0 : Int32) (tk T_cX8_countFits 0 rfl) kI_0 ?_
  refine a_istore_n C (tk T_cX8_countFits 1 rfl) (by decide) rfl ?_
  refine a_iconst C (0 : Int32) (tk T_cX8_countFits 2 rfl) kI_0 ?_
  refine a_istore_n C (tk T_cX8_countFits 3 rfl) (by decide) rfl ?_
  obtain ⟨n1, h⟩ := h
  exact a_to (k_Screw_countFits_4 C hr hR n1 (0 : Int32) (0 : Int32) M h) rfl
theorem ct_Screw_countFits {l : Launch} {g : GT} {ext : List CD} {post : Int32 → Mem → Prop} {M : Mem} (h : P_Screw_countFits post M) : CI l g (layC ++ ext) yX8_countFits cX8_countFits 3 (some .int) 3 [.ref (ad g 2)] M post :=
  ci_of (plainFor_of_name (by decide +kernel)) (Nat.le_of_ble_eq_true rfl) (fun X A Z hl C hr hR => by subst hl; exact k_Screw_countFits C hr hR  M h)
def T_cX11_fitsL : List (Nat × Instr × Nat) := [(0, .aload_n 0, 1), (1, .getfield 10, 3), (4, .getfield 76, 3), (7, .invokevirtual 124, 3), (10, .ireturn, 1)]
theorem T_cX11_fits : tabOK cX11_fits T_cX11_fitsL = true := by decide +kernel
def P_R_fits (post : Int32 → Mem → Prop) (M : Mem) : Prop :=
  P_Screw_countFits (fun r1 M1 =>
  post r1 M1) M
theorem k_R_fits {X : FX} {g : GT} {ext : List CD} {A : Nat → Prop} {Z : State → Prop} {post : Int32 → Mem → Prop} (C : Cx X g (layC ++ ext) A cX11_fits 1 RX11 4) (hr : 0 ≤ X.2.2.2.1.cells ∧ 0 ≤ X.2.2.2.1.slots) (hR : RetI X g (layC ++ ext) A cX11_fits 1 0 0 Z post) (M : Mem) (h : P_R_fits post M) : AtX X g (layC ++ ext) A 1 0 0 Z 0 [(0, .ref (ad g 0))] [] M := by
  refine a_aload_n C (tk T_cX11_fits 0 rfl) rfl ?_
  refine a_getR C f_RX11_10 (tk T_cX11_fits 1 rfl) lc0 rfl ?_
  refine a_getR C f_RX11_76 (tk T_cX11_fits 2 rfl) lc1 rfl ?_
  refine a_callI C [] me_yX8_countFits lk_RX11_124 (ct_Screw_countFits h) (by decide) lc2 rfl rfl rfl (Nat.le_of_ble_eq_true rfl) (tk T_cX11_fits 3 rfl) hr (fun r1 M1 h => ?_)
  exact hR _ _ _ _ (tk T_cX11_fits 4 rfl) h
theorem ct_R_fits {l : Launch} {g : GT} {ext : List CD} {post : Int32 → Mem → Prop} {M : Mem} (h : P_R_fits post M) : CI l g (layC ++ ext) yX11_fits cX11_fits 1 (some .int) 4 [.ref (ad g 0)] M post :=
  ci_of (plainFor_of_name (by decide +kernel)) (Nat.le_of_ble_eq_true rfl) (fun X A Z hl C hr hR => by subst hl; exact k_R_fits C hr hR  M h)
def T_cX8_findFitL : List (Nat × Instr × Nat) := [(0, .iconst 0, 1), (1, .istore_n 2, 1), (2, .iconst 0, 1), (3, .istore_n 3, 1), (4, .iload_n 3, 1), (5, .aload_n 0, 1), (6, .invokevirtual 54, 3), (9, .if_icmp .ge 50, 3), (12, .aload_n 0, 1), (13, .iload_n 3, 1), (14, .invokevirtual 58, 3), (17, .ifCond .eq 36, 3), (20, .iload_n 2, 1), (21, .iload_n 1, 1), (22, .if_icmp .ne 28, 3), (25, .sipush 1000, 3), (28, .aload_n 0, 1), (29, .iload_n 3, 1), (30, .invokevirtual 62, 3), (33, .imul, 1), (34, .bipush 100, 2), (36, .aload_n 0, 1), (37, .iload_n 3, 1), (38, .invokevirtual 66, 3), (41, .imul, 1), (42, .iadd, 1), (43, .aload_n 0, 1), (44, .iload_n 3, 1), (45, .invokevirtual 69, 3), (48, .iadd, 1), (49, .ireturn, 1), (50, .iinc 2 1, 3), (53, .iinc 3 1, 3), (56, .goto (-52), 3), (59, .iconst (-1), 1), (60, .ireturn, 1)]
theorem T_cX8_findFit : tabOK cX8_findFit T_cX8_findFitL = true := by decide +kernel
def P_Screw_findFit_53 (post : Int32 → Mem → Prop) (R4 : Int32 → Int32 → Int32 → Mem → Prop) (x1 x2 x3 : Int32) (M : Mem) : Prop :=
  R4 x1 x2 (x3 + (1 : Int32)) M
theorem k_Screw_findFit_53 {X : FX} {g : GT} {ext : List CD} {A : Nat → Prop} {Z : State → Prop} {post : Int32 → Mem → Prop} {R4 : Int32 → Int32 → Int32 → Mem → Prop} (C : Cx X g (layC ++ ext) A cX8_findFit 4 RX8 3) (hr : 0 ≤ X.2.2.2.1.cells ∧ 0 ≤ X.2.2.2.1.slots) (hR : RetI X g (layC ++ ext) A cX8_findFit 4 0 0 Z post) (k4 : ∀ (y1 y2 y3 : Int32) (M : Mem), R4 y1 y2 y3 M → AtX X g (layC ++ ext) A 4 0 0 Z 4 [(0, .ref (ad g 2)), (1, .int y1), (2, .int y2), (3, .int y3)] [] M) (x1 x2 x3 : Int32) (M : Mem) (h : P_Screw_findFit_53 post R4 x1 x2 x3 M) : AtX X g (layC ++ ext) A 4 0 0 Z 53 [(0, .ref (ad g 2)), (1, .int x1), (2, .int x2), (3, .int x3)] [] M := by
  refine a_iinc C (1 : Int32) (tk T_cX8_findFit 32 rfl) rfl kI_1 (by decide) rfl ?_
  refine a_goto C 4 (tk T_cX8_findFit 33 rfl) rfl ?_
  exact a_to (k4 x1 x2 (x3 + (1 : Int32)) M h) rfl
def P_Screw_findFit_4 (post : Int32 → Mem → Prop) : Nat → Int32 → Int32 → Int32 → Mem → Prop
  | 0, _, _, _, _ => False
  | n + 1, x1, x2, x3, M =>
    P_Screw_candidates (fun r1 M1 =>
  (r1 ≤ x3 → (post (-1 : Int32) M1)) ∧
  (¬ r1 ≤ x3 → (P_Screw_isFit (fun r2 M2 =>
  (r2 = 0 → (P_Screw_findFit_53 post (P_Screw_findFit_4 post n) x1 x2 x3 M2)) ∧
  (¬ r2 = 0 → ((¬ x2 = x1 → (P_Screw_findFit_53 post (P_Screw_findFit_4 post n) x1 (x2 + (1 : Int32)) x3 M2)) ∧
  (x2 = x1 → (P_Screw_wearOf (fun r3 M3 =>
  P_Screw_lagOf (fun r4 M4 =>
  P_Screw_phaseOf (fun r5 M5 =>
  post ((((1000 : Int32) * r3) + ((100 : Int32) * r4)) + r5) M5) x3 M4) x3 M3) x3 M2))))) x3 M1))) M
theorem k_Screw_findFit_4 {X : FX} {g : GT} {ext : List CD} {A : Nat → Prop} {Z : State → Prop} {post : Int32 → Mem → Prop} (C : Cx X g (layC ++ ext) A cX8_findFit 4 RX8 3) (hr : 0 ≤ X.2.2.2.1.cells ∧ 0 ≤ X.2.2.2.1.slots) (hR : RetI X g (layC ++ ext) A cX8_findFit 4 0 0 Z post) : ∀ (n : Nat) (x1 x2 x3 : Int32) (M : Mem), P_Screw_findFit_4 post n x1 x2 x3 M → AtX X g (layC ++ ext) A 4 0 0 Z 4 [(0, .ref (ad g 2)), (1, .int x1), (2, .int x2), (3, .int x3)] [] M := by
  intro n
  induction n with
  | zero =>
    intro x1 x2 x3 M h
    exact h.elim
  | succ n ih =>
    intro x1 x2 x3 M h
    refine a_iload_n C (tk T_cX8_findFit 4 rfl) rfl ?_
    refine a_aload_n C (tk T_cX8_findFit 5 rfl) rfl ?_
    refine a_callI C [] me_yX8_candidates lk_RX8_54 (ct_Screw_candidates h) (by decide) lc2 rfl rfl rfl (Nat.le_of_ble_eq_true rfl) (tk T_cX8_findFit 6 rfl) hr (fun r1 M1 h => ?_)
    refine a_icmp_ge C 59 (tk T_cX8_findFit 7 rfl) rfl (fun c => ?_) (fun c => ?_)
    · have h := h.1 c
      refine a_iconst C (-1 : Int32) (tk T_cX8_findFit 34 rfl) kI_m1 ?_
      exact hR _ _ _ _ (tk T_cX8_findFit 35 rfl) h
    · have h := h.2 c
      refine a_aload_n C (tk T_cX8_findFit 8 rfl) rfl ?_
      refine a_iload_n C (tk T_cX8_findFit 9 rfl) rfl ?_
      refine a_callI C [.int x3] me_yX8_isFit lk_RX8_58 (ct_Screw_isFit h) (by decide) lc2 rfl rfl rfl (Nat.le_of_ble_eq_true rfl) (tk T_cX8_findFit 10 rfl) hr (fun r2 M2 h => ?_)
      refine a_if_eq C 53 (tk T_cX8_findFit 11 rfl) rfl (fun c => ?_) (fun c => ?_)
      · have h := h.1 c
        exact a_to (k_Screw_findFit_53 C hr hR ih x1 x2 x3 M2 h) rfl
      · have h := h.2 c
        refine a_iload_n C (tk T_cX8_findFit 12 rfl) rfl ?_
        refine a_iload_n C (tk T_cX8_findFit 13 rfl) rfl ?_
        refine a_icmp_ne C 50 (tk T_cX8_findFit 14 rfl) rfl (fun c => ?_) (fun c => ?_)
        · have h := h.1 c
          refine a_iinc C (1 : Int32) (tk T_cX8_findFit 31 rfl) rfl kI_1 (by decide) rfl ?_
          exact a_to (k_Screw_findFit_53 C hr hR ih x1 (x2 + (1 : Int32)) x3 M2 h) rfl
        · have h := h.2 c
          refine a_sipush C (1000 : Int32) (tk T_cX8_findFit 15 rfl) kS_1000 ?_
          refine a_aload_n C (tk T_cX8_findFit 16 rfl) rfl ?_
          refine a_iload_n C (tk T_cX8_findFit 17 rfl) rfl ?_
          refine a_callI C [.int x3] me_yX8_wearOf lk_RX8_62 (ct_Screw_wearOf h) (by decide) lc2 rfl rfl rfl (Nat.le_of_ble_eq_true rfl) (tk T_cX8_findFit 18 rfl) hr (fun r3 M3 h => ?_)
          refine a_imul C (tk T_cX8_findFit 19 rfl) ?_
          refine a_bipush C (100 : Int32) (tk T_cX8_findFit 20 rfl) kB_100 ?_
          refine a_aload_n C (tk T_cX8_findFit 21 rfl) rfl ?_
          refine a_iload_n C (tk T_cX8_findFit 22 rfl) rfl ?_
          refine a_callI C [.int x3] me_yX8_lagOf lk_RX8_66 (ct_Screw_lagOf h) (by decide) lc2 rfl rfl rfl (Nat.le_of_ble_eq_true rfl) (tk T_cX8_findFit 23 rfl) hr (fun r4 M4 h => ?_)
          refine a_imul C (tk T_cX8_findFit 24 rfl) ?_
          refine a_iadd C (tk T_cX8_findFit 25 rfl) ?_
          refine a_aload_n C (tk T_cX8_findFit 26 rfl) rfl ?_
          refine a_iload_n C (tk T_cX8_findFit 27 rfl) rfl ?_
          refine a_callI C [.int x3] me_yX8_phaseOf lk_RX8_69 (ct_Screw_phaseOf h) (by decide) lc2 rfl rfl rfl (Nat.le_of_ble_eq_true rfl) (tk T_cX8_findFit 28 rfl) hr (fun r5 M5 h => ?_)
          refine a_iadd C (tk T_cX8_findFit 29 rfl) ?_
          exact hR _ _ _ _ (tk T_cX8_findFit 30 rfl) h
def P_Screw_findFit (post : Int32 → Mem → Prop) (x1 : Int32) (M : Mem) : Prop :=
  ∃ j4, P_Screw_findFit_4 post j4 x1 (0 : Int32) (0 : Int32) M
theorem k_Screw_findFit {X : FX} {g : GT} {ext : List CD} {A : Nat → Prop} {Z : State → Prop} {post : Int32 → Mem → Prop} (C : Cx X g (layC ++ ext) A cX8_findFit 4 RX8 3) (hr : 0 ≤ X.2.2.2.1.cells ∧ 0 ≤ X.2.2.2.1.slots) (hR : RetI X g (layC ++ ext) A cX8_findFit 4 0 0 Z post) (x1 : Int32) (M : Mem) (h : P_Screw_findFit post x1 M) : AtX X g (layC ++ ext) A 4 0 0 Z 0 [(0, .ref (ad g 2)), (1, .int x1)] [] M := by
  refine a_iconst C (0 : Int32) (tk T_cX8_findFit 0 rfl) kI_0 ?_
  refine a_istore_n C (tk T_cX8_findFit 1 rfl) (by decide) rfl ?_
  refine a_iconst C (0 : Int32) (tk T_cX8_findFit 2 rfl) kI_0 ?_
  refine a_istore_n C (tk T_cX8_findFit 3 rfl) (by decide) rfl ?_
  obtain ⟨n1, h⟩ := h
  exact a_to (k_Screw_findFit_4 C hr hR n1 x1 (0 : Int32) (0 : Int32) M h) rfl
theorem ct_Screw_findFit {l : Launch} {g : GT} {ext : List CD} {post : Int32 → Mem → Prop} {x1 : Int32} {M : Mem} (h : P_Screw_findFit post x1 M) : CI l g (layC ++ ext) yX8_findFit cX8_findFit 4 (some .int) 3 [.ref (ad g 2), .int x1] M post :=
  ci_of (plainFor_of_name (by decide +kernel)) (Nat.le_of_ble_eq_true rfl) (fun X A Z hl C hr hR => by subst hl; exact k_Screw_findFit C hr hR x1 M h)
def T_cX11_fitL : List (Nat × Instr × Nat) := [(0, .aload_n 0, 1), (1, .getfield 10, 3), (4, .getfield 76, 3), (7, .iload_n 1, 1), (8, .invokevirtual 128, 3), (11, .ireturn, 1)]
theorem T_cX11_fit : tabOK cX11_fit T_cX11_fitL = true := by decide +kernel
def P_R_fit (post : Int32 → Mem → Prop) (x1 : Int32) (M : Mem) : Prop :=
  P_Screw_findFit (fun r1 M1 =>
  post r1 M1) x1 M
theorem k_R_fit {X : FX} {g : GT} {ext : List CD} {A : Nat → Prop} {Z : State → Prop} {post : Int32 → Mem → Prop} (C : Cx X g (layC ++ ext) A cX11_fit 2 RX11 4) (hr : 0 ≤ X.2.2.2.1.cells ∧ 0 ≤ X.2.2.2.1.slots) (hR : RetI X g (layC ++ ext) A cX11_fit 2 0 0 Z post) (x1 : Int32) (M : Mem) (h : P_R_fit post x1 M) : AtX X g (layC ++ ext) A 2 0 0 Z 0 [(0, .ref (ad g 0)), (1, .int x1)] [] M := by
  refine a_aload_n C (tk T_cX11_fit 0 rfl) rfl ?_
  refine a_getR C f_RX11_10 (tk T_cX11_fit 1 rfl) lc0 rfl ?_
  refine a_getR C f_RX11_76 (tk T_cX11_fit 2 rfl) lc1 rfl ?_
  refine a_iload_n C (tk T_cX11_fit 3 rfl) rfl ?_
  refine a_callI C [.int x1] me_yX8_findFit lk_RX11_128 (ct_Screw_findFit h) (by decide) lc2 rfl rfl rfl (Nat.le_of_ble_eq_true rfl) (tk T_cX11_fit 4 rfl) hr (fun r1 M1 h => ?_)
  exact hR _ _ _ _ (tk T_cX11_fit 5 rfl) h
theorem ct_R_fit {l : Launch} {g : GT} {ext : List CD} {post : Int32 → Mem → Prop} {x1 : Int32} {M : Mem} (h : P_R_fit post x1 M) : CI l g (layC ++ ext) yX11_fit cX11_fit 2 (some .int) 4 [.ref (ad g 0), .int x1] M post :=
  ci_of (plainFor_of_name (by decide +kernel)) (Nat.le_of_ble_eq_true rfl) (fun X A Z hl C hr hR => by subst hl; exact k_R_fit C hr hR x1 M h)
def T_cX11_errorL : List (Nat × Instr × Nat) := [(0, .iload_n 1, 1), (1, .iconst 0, 1), (2, .bipush 50, 2), (4, .invokestatic 68, 3), (7, .invokestatic 72, 3), (10, .aload_n 0, 1), (11, .getfield 10, 3), (14, .getfield 132, 3), (17, .iload_n 1, 1), (18, .putfield 136, 3), (21, .aload_n 0, 1), (22, .getfield 24, 3), (25, .invokevirtual 94, 3), (28, .return_, 1)]
theorem T_cX11_error : tabOK cX11_error T_cX11_errorL = true := by decide +kernel
def P_R_error (post : Mem → Prop) (ex : String → Mem → Prop) (x1 : Int32) (M : Mem) : Prop :=
  P_R_within (fun r1 M1 =>
  P_R_wantNumber (fun M2 =>
  ∀ M3, M3 = ms M2 8 5 x1 → P_Laws_forget (fun M4 =>
  post M4) M3) ex r1 M1) x1 (0 : Int32) (50 : Int32) M
theorem k_R_error {X : FX} {g : GT} {ext : List CD} {A : Nat → Prop} {Z : State → Prop} {post : Mem → Prop} {ex : String → Mem → Prop} {sk : Nat → Nat} (C : CxX X g (layC ++ ext) A cX11_error 2 RX11 7 1 sk) (hT : ThX X g (layC ++ ext) A 1 Z ex) (hR : RetV X g (layC ++ ext) A cX11_error 2 1 (6 * 1) Z post) (x1 : Int32) (M : Mem) (h : P_R_error post ex x1 M) : AtX X g (layC ++ ext) A 2 0 0 Z 0 [(0, .ref (ad g 0)), (1, .int x1)] [] M := by
  refine a_iload_n C.1 (tk T_cX11_error 0 rfl) rfl ?_
  refine a_iconst C.1 (0 : Int32) (tk T_cX11_error 1 rfl) kI_0 ?_
  refine a_bipush C.1 (50 : Int32) (tk T_cX11_error 2 rfl) kB_50 ?_
  refine a_statI C.1 [.int x1, .int (0 : Int32), .int (50 : Int32)] me_yX11_within lk_RX11_68 (ct_R_within h) (by decide) rfl rfl (Nat.le_of_ble_eq_true rfl) (tk T_cX11_error 3 rfl) ⟨Nat.le_trans (by decide) C.2.2.1, Nat.le_trans (by decide) C.2.2.2⟩ (fun r1 M1 h => ?_)
  refine x_statV C hT [.int r1] me_yX11_wantNumber lk_RX11_72 (ct_R_wantNumber h) (by decide) rfl rfl (Nat.le_of_ble_eq_true rfl) (tk T_cX11_error 4 rfl) (by decide) (fun M2 h => ?_)
  refine a_aload_n C.1 (tk T_cX11_error 5 rfl) rfl ?_
  refine a_getR C.1 f_RX11_10 (tk T_cX11_error 6 rfl) lc0 rfl ?_
  refine a_getR C.1 f_RX11_132 (tk T_cX11_error 7 rfl) lc1 rfl ?_
  refine a_iload_n C.1 (tk T_cX11_error 8 rfl) rfl ?_
  refine a_put C.1 f_RX11_136 f_RX11_136p rfl rfl (tk T_cX11_error 9 rfl) lc8 rfl ?_
  refine a_mem (fun M3 e_M3 => ?_)
  have h := h M3 e_M3
  refine a_aload_n C.1 (tk T_cX11_error 10 rfl) rfl ?_
  refine a_getR C.1 f_RX11_24 (tk T_cX11_error 11 rfl) lc0 rfl ?_
  refine a_callV C.1 [] me_yX5_forget lk_RX11_94 (ct_Laws_forget h) (by decide) lc63 rfl rfl rfl (Nat.le_of_ble_eq_true rfl) (tk T_cX11_error 12 rfl) ⟨Nat.le_trans (by decide) C.2.2.1, Nat.le_trans (by decide) C.2.2.2⟩ (fun M4 h => ?_)
  exact x_widen (by decide) (by decide) (hR _ _ _ (tk T_cX11_error 13 rfl) h)
theorem ct_R_error {l : Launch} {g : GT} {ext : List CD} {sk : Nat → Nat} {post : Mem → Prop} {ex : String → Mem → Prop} {x1 : Int32} {M : Mem} (h : P_R_error post ex x1 M) : XV l g (layC ++ ext) sk yX11_error cX11_error 2 none 7 1 [.ref (ad g 0), .int x1] M post ex :=
  xv_of (by decide +kernel) (Nat.le_of_ble_eq_true rfl) (fun X A Z hl C hR hT _ => by subst hl; exact k_R_error C hT hR x1 M h)
def T_cX11_isWaveL : List (Nat × Instr × Nat) := [(0, .iload_n 0, 1), (1, .sipush 1000, 3), (4, .sipush 9999, 3), (7, .invokestatic 68, 3), (10, .ireturn, 1)]
theorem T_cX11_isWave : tabOK cX11_isWave T_cX11_isWaveL = true := by decide +kernel
def P_R_isWave (post : Int32 → Mem → Prop) (x0 : Int32) (M : Mem) : Prop :=
  P_R_within (fun r1 M1 =>
  (r1 = 0 ∨ r1 = 1) ∧ post r1 M1) x0 (1000 : Int32) (9999 : Int32) M
theorem k_R_isWave {X : FX} {g : GT} {ext : List CD} {A : Nat → Prop} {Z : State → Prop} {post : Int32 → Mem → Prop} (C : Cx X g (layC ++ ext) A cX11_isWave 1 RX11 1) (hr : 0 ≤ X.2.2.2.1.cells ∧ 0 ≤ X.2.2.2.1.slots) (hR : RetZ X g (layC ++ ext) A cX11_isWave 1 0 0 Z post) (x0 : Int32) (M : Mem) (h : P_R_isWave post x0 M) : AtX X g (layC ++ ext) A 1 0 0 Z 0 [(0, .int x0)] [] M := by
  refine a_iload_n C (tk T_cX11_isWave 0 rfl) rfl ?_
  refine a_sipush C (1000 : Int32) (tk T_cX11_isWave 1 rfl) kS_1000 ?_
  refine a_sipush C (9999 : Int32) (tk T_cX11_isWave 2 rfl) kS_9999 ?_
  refine a_statI C [.int x0, .int (1000 : Int32), .int (9999 : Int32)] me_yX11_within lk_RX11_68 (ct_R_within h) (by decide) rfl rfl (Nat.le_of_ble_eq_true rfl) (tk T_cX11_isWave 3 rfl) hr (fun r1 M1 h => ?_)
  exact hR _ _ _ _ (tk T_cX11_isWave 4 rfl) h
theorem ct_R_isWave {l : Launch} {g : GT} {ext : List CD} {post : Int32 → Mem → Prop} {x0 : Int32} {M : Mem} (h : P_R_isWave post x0 M) : CI l g (layC ++ ext) yX11_isWave cX11_isWave 1 (some .boolean) 1 [.int x0] M post :=
  cz_of (plainFor_of_name (by decide +kernel)) (Nat.le_of_ble_eq_true rfl) (fun X A Z hl C hr hR => by subst hl; exact k_R_isWave C hr hR x0 M h)
def T_cX11_knownL : List (Nat × Instr × Nat) := [(0, .iload_n 1, 1), (1, .iconst 0, 1), (2, .sipush 999, 3), (5, .invokestatic 68, 3), (8, .ifCond .eq 14, 3), (11, .iload_n 3, 1), (12, .invokestatic 141, 3), (15, .ifCond .eq 7, 3), (18, .iconst 1, 1), (19, .goto 4, 3), (22, .iconst 0, 1), (23, .invokestatic 72, 3), (26, .aload_n 0, 1), (27, .getfield 10, 3), (30, .getfield 132, 3), (33, .getfield 145, 3), (36, .bipush 10, 2), (38, .if_icmp .ge 7, 3), (41, .iconst 1, 1), (42, .goto 4, 3), (45, .iconst 0, 1), (46, .invokestatic 104, 3), (49, .aload_n 0, 1), (50, .getfield 10, 3), (53, .getfield 132, 3), (56, .astore 5, 2), (58, .aload 5, 2), (60, .getfield 145, 3), (63, .istore 6, 2), (65, .aload 5, 2), (67, .getfield 148, 3), (70, .iload 6, 2), (72, .iload_n 1, 1), (73, .iastore, 1), (74, .aload 5, 2), (76, .getfield 151, 3), (79, .iload 6, 2), (81, .iload_n 2, 1), (82, .bastore, 1), (83, .aload 5, 2), (85, .getfield 154, 3), (88, .iload 6, 2), (90, .iload_n 3, 1), (91, .iastore, 1), (92, .aload 5, 2), (94, .getfield 157, 3), (97, .iload 6, 2), (99, .iload 4, 2), (101, .bastore, 1), (102, .aload 5, 2), (104, .iload 6, 2), (106, .iconst 1, 1), (107, .iadd, 1), (108, .putfield 145, 3), (111, .aload_n 0, 1), (112, .getfield 24, 3), (115, .invokevirtual 94, 3), (118, .aload 5, 2), (120, .getfield 145, 3), (123, .ireturn, 1)]
theorem T_cX11_known : tabOK cX11_known T_cX11_knownL = true := by decide +kernel
def P_R_known_46 (post : Int32 → Mem → Prop) (ex : String → Mem → Prop) (x1 x2 x3 x4 s0 : Int32) (M : Mem) : Prop :=
  P_R_wantRoom (fun M1 =>
  vp_in (M1 8 4) 10 ∧ ∀ M2, M2 = ms M1 9 (M1 8 4).toNatClampNeg x1 → vp_in (M1 8 4) 10 ∧ ∀ M3, M3 = ms M2 10 (M1 8 4).toNatClampNeg (vp_nar .boolean x2) → vp_in (M1 8 4) 10 ∧ ∀ M4, M4 = ms M3 11 (M1 8 4).toNatClampNeg x3 → vp_in (M1 8 4) 10 ∧ ∀ M5, M5 = ms M4 12 (M1 8 4).toNatClampNeg (vp_nar .boolean x4) → ∀ M6, M6 = ms M5 8 4 ((M1 8 4) + (1 : Int32)) → P_Laws_forget (fun M7 =>
  post (M7 8 4) M7) M6) ex s0 M
theorem k_R_known_46 {X : FX} {g : GT} {ext : List CD} {A : Nat → Prop} {Z : State → Prop} {post : Int32 → Mem → Prop} {ex : String → Mem → Prop} {sk : Nat → Nat} (C : CxX X g (layC ++ ext) A cX11_known 7 RX11 7 2 sk) (hT : ThX X g (layC ++ ext) A 2 Z ex) (hR : RetI X g (layC ++ ext) A cX11_known 7 2 (6 * 2) Z post) (x1 x2 x3 x4 s0 : Int32) (M : Mem) (h : P_R_known_46 post ex x1 x2 x3 x4 s0 M) : AtX X g (layC ++ ext) A 7 1 (6 * 1) Z 46 [(0, .ref (ad g 0)), (1, .int x1), (2, .int x2), (3, .int x3), (4, .int x4)] [.int s0] M := by
  refine x_statV C hT [.int s0] me_yX11_wantRoom lk_RX11_104 (ct_R_wantRoom h) (by decide) rfl rfl (Nat.le_of_ble_eq_true rfl) (tk T_cX11_known 21 rfl) (by decide) (fun M1 h => ?_)
  refine a_aload_n C.1 (tk T_cX11_known 22 rfl) rfl ?_
  refine a_getR C.1 f_RX11_10 (tk T_cX11_known 23 rfl) lc0 rfl ?_
  refine a_getR C.1 f_RX11_132 (tk T_cX11_known 24 rfl) lc1 rfl ?_
  refine a_astore C.1 (tk T_cX11_known 25 rfl) (by decide) rfl ?_
  refine a_aload C.1 (tk T_cX11_known 26 rfl) rfl ?_
  refine a_getI C.1 f_RX11_145 (tk T_cX11_known 27 rfl) lc8 rfl ?_
  refine a_istore C.1 (tk T_cX11_known 28 rfl) (by decide) rfl ?_
  refine a_aload C.1 (tk T_cX11_known 29 rfl) rfl ?_
  refine a_getR C.1 f_RX11_148 (tk T_cX11_known 30 rfl) lc8 rfl ?_
  refine a_iload C.1 (tk T_cX11_known 31 rfl) rfl ?_
  refine a_iload_n C.1 (tk T_cX11_known 32 rfl) rfl ?_
  obtain ⟨hb, h⟩ := h
  refine a_iast C.1 (tk T_cX11_known 33 rfl) lc9 hb ?_
  refine a_mem (fun M2 e_M2 => ?_)
  have h := h M2 e_M2
  refine a_aload C.1 (tk T_cX11_known 34 rfl) rfl ?_
  refine a_getR C.1 f_RX11_151 (tk T_cX11_known 35 rfl) lc8 rfl ?_
  refine a_iload C.1 (tk T_cX11_known 36 rfl) rfl ?_
  refine a_iload_n C.1 (tk T_cX11_known 37 rfl) rfl ?_
  obtain ⟨hb, h⟩ := h
  refine a_zast C.1 (tk T_cX11_known 38 rfl) lc10 hb ?_
  refine a_mem (fun M3 e_M3 => ?_)
  have h := h M3 e_M3
  refine a_aload C.1 (tk T_cX11_known 39 rfl) rfl ?_
  refine a_getR C.1 f_RX11_154 (tk T_cX11_known 40 rfl) lc8 rfl ?_
  refine a_iload C.1 (tk T_cX11_known 41 rfl) rfl ?_
  refine a_iload_n C.1 (tk T_cX11_known 42 rfl) rfl ?_
  obtain ⟨hb, h⟩ := h
  refine a_iast C.1 (tk T_cX11_known 43 rfl) lc11 hb ?_
  refine a_mem (fun M4 e_M4 => ?_)
  have h := h M4 e_M4
  refine a_aload C.1 (tk T_cX11_known 44 rfl) rfl ?_
  refine a_getR C.1 f_RX11_157 (tk T_cX11_known 45 rfl) lc8 rfl ?_
  refine a_iload C.1 (tk T_cX11_known 46 rfl) rfl ?_
  refine a_iload C.1 (tk T_cX11_known 47 rfl) rfl ?_
  obtain ⟨hb, h⟩ := h
  refine a_zast C.1 (tk T_cX11_known 48 rfl) lc12 hb ?_
  refine a_mem (fun M5 e_M5 => ?_)
  have h := h M5 e_M5
  refine a_aload C.1 (tk T_cX11_known 49 rfl) rfl ?_
  refine a_iload C.1 (tk T_cX11_known 50 rfl) rfl ?_
  refine a_iconst C.1 (1 : Int32) (tk T_cX11_known 51 rfl) kI_1 ?_
  refine a_iadd C.1 (tk T_cX11_known 52 rfl) ?_
  refine a_put C.1 f_RX11_145 f_RX11_145p rfl rfl (tk T_cX11_known 53 rfl) lc8 rfl ?_
  refine a_mem (fun M6 e_M6 => ?_)
  have h := h M6 e_M6
  refine a_aload_n C.1 (tk T_cX11_known 54 rfl) rfl ?_
  refine a_getR C.1 f_RX11_24 (tk T_cX11_known 55 rfl) lc0 rfl ?_
  refine a_callV C.1 [] me_yX5_forget lk_RX11_94 (ct_Laws_forget h) (by decide) lc63 rfl rfl rfl (Nat.le_of_ble_eq_true rfl) (tk T_cX11_known 56 rfl) ⟨Nat.le_trans (by decide) C.2.2.1, Nat.le_trans (by decide) C.2.2.2⟩ (fun M7 h => ?_)
  refine a_aload C.1 (tk T_cX11_known 57 rfl) rfl ?_
  refine a_getI C.1 f_RX11_145 (tk T_cX11_known 58 rfl) lc8 rfl ?_
  exact x_widen (by decide) (by decide) (hR _ _ _ _ (tk T_cX11_known 59 rfl) h)
def P_R_known_23 (post : Int32 → Mem → Prop) (ex : String → Mem → Prop) (x1 x2 x3 x4 s0 : Int32) (M : Mem) : Prop :=
  P_R_wantNumber (fun M1 =>
  ((10 : Int32) ≤ (M1 8 4) → (P_R_known_46 post ex x1 x2 x3 x4 (0 : Int32) M1)) ∧
  (¬ (10 : Int32) ≤ (M1 8 4) → (P_R_known_46 post ex x1 x2 x3 x4 (1 : Int32) M1))) ex s0 M
theorem k_R_known_23 {X : FX} {g : GT} {ext : List CD} {A : Nat → Prop} {Z : State → Prop} {post : Int32 → Mem → Prop} {ex : String → Mem → Prop} {sk : Nat → Nat} (C : CxX X g (layC ++ ext) A cX11_known 7 RX11 7 2 sk) (hT : ThX X g (layC ++ ext) A 2 Z ex) (hR : RetI X g (layC ++ ext) A cX11_known 7 2 (6 * 2) Z post) (x1 x2 x3 x4 s0 : Int32) (M : Mem) (h : P_R_known_23 post ex x1 x2 x3 x4 s0 M) : AtX X g (layC ++ ext) A 7 0 (6 * 0) Z 23 [(0, .ref (ad g 0)), (1, .int x1), (2, .int x2), (3, .int x3), (4, .int x4)] [.int s0] M := by
  refine x_statV C hT [.int s0] me_yX11_wantNumber lk_RX11_72 (ct_R_wantNumber h) (by decide) rfl rfl (Nat.le_of_ble_eq_true rfl) (tk T_cX11_known 11 rfl) (by decide) (fun M1 h => ?_)
  refine a_aload_n C.1 (tk T_cX11_known 12 rfl) rfl ?_
  refine a_getR C.1 f_RX11_10 (tk T_cX11_known 13 rfl) lc0 rfl ?_
  refine a_getR C.1 f_RX11_132 (tk T_cX11_known 14 rfl) lc1 rfl ?_
  refine a_getI C.1 f_RX11_145 (tk T_cX11_known 15 rfl) lc8 rfl ?_
  refine a_bipush C.1 (10 : Int32) (tk T_cX11_known 16 rfl) kB_10 ?_
  refine a_icmp_ge C.1 45 (tk T_cX11_known 17 rfl) rfl (fun c => ?_) (fun c => ?_)
  · have h := h.1 c
    refine a_iconst C.1 (0 : Int32) (tk T_cX11_known 20 rfl) kI_0 ?_
    exact x_widen (by decide) (by decide) (a_to (k_R_known_46 C hT hR x1 x2 x3 x4 (0 : Int32) M1 h) rfl)
  · have h := h.2 c
    refine a_iconst C.1 (1 : Int32) (tk T_cX11_known 18 rfl) kI_1 ?_
    refine a_goto C.1 46 (tk T_cX11_known 19 rfl) rfl ?_
    exact x_widen (by decide) (by decide) (a_to (k_R_known_46 C hT hR x1 x2 x3 x4 (1 : Int32) M1 h) rfl)
def P_R_known_22 (post : Int32 → Mem → Prop) (ex : String → Mem → Prop) (x1 x2 x3 x4 : Int32) (M : Mem) : Prop :=
  P_R_known_23 post ex x1 x2 x3 x4 (0 : Int32) M
theorem k_R_known_22 {X : FX} {g : GT} {ext : List CD} {A : Nat → Prop} {Z : State → Prop} {post : Int32 → Mem → Prop} {ex : String → Mem → Prop} {sk : Nat → Nat} (C : CxX X g (layC ++ ext) A cX11_known 7 RX11 7 2 sk) (hT : ThX X g (layC ++ ext) A 2 Z ex) (hR : RetI X g (layC ++ ext) A cX11_known 7 2 (6 * 2) Z post) (x1 x2 x3 x4 : Int32) (M : Mem) (h : P_R_known_22 post ex x1 x2 x3 x4 M) : AtX X g (layC ++ ext) A 7 0 (6 * 0) Z 22 [(0, .ref (ad g 0)), (1, .int x1), (2, .int x2), (3, .int x3), (4, .int x4)] [] M := by
  refine a_iconst C.1 (0 : Int32) (tk T_cX11_known 10 rfl) kI_0 ?_
  exact x_widen (by decide) (by decide) (a_to (k_R_known_23 C hT hR x1 x2 x3 x4 (0 : Int32) M h) rfl)
def P_R_known (post : Int32 → Mem → Prop) (ex : String → Mem → Prop) (x1 x2 x3 x4 : Int32) (M : Mem) : Prop :=
  P_R_within (fun r1 M1 =>
  (r1 = 0 → (P_R_known_22 post ex x1 x2 x3 x4 M1)) ∧
  (¬ r1 = 0 → (P_R_isWave (fun r2 M2 =>
  (r2 = 0 → (P_R_known_22 post ex x1 x2 x3 x4 M2)) ∧
  (¬ r2 = 0 → (P_R_known_23 post ex x1 x2 x3 x4 (1 : Int32) M2))) x3 M1))) x1 (0 : Int32) (999 : Int32) M
theorem k_R_known {X : FX} {g : GT} {ext : List CD} {A : Nat → Prop} {Z : State → Prop} {post : Int32 → Mem → Prop} {ex : String → Mem → Prop} {sk : Nat → Nat} (C : CxX X g (layC ++ ext) A cX11_known 7 RX11 7 2 sk) (hT : ThX X g (layC ++ ext) A 2 Z ex) (hR : RetI X g (layC ++ ext) A cX11_known 7 2 (6 * 2) Z post) (x1 x2 x3 x4 : Int32) (M : Mem) (h : P_R_known post ex x1 x2 x3 x4 M) : AtX X g (layC ++ ext) A 7 0 0 Z 0 [(0, .ref (ad g 0)), (1, .int x1), (2, .int x2), (3, .int x3), (4, .int x4)] [] M := by
  refine a_iload_n C.1 (tk T_cX11_known 0 rfl) rfl ?_
  refine a_iconst C.1 (0 : Int32) (tk T_cX11_known 1 rfl) kI_0 ?_
  refine a_sipush C.1 (999 : Int32) (tk T_cX11_known 2 rfl) kS_999 ?_
  refine a_statI C.1 [.int x1, .int (0 : Int32), .int (999 : Int32)] me_yX11_within lk_RX11_68 (ct_R_within h) (by decide) rfl rfl (Nat.le_of_ble_eq_true rfl) (tk T_cX11_known 3 rfl) ⟨Nat.le_trans (by decide) C.2.2.1, Nat.le_trans (by decide) C.2.2.2⟩ (fun r1 M1 h => ?_)
  refine a_if_eq C.1 22 (tk T_cX11_known 4 rfl) rfl (fun c => ?_) (fun c => ?_)
  · have h := h.1 c
    exact x_widen (by decide) (by decide) (a_to (k_R_known_22 C hT hR x1 x2 x3 x4 M1 h) rfl)
  · have h := h.2 c
    refine a_iload_n C.1 (tk T_cX11_known 5 rfl) rfl ?_
    refine a_statI C.1 [.int x3] me_yX11_isWave lk_RX11_141 (ct_R_isWave h) (by decide) rfl rfl (Nat.le_of_ble_eq_true rfl) (tk T_cX11_known 6 rfl) ⟨Nat.le_trans (by decide) C.2.2.1, Nat.le_trans (by decide) C.2.2.2⟩ (fun r2 M2 h => ?_)
    refine a_if_eq C.1 22 (tk T_cX11_known 7 rfl) rfl (fun c => ?_) (fun c => ?_)
    · have h := h.1 c
      exact x_widen (by decide) (by decide) (a_to (k_R_known_22 C hT hR x1 x2 x3 x4 M2 h) rfl)
    · have h := h.2 c
      refine a_iconst C.1 (1 : Int32) (tk T_cX11_known 8 rfl) kI_1 ?_
      refine a_goto C.1 23 (tk T_cX11_known 9 rfl) rfl ?_
      exact x_widen (by decide) (by decide) (a_to (k_R_known_23 C hT hR x1 x2 x3 x4 (1 : Int32) M2 h) rfl)
theorem ct_R_known {l : Launch} {g : GT} {ext : List CD} {sk : Nat → Nat} {post : Int32 → Mem → Prop} {ex : String → Mem → Prop} {x1 x2 x3 x4 : Int32} {M : Mem} (h : P_R_known post ex x1 x2 x3 x4 M) : XI l g (layC ++ ext) sk yX11_known cX11_known 7 (some .int) 7 2 [.ref (ad g 0), .int x1, .int x2, .int x3, .int x4] M post ex :=
  xi_of (by decide +kernel) (Nat.le_of_ble_eq_true rfl) (fun X A Z hl C hR hT _ => by subst hl; exact k_R_known C hT hR x1 x2 x3 x4 M h)
def T_cX5_pointOfL : List (Nat × Instr × Nat) := [(0, .iload_n 0, 1), (1, .bipush 12, 2), (3, .ishl, 1), (4, .iload_n 1, 1), (5, .iconst 5, 1), (6, .ishl, 1), (7, .ior, 1), (8, .iload_n 2, 1), (9, .bipush 9, 2), (11, .iadd, 1), (12, .ior, 1), (13, .ireturn, 1)]
theorem T_cX5_pointOf : tabOK cX5_pointOf T_cX5_pointOfL = true := by decide +kernel
def P_Laws_pointOf (post : Int32 → Mem → Prop) (x0 x1 x2 : Int32) (M : Mem) : Prop :=
  ∀ v1, v1 = ((x0 <<< ((12 : Int32) &&& 31)) ||| (x1 <<< ((5 : Int32) &&& 31))) → post (v1 ||| (x2 + (9 : Int32))) M
theorem k_Laws_pointOf {X : FX} {g : GT} {ext : List CD} {A : Nat → Prop} {Z : State → Prop} {post : Int32 → Mem → Prop} (C : Cx X g (layC ++ ext) A cX5_pointOf 3 RX5 0) (hr : 0 ≤ X.2.2.2.1.cells ∧ 0 ≤ X.2.2.2.1.slots) (hR : RetI X g (layC ++ ext) A cX5_pointOf 3 0 0 Z post) (x0 x1 x2 : Int32) (M : Mem) (h : P_Laws_pointOf post x0 x1 x2 M) : AtX X g (layC ++ ext) A 3 0 0 Z 0 [(0, .int x0), (1, .int x1), (2, .int x2)] [] M := by
  refine a_iload_n C (tk T_cX5_pointOf 0 rfl) rfl ?_
  refine a_bipush C (12 : Int32) (tk T_cX5_pointOf 1 rfl) kB_12 ?_
  refine a_ishl C (tk T_cX5_pointOf 2 rfl) ?_
  refine a_iload_n C (tk T_cX5_pointOf 3 rfl) rfl ?_
  refine a_iconst C (5 : Int32) (tk T_cX5_pointOf 4 rfl) kI_5 ?_
  refine a_ishl C (tk T_cX5_pointOf 5 rfl) ?_
  refine a_ior C (tk T_cX5_pointOf 6 rfl) ?_
  refine a_top (fun v1 e_v1 => ?_)
  have h := h v1 e_v1
  refine a_iload_n C (tk T_cX5_pointOf 7 rfl) rfl ?_
  refine a_bipush C (9 : Int32) (tk T_cX5_pointOf 8 rfl) kB_9 ?_
  refine a_iadd C (tk T_cX5_pointOf 9 rfl) ?_
  refine a_ior C (tk T_cX5_pointOf 10 rfl) ?_
  exact hR _ _ _ _ (tk T_cX5_pointOf 11 rfl) h
theorem ct_Laws_pointOf {l : Launch} {g : GT} {ext : List CD} {post : Int32 → Mem → Prop} {x0 x1 x2 : Int32} {M : Mem} (h : P_Laws_pointOf post x0 x1 x2 M) : CI l g (layC ++ ext) yX5_pointOf cX5_pointOf 3 (some .int) 0 [.int x0, .int x1, .int x2] M post :=
  ci_of (plainFor_of_name (by decide +kernel)) (Nat.le_of_ble_eq_true rfl) (fun X A Z hl C hr hR => by subst hl; exact k_Laws_pointOf C hr hR x0 x1 x2 M h)
def T_cX5_aOfL : List (Nat × Instr × Nat) := [(0, .iload_n 0, 1), (1, .bipush 12, 2), (3, .ishr, 1), (4, .ireturn, 1)]
theorem T_cX5_aOf : tabOK cX5_aOf T_cX5_aOfL = true := by decide +kernel
def P_Laws_aOf (post : Int32 → Mem → Prop) (x0 : Int32) (M : Mem) : Prop :=
  post (x0 >>> ((12 : Int32) &&& 31)) M
theorem k_Laws_aOf {X : FX} {g : GT} {ext : List CD} {A : Nat → Prop} {Z : State → Prop} {post : Int32 → Mem → Prop} (C : Cx X g (layC ++ ext) A cX5_aOf 1 RX5 0) (hr : 0 ≤ X.2.2.2.1.cells ∧ 0 ≤ X.2.2.2.1.slots) (hR : RetI X g (layC ++ ext) A cX5_aOf 1 0 0 Z post) (x0 : Int32) (M : Mem) (h : P_Laws_aOf post x0 M) : AtX X g (layC ++ ext) A 1 0 0 Z 0 [(0, .int x0)] [] M := by
  refine a_iload_n C (tk T_cX5_aOf 0 rfl) rfl ?_
  refine a_bipush C (12 : Int32) (tk T_cX5_aOf 1 rfl) kB_12 ?_
  refine a_ishr C (tk T_cX5_aOf 2 rfl) ?_
  exact hR _ _ _ _ (tk T_cX5_aOf 3 rfl) h
theorem ct_Laws_aOf {l : Launch} {g : GT} {ext : List CD} {post : Int32 → Mem → Prop} {x0 : Int32} {M : Mem} (h : P_Laws_aOf post x0 M) : CI l g (layC ++ ext) yX5_aOf cX5_aOf 1 (some .int) 0 [.int x0] M post :=
  ci_of (plainFor_of_name (by decide +kernel)) (Nat.le_of_ble_eq_true rfl) (fun X A Z hl C hr hR => by subst hl; exact k_Laws_aOf C hr hR x0 M h)
def T_cX5_bOfL : List (Nat × Instr × Nat) := [(0, .iload_n 0, 1), (1, .iconst 5, 1), (2, .ishr, 1), (3, .bipush 127, 2), (5, .iand, 1), (6, .ireturn, 1)]
theorem T_cX5_bOf : tabOK cX5_bOf T_cX5_bOfL = true := by decide +kernel
def P_Laws_bOf (post : Int32 → Mem → Prop) (x0 : Int32) (M : Mem) : Prop :=
  post ((x0 >>> ((5 : Int32) &&& 31)) &&& (127 : Int32)) M
theorem k_Laws_bOf {X : FX} {g : GT} {ext : List CD} {A : Nat → Prop} {Z : State → Prop} {post : Int32 → Mem → Prop} (C : Cx X g (layC ++ ext) A cX5_bOf 1 RX5 0) (hr : 0 ≤ X.2.2.2.1.cells ∧ 0 ≤ X.2.2.2.1.slots) (hR : RetI X g (layC ++ ext) A cX5_bOf 1 0 0 Z post) (x0 : Int32) (M : Mem) (h : P_Laws_bOf post x0 M) : AtX X g (layC ++ ext) A 1 0 0 Z 0 [(0, .int x0)] [] M := by
  refine a_iload_n C (tk T_cX5_bOf 0 rfl) rfl ?_
  refine a_iconst C (5 : Int32) (tk T_cX5_bOf 1 rfl) kI_5 ?_
  refine a_ishr C (tk T_cX5_bOf 2 rfl) ?_
  refine a_bipush C (127 : Int32) (tk T_cX5_bOf 3 rfl) kB_127 ?_
  refine a_iand C (tk T_cX5_bOf 4 rfl) ?_
  exact hR _ _ _ _ (tk T_cX5_bOf 5 rfl) h
theorem ct_Laws_bOf {l : Launch} {g : GT} {ext : List CD} {post : Int32 → Mem → Prop} {x0 : Int32} {M : Mem} (h : P_Laws_bOf post x0 M) : CI l g (layC ++ ext) yX5_bOf cX5_bOf 1 (some .int) 0 [.int x0] M post :=
  ci_of (plainFor_of_name (by decide +kernel)) (Nat.le_of_ble_eq_true rfl) (fun X A Z hl C hr hR => by subst hl; exact k_Laws_bOf C hr hR x0 M h)
def T_cX5_turnL : List (Nat × Instr × Nat) := [(0, .iload_n 1, 1), (1, .invokestatic 89, 3), (4, .iload_n 0, 1), (5, .invokestatic 89, 3), (8, .isub, 1), (9, .iload_n 2, 1), (10, .invokestatic 93, 3), (13, .iload_n 0, 1), (14, .invokestatic 93, 3), (17, .isub, 1), (18, .imul, 1), (19, .iload_n 2, 1), (20, .invokestatic 89, 3), (23, .iload_n 0, 1), (24, .invokestatic 89, 3), (27, .isub, 1), (28, .iload_n 1, 1), (29, .invokestatic 93, 3), (32, .iload_n 0, 1), (33, .invokestatic 93, 3), (36, .isub, 1), (37, .imul, 1), (38, .isub, 1), (39, .ireturn, 1)]
theorem T_cX5_turn : tabOK cX5_turn T_cX5_turnL = true := by decide +kernel
def P_Laws_turn (post : Int32 → Mem → Prop) (x0 x1 x2 : Int32) (M : Mem) : Prop :=
  P_Laws_aOf (fun r1 M1 =>
  P_Laws_aOf (fun r2 M2 =>
  P_Laws_bOf (fun r3 M3 =>
  P_Laws_bOf (fun r4 M4 =>
  P_Laws_aOf (fun r5 M5 =>
  P_Laws_aOf (fun r6 M6 =>
  P_Laws_bOf (fun r7 M7 =>
  P_Laws_bOf (fun r8 M8 =>
  post (((r1 - r2) * (r3 - r4)) - ((r5 - r6) * (r7 - r8))) M8) x0 M7) x1 M6) x0 M5) x2 M4) x0 M3) x2 M2) x0 M1) x1 M
theorem k_Laws_turn {X : FX} {g : GT} {ext : List CD} {A : Nat → Prop} {Z : State → Prop} {post : Int32 → Mem → Prop} (C : Cx X g (layC ++ ext) A cX5_turn 3 RX5 1) (hr : 0 ≤ X.2.2.2.1.cells ∧ 0 ≤ X.2.2.2.1.slots) (hR : RetI X g (layC ++ ext) A cX5_turn 3 0 0 Z post) (x0 x1 x2 : Int32) (M : Mem) (h : P_Laws_turn post x0 x1 x2 M) : AtX X g (layC ++ ext) A 3 0 0 Z 0 [(0, .int x0), (1, .int x1), (2, .int x2)] [] M := by
  refine a_iload_n C (tk T_cX5_turn 0 rfl) rfl ?_
  refine a_statI C [.int x1] me_yX5_aOf lk_RX5_89 (ct_Laws_aOf h) (by decide) rfl rfl (Nat.le_of_ble_eq_true rfl) (tk T_cX5_turn 1 rfl) hr (fun r1 M1 h => ?_)
  refine a_iload_n C (tk T_cX5_turn 2 rfl) rfl ?_
  refine a_statI C [.int x0] me_yX5_aOf lk_RX5_89 (ct_Laws_aOf h) (by decide) rfl rfl (Nat.le_of_ble_eq_true rfl) (tk T_cX5_turn 3 rfl) hr (fun r2 M2 h => ?_)
  refine a_isub C (tk T_cX5_turn 4 rfl) ?_
  refine a_iload_n C (tk T_cX5_turn 5 rfl) rfl ?_
  refine a_statI C [.int x2] me_yX5_bOf lk_RX5_93 (ct_Laws_bOf h) (by decide) rfl rfl (Nat.le_of_ble_eq_true rfl) (tk T_cX5_turn 6 rfl) hr (fun r3 M3 h => ?_)
  refine a_iload_n C (tk T_cX5_turn 7 rfl) rfl ?_
  refine a_statI C [.int x0] me_yX5_bOf lk_RX5_93 (ct_Laws_bOf h) (by decide) rfl rfl (Nat.le_of_ble_eq_true rfl) (tk T_cX5_turn 8 rfl) hr (fun r4 M4 h => ?_)
  refine a_isub C (tk T_cX5_turn 9 rfl) ?_
  refine a_imul C (tk T_cX5_turn 10 rfl) ?_
  refine a_iload_n C (tk T_cX5_turn 11 rfl) rfl ?_
  refine a_statI C [.int x2] me_yX5_aOf lk_RX5_89 (ct_Laws_aOf h) (by decide) rfl rfl (Nat.le_of_ble_eq_true rfl) (tk T_cX5_turn 12 rfl) hr (fun r5 M5 h => ?_)
  refine a_iload_n C (tk T_cX5_turn 13 rfl) rfl ?_
  refine a_statI C [.int x0] me_yX5_aOf lk_RX5_89 (ct_Laws_aOf h) (by decide) rfl rfl (Nat.le_of_ble_eq_true rfl) (tk T_cX5_turn 14 rfl) hr (fun r6 M6 h => ?_)
  refine a_isub C (tk T_cX5_turn 15 rfl) ?_
  refine a_iload_n C (tk T_cX5_turn 16 rfl) rfl ?_
  refine a_statI C [.int x1] me_yX5_bOf lk_RX5_93 (ct_Laws_bOf h) (by decide) rfl rfl (Nat.le_of_ble_eq_true rfl) (tk T_cX5_turn 17 rfl) hr (fun r7 M7 h => ?_)
  refine a_iload_n C (tk T_cX5_turn 18 rfl) rfl ?_
  refine a_statI C [.int x0] me_yX5_bOf lk_RX5_93 (ct_Laws_bOf h) (by decide) rfl rfl (Nat.le_of_ble_eq_true rfl) (tk T_cX5_turn 19 rfl) hr (fun r8 M8 h => ?_)
  refine a_isub C (tk T_cX5_turn 20 rfl) ?_
  refine a_imul C (tk T_cX5_turn 21 rfl) ?_
  refine a_isub C (tk T_cX5_turn 22 rfl) ?_
  exact hR _ _ _ _ (tk T_cX5_turn 23 rfl) h
theorem ct_Laws_turn {l : Launch} {g : GT} {ext : List CD} {post : Int32 → Mem → Prop} {x0 x1 x2 : Int32} {M : Mem} (h : P_Laws_turn post x0 x1 x2 M) : CI l g (layC ++ ext) yX5_turn cX5_turn 3 (some .int) 1 [.int x0, .int x1, .int x2] M post :=
  ci_of (plainFor_of_name (by decide +kernel)) (Nat.le_of_ble_eq_true rfl) (fun X A Z hl C hr hR => by subst hl; exact k_Laws_turn C hr hR x0 x1 x2 M h)
def T_cX5_addedL : List (Nat × Instr × Nat) := [(0, .iload_n 2, 1), (1, .istore 5, 2), (3, .iload 5, 2), (5, .iload_n 1, 1), (6, .isub, 1), (7, .iconst 2, 1), (8, .if_icmp .lt 31, 3), (11, .iload 4, 2), (13, .aload_n 0, 1), (14, .iload 5, 2), (16, .iconst 2, 1), (17, .isub, 1), (18, .iaload, 1), (19, .aload_n 0, 1), (20, .iload 5, 2), (22, .iconst 1, 1), (23, .isub, 1), (24, .iaload, 1), (25, .iload_n 3, 1), (26, .invokestatic 86, 3), (29, .imul, 1), (30, .ifCond .lt 9, 3), (33, .iinc 5 (-1), 3), (36, .goto (-33), 3), (39, .iload 5, 2), (41, .aload_n 0, 1), (42, .arraylength, 1), (43, .if_icmp .ge 11, 3), (46, .aload_n 0, 1), (47, .iload 5, 2), (49, .iload_n 3, 1), (50, .iastore, 1), (51, .iinc 5 1, 3), (54, .iload 5, 2), (56, .ireturn, 1)]
theorem T_cX5_added : tabOK cX5_added T_cX5_addedL = true := by decide +kernel
def P_Laws_added_54 (post : Int32 → Mem → Prop) (x5 : Int32) (M : Mem) : Prop :=
  post x5 M
theorem k_Laws_added_54 {X : FX} {g : GT} {ext : List CD} {A : Nat → Prop} {Z : State → Prop} {post : Int32 → Mem → Prop} (C : Cx X g (layC ++ ext) A cX5_added 6 RX5 2) (hr : 0 ≤ X.2.2.2.1.cells ∧ 0 ≤ X.2.2.2.1.slots) (hR : RetI X g (layC ++ ext) A cX5_added 6 0 0 Z post) (x5 : Int32) (M : Mem) (h : P_Laws_added_54 post x5 M) : AtX X g (layC ++ ext) A 6 0 0 Z 54 [(5, .int x5)] [] M := by
  refine a_iload C (tk T_cX5_added 33 rfl) rfl ?_
  exact hR _ _ _ _ (tk T_cX5_added 34 rfl) h
def P_Laws_added_39 (post : Int32 → Mem → Prop) (x3 x5 : Int32) (M : Mem) : Prop :=
  ((1710 : Int32) ≤ x5 → (P_Laws_added_54 post x5 M)) ∧
  (¬ (1710 : Int32) ≤ x5 → (vp_in x5 1710 ∧ ∀ M1, M1 = ms M 65 x5.toNatClampNeg x3 → P_Laws_added_54 post (x5 + (1 : Int32)) M1))
theorem k_Laws_added_39 {X : FX} {g : GT} {ext : List CD} {A : Nat → Prop} {Z : State → Prop} {post : Int32 → Mem → Prop} (C : Cx X g (layC ++ ext) A cX5_added 6 RX5 2) (hr : 0 ≤ X.2.2.2.1.cells ∧ 0 ≤ X.2.2.2.1.slots) (hR : RetI X g (layC ++ ext) A cX5_added 6 0 0 Z post) (x3 x5 : Int32) (M : Mem) (h : P_Laws_added_39 post x3 x5 M) : AtX X g (layC ++ ext) A 6 0 0 Z 39 [(0, .ref (ad g 65)), (3, .int x3), (5, .int x5)] [] M := by
  refine a_iload C (tk T_cX5_added 24 rfl) rfl ?_
  refine a_aload_n C (tk T_cX5_added 25 rfl) rfl ?_
  refine a_alen0 C (tk T_cX5_added 26 rfl) lc65 rfl ?_
  refine a_icmp_ge C 54 (tk T_cX5_added 27 rfl) rfl (fun c => ?_) (fun c => ?_)
  · have h := h.1 c
    exact a_to (k_Laws_added_54 C hr hR x5 M h) rfl
  · have h := h.2 c
    refine a_aload_n C (tk T_cX5_added 28 rfl) rfl ?_
    refine a_iload C (tk T_cX5_added 29 rfl) rfl ?_
    refine a_iload_n C (tk T_cX5_added 30 rfl) rfl ?_
    obtain ⟨hb, h⟩ := h
    refine a_iast C (tk T_cX5_added 31 rfl) lc65 hb ?_
    refine a_mem (fun M1 e_M1 => ?_)
    have h := h M1 e_M1
    refine a_iinc C (1 : Int32) (tk T_cX5_added 32 rfl) rfl kI_1 (by decide) rfl ?_
    exact a_to (k_Laws_added_54 C hr hR (x5 + (1 : Int32)) M1 h) rfl
def P_Laws_added_3 (post : Int32 → Mem → Prop) : Nat → Int32 → Int32 → Int32 → Int32 → Mem → Prop
  | 0, _, _, _, _, _ => False
  | n + 1, x1, x3, x4, x5, M =>
    ((x5 - x1) < (2 : Int32) → (P_Laws_added_39 post x3 x5 M)) ∧
  (¬ (x5 - x1) < (2 : Int32) → (vp_in (x5 - (2 : Int32)) 1710 ∧ vp_in (x5 - (1 : Int32)) 1710 ∧ P_Laws_turn (fun r1 M1 =>
  ((x4 * r1) < 0 → (P_Laws_added_39 post x3 x5 M1)) ∧
  (¬ (x4 * r1) < 0 → (P_Laws_added_3 post n x1 x3 x4 (x5 + (-1 : Int32)) M1))) (M 65 (x5 - (2 : Int32)).toNatClampNeg) (M 65 (x5 - (1 : Int32)).toNatClampNeg) x3 M))
theorem k_Laws_added_3 {X : FX} {g : GT} {ext : List CD} {A : Nat → Prop} {Z : State → Prop} {post : Int32 → Mem → Prop} (C : Cx X g (layC ++ ext) A cX5_added 6 RX5 2) (hr : 0 ≤ X.2.2.2.1.cells ∧ 0 ≤ X.2.2.2.1.slots) (hR : RetI X g (layC ++ ext) A cX5_added 6 0 0 Z post) : ∀ (n : Nat) (x1 x3 x4 x5 : Int32) (M : Mem), P_Laws_added_3 post n x1 x3 x4 x5 M → AtX X g (layC ++ ext) A 6 0 0 Z 3 [(0, .ref (ad g 65)), (1, .int x1), (3, .int x3), (4, .int x4), (5, .int x5)] [] M := by
  intro n
  induction n with
  | zero =>
    intro x1 x3 x4 x5 M h
    exact h.elim
  | succ n ih =>
    intro x1 x3 x4 x5 M h
    refine a_iload C (tk T_cX5_added 2 rfl) rfl ?_
    refine a_iload_n C (tk T_cX5_added 3 rfl) rfl ?_
    refine a_isub C (tk T_cX5_added 4 rfl) ?_
    refine a_iconst C (2 : Int32) (tk T_cX5_added 5 rfl) kI_2 ?_
    refine a_icmp_lt C 39 (tk T_cX5_added 6 rfl) rfl (fun c => ?_) (fun c => ?_)
    · have h := h.1 c
      exact a_to (k_Laws_added_39 C hr hR x3 x5 M h) rfl
    · have h := h.2 c
      refine a_iload C (tk T_cX5_added 7 rfl) rfl ?_
      refine a_aload_n C (tk T_cX5_added 8 rfl) rfl ?_
      refine a_iload C (tk T_cX5_added 9 rfl) rfl ?_
      refine a_iconst C (2 : Int32) (tk T_cX5_added 10 rfl) kI_2 ?_
      refine a_isub C (tk T_cX5_added 11 rfl) ?_
      obtain ⟨hb, h⟩ := h
      refine a_iald C (tk T_cX5_added 12 rfl) lc65 hb ?_
      refine a_aload_n C (tk T_cX5_added 13 rfl) rfl ?_
      refine a_iload C (tk T_cX5_added 14 rfl) rfl ?_
      refine a_iconst C (1 : Int32) (tk T_cX5_added 15 rfl) kI_1 ?_
      refine a_isub C (tk T_cX5_added 16 rfl) ?_
      obtain ⟨hb, h⟩ := h
      refine a_iald C (tk T_cX5_added 17 rfl) lc65 hb ?_
      refine a_iload_n C (tk T_cX5_added 18 rfl) rfl ?_
      refine a_statI C [.int (M 65 (x5 - (2 : Int32)).toNatClampNeg), .int (M 65 (x5 - (1 : Int32)).toNatClampNeg), .int x3] me_yX5_turn lk_RX5_86 (ct_Laws_turn h) (by decide) rfl rfl (Nat.le_of_ble_eq_true rfl) (tk T_cX5_added 19 rfl) hr (fun r1 M1 h => ?_)
      refine a_imul C (tk T_cX5_added 20 rfl) ?_
      refine a_if_lt C 39 (tk T_cX5_added 21 rfl) rfl (fun c => ?_) (fun c => ?_)
      · have h := h.1 c
        exact a_to (k_Laws_added_39 C hr hR x3 x5 M1 h) rfl
      · have h := h.2 c
        refine a_iinc C (-1 : Int32) (tk T_cX5_added 22 rfl) rfl kI_m1 (by decide) rfl ?_
        refine a_goto C 3 (tk T_cX5_added 23 rfl) rfl ?_
        exact a_to (ih x1 x3 x4 (x5 + (-1 : Int32)) M1 h) rfl
def P_Laws_added (post : Int32 → Mem → Prop) (x1 x2 x3 x4 : Int32) (M : Mem) : Prop :=
  ∃ j3, P_Laws_added_3 post j3 x1 x3 x4 x2 M
theorem k_Laws_added {X : FX} {g : GT} {ext : List CD} {A : Nat → Prop} {Z : State → Prop} {post : Int32 → Mem → Prop} (C : Cx X g (layC ++ ext) A cX5_added 6 RX5 2) (hr : 0 ≤ X.2.2.2.1.cells ∧ 0 ≤ X.2.2.2.1.slots) (hR : RetI X g (layC ++ ext) A cX5_added 6 0 0 Z post) (x1 x2 x3 x4 : Int32) (M : Mem) (h : P_Laws_added post x1 x2 x3 x4 M) : AtX X g (layC ++ ext) A 6 0 0 Z 0 [(0, .ref (ad g 65)), (1, .int x1), (2, .int x2), (3, .int x3), (4, .int x4)] [] M := by
  refine a_iload_n C (tk T_cX5_added 0 rfl) rfl ?_
  refine a_istore C (tk T_cX5_added 1 rfl) (by decide) rfl ?_
  obtain ⟨n1, h⟩ := h
  exact a_to (k_Laws_added_3 C hr hR n1 x1 x3 x4 x2 M h) rfl
theorem ct_Laws_added {l : Launch} {g : GT} {ext : List CD} {post : Int32 → Mem → Prop} {x1 x2 x3 x4 : Int32} {M : Mem} (h : P_Laws_added post x1 x2 x3 x4 M) : CI l g (layC ++ ext) yX5_added cX5_added 6 (some .int) 2 [.ref (ad g 65), .int x1, .int x2, .int x3, .int x4] M post :=
  ci_of (plainFor_of_name (by decide +kernel)) (Nat.le_of_ble_eq_true rfl) (fun X A Z hl C hr hR => by subst hl; exact k_Laws_added C hr hR x1 x2 x3 x4 M h)
def P_Laws_added_66_54 (post : Int32 → Mem → Prop) (x5 : Int32) (M : Mem) : Prop :=
  post x5 M
theorem k_Laws_added_66_54 {X : FX} {g : GT} {ext : List CD} {A : Nat → Prop} {Z : State → Prop} {post : Int32 → Mem → Prop} (C : Cx X g (layC ++ ext) A cX5_added 6 RX5 2) (hr : 0 ≤ X.2.2.2.1.cells ∧ 0 ≤ X.2.2.2.1.slots) (hR : RetI X g (layC ++ ext) A cX5_added 6 0 0 Z post) (x5 : Int32) (M : Mem) (h : P_Laws_added_66_54 post x5 M) : AtX X g (layC ++ ext) A 6 0 0 Z 54 [(5, .int x5)] [] M := by
  refine a_iload C (tk T_cX5_added 33 rfl) rfl ?_
  exact hR _ _ _ _ (tk T_cX5_added 34 rfl) h
def P_Laws_added_66_39 (post : Int32 → Mem → Prop) (x3 x5 : Int32) (M : Mem) : Prop :=
  ((1710 : Int32) ≤ x5 → (P_Laws_added_66_54 post x5 M)) ∧
  (¬ (1710 : Int32) ≤ x5 → (vp_in x5 1710 ∧ ∀ M1, M1 = ms M 66 x5.toNatClampNeg x3 → P_Laws_added_66_54 post (x5 + (1 : Int32)) M1))
theorem k_Laws_added_66_39 {X : FX} {g : GT} {ext : List CD} {A : Nat → Prop} {Z : State → Prop} {post : Int32 → Mem → Prop} (C : Cx X g (layC ++ ext) A cX5_added 6 RX5 2) (hr : 0 ≤ X.2.2.2.1.cells ∧ 0 ≤ X.2.2.2.1.slots) (hR : RetI X g (layC ++ ext) A cX5_added 6 0 0 Z post) (x3 x5 : Int32) (M : Mem) (h : P_Laws_added_66_39 post x3 x5 M) : AtX X g (layC ++ ext) A 6 0 0 Z 39 [(0, .ref (ad g 66)), (3, .int x3), (5, .int x5)] [] M := by
  refine a_iload C (tk T_cX5_added 24 rfl) rfl ?_
  refine a_aload_n C (tk T_cX5_added 25 rfl) rfl ?_
  refine a_alen0 C (tk T_cX5_added 26 rfl) lc66 rfl ?_
  refine a_icmp_ge C 54 (tk T_cX5_added 27 rfl) rfl (fun c => ?_) (fun c => ?_)
  · have h := h.1 c
    exact a_to (k_Laws_added_66_54 C hr hR x5 M h) rfl
  · have h := h.2 c
    refine a_aload_n C (tk T_cX5_added 28 rfl) rfl ?_
    refine a_iload C (tk T_cX5_added 29 rfl) rfl ?_
    refine a_iload_n C (tk T_cX5_added 30 rfl) rfl ?_
    obtain ⟨hb, h⟩ := h
    refine a_iast C (tk T_cX5_added 31 rfl) lc66 hb ?_
    refine a_mem (fun M1 e_M1 => ?_)
    have h := h M1 e_M1
    refine a_iinc C (1 : Int32) (tk T_cX5_added 32 rfl) rfl kI_1 (by decide) rfl ?_
    exact a_to (k_Laws_added_66_54 C hr hR (x5 + (1 : Int32)) M1 h) rfl
def P_Laws_added_66_3 (post : Int32 → Mem → Prop) : Nat → Int32 → Int32 → Int32 → Int32 → Mem → Prop
  | 0, _, _, _, _, _ => False
  | n + 1, x1, x3, x4, x5, M =>
    ((x5 - x1) < (2 : Int32) → (P_Laws_added_66_39 post x3 x5 M)) ∧
  (¬ (x5 - x1) < (2 : Int32) → (vp_in (x5 - (2 : Int32)) 1710 ∧ vp_in (x5 - (1 : Int32)) 1710 ∧ P_Laws_turn (fun r1 M1 =>
  ((x4 * r1) < 0 → (P_Laws_added_66_39 post x3 x5 M1)) ∧
  (¬ (x4 * r1) < 0 → (P_Laws_added_66_3 post n x1 x3 x4 (x5 + (-1 : Int32)) M1))) (M 66 (x5 - (2 : Int32)).toNatClampNeg) (M 66 (x5 - (1 : Int32)).toNatClampNeg) x3 M))
theorem k_Laws_added_66_3 {X : FX} {g : GT} {ext : List CD} {A : Nat → Prop} {Z : State → Prop} {post : Int32 → Mem → Prop} (C : Cx X g (layC ++ ext) A cX5_added 6 RX5 2) (hr : 0 ≤ X.2.2.2.1.cells ∧ 0 ≤ X.2.2.2.1.slots) (hR : RetI X g (layC ++ ext) A cX5_added 6 0 0 Z post) : ∀ (n : Nat) (x1 x3 x4 x5 : Int32) (M : Mem), P_Laws_added_66_3 post n x1 x3 x4 x5 M → AtX X g (layC ++ ext) A 6 0 0 Z 3 [(0, .ref (ad g 66)), (1, .int x1), (3, .int x3), (4, .int x4), (5, .int x5)] [] M := by
  intro n
  induction n with
  | zero =>
    intro x1 x3 x4 x5 M h
    exact h.elim
  | succ n ih =>
    intro x1 x3 x4 x5 M h
    refine a_iload C (tk T_cX5_added 2 rfl) rfl ?_
    refine a_iload_n C (tk T_cX5_added 3 rfl) rfl ?_
    refine a_isub C (tk T_cX5_added 4 rfl) ?_
    refine a_iconst C (2 : Int32) (tk T_cX5_added 5 rfl) kI_2 ?_
    refine a_icmp_lt C 39 (tk T_cX5_added 6 rfl) rfl (fun c => ?_) (fun c => ?_)
    · have h := h.1 c
      exact a_to (k_Laws_added_66_39 C hr hR x3 x5 M h) rfl
    · have h := h.2 c
      refine a_iload C (tk T_cX5_added 7 rfl) rfl ?_
      refine a_aload_n C (tk T_cX5_added 8 rfl) rfl ?_
      refine a_iload C (tk T_cX5_added 9 rfl) rfl ?_
      refine a_iconst C (2 : Int32) (tk T_cX5_added 10 rfl) kI_2 ?_
      refine a_isub C (tk T_cX5_added 11 rfl) ?_
      obtain ⟨hb, h⟩ := h
      refine a_iald C (tk T_cX5_added 12 rfl) lc66 hb ?_
      refine a_aload_n C (tk T_cX5_added 13 rfl) rfl ?_
      refine a_iload C (tk T_cX5_added 14 rfl) rfl ?_
      refine a_iconst C (1 : Int32) (tk T_cX5_added 15 rfl) kI_1 ?_
      refine a_isub C (tk T_cX5_added 16 rfl) ?_
      obtain ⟨hb, h⟩ := h
      refine a_iald C (tk T_cX5_added 17 rfl) lc66 hb ?_
      refine a_iload_n C (tk T_cX5_added 18 rfl) rfl ?_
      refine a_statI C [.int (M 66 (x5 - (2 : Int32)).toNatClampNeg), .int (M 66 (x5 - (1 : Int32)).toNatClampNeg), .int x3] me_yX5_turn lk_RX5_86 (ct_Laws_turn h) (by decide) rfl rfl (Nat.le_of_ble_eq_true rfl) (tk T_cX5_added 19 rfl) hr (fun r1 M1 h => ?_)
      refine a_imul C (tk T_cX5_added 20 rfl) ?_
      refine a_if_lt C 39 (tk T_cX5_added 21 rfl) rfl (fun c => ?_) (fun c => ?_)
      · have h := h.1 c
        exact a_to (k_Laws_added_66_39 C hr hR x3 x5 M1 h) rfl
      · have h := h.2 c
        refine a_iinc C (-1 : Int32) (tk T_cX5_added 22 rfl) rfl kI_m1 (by decide) rfl ?_
        refine a_goto C 3 (tk T_cX5_added 23 rfl) rfl ?_
        exact a_to (ih x1 x3 x4 (x5 + (-1 : Int32)) M1 h) rfl
def P_Laws_added_66 (post : Int32 → Mem → Prop) (x1 x2 x3 x4 : Int32) (M : Mem) : Prop :=
  ∃ j3, P_Laws_added_66_3 post j3 x1 x3 x4 x2 M
theorem k_Laws_added_66 {X : FX} {g : GT} {ext : List CD} {A : Nat → Prop} {Z : State → Prop} {post : Int32 → Mem → Prop} (C : Cx X g (layC ++ ext) A cX5_added 6 RX5 2) (hr : 0 ≤ X.2.2.2.1.cells ∧ 0 ≤ X.2.2.2.1.slots) (hR : RetI X g (layC ++ ext) A cX5_added 6 0 0 Z post) (x1 x2 x3 x4 : Int32) (M : Mem) (h : P_Laws_added_66 post x1 x2 x3 x4 M) : AtX X g (layC ++ ext) A 6 0 0 Z 0 [(0, .ref (ad g 66)), (1, .int x1), (2, .int x2), (3, .int x3), (4, .int x4)] [] M := by
  refine a_iload_n C (tk T_cX5_added 0 rfl) rfl ?_
  refine a_istore C (tk T_cX5_added 1 rfl) (by decide) rfl ?_
  obtain ⟨n1, h⟩ := h
  exact a_to (k_Laws_added_66_3 C hr hR n1 x1 x3 x4 x2 M h) rfl
theorem ct_Laws_added_66 {l : Launch} {g : GT} {ext : List CD} {post : Int32 → Mem → Prop} {x1 x2 x3 x4 : Int32} {M : Mem} (h : P_Laws_added_66 post x1 x2 x3 x4 M) : CI l g (layC ++ ext) yX5_added cX5_added 6 (some .int) 2 [.ref (ad g 66), .int x1, .int x2, .int x3, .int x4] M post :=
  ci_of (plainFor_of_name (by decide +kernel)) (Nat.le_of_ble_eq_true rfl) (fun X A Z hl C hr hR => by subst hl; exact k_Laws_added_66 C hr hR x1 x2 x3 x4 M h)
def T_cX5_meetsAllL : List (Nat × Instr × Nat) := [(0, .aload_n 0, 1), (1, .getfield 27, 3), (4, .getfield 96, 3), (7, .astore_n 3, 1), (8, .aload_n 0, 1), (9, .iconst 0, 1), (10, .putfield 66, 3), (13, .aload_n 0, 1), (14, .sipush 9999, 3), (17, .putfield 75, 3), (20, .iconst 0, 1), (21, .istore 4, 2), (23, .iload 4, 2), (25, .aload_n 3, 1), (26, .getfield 102, 3), (29, .if_icmp .ge 103, 3), (32, .aload_n 0, 1), (33, .getfield 66, 3), (36, .aload_n 0, 1), (37, .getfield 75, 3), (40, .if_icmp .gt 92, 3), (43, .sipush 1000, 3), (46, .iload_n 1, 1), (47, .imul, 1), (48, .iload_n 2, 1), (49, .aload_n 0, 1), (50, .getfield 9, 3), (53, .iload 4, 2), (55, .iaload, 1), (56, .imul, 1), (57, .iadd, 1), (58, .aload_n 0, 1), (59, .getfield 9, 3), (62, .iload 4, 2), (64, .iaload, 1), (65, .imul, 1), (66, .sipush 10000, 3), (69, .invokestatic 127, 3), (72, .istore 5, 2), (74, .aload_n 0, 1), (75, .aload_n 0, 1), (76, .getfield 66, 3), (79, .aload_n 3, 1), (80, .getfield 133, 3), (83, .iload 4, 2), (85, .iaload, 1), (86, .iload 5, 2), (88, .isub, 1), (89, .aload_n 3, 1), (90, .getfield 136, 3), (93, .isub, 1), (94, .invokestatic 139, 3), (97, .putfield 66, 3), (100, .aload_n 0, 1), (101, .aload_n 0, 1), (102, .getfield 75, 3), (105, .aload_n 3, 1), (106, .getfield 133, 3), (109, .iload 4, 2), (111, .iaload, 1), (112, .iload 5, 2), (114, .isub, 1), (115, .aload_n 3, 1), (116, .getfield 136, 3), (119, .iadd, 1), (120, .invokestatic 142, 3), (123, .putfield 75, 3), (126, .iinc 4 1, 3), (129, .goto (-106), 3), (132, .aload_n 0, 1), (133, .getfield 66, 3), (136, .aload_n 0, 1), (137, .getfield 75, 3), (140, .if_icmp .gt 7, 3), (143, .iconst 1, 1), (144, .goto 4, 3), (147, .iconst 0, 1), (148, .ireturn, 1)]
theorem T_cX5_meetsAll : tabOK cX5_meetsAll T_cX5_meetsAllL = true := by decide +kernel
def P_Laws_meetsAll_148 (post : Int32 → Mem → Prop) (s0 : Int32) (M : Mem) : Prop :=
  (s0 = 0 ∨ s0 = 1) ∧ post s0 M
theorem k_Laws_meetsAll_148 {X : FX} {g : GT} {ext : List CD} {A : Nat → Prop} {Z : State → Prop} {post : Int32 → Mem → Prop} (C : Cx X g (layC ++ ext) A cX5_meetsAll 6 RX5 1) (hr : 0 ≤ X.2.2.2.1.cells ∧ 0 ≤ X.2.2.2.1.slots) (hR : RetZ X g (layC ++ ext) A cX5_meetsAll 6 0 0 Z post) (s0 : Int32) (M : Mem) (h : P_Laws_meetsAll_148 post s0 M) : AtX X g (layC ++ ext) A 6 0 0 Z 148 [] [.int s0] M := by
  exact hR _ _ _ _ (tk T_cX5_meetsAll 77 rfl) h
def P_Laws_meetsAll_132 (post : Int32 → Mem → Prop) (M : Mem) : Prop :=
  ((M 63 14) < (M 63 13) → (P_Laws_meetsAll_148 post (0 : Int32) M)) ∧
  (¬ (M 63 14) < (M 63 13) → (P_Laws_meetsAll_148 post (1 : Int32) M))
theorem k_Laws_meetsAll_132 {X : FX} {g : GT} {ext : List CD} {A : Nat → Prop} {Z : State → Prop} {post : Int32 → Mem → Prop} (C : Cx X g (layC ++ ext) A cX5_meetsAll 6 RX5 1) (hr : 0 ≤ X.2.2.2.1.cells ∧ 0 ≤ X.2.2.2.1.slots) (hR : RetZ X g (layC ++ ext) A cX5_meetsAll 6 0 0 Z post)  (M : Mem) (h : P_Laws_meetsAll_132 post M) : AtX X g (layC ++ ext) A 6 0 0 Z 132 [(0, .ref (ad g 63))] [] M := by
  refine a_aload_n C (tk T_cX5_meetsAll 69 rfl) rfl ?_
  refine a_getI C f_RX5_66 (tk T_cX5_meetsAll 70 rfl) lc63 rfl ?_
  refine a_aload_n C (tk T_cX5_meetsAll 71 rfl) rfl ?_
  refine a_getI C f_RX5_75 (tk T_cX5_meetsAll 72 rfl) lc63 rfl ?_
  refine a_icmp_gt C 147 (tk T_cX5_meetsAll 73 rfl) rfl (fun c => ?_) (fun c => ?_)
  · have h := h.1 c
    refine a_iconst C (0 : Int32) (tk T_cX5_meetsAll 76 rfl) kI_0 ?_
    exact a_to (k_Laws_meetsAll_148 C hr hR (0 : Int32) M h) rfl
  · have h := h.2 c
    refine a_iconst C (1 : Int32) (tk T_cX5_meetsAll 74 rfl) kI_1 ?_
    refine a_goto C 148 (tk T_cX5_meetsAll 75 rfl) rfl ?_
    exact a_to (k_Laws_meetsAll_148 C hr hR (1 : Int32) M h) rfl
def P_Laws_meetsAll_23 (post : Int32 → Mem → Prop) : Nat → Int32 → Int32 → Int32 → Mem → Prop
  | 0, _, _, _, _ => False
  | n + 1, x1, x2, x4, M =>
    ((M 8 4) ≤ x4 → (P_Laws_meetsAll_132 post M)) ∧
  (¬ (M 8 4) ≤ x4 → (((M 63 14) < (M 63 13) → (P_Laws_meetsAll_132 post M)) ∧
  (¬ (M 63 14) < (M 63 13) → (vp_in x4 10 ∧ vp_in x4 10 ∧ ∀ v1, v1 = ((((1000 : Int32) * x1) + (x2 * (M 64 x4.toNatClampNeg))) * (M 64 x4.toNatClampNeg)) → P_Math_floorDiv (fun r2 M2 =>
  vp_in x4 10 ∧ P_Math_max (fun r3 M3 =>
  ∀ M4, M4 = ms M3 63 13 r3 → vp_in x4 10 ∧ P_Math_min (fun r5 M5 =>
  ∀ M6, M6 = ms M5 63 14 r5 → P_Laws_meetsAll_23 post n x1 x2 (x4 + (1 : Int32)) M6) (M4 63 14) (((M4 11 x4.toNatClampNeg) - r2) + (M4 8 5)) M4) (M2 63 13) (((M2 11 x4.toNatClampNeg) - r2) - (M2 8 5)) M2) v1 (10000 : Int32) M))))
theorem k_Laws_meetsAll_23 {X : FX} {g : GT} {ext : List CD} {A : Nat → Prop} {Z : State → Prop} {post : Int32 → Mem → Prop} (C : Cx X g (layC ++ ext) A cX5_meetsAll 6 RX5 1) (hr : 0 ≤ X.2.2.2.1.cells ∧ 0 ≤ X.2.2.2.1.slots) (hR : RetZ X g (layC ++ ext) A cX5_meetsAll 6 0 0 Z post) : ∀ (n : Nat) (x1 x2 x4 : Int32) (M : Mem), P_Laws_meetsAll_23 post n x1 x2 x4 M → AtX X g (layC ++ ext) A 6 0 0 Z 23 [(0, .ref (ad g 63)), (3, .ref (ad g 8)), (1, .int x1), (2, .int x2), (4, .int x4)] [] M := by
  intro n
  induction n with
  | zero =>
    intro x1 x2 x4 M h
    exact h.elim
  | succ n ih =>
    intro x1 x2 x4 M h
    refine a_iload C (tk T_cX5_meetsAll 12 rfl) rfl ?_
    refine a_aload_n C (tk T_cX5_meetsAll 13 rfl) rfl ?_
    refine a_getI C f_RX5_102 (tk T_cX5_meetsAll 14 rfl) lc8 rfl ?_
    refine a_icmp_ge C 132 (tk T_cX5_meetsAll 15 rfl) rfl (fun c => ?_) (fun c => ?_)
    · have h := h.1 c
      exact a_to (k_Laws_meetsAll_132 C hr hR M h) rfl
    · have h := h.2 c
      refine a_aload_n C (tk T_cX5_meetsAll 16 rfl) rfl ?_
      refine a_getI C f_RX5_66 (tk T_cX5_meetsAll 17 rfl) lc63 rfl ?_
      refine a_aload_n C (tk T_cX5_meetsAll 18 rfl) rfl ?_
      refine a_getI C f_RX5_75 (tk T_cX5_meetsAll 19 rfl) lc63 rfl ?_
      refine a_icmp_gt C 132 (tk T_cX5_meetsAll 20 rfl) rfl (fun c => ?_) (fun c => ?_)
      · have h := h.1 c
        exact a_to (k_Laws_meetsAll_132 C hr hR M h) rfl
      · have h := h.2 c
        refine a_sipush C (1000 : Int32) (tk T_cX5_meetsAll 21 rfl) kS_1000 ?_
        refine a_iload_n C (tk T_cX5_meetsAll 22 rfl) rfl ?_
        refine a_imul C (tk T_cX5_meetsAll 23 rfl) ?_
        refine a_iload_n C (tk T_cX5_meetsAll 24 rfl) rfl ?_
        refine a_aload_n C (tk T_cX5_meetsAll 25 rfl) rfl ?_
        refine a_getR C f_RX5_9 (tk T_cX5_meetsAll 26 rfl) lc63 rfl ?_
        refine a_iload C (tk T_cX5_meetsAll 27 rfl) rfl ?_
        obtain ⟨hb, h⟩ := h
        refine a_iald C (tk T_cX5_meetsAll 28 rfl) lc64 hb ?_
        refine a_imul C (tk T_cX5_meetsAll 29 rfl) ?_
        refine a_iadd C (tk T_cX5_meetsAll 30 rfl) ?_
        refine a_aload_n C (tk T_cX5_meetsAll 31 rfl) rfl ?_
        refine a_getR C f_RX5_9 (tk T_cX5_meetsAll 32 rfl) lc63 rfl ?_
        refine a_iload C (tk T_cX5_meetsAll 33 rfl) rfl ?_
        obtain ⟨hb, h⟩ := h
        refine a_iald C (tk T_cX5_meetsAll 34 rfl) lc64 hb ?_
        refine a_imul C (tk T_cX5_meetsAll 35 rfl) ?_
        refine a_top (fun v1 e_v1 => ?_)
        have h := h v1 e_v1
        refine a_sipush C (10000 : Int32) (tk T_cX5_meetsAll 36 rfl) kS_10000 ?_
        refine a_statI C [.int v1, .int (10000 : Int32)] me_yJ9_floorDiv_7cf53 lk_RX5_127 (ct_Math_floorDiv h) (by decide) rfl rfl (Nat.le_of_ble_eq_true rfl) (tk T_cX5_meetsAll 37 rfl) hr (fun r2 M2 h => ?_)
        refine a_istore C (tk T_cX5_meetsAll 38 rfl) (by decide) rfl ?_
        refine a_aload_n C (tk T_cX5_meetsAll 39 rfl) rfl ?_
        refine a_aload_n C (tk T_cX5_meetsAll 40 rfl) rfl ?_
        refine a_getI C f_RX5_66 (tk T_cX5_meetsAll 41 rfl) lc63 rfl ?_
        refine a_aload_n C (tk T_cX5_meetsAll 42 rfl) rfl ?_
        refine a_getR C f_RX5_133 (tk T_cX5_meetsAll 43 rfl) lc8 rfl ?_
        refine a_iload C (tk T_cX5_meetsAll 44 rfl) rfl ?_
        obtain ⟨hb, h⟩ := h
        refine a_iald C (tk T_cX5_meetsAll 45 rfl) lc11 hb ?_
        refine a_iload C (tk T_cX5_meetsAll 46 rfl) rfl ?_
        refine a_isub C (tk T_cX5_meetsAll 47 rfl) ?_
        refine a_aload_n C (tk T_cX5_meetsAll 48 rfl) rfl ?_
        refine a_getI C f_RX5_136 (tk T_cX5_meetsAll 49 rfl) lc8 rfl ?_
        refine a_isub C (tk T_cX5_meetsAll 50 rfl) ?_
        refine a_statI C [.int (M2 63 13), .int (((M2 11 x4.toNatClampNeg) - r2) - (M2 8 5))] me_yJ9_max_7cf53 lk_RX5_139 (ct_Math_max h) (by decide) rfl rfl (Nat.le_of_ble_eq_true rfl) (tk T_cX5_meetsAll 51 rfl) hr (fun r3 M3 h => ?_)
        refine a_put C f_RX5_66 f_RX5_66p rfl rfl (tk T_cX5_meetsAll 52 rfl) lc63 rfl ?_
        refine a_mem (fun M4 e_M4 => ?_)
        have h := h M4 e_M4
        refine a_aload_n C (tk T_cX5_meetsAll 53 rfl) rfl ?_
        refine a_aload_n C (tk T_cX5_meetsAll 54 rfl) rfl ?_
        refine a_getI C f_RX5_75 (tk T_cX5_meetsAll 55 rfl) lc63 rfl ?_
        refine a_aload_n C (tk T_cX5_meetsAll 56 rfl) rfl ?_
        refine a_getR C f_RX5_133 (tk T_cX5_meetsAll 57 rfl) lc8 rfl ?_
        refine a_iload C (tk T_cX5_meetsAll 58 rfl) rfl ?_
        obtain ⟨hb, h⟩ := h
        refine a_iald C (tk T_cX5_meetsAll 59 rfl) lc11 hb ?_
        refine a_iload C (tk T_cX5_meetsAll 60 rfl) rfl ?_
        refine a_isub C (tk T_cX5_meetsAll 61 rfl) ?_
        refine a_aload_n C (tk T_cX5_meetsAll 62 rfl) rfl ?_
        refine a_getI C f_RX5_136 (tk T_cX5_meetsAll 63 rfl) lc8 rfl ?_
        refine a_iadd C (tk T_cX5_meetsAll 64 rfl) ?_
        refine a_statI C [.int (M4 63 14), .int (((M4 11 x4.toNatClampNeg) - r2) + (M4 8 5))] me_yJ9_min_7cf53 lk_RX5_142 (ct_Math_min h) (by decide) rfl rfl (Nat.le_of_ble_eq_true rfl) (tk T_cX5_meetsAll 65 rfl) hr (fun r5 M5 h => ?_)
        refine a_put C f_RX5_75 f_RX5_75p rfl rfl (tk T_cX5_meetsAll 66 rfl) lc63 rfl ?_
        refine a_mem (fun M6 e_M6 => ?_)
        have h := h M6 e_M6
        refine a_iinc C (1 : Int32) (tk T_cX5_meetsAll 67 rfl) rfl kI_1 (by decide) rfl ?_
        refine a_goto C 23 (tk T_cX5_meetsAll 68 rfl) rfl ?_
        exact a_to (ih x1 x2 (x4 + (1 : Int32)) M6 h) rfl
def P_Laws_meetsAll (post : Int32 → Mem → Prop) (x1 x2 : Int32) (M : Mem) : Prop :=
  ∀ M1, M1 = ms M 63 13 (0 : Int32) → ∀ M2, M2 = ms M1 63 14 (9999 : Int32) → ∃ j23, P_Laws_meetsAll_23 post j23 x1 x2 (0 : Int32) M2
theorem k_Laws_meetsAll {X : FX} {g : GT} {ext : List CD} {A : Nat → Prop} {Z : State → Prop} {post : Int32 → Mem → Prop} (C : Cx X g (layC ++ ext) A cX5_meetsAll 6 RX5 1) (hr : 0 ≤ X.2.2.2.1.cells ∧ 0 ≤ X.2.2.2.1.slots) (hR : RetZ X g (layC ++ ext) A cX5_meetsAll 6 0 0 Z post) (x1 x2 : Int32) (M : Mem) (h : P_Laws_meetsAll post x1 x2 M) : AtX X g (layC ++ ext) A 6 0 0 Z 0 [(0, .ref (ad g 63)), (1, .int x1), (2, .int x2)] [] M := by
  refine a_aload_n C (tk T_cX5_meetsAll 0 rfl) rfl ?_
  refine a_getR C f_RX5_27 (tk T_cX5_meetsAll 1 rfl) lc63 rfl ?_
  refine a_getR C f_RX5_96 (tk T_cX5_meetsAll 2 rfl) lc1 rfl ?_
  refine a_astore_n C (tk T_cX5_meetsAll 3 rfl) (by decide) rfl ?_
  refine a_aload_n C (tk T_cX5_meetsAll 4 rfl) rfl ?_
  refine a_iconst C (0 : Int32) (tk T_cX5_meetsAll 5 rfl) kI_0 ?_
  refine a_put C f_RX5_66 f_RX5_66p rfl rfl (tk T_cX5_meetsAll 6 rfl) lc63 rfl ?_
  refine a_mem (fun M1 e_M1 => ?_)
  have h := h M1 e_M1
  refine a_aload_n C (tk T_cX5_meetsAll 7 rfl) rfl ?_
  refine a_sipush C (9999 : Int32) (tk T_cX5_meetsAll 8 rfl) kS_9999 ?_
  refine a_put C f_RX5_75 f_RX5_75p rfl rfl (tk T_cX5_meetsAll 9 rfl) lc63 rfl ?_
  refine a_mem (fun M2 e_M2 => ?_)
  have h := h M2 e_M2
  refine a_iconst C (0 : Int32) (tk T_cX5_meetsAll 10 rfl) kI_0 ?_
  refine a_istore C (tk T_cX5_meetsAll 11 rfl) (by decide) rfl ?_
  obtain ⟨n1, h⟩ := h
  exact a_to (k_Laws_meetsAll_23 C hr hR n1 x1 x2 (0 : Int32) M2 h) rfl
theorem ct_Laws_meetsAll {l : Launch} {g : GT} {ext : List CD} {post : Int32 → Mem → Prop} {x1 x2 : Int32} {M : Mem} (h : P_Laws_meetsAll post x1 x2 M) : CI l g (layC ++ ext) yX5_meetsAll cX5_meetsAll 6 (some .boolean) 1 [.ref (ad g 63), .int x1, .int x2] M post :=
  cz_of (plainFor_of_name (by decide +kernel)) (Nat.le_of_ble_eq_true rfl) (fun X A Z hl C hr hR => by subst hl; exact k_Laws_meetsAll C hr hR x1 x2 M h)
def T_cX5_solveBendL : List (Nat × Instr × Nat) := [(0, .aload_n 0, 1), (1, .getfield 50, 3), (4, .istore_n 2, 1), (5, .aload_n 0, 1), (6, .getfield 53, 3), (9, .istore_n 3, 1), (10, .iconst 1, 1), (11, .istore 4, 2), (13, .iload 4, 2), (15, .bipush 90, 2), (17, .if_icmp .gt 128, 3), (20, .aload_n 0, 1), (21, .iload 4, 2), (23, .iload_n 1, 1), (24, .invokevirtual 59, 3), (27, .ifCond .eq 112, 3), (30, .aload_n 0, 1), (31, .getfield 46, 3), (34, .ifCond .eq 12, 3), (37, .iload 4, 2), (39, .aload_n 0, 1), (40, .getfield 63, 3), (43, .if_icmp .ge 22, 3), (46, .aload_n 0, 1), (47, .aload_n 0, 1), (48, .getfield 66, 3), (51, .putfield 69, 3), (54, .aload_n 0, 1), (55, .iload 4, 2), (57, .putfield 63, 3), (60, .aload_n 0, 1), (61, .iload_n 1, 1), (62, .putfield 72, 3), (65, .aload_n 0, 1), (66, .dup, 1), (67, .getfield 46, 3), (70, .aload_n 0, 1), (71, .getfield 75, 3), (74, .aload_n 0, 1), (75, .getfield 66, 3), (78, .isub, 1), (79, .iconst 1, 1), (80, .iadd, 1), (81, .iadd, 1), (82, .putfield 46, 3), (85, .aload_n 0, 1), (86, .aload_n 0, 1), (87, .getfield 15, 3), (90, .iload_n 2, 1), (91, .aload_n 0, 1), (92, .getfield 50, 3), (95, .aload_n 0, 1), (96, .getfield 66, 3), (99, .iload 4, 2), (101, .iload_n 1, 1), (102, .invokestatic 78, 3), (105, .iconst 1, 1), (106, .invokestatic 82, 3), (109, .putfield 50, 3), (112, .aload_n 0, 1), (113, .aload_n 0, 1), (114, .getfield 18, 3), (117, .iload_n 3, 1), (118, .aload_n 0, 1), (119, .getfield 53, 3), (122, .aload_n 0, 1), (123, .getfield 75, 3), (126, .iload 4, 2), (128, .iload_n 1, 1), (129, .invokestatic 78, 3), (132, .iconst (-1), 1), (133, .invokestatic 82, 3), (136, .putfield 53, 3), (139, .iinc 4 1, 3), (142, .goto (-129), 3), (145, .return_, 1)]
theorem T_cX5_solveBend : tabOK cX5_solveBend T_cX5_solveBendL = true := by decide +kernel
def P_Laws_solveBend_139 (post : Mem → Prop) (R13 : Int32 → Int32 → Int32 → Int32 → Mem → Prop) (x1 x2 x3 x4 : Int32) (M : Mem) : Prop :=
  R13 x1 x2 x3 (x4 + (1 : Int32)) M
theorem k_Laws_solveBend_139 {X : FX} {g : GT} {ext : List CD} {A : Nat → Prop} {Z : State → Prop} {post : Mem → Prop} {R13 : Int32 → Int32 → Int32 → Int32 → Mem → Prop} (C : Cx X g (layC ++ ext) A cX5_solveBend 5 RX5 3) (hr : 0 ≤ X.2.2.2.1.cells ∧ 0 ≤ X.2.2.2.1.slots) (hR : RetV X g (layC ++ ext) A cX5_solveBend 5 0 0 Z post) (k13 : ∀ (y1 y2 y3 y4 : Int32) (M : Mem), R13 y1 y2 y3 y4 M → AtX X g (layC ++ ext) A 5 0 0 Z 13 [(0, .ref (ad g 63)), (1, .int y1), (2, .int y2), (3, .int y3), (4, .int y4)] [] M) (x1 x2 x3 x4 : Int32) (M : Mem) (h : P_Laws_solveBend_139 post R13 x1 x2 x3 x4 M) : AtX X g (layC ++ ext) A 5 0 0 Z 139 [(0, .ref (ad g 63)), (1, .int x1), (2, .int x2), (3, .int x3), (4, .int x4)] [] M := by
  refine a_iinc C (1 : Int32) (tk T_cX5_solveBend 73 rfl) rfl kI_1 (by decide) rfl ?_
  refine a_goto C 13 (tk T_cX5_solveBend 74 rfl) rfl ?_
  exact a_to (k13 x1 x2 x3 (x4 + (1 : Int32)) M h) rfl
def P_Laws_solveBend_65 (post : Mem → Prop) (R13 : Int32 → Int32 → Int32 → Int32 → Mem → Prop) (x1 x2 x3 x4 : Int32) (M : Mem) : Prop :=
  ∀ M1, M1 = ms M 63 8 ((M 63 8) + (((M 63 14) - (M 63 13)) + (1 : Int32))) → P_Laws_pointOf (fun r2 M2 =>
  P_Laws_added (fun r3 M3 =>
  ∀ M4, M4 = ms M3 63 6 r3 → P_Laws_pointOf (fun r5 M5 =>
  P_Laws_added_66 (fun r6 M6 =>
  ∀ M7, M7 = ms M6 63 7 r6 → P_Laws_solveBend_139 post R13 x1 x2 x3 x4 M7) x3 (M4 63 7) r5 (-1 : Int32) M5) (M4 63 14) x4 x1 M4) x2 (M1 63 6) r2 (1 : Int32) M2) (M1 63 13) x4 x1 M1
theorem k_Laws_solveBend_65 {X : FX} {g : GT} {ext : List CD} {A : Nat → Prop} {Z : State → Prop} {post : Mem → Prop} {R13 : Int32 → Int32 → Int32 → Int32 → Mem → Prop} (C : Cx X g (layC ++ ext) A cX5_solveBend 5 RX5 3) (hr : 0 ≤ X.2.2.2.1.cells ∧ 0 ≤ X.2.2.2.1.slots) (hR : RetV X g (layC ++ ext) A cX5_solveBend 5 0 0 Z post) (k13 : ∀ (y1 y2 y3 y4 : Int32) (M : Mem), R13 y1 y2 y3 y4 M → AtX X g (layC ++ ext) A 5 0 0 Z 13 [(0, .ref (ad g 63)), (1, .int y1), (2, .int y2), (3, .int y3), (4, .int y4)] [] M) (x1 x2 x3 x4 : Int32) (M : Mem) (h : P_Laws_solveBend_65 post R13 x1 x2 x3 x4 M) : AtX X g (layC ++ ext) A 5 0 0 Z 65 [(0, .ref (ad g 63)), (1, .int x1), (2, .int x2), (3, .int x3), (4, .int x4)] [] M := by
  refine a_aload_n C (tk T_cX5_solveBend 33 rfl) rfl ?_
  refine a_dupr C (tk T_cX5_solveBend 34 rfl) ?_
  refine a_getI C f_RX5_46 (tk T_cX5_solveBend 35 rfl) lc63 rfl ?_
  refine a_aload_n C (tk T_cX5_solveBend 36 rfl) rfl ?_
  refine a_getI C f_RX5_75 (tk T_cX5_solveBend 37 rfl) lc63 rfl ?_
  refine a_aload_n C (tk T_cX5_solveBend 38 rfl) rfl ?_
  refine a_getI C f_RX5_66 (tk T_cX5_solveBend 39 rfl) lc63 rfl ?_
  refine a_isub C (tk T_cX5_solveBend 40 rfl) ?_
  refine a_iconst C (1 : Int32) (tk T_cX5_solveBend 41 rfl) kI_1 ?_
  refine a_iadd C (tk T_cX5_solveBend 42 rfl) ?_
  refine a_iadd C (tk T_cX5_solveBend 43 rfl) ?_
  refine a_put C f_RX5_46 f_RX5_46p rfl rfl (tk T_cX5_solveBend 44 rfl) lc63 rfl ?_
  refine a_mem (fun M1 e_M1 => ?_)
  have h := h M1 e_M1
  refine a_aload_n C (tk T_cX5_solveBend 45 rfl) rfl ?_
  refine a_aload_n C (tk T_cX5_solveBend 46 rfl) rfl ?_
  refine a_getR C f_RX5_15 (tk T_cX5_solveBend 47 rfl) lc63 rfl ?_
  refine a_iload_n C (tk T_cX5_solveBend 48 rfl) rfl ?_
  refine a_aload_n C (tk T_cX5_solveBend 49 rfl) rfl ?_
  refine a_getI C f_RX5_50 (tk T_cX5_solveBend 50 rfl) lc63 rfl ?_
  refine a_aload_n C (tk T_cX5_solveBend 51 rfl) rfl ?_
  refine a_getI C f_RX5_66 (tk T_cX5_solveBend 52 rfl) lc63 rfl ?_
  refine a_iload C (tk T_cX5_solveBend 53 rfl) rfl ?_
  refine a_iload_n C (tk T_cX5_solveBend 54 rfl) rfl ?_
  refine a_statI C [.int (M1 63 13), .int x4, .int x1] me_yX5_pointOf lk_RX5_78 (ct_Laws_pointOf h) (by decide) rfl rfl (Nat.le_of_ble_eq_true rfl) (tk T_cX5_solveBend 55 rfl) hr (fun r2 M2 h => ?_)
  refine a_iconst C (1 : Int32) (tk T_cX5_solveBend 56 rfl) kI_1 ?_
  refine a_statI C [.ref (ad g 65), .int x2, .int (M1 63 6), .int r2, .int (1 : Int32)] me_yX5_added lk_RX5_82 (ct_Laws_added h) (by decide) rfl rfl (Nat.le_of_ble_eq_true rfl) (tk T_cX5_solveBend 57 rfl) hr (fun r3 M3 h => ?_)
  refine a_put C f_RX5_50 f_RX5_50p rfl rfl (tk T_cX5_solveBend 58 rfl) lc63 rfl ?_
  refine a_mem (fun M4 e_M4 => ?_)
  have h := h M4 e_M4
  refine a_aload_n C (tk T_cX5_solveBend 59 rfl) rfl ?_
  refine a_aload_n C (tk T_cX5_solveBend 60 rfl) rfl ?_
  refine a_getR C f_RX5_18 (tk T_cX5_solveBend 61 rfl) lc63 rfl ?_
  refine a_iload_n C (tk T_cX5_solveBend 62 rfl) rfl ?_
  refine a_aload_n C (tk T_cX5_solveBend 63 rfl) rfl ?_
  refine a_getI C f_RX5_53 (tk T_cX5_solveBend 64 rfl) lc63 rfl ?_
  refine a_aload_n C (tk T_cX5_solveBend 65 rfl) rfl ?_
  refine a_getI C f_RX5_75 (tk T_cX5_solveBend 66 rfl) lc63 rfl ?_
  refine a_iload C (tk T_cX5_solveBend 67 rfl) rfl ?_
  refine a_iload_n C (tk T_cX5_solveBend 68 rfl) rfl ?_
  refine a_statI C [.int (M4 63 14), .int x4, .int x1] me_yX5_pointOf lk_RX5_78 (ct_Laws_pointOf h) (by decide) rfl rfl (Nat.le_of_ble_eq_true rfl) (tk T_cX5_solveBend 69 rfl) hr (fun r5 M5 h => ?_)
  refine a_iconst C (-1 : Int32) (tk T_cX5_solveBend 70 rfl) kI_m1 ?_
  refine a_statI C [.ref (ad g 66), .int x3, .int (M4 63 7), .int r5, .int (-1 : Int32)] me_yX5_added lk_RX5_82 (ct_Laws_added_66 h) (by decide) rfl rfl (Nat.le_of_ble_eq_true rfl) (tk T_cX5_solveBend 71 rfl) hr (fun r6 M6 h => ?_)
  refine a_put C f_RX5_53 f_RX5_53p rfl rfl (tk T_cX5_solveBend 72 rfl) lc63 rfl ?_
  refine a_mem (fun M7 e_M7 => ?_)
  have h := h M7 e_M7
  exact a_to (k_Laws_solveBend_139 C hr hR k13 x1 x2 x3 x4 M7 h) rfl
def P_Laws_solveBend_46 (post : Mem → Prop) (R13 : Int32 → Int32 → Int32 → Int32 → Mem → Prop) (x1 x2 x3 x4 : Int32) (M : Mem) : Prop :=
  ∀ M1, M1 = ms M 63 9 (M 63 13) → ∀ M2, M2 = ms M1 63 10 x4 → ∀ M3, M3 = ms M2 63 11 x1 → P_Laws_solveBend_65 post R13 x1 x2 x3 x4 M3
theorem k_Laws_solveBend_46 {X : FX} {g : GT} {ext : List CD} {A : Nat → Prop} {Z : State → Prop} {post : Mem → Prop} {R13 : Int32 → Int32 → Int32 → Int32 → Mem → Prop} (C : Cx X g (layC ++ ext) A cX5_solveBend 5 RX5 3) (hr : 0 ≤ X.2.2.2.1.cells ∧ 0 ≤ X.2.2.2.1.slots) (hR : RetV X g (layC ++ ext) A cX5_solveBend 5 0 0 Z post) (k13 : ∀ (y1 y2 y3 y4 : Int32) (M : Mem), R13 y1 y2 y3 y4 M → AtX X g (layC ++ ext) A 5 0 0 Z 13 [(0, .ref (ad g 63)), (1, .int y1), (2, .int y2), (3, .int y3), (4, .int y4)] [] M) (x1 x2 x3 x4 : Int32) (M : Mem) (h : P_Laws_solveBend_46 post R13 x1 x2 x3 x4 M) : AtX X g (layC ++ ext) A 5 0 0 Z 46 [(0, .ref (ad g 63)), (1, .int x1), (2, .int x2), (3, .int x3), (4, .int x4)] [] M := by
  refine a_aload_n C (tk T_cX5_solveBend 23 rfl) rfl ?_
  refine a_aload_n C (tk T_cX5_solveBend 24 rfl) rfl ?_
  refine a_getI C f_RX5_66 (tk T_cX5_solveBend 25 rfl) lc63 rfl ?_
  refine a_put C f_RX5_69 f_RX5_69p rfl rfl (tk T_cX5_solveBend 26 rfl) lc63 rfl ?_
  refine a_mem (fun M1 e_M1 => ?_)
  have h := h M1 e_M1
  refine a_aload_n C (tk T_cX5_solveBend 27 rfl) rfl ?_
  refine a_iload C (tk T_cX5_solveBend 28 rfl) rfl ?_
  refine a_put C f_RX5_63 f_RX5_63p rfl rfl (tk T_cX5_solveBend 29 rfl) lc63 rfl ?_
  refine a_mem (fun M2 e_M2 => ?_)
  have h := h M2 e_M2
  refine a_aload_n C (tk T_cX5_solveBend 30 rfl) rfl ?_
  refine a_iload_n C (tk T_cX5_solveBend 31 rfl) rfl ?_
  refine a_put C f_RX5_72 f_RX5_72p rfl rfl (tk T_cX5_solveBend 32 rfl) lc63 rfl ?_
  refine a_mem (fun M3 e_M3 => ?_)
  have h := h M3 e_M3
  exact a_to (k_Laws_solveBend_65 C hr hR k13 x1 x2 x3 x4 M3 h) rfl
def P_Laws_solveBend_13 (post : Mem → Prop) : Nat → Int32 → Int32 → Int32 → Int32 → Mem → Prop
  | 0, _, _, _, _, _ => False
  | n + 1, x1, x2, x3, x4, M =>
    ((90 : Int32) < x4 → (post M)) ∧
  (¬ (90 : Int32) < x4 → (P_Laws_meetsAll (fun r1 M1 =>
  (r1 = 0 → (P_Laws_solveBend_139 post (P_Laws_solveBend_13 post n) x1 x2 x3 x4 M1)) ∧
  (¬ r1 = 0 → (((M1 63 8) = 0 → (P_Laws_solveBend_46 post (P_Laws_solveBend_13 post n) x1 x2 x3 x4 M1)) ∧
  (¬ (M1 63 8) = 0 → (((M1 63 10) ≤ x4 → (P_Laws_solveBend_65 post (P_Laws_solveBend_13 post n) x1 x2 x3 x4 M1)) ∧
  (¬ (M1 63 10) ≤ x4 → (P_Laws_solveBend_46 post (P_Laws_solveBend_13 post n) x1 x2 x3 x4 M1))))))) x4 x1 M))
theorem k_Laws_solveBend_13 {X : FX} {g : GT} {ext : List CD} {A : Nat → Prop} {Z : State → Prop} {post : Mem → Prop} (C : Cx X g (layC ++ ext) A cX5_solveBend 5 RX5 3) (hr : 0 ≤ X.2.2.2.1.cells ∧ 0 ≤ X.2.2.2.1.slots) (hR : RetV X g (layC ++ ext) A cX5_solveBend 5 0 0 Z post) : ∀ (n : Nat) (x1 x2 x3 x4 : Int32) (M : Mem), P_Laws_solveBend_13 post n x1 x2 x3 x4 M → AtX X g (layC ++ ext) A 5 0 0 Z 13 [(0, .ref (ad g 63)), (1, .int x1), (2, .int x2), (3, .int x3), (4, .int x4)] [] M := by
  intro n
  induction n with
  | zero =>
    intro x1 x2 x3 x4 M h
    exact h.elim
  | succ n ih =>
    intro x1 x2 x3 x4 M h
    refine a_iload C (tk T_cX5_solveBend 8 rfl) rfl ?_
    refine a_bipush C (90 : Int32) (tk T_cX5_solveBend 9 rfl) kB_90 ?_
    refine a_icmp_gt C 145 (tk T_cX5_solveBend 10 rfl) rfl (fun c => ?_) (fun c => ?_)
    · have h := h.1 c
      exact hR _ _ _ (tk T_cX5_solveBend 75 rfl) h
    · have h := h.2 c
      refine a_aload_n C (tk T_cX5_solveBend 11 rfl) rfl ?_
      refine a_iload C (tk T_cX5_solveBend 12 rfl) rfl ?_
      refine a_iload_n C (tk T_cX5_solveBend 13 rfl) rfl ?_
      refine a_callI C [.int x4, .int x1] me_yX5_meetsAll lk_RX5_59 (ct_Laws_meetsAll h) (by decide) lc63 rfl rfl rfl (Nat.le_of_ble_eq_true rfl) (tk T_cX5_solveBend 14 rfl) hr (fun r1 M1 h => ?_)
      refine a_if_eq C 139 (tk T_cX5_solveBend 15 rfl) rfl (fun c => ?_) (fun c => ?_)
      · have h := h.1 c
        exact a_to (k_Laws_solveBend_139 C hr hR ih x1 x2 x3 x4 M1 h) rfl
      · have h := h.2 c
        refine a_aload_n C (tk T_cX5_solveBend 16 rfl) rfl ?_
        refine a_getI C f_RX5_46 (tk T_cX5_solveBend 17 rfl) lc63 rfl ?_
        refine a_if_eq C 46 (tk T_cX5_solveBend 18 rfl) rfl (fun c => ?_) (fun c => ?_)
        · have h := h.1 c
          exact a_to (k_Laws_solveBend_46 C hr hR ih x1 x2 x3 x4 M1 h) rfl
        · have h := h.2 c
          refine a_iload C (tk T_cX5_solveBend 19 rfl) rfl ?_
          refine a_aload_n C (tk T_cX5_solveBend 20 rfl) rfl ?_
          refine a_getI C f_RX5_63 (tk T_cX5_solveBend 21 rfl) lc63 rfl ?_
          refine a_icmp_ge C 65 (tk T_cX5_solveBend 22 rfl) rfl (fun c => ?_) (fun c => ?_)
          · have h := h.1 c
            exact a_to (k_Laws_solveBend_65 C hr hR ih x1 x2 x3 x4 M1 h) rfl
          · have h := h.2 c
            exact a_to (k_Laws_solveBend_46 C hr hR ih x1 x2 x3 x4 M1 h) rfl
def P_Laws_solveBend (post : Mem → Prop) (x1 : Int32) (M : Mem) : Prop :=
  ∃ j13, P_Laws_solveBend_13 post j13 x1 (M 63 6) (M 63 7) (1 : Int32) M
theorem k_Laws_solveBend {X : FX} {g : GT} {ext : List CD} {A : Nat → Prop} {Z : State → Prop} {post : Mem → Prop} (C : Cx X g (layC ++ ext) A cX5_solveBend 5 RX5 3) (hr : 0 ≤ X.2.2.2.1.cells ∧ 0 ≤ X.2.2.2.1.slots) (hR : RetV X g (layC ++ ext) A cX5_solveBend 5 0 0 Z post) (x1 : Int32) (M : Mem) (h : P_Laws_solveBend post x1 M) : AtX X g (layC ++ ext) A 5 0 0 Z 0 [(0, .ref (ad g 63)), (1, .int x1)] [] M := by
  refine a_aload_n C (tk T_cX5_solveBend 0 rfl) rfl ?_
  refine a_getI C f_RX5_50 (tk T_cX5_solveBend 1 rfl) lc63 rfl ?_
  refine a_istore_n C (tk T_cX5_solveBend 2 rfl) (by decide) rfl ?_
  refine a_aload_n C (tk T_cX5_solveBend 3 rfl) rfl ?_
  refine a_getI C f_RX5_53 (tk T_cX5_solveBend 4 rfl) lc63 rfl ?_
  refine a_istore_n C (tk T_cX5_solveBend 5 rfl) (by decide) rfl ?_
  refine a_iconst C (1 : Int32) (tk T_cX5_solveBend 6 rfl) kI_1 ?_
  refine a_istore C (tk T_cX5_solveBend 7 rfl) (by decide) rfl ?_
  obtain ⟨n1, h⟩ := h
  exact a_to (k_Laws_solveBend_13 C hr hR n1 x1 (M 63 6) (M 63 7) (1 : Int32) M h) rfl
theorem ct_Laws_solveBend {l : Launch} {g : GT} {ext : List CD} {post : Mem → Prop} {x1 : Int32} {M : Mem} (h : P_Laws_solveBend post x1 M) : CV l g (layC ++ ext) yX5_solveBend cX5_solveBend 5 none 3 [.ref (ad g 63), .int x1] M post :=
  cv_of (plainFor_of_name (by decide +kernel)) (Nat.le_of_ble_eq_true rfl) (fun X A Z hl C hr hR => by subst hl; exact k_Laws_solveBend C hr hR x1 M h)
