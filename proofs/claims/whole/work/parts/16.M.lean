def T_cX12_endL : List (Nat × Instr × Nat) := [(0, .aload_n 0, 1), (1, .iconst 0, 1), (2, .putfield 3, 3), (5, .iload_n 1, 1), (6, .ifCond .lt 11, 3), (9, .iload_n 1, 1), (10, .aload_n 0, 1), (11, .getfield 272, 3), (14, .if_icmp .le 5, 3), (17, .iconst 0, 1), (18, .ireturn, 1), (19, .aload_n 0, 1), (20, .iload_n 1, 1), (21, .putfield 272, 3), (24, .iconst 1, 1), (25, .ireturn, 1)]
theorem T_cX12_end : tabOK cX12_end T_cX12_endL = true := by decide +kernel
def P_M_end_17 (post : Int32 → Mem → Prop) (M : Mem) : Prop :=
  post (0 : Int32) M
theorem k_M_end_17 {X : FX} {g : GT} {A : Nat → Prop} {Z : State → Prop} {post : Int32 → Mem → Prop} (C : Cx X g layM A cX12_end 2 RX12 0) (hr : 0 ≤ X.2.2.2.1.cells ∧ 0 ≤ X.2.2.2.1.slots) (hR : RetZ X g layM A cX12_end 2 0 0 Z post)  (M : Mem) (h : P_M_end_17 post M) : AtX X g layM A 2 0 0 Z 17 [] [] M := by
  refine a_iconst C (0 : Int32) (tk T_cX12_end 9 rfl) kI_0 ?_
  exact hR _ _ _ _ (tk T_cX12_end 10 rfl) ⟨Or.inl rfl, h⟩
def P_M_end (post : Int32 → Mem → Prop) (x1 : Int32) (M : Mem) : Prop :=
  ∀ M1, M1 = ms M 0 0 (0 : Int32) → (x1 < 0 → (P_M_end_17 post M1)) ∧
  (¬ x1 < 0 → ((x1 ≤ (M1 0 19) → (∀ M2, M2 = ms M1 0 19 x1 → post (1 : Int32) M2)) ∧
  (¬ x1 ≤ (M1 0 19) → (P_M_end_17 post M1))))
theorem k_M_end {X : FX} {g : GT} {A : Nat → Prop} {Z : State → Prop} {post : Int32 → Mem → Prop} (C : Cx X g layM A cX12_end 2 RX12 0) (hr : 0 ≤ X.2.2.2.1.cells ∧ 0 ≤ X.2.2.2.1.slots) (hR : RetZ X g layM A cX12_end 2 0 0 Z post) (x1 : Int32) (M : Mem) (h : P_M_end post x1 M) : AtX X g layM A 2 0 0 Z 0 [(0, .ref (ad g 0)), (1, .int x1)] [] M := by
  refine a_aload_n C (tk T_cX12_end 0 rfl) rfl ?_
  refine a_iconst C (0 : Int32) (tk T_cX12_end 1 rfl) kI_0 ?_
  refine a_put C f_RX12_3 f_RX12_3p rfl rfl (tk T_cX12_end 2 rfl) lm0 rfl ?_
  refine a_mem (fun M1 e_M1 => ?_)
  have h := h M1 e_M1
  refine a_iload_n C (tk T_cX12_end 3 rfl) rfl ?_
  refine a_if_lt C 17 (tk T_cX12_end 4 rfl) rfl (fun c => ?_) (fun c => ?_)
  · have h := h.1 c
    exact a_to (k_M_end_17 C hr hR M1 h) rfl
  · have h := h.2 c
    refine a_iload_n C (tk T_cX12_end 5 rfl) rfl ?_
    refine a_aload_n C (tk T_cX12_end 6 rfl) rfl ?_
    refine a_getI C f_RX12_272 (tk T_cX12_end 7 rfl) lm0 rfl ?_
    refine a_icmp_le C 19 (tk T_cX12_end 8 rfl) rfl (fun c => ?_) (fun c => ?_)
    · have h := h.1 c
      refine a_aload_n C (tk T_cX12_end 11 rfl) rfl ?_
      refine a_iload_n C (tk T_cX12_end 12 rfl) rfl ?_
      refine a_put C f_RX12_272 f_RX12_272p rfl rfl (tk T_cX12_end 13 rfl) lm0 rfl ?_
      refine a_mem (fun M2 e_M2 => ?_)
      have h := h M2 e_M2
      refine a_iconst C (1 : Int32) (tk T_cX12_end 14 rfl) kI_1 ?_
      exact hR _ _ _ _ (tk T_cX12_end 15 rfl) ⟨Or.inr rfl, h⟩
    · have h := h.2 c
      exact a_to (k_M_end_17 C hr hR M1 h) rfl
theorem ct_M_end {l : Launch} {g : GT} {post : Int32 → Mem → Prop} {x1 : Int32} {M : Mem} (h : P_M_end post x1 M) : CI l g layM yX12_end cX12_end 2 (some .boolean) 0 [.ref (ad g 0), .int x1] M post :=
  cz_of (plainFor_of_name (by decide +kernel)) (Nat.le_of_ble_eq_true rfl) (fun X A Z hl C hr hR => by subst hl; exact k_M_end C hr hR x1 M h)
def T_cX12_usesL : List (Nat × Instr × Nat) := [(0, .aload_n 0, 1), (1, .iconst 0, 1), (2, .putfield 3, 3), (5, .aload_n 0, 1), (6, .aload_n 0, 1), (7, .getfield 272, 3), (10, .putfield 275, 3), (13, .aload_n 0, 1), (14, .iconst 0, 1), (15, .putfield 272, 3), (18, .aload_n 0, 1), (19, .iconst 0, 1), (20, .putfield 278, 3), (23, .aload_n 0, 1), (24, .iconst 0, 1), (25, .putfield 281, 3), (28, .aload_n 0, 1), (29, .iconst 0, 1), (30, .putfield 284, 3), (33, .return_, 1)]
theorem T_cX12_uses : tabOK cX12_uses T_cX12_usesL = true := by decide +kernel
def P_M_uses (post : Mem → Prop) (M : Mem) : Prop :=
  ∀ M1, M1 = ms M 0 0 (0 : Int32) → ∀ M2, M2 = ms M1 0 21 (M1 0 19) → ∀ M3, M3 = ms M2 0 19 (0 : Int32) → ∀ M4, M4 = ms M3 0 20 (0 : Int32) → ∀ M5, M5 = ms M4 0 26 (0 : Int32) → ∀ M6, M6 = ms M5 0 23 (0 : Int32) → post M6
theorem k_M_uses {X : FX} {g : GT} {A : Nat → Prop} {Z : State → Prop} {post : Mem → Prop} (C : Cx X g layM A cX12_uses 1 RX12 0) (hr : 0 ≤ X.2.2.2.1.cells ∧ 0 ≤ X.2.2.2.1.slots) (hR : RetV X g layM A cX12_uses 1 0 0 Z post) (M : Mem) (h : P_M_uses post M) : AtX X g layM A 1 0 0 Z 0 [(0, .ref (ad g 0))] [] M := by
  refine a_aload_n C (tk T_cX12_uses 0 rfl) rfl ?_
  refine a_iconst C (0 : Int32) (tk T_cX12_uses 1 rfl) kI_0 ?_
  refine a_put C f_RX12_3 f_RX12_3p rfl rfl (tk T_cX12_uses 2 rfl) lm0 rfl ?_
  refine a_mem (fun M1 e_M1 => ?_)
  have h := h M1 e_M1
  refine a_aload_n C (tk T_cX12_uses 3 rfl) rfl ?_
  refine a_aload_n C (tk T_cX12_uses 4 rfl) rfl ?_
  refine a_getI C f_RX12_272 (tk T_cX12_uses 5 rfl) lm0 rfl ?_
  refine a_put C f_RX12_275 f_RX12_275p rfl rfl (tk T_cX12_uses 6 rfl) lm0 rfl ?_
  refine a_mem (fun M2 e_M2 => ?_)
  have h := h M2 e_M2
  refine a_aload_n C (tk T_cX12_uses 7 rfl) rfl ?_
  refine a_iconst C (0 : Int32) (tk T_cX12_uses 8 rfl) kI_0 ?_
  refine a_put C f_RX12_272 f_RX12_272p rfl rfl (tk T_cX12_uses 9 rfl) lm0 rfl ?_
  refine a_mem (fun M3 e_M3 => ?_)
  have h := h M3 e_M3
  refine a_aload_n C (tk T_cX12_uses 10 rfl) rfl ?_
  refine a_iconst C (0 : Int32) (tk T_cX12_uses 11 rfl) kI_0 ?_
  refine a_put C f_RX12_278 f_RX12_278p rfl rfl (tk T_cX12_uses 12 rfl) lm0 rfl ?_
  refine a_mem (fun M4 e_M4 => ?_)
  have h := h M4 e_M4
  refine a_aload_n C (tk T_cX12_uses 13 rfl) rfl ?_
  refine a_iconst C (0 : Int32) (tk T_cX12_uses 14 rfl) kI_0 ?_
  refine a_put C f_RX12_281 f_RX12_281p rfl rfl (tk T_cX12_uses 15 rfl) lm0 rfl ?_
  refine a_mem (fun M5 e_M5 => ?_)
  have h := h M5 e_M5
  refine a_aload_n C (tk T_cX12_uses 16 rfl) rfl ?_
  refine a_iconst C (0 : Int32) (tk T_cX12_uses 17 rfl) kI_0 ?_
  refine a_put C f_RX12_284 f_RX12_284p rfl rfl (tk T_cX12_uses 18 rfl) lm0 rfl ?_
  refine a_mem (fun M6 e_M6 => ?_)
  have h := h M6 e_M6
  exact hR _ _ _ (tk T_cX12_uses 19 rfl) h
theorem ct_M_uses {l : Launch} {g : GT} {post : Mem → Prop} {M : Mem} (h : P_M_uses post M) : CV l g layM yX12_uses cX12_uses 1 none 0 [.ref (ad g 0)] M post :=
  cv_of (plainFor_of_name (by decide +kernel)) (Nat.le_of_ble_eq_true rfl) (fun X A Z hl C hr hR => by subst hl; exact k_M_uses C hr hR  M h)
def T_cX12_isAtL : List (Nat × Instr × Nat) := [(0, .aload_n 0, 1), (1, .getfield 278, 3), (4, .aload_n 0, 1), (5, .getfield 275, 3), (8, .if_icmp .ge 33, 3), (11, .aload_n 0, 1), (12, .getfield 41, 3), (15, .aload_n 0, 1), (16, .getfield 278, 3), (19, .baload, 1), (20, .iload_n 1, 1), (21, .if_icmp .lt 20, 3), (24, .aload_n 0, 1), (25, .getfield 41, 3), (28, .aload_n 0, 1), (29, .getfield 278, 3), (32, .baload, 1), (33, .iload_n 2, 1), (34, .if_icmp .gt 7, 3), (37, .iconst 1, 1), (38, .goto 4, 3), (41, .iconst 0, 1), (42, .ireturn, 1)]
theorem T_cX12_isAt : tabOK cX12_isAt T_cX12_isAtL = true := by decide +kernel
def P_M_isAt_42 (post : Int32 → Mem → Prop) (s0 : Int32) (M : Mem) : Prop :=
  (s0 = 0 ∨ s0 = 1) ∧ post s0 M
theorem k_M_isAt_42 {X : FX} {g : GT} {A : Nat → Prop} {Z : State → Prop} {post : Int32 → Mem → Prop} (C : Cx X g layM A cX12_isAt 3 RX12 0) (hr : 0 ≤ X.2.2.2.1.cells ∧ 0 ≤ X.2.2.2.1.slots) (hR : RetZ X g layM A cX12_isAt 3 0 0 Z post) (s0 : Int32) (M : Mem) (h : P_M_isAt_42 post s0 M) : AtX X g layM A 3 0 0 Z 42 [] [.int s0] M := by
  exact hR _ _ _ _ (tk T_cX12_isAt 22 rfl) h
def P_M_isAt_41 (post : Int32 → Mem → Prop) (M : Mem) : Prop :=
  P_M_isAt_42 post (0 : Int32) M
theorem k_M_isAt_41 {X : FX} {g : GT} {A : Nat → Prop} {Z : State → Prop} {post : Int32 → Mem → Prop} (C : Cx X g layM A cX12_isAt 3 RX12 0) (hr : 0 ≤ X.2.2.2.1.cells ∧ 0 ≤ X.2.2.2.1.slots) (hR : RetZ X g layM A cX12_isAt 3 0 0 Z post)  (M : Mem) (h : P_M_isAt_41 post M) : AtX X g layM A 3 0 0 Z 41 [] [] M := by
  refine a_iconst C (0 : Int32) (tk T_cX12_isAt 21 rfl) kI_0 ?_
  exact a_to (k_M_isAt_42 C hr hR (0 : Int32) M h) rfl
def P_M_isAt (post : Int32 → Mem → Prop) (x1 x2 : Int32) (M : Mem) : Prop :=
  ((M 0 21) ≤ (M 0 20) → (P_M_isAt_41 post M)) ∧
  (¬ (M 0 21) ≤ (M 0 20) → (vp_in (M 0 20) 400 ∧ ((M 10 (M 0 20).toNatClampNeg) < x1 → (P_M_isAt_41 post M)) ∧
  (¬ (M 10 (M 0 20).toNatClampNeg) < x1 → (vp_in (M 0 20) 400 ∧ (x2 < (M 10 (M 0 20).toNatClampNeg) → (P_M_isAt_41 post M)) ∧
  (¬ x2 < (M 10 (M 0 20).toNatClampNeg) → (P_M_isAt_42 post (1 : Int32) M))))))
theorem k_M_isAt {X : FX} {g : GT} {A : Nat → Prop} {Z : State → Prop} {post : Int32 → Mem → Prop} (C : Cx X g layM A cX12_isAt 3 RX12 0) (hr : 0 ≤ X.2.2.2.1.cells ∧ 0 ≤ X.2.2.2.1.slots) (hR : RetZ X g layM A cX12_isAt 3 0 0 Z post) (x1 x2 : Int32) (M : Mem) (h : P_M_isAt post x1 x2 M) : AtX X g layM A 3 0 0 Z 0 [(0, .ref (ad g 0)), (1, .int x1), (2, .int x2)] [] M := by
  refine a_aload_n C (tk T_cX12_isAt 0 rfl) rfl ?_
  refine a_getI C f_RX12_278 (tk T_cX12_isAt 1 rfl) lm0 rfl ?_
  refine a_aload_n C (tk T_cX12_isAt 2 rfl) rfl ?_
  refine a_getI C f_RX12_275 (tk T_cX12_isAt 3 rfl) lm0 rfl ?_
  refine a_icmp_ge C 41 (tk T_cX12_isAt 4 rfl) rfl (fun c => ?_) (fun c => ?_)
  · have h := h.1 c
    exact a_to (k_M_isAt_41 C hr hR M h) rfl
  · have h := h.2 c
    refine a_aload_n C (tk T_cX12_isAt 5 rfl) rfl ?_
    refine a_getR C f_RX12_41 (tk T_cX12_isAt 6 rfl) lm0 rfl ?_
    refine a_aload_n C (tk T_cX12_isAt 7 rfl) rfl ?_
    refine a_getI C f_RX12_278 (tk T_cX12_isAt 8 rfl) lm0 rfl ?_
    obtain ⟨hb, h⟩ := h
    refine a_bald C (tk T_cX12_isAt 9 rfl) lm10 hb ?_
    refine a_iload_n C (tk T_cX12_isAt 10 rfl) rfl ?_
    refine a_icmp_lt C 41 (tk T_cX12_isAt 11 rfl) rfl (fun c => ?_) (fun c => ?_)
    · have h := h.1 c
      exact a_to (k_M_isAt_41 C hr hR M h) rfl
    · have h := h.2 c
      refine a_aload_n C (tk T_cX12_isAt 12 rfl) rfl ?_
      refine a_getR C f_RX12_41 (tk T_cX12_isAt 13 rfl) lm0 rfl ?_
      refine a_aload_n C (tk T_cX12_isAt 14 rfl) rfl ?_
      refine a_getI C f_RX12_278 (tk T_cX12_isAt 15 rfl) lm0 rfl ?_
      obtain ⟨hb, h⟩ := h
      refine a_bald C (tk T_cX12_isAt 16 rfl) lm10 hb ?_
      refine a_iload_n C (tk T_cX12_isAt 17 rfl) rfl ?_
      refine a_icmp_gt C 41 (tk T_cX12_isAt 18 rfl) rfl (fun c => ?_) (fun c => ?_)
      · have h := h.1 c
        exact a_to (k_M_isAt_41 C hr hR M h) rfl
      · have h := h.2 c
        refine a_iconst C (1 : Int32) (tk T_cX12_isAt 19 rfl) kI_1 ?_
        refine a_goto C 42 (tk T_cX12_isAt 20 rfl) rfl ?_
        exact a_to (k_M_isAt_42 C hr hR (1 : Int32) M h) rfl
theorem ct_M_isAt {l : Launch} {g : GT} {post : Int32 → Mem → Prop} {x1 x2 : Int32} {M : Mem} (h : P_M_isAt post x1 x2 M) : CI l g layM yX12_isAt cX12_isAt 3 (some .boolean) 0 [.ref (ad g 0), .int x1, .int x2] M post :=
  cz_of (plainFor_of_name (by decide +kernel)) (Nat.le_of_ble_eq_true rfl) (fun X A Z hl C hr hR => by subst hl; exact k_M_isAt C hr hR x1 x2 M h)
def T_cX12_blanksL : List (Nat × Instr × Nat) := [(0, .aload_n 0, 1), (1, .bipush 32, 2), (3, .bipush 32, 2), (5, .invokevirtual 287, 3), (8, .ifCond .eq 16, 3), (11, .aload_n 0, 1), (12, .dup, 1), (13, .getfield 278, 3), (16, .iconst 1, 1), (17, .iadd, 1), (18, .putfield 278, 3), (21, .goto (-21), 3), (24, .aload_n 0, 1), (25, .aload_n 0, 1), (26, .getfield 278, 3), (29, .putfield 290, 3), (32, .return_, 1)]
theorem T_cX12_blanks : tabOK cX12_blanks T_cX12_blanksL = true := by decide +kernel
def P_M_blanks_0 (post : Mem → Prop) : Nat → Mem → Prop
  | 0, _ => False
  | n + 1, M =>
    P_M_isAt (fun r1 M1 =>
  (r1 = 0 → (∀ M2, M2 = ms M1 0 22 (M1 0 20) → post M2)) ∧
  (¬ r1 = 0 → (∀ M3, M3 = ms M1 0 20 ((M1 0 20) + (1 : Int32)) → P_M_blanks_0 post n M3))) (32 : Int32) (32 : Int32) M
theorem k_M_blanks_0 {X : FX} {g : GT} {A : Nat → Prop} {Z : State → Prop} {post : Mem → Prop} (C : Cx X g layM A cX12_blanks 1 RX12 1) (hr : 0 ≤ X.2.2.2.1.cells ∧ 0 ≤ X.2.2.2.1.slots) (hR : RetV X g layM A cX12_blanks 1 0 0 Z post) : ∀ (n : Nat) (M : Mem), P_M_blanks_0 post n M → AtX X g layM A 1 0 0 Z 0 [(0, .ref (ad g 0))] [] M := by
  intro n
  induction n with
  | zero =>
    intro M h
    exact h.elim
  | succ n ih =>
    intro M h
    refine a_aload_n C (tk T_cX12_blanks 0 rfl) rfl ?_
    refine a_bipush C (32 : Int32) (tk T_cX12_blanks 1 rfl) kB_32 ?_
    refine a_bipush C (32 : Int32) (tk T_cX12_blanks 2 rfl) kB_32 ?_
    refine a_callI C [.int (32 : Int32), .int (32 : Int32)] me_yX12_isAt lk_RX12_287 (ct_M_isAt h) (by decide) lm0 rfl rfl rfl (Nat.le_of_ble_eq_true rfl) (tk T_cX12_blanks 3 rfl) hr (fun r1 M1 h => ?_)
    refine a_if_eq C 24 (tk T_cX12_blanks 4 rfl) rfl (fun c => ?_) (fun c => ?_)
    · have h := h.1 c
      refine a_aload_n C (tk T_cX12_blanks 12 rfl) rfl ?_
      refine a_aload_n C (tk T_cX12_blanks 13 rfl) rfl ?_
      refine a_getI C f_RX12_278 (tk T_cX12_blanks 14 rfl) lm0 rfl ?_
      refine a_put C f_RX12_290 f_RX12_290p rfl rfl (tk T_cX12_blanks 15 rfl) lm0 rfl ?_
      refine a_mem (fun M2 e_M2 => ?_)
      have h := h M2 e_M2
      exact hR _ _ _ (tk T_cX12_blanks 16 rfl) h
    · have h := h.2 c
      refine a_aload_n C (tk T_cX12_blanks 5 rfl) rfl ?_
      refine a_dupr C (tk T_cX12_blanks 6 rfl) ?_
      refine a_getI C f_RX12_278 (tk T_cX12_blanks 7 rfl) lm0 rfl ?_
      refine a_iconst C (1 : Int32) (tk T_cX12_blanks 8 rfl) kI_1 ?_
      refine a_iadd C (tk T_cX12_blanks 9 rfl) ?_
      refine a_put C f_RX12_278 f_RX12_278p rfl rfl (tk T_cX12_blanks 10 rfl) lm0 rfl ?_
      refine a_mem (fun M3 e_M3 => ?_)
      have h := h M3 e_M3
      refine a_goto C 0 (tk T_cX12_blanks 11 rfl) rfl ?_
      exact a_to (ih M3 h) rfl
def P_M_blanks (post : Mem → Prop) (M : Mem) : Prop :=
  ∃ j0, P_M_blanks_0 post j0 M
theorem k_M_blanks {X : FX} {g : GT} {A : Nat → Prop} {Z : State → Prop} {post : Mem → Prop} (C : Cx X g layM A cX12_blanks 1 RX12 1) (hr : 0 ≤ X.2.2.2.1.cells ∧ 0 ≤ X.2.2.2.1.slots) (hR : RetV X g layM A cX12_blanks 1 0 0 Z post) (M : Mem) (h : P_M_blanks post M) : AtX X g layM A 1 0 0 Z 0 [(0, .ref (ad g 0))] [] M := by
  obtain ⟨n1, h⟩ := h
  exact a_to (k_M_blanks_0 C hr hR n1 M h) rfl
theorem ct_M_blanks {l : Launch} {g : GT} {post : Mem → Prop} {M : Mem} (h : P_M_blanks post M) : CV l g layM yX12_blanks cX12_blanks 1 none 1 [.ref (ad g 0)] M post :=
  cv_of (plainFor_of_name (by decide +kernel)) (Nat.le_of_ble_eq_true rfl) (fun X A Z hl C hr hR => by subst hl; exact k_M_blanks C hr hR  M h)
def T_cX12_lettersL : List (Nat × Instr × Nat) := [(0, .aload_n 0, 1), (1, .invokevirtual 293, 3), (4, .aload_n 0, 1), (5, .bipush 97, 2), (7, .bipush 122, 2), (9, .invokevirtual 287, 3), (12, .ifCond .eq 16, 3), (15, .aload_n 0, 1), (16, .dup, 1), (17, .getfield 278, 3), (20, .iconst 1, 1), (21, .iadd, 1), (22, .putfield 278, 3), (25, .goto (-21), 3), (28, .return_, 1)]
theorem T_cX12_letters : tabOK cX12_letters T_cX12_lettersL = true := by decide +kernel
def P_M_letters_4 (post : Mem → Prop) : Nat → Mem → Prop
  | 0, _ => False
  | n + 1, M =>
    P_M_isAt (fun r1 M1 =>
  (r1 = 0 → (post M1)) ∧
  (¬ r1 = 0 → (∀ M2, M2 = ms M1 0 20 ((M1 0 20) + (1 : Int32)) → P_M_letters_4 post n M2))) (97 : Int32) (122 : Int32) M
theorem k_M_letters_4 {X : FX} {g : GT} {A : Nat → Prop} {Z : State → Prop} {post : Mem → Prop} (C : Cx X g layM A cX12_letters 1 RX12 2) (hr : 0 ≤ X.2.2.2.1.cells ∧ 0 ≤ X.2.2.2.1.slots) (hR : RetV X g layM A cX12_letters 1 0 0 Z post) : ∀ (n : Nat) (M : Mem), P_M_letters_4 post n M → AtX X g layM A 1 0 0 Z 4 [(0, .ref (ad g 0))] [] M := by
  intro n
  induction n with
  | zero =>
    intro M h
    exact h.elim
  | succ n ih =>
    intro M h
    refine a_aload_n C (tk T_cX12_letters 2 rfl) rfl ?_
    refine a_bipush C (97 : Int32) (tk T_cX12_letters 3 rfl) kB_97 ?_
    refine a_bipush C (122 : Int32) (tk T_cX12_letters 4 rfl) kB_122 ?_
    refine a_callI C [.int (97 : Int32), .int (122 : Int32)] me_yX12_isAt lk_RX12_287 (ct_M_isAt h) (by decide) lm0 rfl rfl rfl (Nat.le_of_ble_eq_true rfl) (tk T_cX12_letters 5 rfl) hr (fun r1 M1 h => ?_)
    refine a_if_eq C 28 (tk T_cX12_letters 6 rfl) rfl (fun c => ?_) (fun c => ?_)
    · have h := h.1 c
      exact hR _ _ _ (tk T_cX12_letters 14 rfl) h
    · have h := h.2 c
      refine a_aload_n C (tk T_cX12_letters 7 rfl) rfl ?_
      refine a_dupr C (tk T_cX12_letters 8 rfl) ?_
      refine a_getI C f_RX12_278 (tk T_cX12_letters 9 rfl) lm0 rfl ?_
      refine a_iconst C (1 : Int32) (tk T_cX12_letters 10 rfl) kI_1 ?_
      refine a_iadd C (tk T_cX12_letters 11 rfl) ?_
      refine a_put C f_RX12_278 f_RX12_278p rfl rfl (tk T_cX12_letters 12 rfl) lm0 rfl ?_
      refine a_mem (fun M2 e_M2 => ?_)
      have h := h M2 e_M2
      refine a_goto C 4 (tk T_cX12_letters 13 rfl) rfl ?_
      exact a_to (ih M2 h) rfl
def P_M_letters (post : Mem → Prop) (M : Mem) : Prop :=
  P_M_blanks (fun M1 =>
  ∃ j4, P_M_letters_4 post j4 M1) M
theorem k_M_letters {X : FX} {g : GT} {A : Nat → Prop} {Z : State → Prop} {post : Mem → Prop} (C : Cx X g layM A cX12_letters 1 RX12 2) (hr : 0 ≤ X.2.2.2.1.cells ∧ 0 ≤ X.2.2.2.1.slots) (hR : RetV X g layM A cX12_letters 1 0 0 Z post) (M : Mem) (h : P_M_letters post M) : AtX X g layM A 1 0 0 Z 0 [(0, .ref (ad g 0))] [] M := by
  refine a_aload_n C (tk T_cX12_letters 0 rfl) rfl ?_
  refine a_callV C [] me_yX12_blanks lk_RX12_293 (ct_M_blanks h) (by decide) lm0 rfl rfl rfl (Nat.le_of_ble_eq_true rfl) (tk T_cX12_letters 1 rfl) hr (fun M1 h => ?_)
  obtain ⟨n1, h⟩ := h
  exact a_to (k_M_letters_4 C hr hR n1 M1 h) rfl
theorem ct_M_letters {l : Launch} {g : GT} {post : Mem → Prop} {M : Mem} (h : P_M_letters post M) : CV l g layM yX12_letters cX12_letters 1 none 2 [.ref (ad g 0)] M post :=
  cv_of (plainFor_of_name (by decide +kernel)) (Nat.le_of_ble_eq_true rfl) (fun X A Z hl C hr hR => by subst hl; exact k_M_letters C hr hR  M h)
def T_cX12_signL : List (Nat × Instr × Nat) := [(0, .aload_n 0, 1), (1, .invokevirtual 293, 3), (4, .aload_n 0, 1), (5, .iload_n 1, 1), (6, .iload_n 1, 1), (7, .invokevirtual 287, 3), (10, .ifCond .ne 5, 3), (13, .iconst 0, 1), (14, .ireturn, 1), (15, .aload_n 0, 1), (16, .dup, 1), (17, .getfield 278, 3), (20, .iconst 1, 1), (21, .iadd, 1), (22, .putfield 278, 3), (25, .iconst 1, 1), (26, .ireturn, 1)]
theorem T_cX12_sign : tabOK cX12_sign T_cX12_signL = true := by decide +kernel
def P_M_sign (post : Int32 → Mem → Prop) (x1 : Int32) (M : Mem) : Prop :=
  P_M_blanks (fun M1 =>
  P_M_isAt (fun r2 M2 =>
  (¬ r2 = 0 → (∀ M3, M3 = ms M2 0 20 ((M2 0 20) + (1 : Int32)) → post (1 : Int32) M3)) ∧
  (r2 = 0 → (post (0 : Int32) M2))) x1 x1 M1) M
theorem k_M_sign {X : FX} {g : GT} {A : Nat → Prop} {Z : State → Prop} {post : Int32 → Mem → Prop} (C : Cx X g layM A cX12_sign 2 RX12 2) (hr : 0 ≤ X.2.2.2.1.cells ∧ 0 ≤ X.2.2.2.1.slots) (hR : RetZ X g layM A cX12_sign 2 0 0 Z post) (x1 : Int32) (M : Mem) (h : P_M_sign post x1 M) : AtX X g layM A 2 0 0 Z 0 [(0, .ref (ad g 0)), (1, .int x1)] [] M := by
  refine a_aload_n C (tk T_cX12_sign 0 rfl) rfl ?_
  refine a_callV C [] me_yX12_blanks lk_RX12_293 (ct_M_blanks h) (by decide) lm0 rfl rfl rfl (Nat.le_of_ble_eq_true rfl) (tk T_cX12_sign 1 rfl) hr (fun M1 h => ?_)
  refine a_aload_n C (tk T_cX12_sign 2 rfl) rfl ?_
  refine a_iload_n C (tk T_cX12_sign 3 rfl) rfl ?_
  refine a_iload_n C (tk T_cX12_sign 4 rfl) rfl ?_
  refine a_callI C [.int x1, .int x1] me_yX12_isAt lk_RX12_287 (ct_M_isAt h) (by decide) lm0 rfl rfl rfl (Nat.le_of_ble_eq_true rfl) (tk T_cX12_sign 5 rfl) hr (fun r2 M2 h => ?_)
  refine a_if_ne C 15 (tk T_cX12_sign 6 rfl) rfl (fun c => ?_) (fun c => ?_)
  · have h := h.1 c
    refine a_aload_n C (tk T_cX12_sign 9 rfl) rfl ?_
    refine a_dupr C (tk T_cX12_sign 10 rfl) ?_
    refine a_getI C f_RX12_278 (tk T_cX12_sign 11 rfl) lm0 rfl ?_
    refine a_iconst C (1 : Int32) (tk T_cX12_sign 12 rfl) kI_1 ?_
    refine a_iadd C (tk T_cX12_sign 13 rfl) ?_
    refine a_put C f_RX12_278 f_RX12_278p rfl rfl (tk T_cX12_sign 14 rfl) lm0 rfl ?_
    refine a_mem (fun M3 e_M3 => ?_)
    have h := h M3 e_M3
    refine a_iconst C (1 : Int32) (tk T_cX12_sign 15 rfl) kI_1 ?_
    exact hR _ _ _ _ (tk T_cX12_sign 16 rfl) ⟨Or.inr rfl, h⟩
  · have h := h.2 c
    refine a_iconst C (0 : Int32) (tk T_cX12_sign 7 rfl) kI_0 ?_
    exact hR _ _ _ _ (tk T_cX12_sign 8 rfl) ⟨Or.inl rfl, h⟩
theorem ct_M_sign {l : Launch} {g : GT} {post : Int32 → Mem → Prop} {x1 : Int32} {M : Mem} (h : P_M_sign post x1 M) : CI l g layM yX12_sign cX12_sign 2 (some .boolean) 2 [.ref (ad g 0), .int x1] M post :=
  cz_of (plainFor_of_name (by decide +kernel)) (Nat.le_of_ble_eq_true rfl) (fun X A Z hl C hr hR => by subst hl; exact k_M_sign C hr hR x1 M h)
def T_cX12_readNumberL : List (Nat × Instr × Nat) := [(0, .aload_n 0, 1), (1, .invokevirtual 293, 3), (4, .iconst 0, 1), (5, .istore_n 2, 1), (6, .aload_n 0, 1), (7, .bipush 48, 2), (9, .bipush 57, 2), (11, .invokevirtual 287, 3), (14, .ifCond .eq 51, 3), (17, .aload_n 0, 1), (18, .getfield 278, 3), (21, .aload_n 0, 1), (22, .getfield 290, 3), (25, .isub, 1), (26, .iconst 4, 1), (27, .if_icmp .ge 23, 3), (30, .bipush 10, 2), (32, .iload_n 2, 1), (33, .imul, 1), (34, .aload_n 0, 1), (35, .getfield 41, 3), (38, .aload_n 0, 1), (39, .getfield 278, 3), (42, .baload, 1), (43, .iadd, 1), (44, .bipush 48, 2), (46, .isub, 1), (47, .goto 4, 3), (50, .iload_n 2, 1), (51, .istore_n 2, 1), (52, .aload_n 0, 1), (53, .dup, 1), (54, .getfield 278, 3), (57, .iconst 1, 1), (58, .iadd, 1), (59, .putfield 278, 3), (62, .goto (-56), 3), (65, .aload_n 0, 1), (66, .getfield 278, 3), (69, .aload_n 0, 1), (70, .getfield 290, 3), (73, .if_icmp .eq 21, 3), (76, .aload_n 0, 1), (77, .getfield 278, 3), (80, .aload_n 0, 1), (81, .getfield 290, 3), (84, .isub, 1), (85, .iconst 4, 1), (86, .if_icmp .gt 8, 3), (89, .iload_n 2, 1), (90, .iload_n 1, 1), (91, .if_icmp .le 7, 3), (94, .iconst (-1), 1), (95, .goto 4, 3), (98, .iload_n 2, 1), (99, .ireturn, 1)]
theorem T_cX12_readNumber : tabOK cX12_readNumber T_cX12_readNumberL = true := by decide +kernel
def P_M_readNumber_99 (post : Int32 → Mem → Prop) (s0 : Int32) (M : Mem) : Prop :=
  post s0 M
theorem k_M_readNumber_99 {X : FX} {g : GT} {A : Nat → Prop} {Z : State → Prop} {post : Int32 → Mem → Prop} (C : Cx X g layM A cX12_readNumber 3 RX12 2) (hr : 0 ≤ X.2.2.2.1.cells ∧ 0 ≤ X.2.2.2.1.slots) (hR : RetI X g layM A cX12_readNumber 3 0 0 Z post) (s0 : Int32) (M : Mem) (h : P_M_readNumber_99 post s0 M) : AtX X g layM A 3 0 0 Z 99 [] [.int s0] M := by
  exact hR _ _ _ _ (tk T_cX12_readNumber 55 rfl) h
def P_M_readNumber_94 (post : Int32 → Mem → Prop) (M : Mem) : Prop :=
  P_M_readNumber_99 post (-1 : Int32) M
theorem k_M_readNumber_94 {X : FX} {g : GT} {A : Nat → Prop} {Z : State → Prop} {post : Int32 → Mem → Prop} (C : Cx X g layM A cX12_readNumber 3 RX12 2) (hr : 0 ≤ X.2.2.2.1.cells ∧ 0 ≤ X.2.2.2.1.slots) (hR : RetI X g layM A cX12_readNumber 3 0 0 Z post)  (M : Mem) (h : P_M_readNumber_94 post M) : AtX X g layM A 3 0 0 Z 94 [] [] M := by
  refine a_iconst C (-1 : Int32) (tk T_cX12_readNumber 52 rfl) kI_m1 ?_
  refine a_goto C 99 (tk T_cX12_readNumber 53 rfl) rfl ?_
  exact a_to (k_M_readNumber_99 C hr hR (-1 : Int32) M h) rfl
def P_M_readNumber_51 (post : Int32 → Mem → Prop) (R6 : Int32 → Int32 → Mem → Prop) (x1 s0 : Int32) (M : Mem) : Prop :=
  ∀ M1, M1 = ms M 0 20 ((M 0 20) + (1 : Int32)) → R6 x1 s0 M1
theorem k_M_readNumber_51 {X : FX} {g : GT} {A : Nat → Prop} {Z : State → Prop} {post : Int32 → Mem → Prop} {R6 : Int32 → Int32 → Mem → Prop} (C : Cx X g layM A cX12_readNumber 3 RX12 2) (hr : 0 ≤ X.2.2.2.1.cells ∧ 0 ≤ X.2.2.2.1.slots) (hR : RetI X g layM A cX12_readNumber 3 0 0 Z post) (k6 : ∀ (y1 y2 : Int32) (M : Mem), R6 y1 y2 M → AtX X g layM A 3 0 0 Z 6 [(0, .ref (ad g 0)), (1, .int y1), (2, .int y2)] [] M) (x1 s0 : Int32) (M : Mem) (h : P_M_readNumber_51 post R6 x1 s0 M) : AtX X g layM A 3 0 0 Z 51 [(0, .ref (ad g 0)), (1, .int x1)] [.int s0] M := by
  refine a_istore_n C (tk T_cX12_readNumber 29 rfl) (by decide) rfl ?_
  refine a_aload_n C (tk T_cX12_readNumber 30 rfl) rfl ?_
  refine a_dupr C (tk T_cX12_readNumber 31 rfl) ?_
  refine a_getI C f_RX12_278 (tk T_cX12_readNumber 32 rfl) lm0 rfl ?_
  refine a_iconst C (1 : Int32) (tk T_cX12_readNumber 33 rfl) kI_1 ?_
  refine a_iadd C (tk T_cX12_readNumber 34 rfl) ?_
  refine a_put C f_RX12_278 f_RX12_278p rfl rfl (tk T_cX12_readNumber 35 rfl) lm0 rfl ?_
  refine a_mem (fun M1 e_M1 => ?_)
  have h := h M1 e_M1
  refine a_goto C 6 (tk T_cX12_readNumber 36 rfl) rfl ?_
  exact a_to (k6 x1 s0 M1 h) rfl
def P_M_readNumber_6 (post : Int32 → Mem → Prop) : Nat → Int32 → Int32 → Mem → Prop
  | 0, _, _, _ => False
  | n + 1, x1, x2, M =>
    P_M_isAt (fun r1 M1 =>
  (r1 = 0 → (((M1 0 20) = (M1 0 22) → (P_M_readNumber_94 post M1)) ∧
  (¬ (M1 0 20) = (M1 0 22) → (((4 : Int32) < ((M1 0 20) - (M1 0 22)) → (P_M_readNumber_94 post M1)) ∧
  (¬ (4 : Int32) < ((M1 0 20) - (M1 0 22)) → ((x2 ≤ x1 → (P_M_readNumber_99 post x2 M1)) ∧
  (¬ x2 ≤ x1 → (P_M_readNumber_94 post M1)))))))) ∧
  (¬ r1 = 0 → (((4 : Int32) ≤ ((M1 0 20) - (M1 0 22)) → (P_M_readNumber_51 post (P_M_readNumber_6 post n) x1 x2 M1)) ∧
  (¬ (4 : Int32) ≤ ((M1 0 20) - (M1 0 22)) → (vp_in (M1 0 20) 400 ∧ ∀ v2, v2 = ((((10 : Int32) * x2) + (M1 10 (M1 0 20).toNatClampNeg)) - (48 : Int32)) → P_M_readNumber_51 post (P_M_readNumber_6 post n) x1 v2 M1))))) (48 : Int32) (57 : Int32) M
theorem k_M_readNumber_6 {X : FX} {g : GT} {A : Nat → Prop} {Z : State → Prop} {post : Int32 → Mem → Prop} (C : Cx X g layM A cX12_readNumber 3 RX12 2) (hr : 0 ≤ X.2.2.2.1.cells ∧ 0 ≤ X.2.2.2.1.slots) (hR : RetI X g layM A cX12_readNumber 3 0 0 Z post) : ∀ (n : Nat) (x1 x2 : Int32) (M : Mem), P_M_readNumber_6 post n x1 x2 M → AtX X g layM A 3 0 0 Z 6 [(0, .ref (ad g 0)), (1, .int x1), (2, .int x2)] [] M := by
  intro n
  induction n with
  | zero =>
    intro x1 x2 M h
    exact h.elim
  | succ n ih =>
    intro x1 x2 M h
    refine a_aload_n C (tk T_cX12_readNumber 4 rfl) rfl ?_
    refine a_bipush C (48 : Int32) (tk T_cX12_readNumber 5 rfl) kB_48 ?_
    refine a_bipush C (57 : Int32) (tk T_cX12_readNumber 6 rfl) kB_57 ?_
    refine a_callI C [.int (48 : Int32), .int (57 : Int32)] me_yX12_isAt lk_RX12_287 (ct_M_isAt h) (by decide) lm0 rfl rfl rfl (Nat.le_of_ble_eq_true rfl) (tk T_cX12_readNumber 7 rfl) hr (fun r1 M1 h => ?_)
    refine a_if_eq C 65 (tk T_cX12_readNumber 8 rfl) rfl (fun c => ?_) (fun c => ?_)
    · have h := h.1 c
      refine a_aload_n C (tk T_cX12_readNumber 37 rfl) rfl ?_
      refine a_getI C f_RX12_278 (tk T_cX12_readNumber 38 rfl) lm0 rfl ?_
      refine a_aload_n C (tk T_cX12_readNumber 39 rfl) rfl ?_
      refine a_getI C f_RX12_290 (tk T_cX12_readNumber 40 rfl) lm0 rfl ?_
      refine a_icmp_eq C 94 (tk T_cX12_readNumber 41 rfl) rfl (fun c => ?_) (fun c => ?_)
      · have h := h.1 c
        exact a_to (k_M_readNumber_94 C hr hR M1 h) rfl
      · have h := h.2 c
        refine a_aload_n C (tk T_cX12_readNumber 42 rfl) rfl ?_
        refine a_getI C f_RX12_278 (tk T_cX12_readNumber 43 rfl) lm0 rfl ?_
        refine a_aload_n C (tk T_cX12_readNumber 44 rfl) rfl ?_
        refine a_getI C f_RX12_290 (tk T_cX12_readNumber 45 rfl) lm0 rfl ?_
        refine a_isub C (tk T_cX12_readNumber 46 rfl) ?_
        refine a_iconst C (4 : Int32) (tk T_cX12_readNumber 47 rfl) kI_4 ?_
        refine a_icmp_gt C 94 (tk T_cX12_readNumber 48 rfl) rfl (fun c => ?_) (fun c => ?_)
        · have h := h.1 c
          exact a_to (k_M_readNumber_94 C hr hR M1 h) rfl
        · have h := h.2 c
          refine a_iload_n C (tk T_cX12_readNumber 49 rfl) rfl ?_
          refine a_iload_n C (tk T_cX12_readNumber 50 rfl) rfl ?_
          refine a_icmp_le C 98 (tk T_cX12_readNumber 51 rfl) rfl (fun c => ?_) (fun c => ?_)
          · have h := h.1 c
            refine a_iload_n C (tk T_cX12_readNumber 54 rfl) rfl ?_
            exact a_to (k_M_readNumber_99 C hr hR x2 M1 h) rfl
          · have h := h.2 c
            exact a_to (k_M_readNumber_94 C hr hR M1 h) rfl
    · have h := h.2 c
      refine a_aload_n C (tk T_cX12_readNumber 9 rfl) rfl ?_
      refine a_getI C f_RX12_278 (tk T_cX12_readNumber 10 rfl) lm0 rfl ?_
      refine a_aload_n C (tk T_cX12_readNumber 11 rfl) rfl ?_
      refine a_getI C f_RX12_290 (tk T_cX12_readNumber 12 rfl) lm0 rfl ?_
      refine a_isub C (tk T_cX12_readNumber 13 rfl) ?_
      refine a_iconst C (4 : Int32) (tk T_cX12_readNumber 14 rfl) kI_4 ?_
      refine a_icmp_ge C 50 (tk T_cX12_readNumber 15 rfl) rfl (fun c => ?_) (fun c => ?_)
      · have h := h.1 c
        refine a_iload_n C (tk T_cX12_readNumber 28 rfl) rfl ?_
        exact a_to (k_M_readNumber_51 C hr hR ih x1 x2 M1 h) rfl
      · have h := h.2 c
        refine a_bipush C (10 : Int32) (tk T_cX12_readNumber 16 rfl) kB_10 ?_
        refine a_iload_n C (tk T_cX12_readNumber 17 rfl) rfl ?_
        refine a_imul C (tk T_cX12_readNumber 18 rfl) ?_
        refine a_aload_n C (tk T_cX12_readNumber 19 rfl) rfl ?_
        refine a_getR C f_RX12_41 (tk T_cX12_readNumber 20 rfl) lm0 rfl ?_
        refine a_aload_n C (tk T_cX12_readNumber 21 rfl) rfl ?_
        refine a_getI C f_RX12_278 (tk T_cX12_readNumber 22 rfl) lm0 rfl ?_
        obtain ⟨hb, h⟩ := h
        refine a_bald C (tk T_cX12_readNumber 23 rfl) lm10 hb ?_
        refine a_iadd C (tk T_cX12_readNumber 24 rfl) ?_
        refine a_bipush C (48 : Int32) (tk T_cX12_readNumber 25 rfl) kB_48 ?_
        refine a_isub C (tk T_cX12_readNumber 26 rfl) ?_
        refine a_top (fun v2 e_v2 => ?_)
        have h := h v2 e_v2
        refine a_goto C 51 (tk T_cX12_readNumber 27 rfl) rfl ?_
        exact a_to (k_M_readNumber_51 C hr hR ih x1 v2 M1 h) rfl
def P_M_readNumber (post : Int32 → Mem → Prop) (x1 : Int32) (M : Mem) : Prop :=
  P_M_blanks (fun M1 =>
  ∃ j6, P_M_readNumber_6 post j6 x1 (0 : Int32) M1) M
theorem k_M_readNumber {X : FX} {g : GT} {A : Nat → Prop} {Z : State → Prop} {post : Int32 → Mem → Prop} (C : Cx X g layM A cX12_readNumber 3 RX12 2) (hr : 0 ≤ X.2.2.2.1.cells ∧ 0 ≤ X.2.2.2.1.slots) (hR : RetI X g layM A cX12_readNumber 3 0 0 Z post) (x1 : Int32) (M : Mem) (h : P_M_readNumber post x1 M) : AtX X g layM A 3 0 0 Z 0 [(0, .ref (ad g 0)), (1, .int x1)] [] M := by
  refine a_aload_n C (tk T_cX12_readNumber 0 rfl) rfl ?_
  refine a_callV C [] me_yX12_blanks lk_RX12_293 (ct_M_blanks h) (by decide) lm0 rfl rfl rfl (Nat.le_of_ble_eq_true rfl) (tk T_cX12_readNumber 1 rfl) hr (fun M1 h => ?_)
  refine a_iconst C (0 : Int32) (tk T_cX12_readNumber 2 rfl) kI_0 ?_
  refine a_istore_n C (tk T_cX12_readNumber 3 rfl) (by decide) rfl ?_
  obtain ⟨n1, h⟩ := h
  exact a_to (k_M_readNumber_6 C hr hR n1 x1 (0 : Int32) M1 h) rfl
theorem ct_M_readNumber {l : Launch} {g : GT} {post : Int32 → Mem → Prop} {x1 : Int32} {M : Mem} (h : P_M_readNumber post x1 M) : CI l g layM yX12_readNumber cX12_readNumber 3 (some .int) 2 [.ref (ad g 0), .int x1] M post :=
  ci_of (plainFor_of_name (by decide +kernel)) (Nat.le_of_ble_eq_true rfl) (fun X A Z hl C hr hR => by subst hl; exact k_M_readNumber C hr hR x1 M h)
def T_cX12_faultL : List (Nat × Instr × Nat) := [(0, .aload_n 0, 1), (1, .iconst 0, 1), (2, .putfield 3, 3), (5, .aload_n 0, 1), (6, .getfield 45, 3), (9, .ireturn, 1)]
theorem T_cX12_fault : tabOK cX12_fault T_cX12_faultL = true := by decide +kernel
def P_M_fault (post : Int32 → Mem → Prop) (M : Mem) : Prop :=
  ∀ M1, M1 = ms M 0 0 (0 : Int32) → post (M1 0 24) M1
theorem k_M_fault {X : FX} {g : GT} {A : Nat → Prop} {Z : State → Prop} {post : Int32 → Mem → Prop} (C : Cx X g layM A cX12_fault 1 RX12 0) (hr : 0 ≤ X.2.2.2.1.cells ∧ 0 ≤ X.2.2.2.1.slots) (hR : RetI X g layM A cX12_fault 1 0 0 Z post) (M : Mem) (h : P_M_fault post M) : AtX X g layM A 1 0 0 Z 0 [(0, .ref (ad g 0))] [] M := by
  refine a_aload_n C (tk T_cX12_fault 0 rfl) rfl ?_
  refine a_iconst C (0 : Int32) (tk T_cX12_fault 1 rfl) kI_0 ?_
  refine a_put C f_RX12_3 f_RX12_3p rfl rfl (tk T_cX12_fault 2 rfl) lm0 rfl ?_
  refine a_mem (fun M1 e_M1 => ?_)
  have h := h M1 e_M1
  refine a_aload_n C (tk T_cX12_fault 3 rfl) rfl ?_
  refine a_getI C f_RX12_45 (tk T_cX12_fault 4 rfl) lm0 rfl ?_
  exact hR _ _ _ _ (tk T_cX12_fault 5 rfl) h
theorem ct_M_fault {l : Launch} {g : GT} {post : Int32 → Mem → Prop} {M : Mem} (h : P_M_fault post M) : CI l g layM yX12_fault cX12_fault 1 (some .int) 0 [.ref (ad g 0)] M post :=
  ci_of (plainFor_of_name (by decide +kernel)) (Nat.le_of_ble_eq_true rfl) (fun X A Z hl C hr hR => by subst hl; exact k_M_fault C hr hR  M h)
def T_cX12_textAtL : List (Nat × Instr × Nat) := [(0, .sipush 359, 3), (3, .sipush 801, 3), (6, .iload_n 0, 1), (7, .imul, 1), (8, .iadd, 1), (9, .ireturn, 1)]
theorem T_cX12_textAt : tabOK cX12_textAt T_cX12_textAtL = true := by decide +kernel
def P_M_textAt (post : Int32 → Mem → Prop) (x0 : Int32) (M : Mem) : Prop :=
  post ((359 : Int32) + ((801 : Int32) * x0)) M
theorem k_M_textAt {X : FX} {g : GT} {A : Nat → Prop} {Z : State → Prop} {post : Int32 → Mem → Prop} (C : Cx X g layM A cX12_textAt 1 RX12 0) (hr : 0 ≤ X.2.2.2.1.cells ∧ 0 ≤ X.2.2.2.1.slots) (hR : RetI X g layM A cX12_textAt 1 0 0 Z post) (x0 : Int32) (M : Mem) (h : P_M_textAt post x0 M) : AtX X g layM A 1 0 0 Z 0 [(0, .int x0)] [] M := by
  refine a_sipush C (359 : Int32) (tk T_cX12_textAt 0 rfl) kS_359 ?_
  refine a_sipush C (801 : Int32) (tk T_cX12_textAt 1 rfl) kS_801 ?_
  refine a_iload_n C (tk T_cX12_textAt 2 rfl) rfl ?_
  refine a_imul C (tk T_cX12_textAt 3 rfl) ?_
  refine a_iadd C (tk T_cX12_textAt 4 rfl) ?_
  exact hR _ _ _ _ (tk T_cX12_textAt 5 rfl) h
theorem ct_M_textAt {l : Launch} {g : GT} {post : Int32 → Mem → Prop} {x0 : Int32} {M : Mem} (h : P_M_textAt post x0 M) : CI l g layM yX12_textAt cX12_textAt 1 (some .int) 0 [.int x0] M post :=
  ci_of (plainFor_of_name (by decide +kernel)) (Nat.le_of_ble_eq_true rfl) (fun X A Z hl C hr hR => by subst hl; exact k_M_textAt C hr hR x0 M h)
def T_cX12_emitsL : List (Nat × Instr × Nat) := [(0, .bipush 6, 2), (2, .invokestatic 312, 3), (5, .iconst 1, 1), (6, .iadd, 1), (7, .iconst 2, 1), (8, .aload_n 0, 1), (9, .getfield 281, 3), (12, .imul, 1), (13, .iadd, 1), (14, .istore_n 3, 1), (15, .aload_n 0, 1), (16, .getfield 13, 3), (19, .iload_n 3, 1), (20, .iload_n 1, 1), (21, .iastore, 1), (22, .aload_n 0, 1), (23, .getfield 13, 3), (26, .iload_n 3, 1), (27, .iconst 1, 1), (28, .iadd, 1), (29, .iload_n 2, 1), (30, .iastore, 1), (31, .aload_n 0, 1), (32, .dup, 1), (33, .getfield 281, 3), (36, .iconst 1, 1), (37, .iadd, 1), (38, .putfield 281, 3), (41, .return_, 1)]
theorem T_cX12_emits : tabOK cX12_emits T_cX12_emitsL = true := by decide +kernel
def P_M_emits (post : Mem → Prop) (x1 x2 : Int32) (M : Mem) : Prop :=
  P_M_textAt (fun r1 M1 =>
  ∀ x3_2, x3_2 = ((r1 + (1 : Int32)) + ((2 : Int32) * (M1 0 26))) → vp_in x3_2 5966 ∧ ∀ M3, M3 = ms M1 1 x3_2.toNatClampNeg x1 → vp_in (x3_2 + (1 : Int32)) 5966 ∧ ∀ M4, M4 = ms M3 1 (x3_2 + (1 : Int32)).toNatClampNeg x2 → ∀ M5, M5 = ms M4 0 26 ((M4 0 26) + (1 : Int32)) → post M5) (6 : Int32) M
theorem k_M_emits {X : FX} {g : GT} {A : Nat → Prop} {Z : State → Prop} {post : Mem → Prop} (C : Cx X g layM A cX12_emits 4 RX12 1) (hr : 0 ≤ X.2.2.2.1.cells ∧ 0 ≤ X.2.2.2.1.slots) (hR : RetV X g layM A cX12_emits 4 0 0 Z post) (x1 x2 : Int32) (M : Mem) (h : P_M_emits post x1 x2 M) : AtX X g layM A 4 0 0 Z 0 [(0, .ref (ad g 0)), (1, .int x1), (2, .int x2)] [] M := by
  refine a_bipush C (6 : Int32) (tk T_cX12_emits 0 rfl) kB_6 ?_
  refine a_statI C [.int (6 : Int32)] me_yX12_textAt lk_RX12_312 (ct_M_textAt h) (by decide) rfl rfl (Nat.le_of_ble_eq_true rfl) (tk T_cX12_emits 1 rfl) hr (fun r1 M1 h => ?_)
  refine a_iconst C (1 : Int32) (tk T_cX12_emits 2 rfl) kI_1 ?_
  refine a_iadd C (tk T_cX12_emits 3 rfl) ?_
  refine a_iconst C (2 : Int32) (tk T_cX12_emits 4 rfl) kI_2 ?_
  refine a_aload_n C (tk T_cX12_emits 5 rfl) rfl ?_
  refine a_getI C f_RX12_281 (tk T_cX12_emits 6 rfl) lm0 rfl ?_
  refine a_imul C (tk T_cX12_emits 7 rfl) ?_
  refine a_iadd C (tk T_cX12_emits 8 rfl) ?_
  refine a_top (fun x3_2 e_x3_2 => ?_)
  have h := h x3_2 e_x3_2
  refine a_istore_n C (tk T_cX12_emits 9 rfl) (by decide) rfl ?_
  refine a_aload_n C (tk T_cX12_emits 10 rfl) rfl ?_
  refine a_getR C f_RX12_13 (tk T_cX12_emits 11 rfl) lm0 rfl ?_
  refine a_iload_n C (tk T_cX12_emits 12 rfl) rfl ?_
  refine a_iload_n C (tk T_cX12_emits 13 rfl) rfl ?_
  obtain ⟨hb, h⟩ := h
  refine a_iast C (tk T_cX12_emits 14 rfl) lm1 hb ?_
  refine a_mem (fun M3 e_M3 => ?_)
  have h := h M3 e_M3
  refine a_aload_n C (tk T_cX12_emits 15 rfl) rfl ?_
  refine a_getR C f_RX12_13 (tk T_cX12_emits 16 rfl) lm0 rfl ?_
  refine a_iload_n C (tk T_cX12_emits 17 rfl) rfl ?_
  refine a_iconst C (1 : Int32) (tk T_cX12_emits 18 rfl) kI_1 ?_
  refine a_iadd C (tk T_cX12_emits 19 rfl) ?_
  refine a_iload_n C (tk T_cX12_emits 20 rfl) rfl ?_
  obtain ⟨hb, h⟩ := h
  refine a_iast C (tk T_cX12_emits 21 rfl) lm1 hb ?_
  refine a_mem (fun M4 e_M4 => ?_)
  have h := h M4 e_M4
  refine a_aload_n C (tk T_cX12_emits 22 rfl) rfl ?_
  refine a_dupr C (tk T_cX12_emits 23 rfl) ?_
  refine a_getI C f_RX12_281 (tk T_cX12_emits 24 rfl) lm0 rfl ?_
  refine a_iconst C (1 : Int32) (tk T_cX12_emits 25 rfl) kI_1 ?_
  refine a_iadd C (tk T_cX12_emits 26 rfl) ?_
  refine a_put C f_RX12_281 f_RX12_281p rfl rfl (tk T_cX12_emits 27 rfl) lm0 rfl ?_
  refine a_mem (fun M5 e_M5 => ?_)
  have h := h M5 e_M5
  exact hR _ _ _ (tk T_cX12_emits 28 rfl) h
theorem ct_M_emits {l : Launch} {g : GT} {post : Mem → Prop} {x1 x2 : Int32} {M : Mem} (h : P_M_emits post x1 x2 M) : CV l g layM yX12_emits cX12_emits 4 none 1 [.ref (ad g 0), .int x1, .int x2] M post :=
  cv_of (plainFor_of_name (by decide +kernel)) (Nat.le_of_ble_eq_true rfl) (fun X A Z hl C hr hR => by subst hl; exact k_M_emits C hr hR x1 x2 M h)
def T_cX12_emitsIfL : List (Nat × Instr × Nat) := [(0, .aload_n 0, 1), (1, .iload_n 1, 1), (2, .iload_n 2, 1), (3, .invokevirtual 315, 3), (6, .iload_n 2, 1), (7, .ifCond .lt 7, 3), (10, .iconst 1, 1), (11, .goto 4, 3), (14, .iconst 0, 1), (15, .ireturn, 1)]
theorem T_cX12_emitsIf : tabOK cX12_emitsIf T_cX12_emitsIfL = true := by decide +kernel
def P_M_emitsIf_15 (post : Int32 → Mem → Prop) (s0 : Int32) (M : Mem) : Prop :=
  (s0 = 0 ∨ s0 = 1) ∧ post s0 M
theorem k_M_emitsIf_15 {X : FX} {g : GT} {A : Nat → Prop} {Z : State → Prop} {post : Int32 → Mem → Prop} (C : Cx X g layM A cX12_emitsIf 3 RX12 2) (hr : 0 ≤ X.2.2.2.1.cells ∧ 0 ≤ X.2.2.2.1.slots) (hR : RetZ X g layM A cX12_emitsIf 3 0 0 Z post) (s0 : Int32) (M : Mem) (h : P_M_emitsIf_15 post s0 M) : AtX X g layM A 3 0 0 Z 15 [] [.int s0] M := by
  exact hR _ _ _ _ (tk T_cX12_emitsIf 9 rfl) h
def P_M_emitsIf (post : Int32 → Mem → Prop) (x1 x2 : Int32) (M : Mem) : Prop :=
  P_M_emits (fun M1 =>
  (x2 < 0 → (P_M_emitsIf_15 post (0 : Int32) M1)) ∧
  (¬ x2 < 0 → (P_M_emitsIf_15 post (1 : Int32) M1))) x1 x2 M
theorem k_M_emitsIf {X : FX} {g : GT} {A : Nat → Prop} {Z : State → Prop} {post : Int32 → Mem → Prop} (C : Cx X g layM A cX12_emitsIf 3 RX12 2) (hr : 0 ≤ X.2.2.2.1.cells ∧ 0 ≤ X.2.2.2.1.slots) (hR : RetZ X g layM A cX12_emitsIf 3 0 0 Z post) (x1 x2 : Int32) (M : Mem) (h : P_M_emitsIf post x1 x2 M) : AtX X g layM A 3 0 0 Z 0 [(0, .ref (ad g 0)), (1, .int x1), (2, .int x2)] [] M := by
  refine a_aload_n C (tk T_cX12_emitsIf 0 rfl) rfl ?_
  refine a_iload_n C (tk T_cX12_emitsIf 1 rfl) rfl ?_
  refine a_iload_n C (tk T_cX12_emitsIf 2 rfl) rfl ?_
  refine a_callV C [.int x1, .int x2] me_yX12_emits lk_RX12_315 (ct_M_emits h) (by decide) lm0 rfl rfl rfl (Nat.le_of_ble_eq_true rfl) (tk T_cX12_emitsIf 3 rfl) hr (fun M1 h => ?_)
  refine a_iload_n C (tk T_cX12_emitsIf 4 rfl) rfl ?_
  refine a_if_lt C 14 (tk T_cX12_emitsIf 5 rfl) rfl (fun c => ?_) (fun c => ?_)
  · have h := h.1 c
    refine a_iconst C (0 : Int32) (tk T_cX12_emitsIf 8 rfl) kI_0 ?_
    exact a_to (k_M_emitsIf_15 C hr hR (0 : Int32) M1 h) rfl
  · have h := h.2 c
    refine a_iconst C (1 : Int32) (tk T_cX12_emitsIf 6 rfl) kI_1 ?_
    refine a_goto C 15 (tk T_cX12_emitsIf 7 rfl) rfl ?_
    exact a_to (k_M_emitsIf_15 C hr hR (1 : Int32) M1 h) rfl
theorem ct_M_emitsIf {l : Launch} {g : GT} {post : Int32 → Mem → Prop} {x1 x2 : Int32} {M : Mem} (h : P_M_emitsIf post x1 x2 M) : CI l g layM yX12_emitsIf cX12_emitsIf 3 (some .boolean) 2 [.ref (ad g 0), .int x1, .int x2] M post :=
  cz_of (plainFor_of_name (by decide +kernel)) (Nat.le_of_ble_eq_true rfl) (fun X A Z hl C hr hR => by subst hl; exact k_M_emitsIf C hr hR x1 x2 M h)
def T_cX12_askedL : List (Nat × Instr × Nat) := [(0, .iconst 0, 1), (1, .istore 4, 2), (3, .iload_n 1, 1), (4, .tableswitch 155 0 6 #[44, 49, 69, 69, 125, 137, 146], 44), (48, .aload_n 0, 1), (49, .getfield 203, 3), (52, .ireturn, 1), (53, .aload_n 0, 1), (54, .getfield 206, 3), (57, .ifCond .ge 8, 3), (60, .bipush 99, 2), (62, .goto 10, 3), (65, .aload_n 0, 1), (66, .getfield 206, 3), (69, .invokestatic 215, 3), (72, .ireturn, 1), (73, .iconst 0, 1), (74, .istore 5, 2), (76, .iload 5, 2), (78, .aload_n 0, 1), (79, .invokevirtual 128, 3), (82, .if_icmp .ge 44, 3), (85, .iload 4, 2), (87, .aload_n 0, 1), (88, .iload 5, 2), (90, .iconst 0, 1), (91, .invokevirtual 132, 3), (94, .iload_n 3, 1), (95, .if_icmp .ne 21, 3), (98, .iload_n 1, 1), (99, .iconst 2, 1), (100, .if_icmp .eq 12, 3), (103, .aload_n 0, 1), (104, .iload 5, 2), (106, .invokevirtual 145, 3), (109, .ifCond .eq 7, 3), (112, .iconst 1, 1), (113, .goto 4, 3), (116, .iconst 0, 1), (117, .iadd, 1), (118, .istore 4, 2), (120, .iinc 5 1, 3), (123, .goto (-47), 3), (126, .iload 4, 2), (128, .ireturn, 1), (129, .sipush 9999, 3), (132, .aload_n 0, 1), (133, .iconst 0, 1), (134, .invokevirtual 112, 3), (137, .invokestatic 109, 3), (140, .ireturn, 1), (141, .aload_n 0, 1), (142, .getfield 209, 3), (145, .iload_n 2, 1), (146, .ishr, 1), (147, .iconst 1, 1), (148, .iand, 1), (149, .ireturn, 1), (150, .aload_n 0, 1), (151, .getfield 212, 3), (154, .iload_n 2, 1), (155, .ishr, 1), (156, .iconst 1, 1), (157, .iand, 1), (158, .ireturn, 1), (159, .iload_n 2, 1), (160, .ireturn, 1)]
theorem T_cX12_asked : tabOK cX12_asked T_cX12_askedL = true := by decide +kernel
def P_M_asked_117 (post : Int32 → Mem → Prop) (R76 : Int32 → Int32 → Int32 → Int32 → Mem → Prop) (x1 x3 x5 s0 s1 : Int32) (M : Mem) : Prop :=
  ∀ x4_1, x4_1 = (s0 + s1) → R76 x1 x3 x4_1 (x5 + (1 : Int32)) M
theorem k_M_asked_117 {X : FX} {g : GT} {A : Nat → Prop} {Z : State → Prop} {post : Int32 → Mem → Prop} {R76 : Int32 → Int32 → Int32 → Int32 → Mem → Prop} (C : Cx X g layM A cX12_asked 6 RX12 4) (hr : 0 ≤ X.2.2.2.1.cells ∧ 0 ≤ X.2.2.2.1.slots) (hR : RetI X g layM A cX12_asked 6 0 0 Z post) (k76 : ∀ (y1 y3 y4 y5 : Int32) (M : Mem), R76 y1 y3 y4 y5 M → AtX X g layM A 6 0 0 Z 76 [(0, .ref (ad g 0)), (1, .int y1), (3, .int y3), (4, .int y4), (5, .int y5)] [] M) (x1 x3 x5 s0 s1 : Int32) (M : Mem) (h : P_M_asked_117 post R76 x1 x3 x5 s0 s1 M) : AtX X g layM A 6 0 0 Z 117 [(0, .ref (ad g 0)), (1, .int x1), (3, .int x3), (5, .int x5)] [.int s1, .int s0] M := by
  refine a_iadd C (tk T_cX12_asked 39 rfl) ?_
  refine a_top (fun x4_1 e_x4_1 => ?_)
  have h := h x4_1 e_x4_1
  refine a_istore C (tk T_cX12_asked 40 rfl) (by decide) rfl ?_
  refine a_iinc C (1 : Int32) (tk T_cX12_asked 41 rfl) rfl kI_1 (by decide) rfl ?_
  refine a_goto C 76 (tk T_cX12_asked 42 rfl) rfl ?_
  exact a_to (k76 x1 x3 x4_1 (x5 + (1 : Int32)) M h) rfl
def P_M_asked_116 (post : Int32 → Mem → Prop) (R76 : Int32 → Int32 → Int32 → Int32 → Mem → Prop) (x1 x3 x5 s0 : Int32) (M : Mem) : Prop :=
  P_M_asked_117 post R76 x1 x3 x5 s0 (0 : Int32) M
theorem k_M_asked_116 {X : FX} {g : GT} {A : Nat → Prop} {Z : State → Prop} {post : Int32 → Mem → Prop} {R76 : Int32 → Int32 → Int32 → Int32 → Mem → Prop} (C : Cx X g layM A cX12_asked 6 RX12 4) (hr : 0 ≤ X.2.2.2.1.cells ∧ 0 ≤ X.2.2.2.1.slots) (hR : RetI X g layM A cX12_asked 6 0 0 Z post) (k76 : ∀ (y1 y3 y4 y5 : Int32) (M : Mem), R76 y1 y3 y4 y5 M → AtX X g layM A 6 0 0 Z 76 [(0, .ref (ad g 0)), (1, .int y1), (3, .int y3), (4, .int y4), (5, .int y5)] [] M) (x1 x3 x5 s0 : Int32) (M : Mem) (h : P_M_asked_116 post R76 x1 x3 x5 s0 M) : AtX X g layM A 6 0 0 Z 116 [(0, .ref (ad g 0)), (1, .int x1), (3, .int x3), (5, .int x5)] [.int s0] M := by
  refine a_iconst C (0 : Int32) (tk T_cX12_asked 38 rfl) kI_0 ?_
  exact a_to (k_M_asked_117 C hr hR k76 x1 x3 x5 s0 (0 : Int32) M h) rfl
def P_M_asked_112 (post : Int32 → Mem → Prop) (R76 : Int32 → Int32 → Int32 → Int32 → Mem → Prop) (x1 x3 x5 s0 : Int32) (M : Mem) : Prop :=
  P_M_asked_117 post R76 x1 x3 x5 s0 (1 : Int32) M
theorem k_M_asked_112 {X : FX} {g : GT} {A : Nat → Prop} {Z : State → Prop} {post : Int32 → Mem → Prop} {R76 : Int32 → Int32 → Int32 → Int32 → Mem → Prop} (C : Cx X g layM A cX12_asked 6 RX12 4) (hr : 0 ≤ X.2.2.2.1.cells ∧ 0 ≤ X.2.2.2.1.slots) (hR : RetI X g layM A cX12_asked 6 0 0 Z post) (k76 : ∀ (y1 y3 y4 y5 : Int32) (M : Mem), R76 y1 y3 y4 y5 M → AtX X g layM A 6 0 0 Z 76 [(0, .ref (ad g 0)), (1, .int y1), (3, .int y3), (4, .int y4), (5, .int y5)] [] M) (x1 x3 x5 s0 : Int32) (M : Mem) (h : P_M_asked_112 post R76 x1 x3 x5 s0 M) : AtX X g layM A 6 0 0 Z 112 [(0, .ref (ad g 0)), (1, .int x1), (3, .int x3), (5, .int x5)] [.int s0] M := by
  refine a_iconst C (1 : Int32) (tk T_cX12_asked 36 rfl) kI_1 ?_
  refine a_goto C 117 (tk T_cX12_asked 37 rfl) rfl ?_
  exact a_to (k_M_asked_117 C hr hR k76 x1 x3 x5 s0 (1 : Int32) M h) rfl
def P_M_asked_76 (post : Int32 → Mem → Prop) : Nat → Int32 → Int32 → Int32 → Int32 → Mem → Prop
  | 0, _, _, _, _, _ => False
  | n + 1, x1, x3, x4, x5, M =>
    P_M_readings (fun r1 M1 =>
  (r1 ≤ x5 → (post x4 M1)) ∧
  (¬ r1 ≤ x5 → (P_M_of (fun r2 M2 =>
  (¬ r2 = x3 → (P_M_asked_116 post (P_M_asked_76 post n) x1 x3 x5 x4 M2)) ∧
  (r2 = x3 → ((x1 = (2 : Int32) → (P_M_asked_112 post (P_M_asked_76 post n) x1 x3 x5 x4 M2)) ∧
  (¬ x1 = (2 : Int32) → (P_M_isGhost (fun r3 M3 =>
  (r3 = 0 → (P_M_asked_116 post (P_M_asked_76 post n) x1 x3 x5 x4 M3)) ∧
  (¬ r3 = 0 → (P_M_asked_112 post (P_M_asked_76 post n) x1 x3 x5 x4 M3))) x5 M2))))) x5 (0 : Int32) M1))) M
theorem k_M_asked_76 {X : FX} {g : GT} {A : Nat → Prop} {Z : State → Prop} {post : Int32 → Mem → Prop} (C : Cx X g layM A cX12_asked 6 RX12 4) (hr : 0 ≤ X.2.2.2.1.cells ∧ 0 ≤ X.2.2.2.1.slots) (hR : RetI X g layM A cX12_asked 6 0 0 Z post) : ∀ (n : Nat) (x1 x3 x4 x5 : Int32) (M : Mem), P_M_asked_76 post n x1 x3 x4 x5 M → AtX X g layM A 6 0 0 Z 76 [(0, .ref (ad g 0)), (1, .int x1), (3, .int x3), (4, .int x4), (5, .int x5)] [] M := by
  intro n
  induction n with
  | zero =>
    intro x1 x3 x4 x5 M h
    exact h.elim
  | succ n ih =>
    intro x1 x3 x4 x5 M h
    refine a_iload C (tk T_cX12_asked 18 rfl) rfl ?_
    refine a_aload_n C (tk T_cX12_asked 19 rfl) rfl ?_
    refine a_callI C [] me_yX12_readings lk_RX12_128 (ct_M_readings h) (by decide) lm0 rfl rfl rfl (Nat.le_of_ble_eq_true rfl) (tk T_cX12_asked 20 rfl) hr (fun r1 M1 h => ?_)
    refine a_icmp_ge C 126 (tk T_cX12_asked 21 rfl) rfl (fun c => ?_) (fun c => ?_)
    · have h := h.1 c
      refine a_iload C (tk T_cX12_asked 43 rfl) rfl ?_
      exact hR _ _ _ _ (tk T_cX12_asked 44 rfl) h
    · have h := h.2 c
      refine a_iload C (tk T_cX12_asked 22 rfl) rfl ?_
      refine a_aload_n C (tk T_cX12_asked 23 rfl) rfl ?_
      refine a_iload C (tk T_cX12_asked 24 rfl) rfl ?_
      refine a_iconst C (0 : Int32) (tk T_cX12_asked 25 rfl) kI_0 ?_
      refine a_callI C [.int x5, .int (0 : Int32)] me_yX12_of lk_RX12_132 (ct_M_of h) (by decide) lm0 rfl rfl rfl (Nat.le_of_ble_eq_true rfl) (tk T_cX12_asked 26 rfl) hr (fun r2 M2 h => ?_)
      refine a_iload_n C (tk T_cX12_asked 27 rfl) rfl ?_
      refine a_icmp_ne C 116 (tk T_cX12_asked 28 rfl) rfl (fun c => ?_) (fun c => ?_)
      · have h := h.1 c
        exact a_to (k_M_asked_116 C hr hR ih x1 x3 x5 x4 M2 h) rfl
      · have h := h.2 c
        refine a_iload_n C (tk T_cX12_asked 29 rfl) rfl ?_
        refine a_iconst C (2 : Int32) (tk T_cX12_asked 30 rfl) kI_2 ?_
        refine a_icmp_eq C 112 (tk T_cX12_asked 31 rfl) rfl (fun c => ?_) (fun c => ?_)
        · have h := h.1 c
          exact a_to (k_M_asked_112 C hr hR ih x1 x3 x5 x4 M2 h) rfl
        · have h := h.2 c
          refine a_aload_n C (tk T_cX12_asked 32 rfl) rfl ?_
          refine a_iload C (tk T_cX12_asked 33 rfl) rfl ?_
          refine a_callI C [.int x5] me_yX12_isGhost lk_RX12_145 (ct_M_isGhost h) (by decide) lm0 rfl rfl rfl (Nat.le_of_ble_eq_true rfl) (tk T_cX12_asked 34 rfl) hr (fun r3 M3 h => ?_)
          refine a_if_eq C 116 (tk T_cX12_asked 35 rfl) rfl (fun c => ?_) (fun c => ?_)
          · have h := h.1 c
            exact a_to (k_M_asked_116 C hr hR ih x1 x3 x5 x4 M3 h) rfl
          · have h := h.2 c
            exact a_to (k_M_asked_112 C hr hR ih x1 x3 x5 x4 M3 h) rfl
def P_M_asked_72 (post : Int32 → Mem → Prop) (s0 : Int32) (M : Mem) : Prop :=
  post s0 M
theorem k_M_asked_72 {X : FX} {g : GT} {A : Nat → Prop} {Z : State → Prop} {post : Int32 → Mem → Prop} (C : Cx X g layM A cX12_asked 6 RX12 4) (hr : 0 ≤ X.2.2.2.1.cells ∧ 0 ≤ X.2.2.2.1.slots) (hR : RetI X g layM A cX12_asked 6 0 0 Z post) (s0 : Int32) (M : Mem) (h : P_M_asked_72 post s0 M) : AtX X g layM A 6 0 0 Z 72 [] [.int s0] M := by
  exact hR _ _ _ _ (tk T_cX12_asked 15 rfl) h
def P_M_asked (post : Int32 → Mem → Prop) (x1 x2 x3 : Int32) (M : Mem) : Prop :=
  (x1 = (0 : Int32) → (post (M 0 8) M)) ∧
  (¬ x1 = (0 : Int32) → (x1 = (1 : Int32) → ((0 ≤ (M 0 9) → (P_Integer_bitCount (fun r1 M1 =>
  P_M_asked_72 post r1 M1) (M 0 9) M)) ∧
  (¬ 0 ≤ (M 0 9) → (P_M_asked_72 post (99 : Int32) M)))) ∧
  (¬ x1 = (1 : Int32) → (x1 = (2 : Int32) → (∃ j76, P_M_asked_76 post j76 x1 x3 (0 : Int32) (0 : Int32) M)) ∧
  (¬ x1 = (2 : Int32) → (x1 = (3 : Int32) → (∃ j76, P_M_asked_76 post j76 x1 x3 (0 : Int32) (0 : Int32) M)) ∧
  (¬ x1 = (3 : Int32) → (x1 = (4 : Int32) → (P_M_lays (fun r2 M2 =>
  P_Math_min (fun r3 M3 =>
  post r3 M3) (9999 : Int32) r2 M2) (0 : Int32) M)) ∧
  (¬ x1 = (4 : Int32) → (x1 = (5 : Int32) → (post (((M 0 10) >>> (x2 &&& 31)) &&& (1 : Int32)) M)) ∧
  (¬ x1 = (5 : Int32) → (x1 = (6 : Int32) → (post (((M 0 11) >>> (x2 &&& 31)) &&& (1 : Int32)) M)) ∧
  (¬ x1 = (6 : Int32) → (post x2 M))))))))
theorem k_M_asked {X : FX} {g : GT} {A : Nat → Prop} {Z : State → Prop} {post : Int32 → Mem → Prop} (C : Cx X g layM A cX12_asked 6 RX12 4) (hr : 0 ≤ X.2.2.2.1.cells ∧ 0 ≤ X.2.2.2.1.slots) (hR : RetI X g layM A cX12_asked 6 0 0 Z post) (x1 x2 x3 : Int32) (M : Mem) (h : P_M_asked post x1 x2 x3 M) : AtX X g layM A 6 0 0 Z 0 [(0, .ref (ad g 0)), (1, .int x1), (2, .int x2), (3, .int x3)] [] M := by
  refine a_iconst C (0 : Int32) (tk T_cX12_asked 0 rfl) kI_0 ?_
  refine a_istore C (tk T_cX12_asked 1 rfl) (by decide) rfl ?_
  refine a_iload_n C (tk T_cX12_asked 2 rfl) rfl ?_
  refine a_case (0 : Int32) (fun c => ?_) (fun c0 => ?_)
  · have h := h.1 c
    refine a_tswI C (44) 48 (tk T_cX12_asked 3 rfl) (by decide) rfl ?_
    refine a_aload_n C (tk T_cX12_asked 4 rfl) rfl ?_
    refine a_getI C f_RX12_203 (tk T_cX12_asked 5 rfl) lm0 rfl ?_
    exact hR _ _ _ _ (tk T_cX12_asked 6 rfl) h
  · have h := h.2 c0
    refine a_case (1 : Int32) (fun c => ?_) (fun c1 => ?_)
    · have h := h.1 c
      refine a_tswI C (49) 53 (tk T_cX12_asked 3 rfl) (by decide) rfl ?_
      refine a_aload_n C (tk T_cX12_asked 7 rfl) rfl ?_
      refine a_getI C f_RX12_206 (tk T_cX12_asked 8 rfl) lm0 rfl ?_
      refine a_if_ge C 65 (tk T_cX12_asked 9 rfl) rfl (fun c => ?_) (fun c => ?_)
      · have h := h.1 c
        refine a_aload_n C (tk T_cX12_asked 12 rfl) rfl ?_
        refine a_getI C f_RX12_206 (tk T_cX12_asked 13 rfl) lm0 rfl ?_
        refine a_statI C [.int (M 0 9)] me_yJ6_bitCount_0f7a4 lk_RX12_215 (ct_Integer_bitCount h) (by decide) rfl rfl (Nat.le_of_ble_eq_true rfl) (tk T_cX12_asked 14 rfl) hr (fun r1 M1 h => ?_)
        exact a_to (k_M_asked_72 C hr hR r1 M1 h) rfl
      · have h := h.2 c
        refine a_bipush C (99 : Int32) (tk T_cX12_asked 10 rfl) kB_99 ?_
        refine a_goto C 72 (tk T_cX12_asked 11 rfl) rfl ?_
        exact a_to (k_M_asked_72 C hr hR (99 : Int32) M h) rfl
    · have h := h.2 c1
      refine a_case (2 : Int32) (fun c => ?_) (fun c2 => ?_)
      · have h := h.1 c
        refine a_tswI C (69) 73 (tk T_cX12_asked 3 rfl) (by decide) rfl ?_
        refine a_iconst C (0 : Int32) (tk T_cX12_asked 16 rfl) kI_0 ?_
        refine a_istore C (tk T_cX12_asked 17 rfl) (by decide) rfl ?_
        obtain ⟨n1, h⟩ := h
        exact a_to (k_M_asked_76 C hr hR n1 x1 x3 (0 : Int32) (0 : Int32) M h) rfl
      · have h := h.2 c2
        refine a_case (3 : Int32) (fun c => ?_) (fun c3 => ?_)
        · have h := h.1 c
          refine a_tswI C (69) 73 (tk T_cX12_asked 3 rfl) (by decide) rfl ?_
          refine a_iconst C (0 : Int32) (tk T_cX12_asked 16 rfl) kI_0 ?_
          refine a_istore C (tk T_cX12_asked 17 rfl) (by decide) rfl ?_
          obtain ⟨n1, h⟩ := h
          exact a_to (k_M_asked_76 C hr hR n1 x1 x3 (0 : Int32) (0 : Int32) M h) rfl
        · have h := h.2 c3
          refine a_case (4 : Int32) (fun c => ?_) (fun c4 => ?_)
          · have h := h.1 c
            refine a_tswI C (125) 129 (tk T_cX12_asked 3 rfl) (by decide) rfl ?_
            refine a_sipush C (9999 : Int32) (tk T_cX12_asked 45 rfl) kS_9999 ?_
            refine a_aload_n C (tk T_cX12_asked 46 rfl) rfl ?_
            refine a_iconst C (0 : Int32) (tk T_cX12_asked 47 rfl) kI_0 ?_
            refine a_callI C [.int (0 : Int32)] me_yX12_lays lk_RX12_112 (ct_M_lays h) (by decide) lm0 rfl rfl rfl (Nat.le_of_ble_eq_true rfl) (tk T_cX12_asked 48 rfl) hr (fun r2 M2 h => ?_)
            refine a_statI C [.int (9999 : Int32), .int r2] me_yJ9_min_7cf53 lk_RX12_109 (ct_Math_min h) (by decide) rfl rfl (Nat.le_of_ble_eq_true rfl) (tk T_cX12_asked 49 rfl) hr (fun r3 M3 h => ?_)
            exact hR _ _ _ _ (tk T_cX12_asked 50 rfl) h
          · have h := h.2 c4
            refine a_case (5 : Int32) (fun c => ?_) (fun c5 => ?_)
            · have h := h.1 c
              refine a_tswI C (137) 141 (tk T_cX12_asked 3 rfl) (by decide) rfl ?_
              refine a_aload_n C (tk T_cX12_asked 51 rfl) rfl ?_
              refine a_getI C f_RX12_209 (tk T_cX12_asked 52 rfl) lm0 rfl ?_
              refine a_iload_n C (tk T_cX12_asked 53 rfl) rfl ?_
              refine a_ishr C (tk T_cX12_asked 54 rfl) ?_
              refine a_iconst C (1 : Int32) (tk T_cX12_asked 55 rfl) kI_1 ?_
              refine a_iand C (tk T_cX12_asked 56 rfl) ?_
              exact hR _ _ _ _ (tk T_cX12_asked 57 rfl) h
            · have h := h.2 c5
              refine a_case (6 : Int32) (fun c => ?_) (fun c6 => ?_)
              · have h := h.1 c
                refine a_tswI C (146) 150 (tk T_cX12_asked 3 rfl) (by decide) rfl ?_
                refine a_aload_n C (tk T_cX12_asked 58 rfl) rfl ?_
                refine a_getI C f_RX12_212 (tk T_cX12_asked 59 rfl) lm0 rfl ?_
                refine a_iload_n C (tk T_cX12_asked 60 rfl) rfl ?_
                refine a_ishr C (tk T_cX12_asked 61 rfl) ?_
                refine a_iconst C (1 : Int32) (tk T_cX12_asked 62 rfl) kI_1 ?_
                refine a_iand C (tk T_cX12_asked 63 rfl) ?_
                exact hR _ _ _ _ (tk T_cX12_asked 64 rfl) h
              · have h := h.2 c6
                have d0 := ne_toInt (z := 0) c0 (by decide)
                have d1 := ne_toInt (z := 1) c1 (by decide)
                have d2 := ne_toInt (z := 2) c2 (by decide)
                have d3 := ne_toInt (z := 3) c3 (by decide)
                have d4 := ne_toInt (z := 4) c4 (by decide)
                have d5 := ne_toInt (z := 5) c5 (by decide)
                have d6 := ne_toInt (z := 6) c6 (by decide)
                refine a_tswO C 159 (tk T_cX12_asked 3 rfl) (by omega) rfl ?_
                refine a_iload_n C (tk T_cX12_asked 65 rfl) rfl ?_
                exact hR _ _ _ _ (tk T_cX12_asked 66 rfl) h
theorem ct_M_asked {l : Launch} {g : GT} {post : Int32 → Mem → Prop} {x1 x2 x3 : Int32} {M : Mem} (h : P_M_asked post x1 x2 x3 M) : CI l g layM yX12_asked cX12_asked 6 (some .int) 4 [.ref (ad g 0), .int x1, .int x2, .int x3] M post :=
  ci_of (plainFor_of_name (by decide +kernel)) (Nat.le_of_ble_eq_true rfl) (fun X A Z hl C hr hR => by subst hl; exact k_M_asked C hr hR x1 x2 x3 M h)
def T_cX12_holdsL : List (Nat × Instr × Nat) := [(0, .aload_n 0, 1), (1, .iconst 0, 1), (2, .putfield 3, 3), (5, .aload_n 0, 1), (6, .aload_n 0, 1), (7, .iload_n 1, 1), (8, .bipush 10, 2), (10, .invokevirtual 121, 3), (13, .ifCond .ne 13, 3), (16, .aload_n 0, 1), (17, .iload_n 2, 1), (18, .bipush 8, 2), (20, .invokevirtual 121, 3), (23, .ifCond .eq 7, 3), (26, .iconst 1, 1), (27, .goto 4, 3), (30, .iconst 0, 1), (31, .iconst 1, 1), (32, .invokevirtual 72, 3), (35, .ifCond .eq 5, 3), (38, .iconst 0, 1), (39, .ireturn, 1), (40, .aload_n 0, 1), (41, .invokevirtual 197, 3), (44, .aload_n 0, 1), (45, .iload_n 2, 1), (46, .invokevirtual 220, 3), (49, .iconst 0, 1), (50, .istore_n 3, 1), (51, .iconst 0, 1), (52, .istore 4, 2), (54, .iload 4, 2), (56, .aload_n 0, 1), (57, .getfield 13, 3), (60, .iload_n 1, 1), (61, .invokestatic 312, 3), (64, .iaload, 1), (65, .if_icmp .ge 234, 3), (68, .aload_n 0, 1), (69, .getfield 13, 3), (72, .iload_n 1, 1), (73, .invokestatic 312, 3), (76, .iconst 1, 1), (77, .iadd, 1), (78, .iconst 2, 1), (79, .iload 4, 2), (81, .imul, 1), (82, .iadd, 1), (83, .iaload, 1), (84, .istore 5, 2), (86, .iload 5, 2), (88, .bipush 7, 2), (90, .if_icmp .gt 38, 3), (93, .aload_n 0, 1), (94, .getfield 51, 3), (97, .iload_n 3, 1), (98, .aload_n 0, 1), (99, .iload 5, 2), (101, .aload_n 0, 1), (102, .getfield 13, 3), (105, .iload_n 1, 1), (106, .invokestatic 312, 3), (109, .iconst 2, 1), (110, .iadd, 1), (111, .iconst 2, 1), (112, .iload 4, 2), (114, .imul, 1), (115, .iadd, 1), (116, .iaload, 1), (117, .iload_n 2, 1), (118, .invokevirtual 371, 3), (121, .iastore, 1), (122, .iinc 3 1, 3), (125, .goto 168, 3), (128, .iload 5, 2), (130, .bipush 11, 2), (132, .if_icmp .ne 24, 3), (135, .aload_n 0, 1), (136, .getfield 51, 3), (139, .iload_n 3, 1), (140, .iconst 1, 1), (141, .isub, 1), (142, .iconst 1, 1), (143, .aload_n 0, 1), (144, .getfield 51, 3), (147, .iload_n 3, 1), (148, .iconst 1, 1), (149, .isub, 1), (150, .iaload, 1), (151, .isub, 1), (152, .iastore, 1), (153, .goto 140, 3), (156, .iinc 3 (-1), 3), (159, .aload_n 0, 1), (160, .getfield 51, 3), (163, .iload_n 3, 1), (164, .iconst 1, 1), (165, .isub, 1), (166, .iaload, 1), (167, .istore 6, 2), (169, .aload_n 0, 1), (170, .getfield 51, 3), (173, .iload_n 3, 1), (174, .iaload, 1), (175, .istore 7, 2), (177, .iload 5, 2), (179, .bipush 9, 2), (181, .if_icmp .ne 18, 3), (184, .iload 6, 2), (186, .iload 7, 2), (188, .if_icmp .ge 7, 3), (191, .iconst 1, 1), (192, .goto 66, 3), (195, .iconst 0, 1), (196, .goto 62, 3), (199, .iload 5, 2), (201, .bipush 10, 2), (203, .if_icmp .ne 18, 3), (206, .iload 6, 2), (208, .iload 7, 2), (210, .if_icmp .le 7, 3), (213, .iconst 1, 1), (214, .goto 44, 3), (217, .iconst 0, 1), (218, .goto 40, 3), (221, .iload 5, 2), (223, .bipush 12, 2), (225, .if_icmp .ne 20, 3), (228, .iload 6, 2), (230, .iload 7, 2), (232, .iadd, 1), (233, .iconst 2, 1), (234, .if_icmp .ne 7, 3), (237, .iconst 1, 1), (238, .goto 20, 3), (241, .iconst 0, 1), (242, .goto 16, 3), (245, .iload 6, 2), (247, .iload 7, 2), (249, .iadd, 1), (250, .ifCond .le 7, 3), (253, .iconst 1, 1), (254, .goto 4, 3), (257, .iconst 0, 1), (258, .istore 8, 2), (260, .aload_n 0, 1), (261, .getfield 51, 3), (264, .iload_n 3, 1), (265, .iconst 1, 1), (266, .isub, 1), (267, .iload 5, 2), (269, .bipush 8, 2), (271, .if_icmp .ne 11, 3), (274, .iload 6, 2), (276, .iload 7, 2), (278, .iadd, 1), (279, .goto 13, 3), (282, .iload 8, 2), (284, .ifCond .eq 7, 3), (287, .iconst 1, 1), (288, .goto 4, 3), (291, .iconst 0, 1), (292, .iastore, 1), (293, .iinc 4 1, 3), (296, .goto (-242), 3), (299, .aload_n 0, 1), (300, .getfield 51, 3), (303, .iconst 0, 1), (304, .iaload, 1), (305, .iconst 1, 1), (306, .if_icmp .ne 7, 3), (309, .iconst 1, 1), (310, .goto 4, 3), (313, .iconst 0, 1), (314, .ireturn, 1)]
theorem T_cX12_holds : tabOK cX12_holds T_cX12_holdsL = true := by decide +kernel
def P_M_holds_314 (post : Int32 → Mem → Prop) (s0 : Int32) (M : Mem) : Prop :=
  (s0 = 0 ∨ s0 = 1) ∧ post s0 M
theorem k_M_holds_314 {X : FX} {g : GT} {A : Nat → Prop} {Z : State → Prop} {post : Int32 → Mem → Prop} (C : Cx X g layM A cX12_holds 9 RX12 7) (hr : 0 ≤ X.2.2.2.1.cells ∧ 0 ≤ X.2.2.2.1.slots) (hR : RetZ X g layM A cX12_holds 9 0 0 Z post) (s0 : Int32) (M : Mem) (h : P_M_holds_314 post s0 M) : AtX X g layM A 9 0 0 Z 314 [] [.int s0] M := by
  exact hR _ _ _ _ (tk T_cX12_holds 174 rfl) h
def P_M_holds_293 (post : Int32 → Mem → Prop) (R54 : Int32 → Int32 → Int32 → Int32 → Mem → Prop) (x1 x2 x3 x4 : Int32) (M : Mem) : Prop :=
  R54 x1 x2 x3 (x4 + (1 : Int32)) M
theorem k_M_holds_293 {X : FX} {g : GT} {A : Nat → Prop} {Z : State → Prop} {post : Int32 → Mem → Prop} {R54 : Int32 → Int32 → Int32 → Int32 → Mem → Prop} (C : Cx X g layM A cX12_holds 9 RX12 7) (hr : 0 ≤ X.2.2.2.1.cells ∧ 0 ≤ X.2.2.2.1.slots) (hR : RetZ X g layM A cX12_holds 9 0 0 Z post) (k54 : ∀ (y1 y2 y3 y4 : Int32) (M : Mem), R54 y1 y2 y3 y4 M → AtX X g layM A 9 0 0 Z 54 [(0, .ref (ad g 0)), (1, .int y1), (2, .int y2), (3, .int y3), (4, .int y4)] [] M) (x1 x2 x3 x4 : Int32) (M : Mem) (h : P_M_holds_293 post R54 x1 x2 x3 x4 M) : AtX X g layM A 9 0 0 Z 293 [(0, .ref (ad g 0)), (1, .int x1), (2, .int x2), (3, .int x3), (4, .int x4)] [] M := by
  refine a_iinc C (1 : Int32) (tk T_cX12_holds 163 rfl) rfl kI_1 (by decide) rfl ?_
  refine a_goto C 54 (tk T_cX12_holds 164 rfl) rfl ?_
  exact a_to (k54 x1 x2 x3 (x4 + (1 : Int32)) M h) rfl
def P_M_holds_292 (post : Int32 → Mem → Prop) (R54 : Int32 → Int32 → Int32 → Int32 → Mem → Prop) (x1 x2 x3 x4 s1 s2 : Int32) (M : Mem) : Prop :=
  vp_in s1 400 ∧ ∀ M1, M1 = ms M 12 s1.toNatClampNeg s2 → P_M_holds_293 post R54 x1 x2 x3 x4 M1
theorem k_M_holds_292 {X : FX} {g : GT} {A : Nat → Prop} {Z : State → Prop} {post : Int32 → Mem → Prop} {R54 : Int32 → Int32 → Int32 → Int32 → Mem → Prop} (C : Cx X g layM A cX12_holds 9 RX12 7) (hr : 0 ≤ X.2.2.2.1.cells ∧ 0 ≤ X.2.2.2.1.slots) (hR : RetZ X g layM A cX12_holds 9 0 0 Z post) (k54 : ∀ (y1 y2 y3 y4 : Int32) (M : Mem), R54 y1 y2 y3 y4 M → AtX X g layM A 9 0 0 Z 54 [(0, .ref (ad g 0)), (1, .int y1), (2, .int y2), (3, .int y3), (4, .int y4)] [] M) (x1 x2 x3 x4 s1 s2 : Int32) (M : Mem) (h : P_M_holds_292 post R54 x1 x2 x3 x4 s1 s2 M) : AtX X g layM A 9 0 0 Z 292 [(0, .ref (ad g 0)), (1, .int x1), (2, .int x2), (3, .int x3), (4, .int x4)] [.int s2, .int s1, .ref (ad g 12)] M := by
  obtain ⟨hb, h⟩ := h
  refine a_iast C (tk T_cX12_holds 162 rfl) lm12 hb ?_
  refine a_mem (fun M1 e_M1 => ?_)
  have h := h M1 e_M1
  exact a_to (k_M_holds_293 C hr hR k54 x1 x2 x3 x4 M1 h) rfl
def P_M_holds_258 (post : Int32 → Mem → Prop) (R54 : Int32 → Int32 → Int32 → Int32 → Mem → Prop) (x1 x2 x3 x4 x5 x6 x7 s0 : Int32) (M : Mem) : Prop :=
  (¬ x5 = (8 : Int32) → ((s0 = 0 → (P_M_holds_292 post R54 x1 x2 x3 x4 (x3 - (1 : Int32)) (0 : Int32) M)) ∧
  (¬ s0 = 0 → (P_M_holds_292 post R54 x1 x2 x3 x4 (x3 - (1 : Int32)) (1 : Int32) M)))) ∧
  (x5 = (8 : Int32) → (P_M_holds_292 post R54 x1 x2 x3 x4 (x3 - (1 : Int32)) (x6 + x7) M))
theorem k_M_holds_258 {X : FX} {g : GT} {A : Nat → Prop} {Z : State → Prop} {post : Int32 → Mem → Prop} {R54 : Int32 → Int32 → Int32 → Int32 → Mem → Prop} (C : Cx X g layM A cX12_holds 9 RX12 7) (hr : 0 ≤ X.2.2.2.1.cells ∧ 0 ≤ X.2.2.2.1.slots) (hR : RetZ X g layM A cX12_holds 9 0 0 Z post) (k54 : ∀ (y1 y2 y3 y4 : Int32) (M : Mem), R54 y1 y2 y3 y4 M → AtX X g layM A 9 0 0 Z 54 [(0, .ref (ad g 0)), (1, .int y1), (2, .int y2), (3, .int y3), (4, .int y4)] [] M) (x1 x2 x3 x4 x5 x6 x7 s0 : Int32) (M : Mem) (h : P_M_holds_258 post R54 x1 x2 x3 x4 x5 x6 x7 s0 M) : AtX X g layM A 9 0 0 Z 258 [(0, .ref (ad g 0)), (1, .int x1), (2, .int x2), (3, .int x3), (4, .int x4), (5, .int x5), (6, .int x6), (7, .int x7)] [.int s0] M := by
  refine a_istore C (tk T_cX12_holds 144 rfl) (by decide) rfl ?_
  refine a_aload_n C (tk T_cX12_holds 145 rfl) rfl ?_
  refine a_getR C f_RX12_51 (tk T_cX12_holds 146 rfl) lm0 rfl ?_
  refine a_iload_n C (tk T_cX12_holds 147 rfl) rfl ?_
  refine a_iconst C (1 : Int32) (tk T_cX12_holds 148 rfl) kI_1 ?_
  refine a_isub C (tk T_cX12_holds 149 rfl) ?_
  refine a_iload C (tk T_cX12_holds 150 rfl) rfl ?_
  refine a_bipush C (8 : Int32) (tk T_cX12_holds 151 rfl) kB_8 ?_
  refine a_icmp_ne C 282 (tk T_cX12_holds 152 rfl) rfl (fun c => ?_) (fun c => ?_)
  · have h := h.1 c
    refine a_iload C (tk T_cX12_holds 157 rfl) rfl ?_
    refine a_if_eq C 291 (tk T_cX12_holds 158 rfl) rfl (fun c => ?_) (fun c => ?_)
    · have h := h.1 c
      refine a_iconst C (0 : Int32) (tk T_cX12_holds 161 rfl) kI_0 ?_
      exact a_to (k_M_holds_292 C hr hR k54 x1 x2 x3 x4 (x3 - (1 : Int32)) (0 : Int32) M h) rfl
    · have h := h.2 c
      refine a_iconst C (1 : Int32) (tk T_cX12_holds 159 rfl) kI_1 ?_
      refine a_goto C 292 (tk T_cX12_holds 160 rfl) rfl ?_
      exact a_to (k_M_holds_292 C hr hR k54 x1 x2 x3 x4 (x3 - (1 : Int32)) (1 : Int32) M h) rfl
  · have h := h.2 c
    refine a_iload C (tk T_cX12_holds 153 rfl) rfl ?_
    refine a_iload C (tk T_cX12_holds 154 rfl) rfl ?_
    refine a_iadd C (tk T_cX12_holds 155 rfl) ?_
    refine a_goto C 292 (tk T_cX12_holds 156 rfl) rfl ?_
    exact a_to (k_M_holds_292 C hr hR k54 x1 x2 x3 x4 (x3 - (1 : Int32)) (x6 + x7) M h) rfl
def P_M_holds_54 (post : Int32 → Mem → Prop) : Nat → Int32 → Int32 → Int32 → Int32 → Mem → Prop
  | 0, _, _, _, _, _ => False
  | n + 1, x1, x2, x3, x4, M =>
    P_M_textAt (fun r1 M1 =>
  vp_in r1 5966 ∧ ((M1 1 r1.toNatClampNeg) ≤ x4 → (vp_in (0 : Int32) 400 ∧ (¬ (M1 12 (0 : Int32).toNatClampNeg) = (1 : Int32) → (P_M_holds_314 post (0 : Int32) M1)) ∧
  ((M1 12 (0 : Int32).toNatClampNeg) = (1 : Int32) → (P_M_holds_314 post (1 : Int32) M1)))) ∧
  (¬ (M1 1 r1.toNatClampNeg) ≤ x4 → (P_M_textAt (fun r2 M2 =>
  ∀ i3, i3 = ((r2 + (1 : Int32)) + ((2 : Int32) * x4)) → vp_in i3 5966 ∧ ((7 : Int32) < (M2 1 i3.toNatClampNeg) → ((¬ (M2 1 i3.toNatClampNeg) = (11 : Int32) → (∀ i4, i4 = ((x3 + (-1 : Int32)) - (1 : Int32)) → vp_in i4 400 ∧ vp_in (x3 + (-1 : Int32)) 400 ∧ ∀ x7_5, x7_5 = (M2 12 (x3 + (-1 : Int32)).toNatClampNeg) → (¬ (M2 1 i3.toNatClampNeg) = (9 : Int32) → ((¬ (M2 1 i3.toNatClampNeg) = (10 : Int32) → ((¬ (M2 1 i3.toNatClampNeg) = (12 : Int32) → ((((M2 12 i4.toNatClampNeg) + x7_5) ≤ 0 → (P_M_holds_258 post (P_M_holds_54 post n) x1 x2 (x3 + (-1 : Int32)) x4 (M2 1 i3.toNatClampNeg) (M2 12 i4.toNatClampNeg) x7_5 (0 : Int32) M2)) ∧
  (¬ ((M2 12 i4.toNatClampNeg) + x7_5) ≤ 0 → (P_M_holds_258 post (P_M_holds_54 post n) x1 x2 (x3 + (-1 : Int32)) x4 (M2 1 i3.toNatClampNeg) (M2 12 i4.toNatClampNeg) x7_5 (1 : Int32) M2)))) ∧
  ((M2 1 i3.toNatClampNeg) = (12 : Int32) → ((¬ ((M2 12 i4.toNatClampNeg) + x7_5) = (2 : Int32) → (P_M_holds_258 post (P_M_holds_54 post n) x1 x2 (x3 + (-1 : Int32)) x4 (M2 1 i3.toNatClampNeg) (M2 12 i4.toNatClampNeg) x7_5 (0 : Int32) M2)) ∧
  (((M2 12 i4.toNatClampNeg) + x7_5) = (2 : Int32) → (P_M_holds_258 post (P_M_holds_54 post n) x1 x2 (x3 + (-1 : Int32)) x4 (M2 1 i3.toNatClampNeg) (M2 12 i4.toNatClampNeg) x7_5 (1 : Int32) M2)))))) ∧
  ((M2 1 i3.toNatClampNeg) = (10 : Int32) → (((M2 12 i4.toNatClampNeg) ≤ x7_5 → (P_M_holds_258 post (P_M_holds_54 post n) x1 x2 (x3 + (-1 : Int32)) x4 (M2 1 i3.toNatClampNeg) (M2 12 i4.toNatClampNeg) x7_5 (0 : Int32) M2)) ∧
  (¬ (M2 12 i4.toNatClampNeg) ≤ x7_5 → (P_M_holds_258 post (P_M_holds_54 post n) x1 x2 (x3 + (-1 : Int32)) x4 (M2 1 i3.toNatClampNeg) (M2 12 i4.toNatClampNeg) x7_5 (1 : Int32) M2)))))) ∧
  ((M2 1 i3.toNatClampNeg) = (9 : Int32) → ((x7_5 ≤ (M2 12 i4.toNatClampNeg) → (P_M_holds_258 post (P_M_holds_54 post n) x1 x2 (x3 + (-1 : Int32)) x4 (M2 1 i3.toNatClampNeg) (M2 12 i4.toNatClampNeg) x7_5 (0 : Int32) M2)) ∧
  (¬ x7_5 ≤ (M2 12 i4.toNatClampNeg) → (P_M_holds_258 post (P_M_holds_54 post n) x1 x2 (x3 + (-1 : Int32)) x4 (M2 1 i3.toNatClampNeg) (M2 12 i4.toNatClampNeg) x7_5 (1 : Int32) M2)))))) ∧
  ((M2 1 i3.toNatClampNeg) = (11 : Int32) → (vp_in (x3 - (1 : Int32)) 400 ∧ vp_in (x3 - (1 : Int32)) 400 ∧ ∀ M6, M6 = ms M2 12 (x3 - (1 : Int32)).toNatClampNeg ((1 : Int32) - (M2 12 (x3 - (1 : Int32)).toNatClampNeg)) → P_M_holds_293 post (P_M_holds_54 post n) x1 x2 x3 x4 M6)))) ∧
  (¬ (7 : Int32) < (M2 1 i3.toNatClampNeg) → (P_M_textAt (fun r7 M7 =>
  ∀ i8, i8 = ((r7 + (2 : Int32)) + ((2 : Int32) * x4)) → vp_in i8 5966 ∧ P_M_asked (fun r9 M9 =>
  vp_in x3 400 ∧ ∀ M10, M10 = ms M9 12 x3.toNatClampNeg r9 → P_M_holds_293 post (P_M_holds_54 post n) x1 x2 (x3 + (1 : Int32)) x4 M10) (M2 1 i3.toNatClampNeg) (M7 1 i8.toNatClampNeg) x2 M7) x1 M2))) x1 M1))) x1 M
theorem k_M_holds_54 {X : FX} {g : GT} {A : Nat → Prop} {Z : State → Prop} {post : Int32 → Mem → Prop} (C : Cx X g layM A cX12_holds 9 RX12 7) (hr : 0 ≤ X.2.2.2.1.cells ∧ 0 ≤ X.2.2.2.1.slots) (hR : RetZ X g layM A cX12_holds 9 0 0 Z post) : ∀ (n : Nat) (x1 x2 x3 x4 : Int32) (M : Mem), P_M_holds_54 post n x1 x2 x3 x4 M → AtX X g layM A 9 0 0 Z 54 [(0, .ref (ad g 0)), (1, .int x1), (2, .int x2), (3, .int x3), (4, .int x4)] [] M := by
  intro n
  induction n with
  | zero =>
    intro x1 x2 x3 x4 M h
    exact h.elim
  | succ n ih =>
    intro x1 x2 x3 x4 M h
    refine a_iload C (tk T_cX12_holds 31 rfl) rfl ?_
    refine a_aload_n C (tk T_cX12_holds 32 rfl) rfl ?_
    refine a_getR C f_RX12_13 (tk T_cX12_holds 33 rfl) lm0 rfl ?_
    refine a_iload_n C (tk T_cX12_holds 34 rfl) rfl ?_
    refine a_statI C [.int x1] me_yX12_textAt lk_RX12_312 (ct_M_textAt h) (by decide) rfl rfl (Nat.le_of_ble_eq_true rfl) (tk T_cX12_holds 35 rfl) hr (fun r1 M1 h => ?_)
    obtain ⟨hb, h⟩ := h
    refine a_iald C (tk T_cX12_holds 36 rfl) lm1 hb ?_
    refine a_icmp_ge C 299 (tk T_cX12_holds 37 rfl) rfl (fun c => ?_) (fun c => ?_)
    · have h := h.1 c
      refine a_aload_n C (tk T_cX12_holds 165 rfl) rfl ?_
      refine a_getR C f_RX12_51 (tk T_cX12_holds 166 rfl) lm0 rfl ?_
      refine a_iconst C (0 : Int32) (tk T_cX12_holds 167 rfl) kI_0 ?_
      obtain ⟨hb, h⟩ := h
      refine a_iald C (tk T_cX12_holds 168 rfl) lm12 hb ?_
      refine a_iconst C (1 : Int32) (tk T_cX12_holds 169 rfl) kI_1 ?_
      refine a_icmp_ne C 313 (tk T_cX12_holds 170 rfl) rfl (fun c => ?_) (fun c => ?_)
      · have h := h.1 c
        refine a_iconst C (0 : Int32) (tk T_cX12_holds 173 rfl) kI_0 ?_
        exact a_to (k_M_holds_314 C hr hR (0 : Int32) M1 h) rfl
      · have h := h.2 c
        refine a_iconst C (1 : Int32) (tk T_cX12_holds 171 rfl) kI_1 ?_
        refine a_goto C 314 (tk T_cX12_holds 172 rfl) rfl ?_
        exact a_to (k_M_holds_314 C hr hR (1 : Int32) M1 h) rfl
    · have h := h.2 c
      refine a_aload_n C (tk T_cX12_holds 38 rfl) rfl ?_
      refine a_getR C f_RX12_13 (tk T_cX12_holds 39 rfl) lm0 rfl ?_
      refine a_iload_n C (tk T_cX12_holds 40 rfl) rfl ?_
      refine a_statI C [.int x1] me_yX12_textAt lk_RX12_312 (ct_M_textAt h) (by decide) rfl rfl (Nat.le_of_ble_eq_true rfl) (tk T_cX12_holds 41 rfl) hr (fun r2 M2 h => ?_)
      refine a_iconst C (1 : Int32) (tk T_cX12_holds 42 rfl) kI_1 ?_
      refine a_iadd C (tk T_cX12_holds 43 rfl) ?_
      refine a_iconst C (2 : Int32) (tk T_cX12_holds 44 rfl) kI_2 ?_
      refine a_iload C (tk T_cX12_holds 45 rfl) rfl ?_
      refine a_imul C (tk T_cX12_holds 46 rfl) ?_
      refine a_iadd C (tk T_cX12_holds 47 rfl) ?_
      refine a_top (fun i3 e_i3 => ?_)
      have h := h i3 e_i3
      obtain ⟨hb, h⟩ := h
      refine a_iald C (tk T_cX12_holds 48 rfl) lm1 hb ?_
      refine a_istore C (tk T_cX12_holds 49 rfl) (by decide) rfl ?_
      refine a_iload C (tk T_cX12_holds 50 rfl) rfl ?_
      refine a_bipush C (7 : Int32) (tk T_cX12_holds 51 rfl) kB_7 ?_
      refine a_icmp_gt C 128 (tk T_cX12_holds 52 rfl) rfl (fun c => ?_) (fun c => ?_)
      · have h := h.1 c
        refine a_iload C (tk T_cX12_holds 74 rfl) rfl ?_
        refine a_bipush C (11 : Int32) (tk T_cX12_holds 75 rfl) kB_11 ?_
        refine a_icmp_ne C 156 (tk T_cX12_holds 76 rfl) rfl (fun c => ?_) (fun c => ?_)
        · have h := h.1 c
          refine a_iinc C (-1 : Int32) (tk T_cX12_holds 92 rfl) rfl kI_m1 (by decide) rfl ?_
          refine a_aload_n C (tk T_cX12_holds 93 rfl) rfl ?_
          refine a_getR C f_RX12_51 (tk T_cX12_holds 94 rfl) lm0 rfl ?_
          refine a_iload_n C (tk T_cX12_holds 95 rfl) rfl ?_
          refine a_iconst C (1 : Int32) (tk T_cX12_holds 96 rfl) kI_1 ?_
          refine a_isub C (tk T_cX12_holds 97 rfl) ?_
          refine a_top (fun i4 e_i4 => ?_)
          have h := h i4 e_i4
          obtain ⟨hb, h⟩ := h
          refine a_iald C (tk T_cX12_holds 98 rfl) lm12 hb ?_
          refine a_istore C (tk T_cX12_holds 99 rfl) (by decide) rfl ?_
          refine a_aload_n C (tk T_cX12_holds 100 rfl) rfl ?_
          refine a_getR C f_RX12_51 (tk T_cX12_holds 101 rfl) lm0 rfl ?_
          refine a_iload_n C (tk T_cX12_holds 102 rfl) rfl ?_
          obtain ⟨hb, h⟩ := h
          refine a_iald C (tk T_cX12_holds 103 rfl) lm12 hb ?_
          refine a_top (fun x7_5 e_x7_5 => ?_)
          have h := h x7_5 e_x7_5
          refine a_istore C (tk T_cX12_holds 104 rfl) (by decide) rfl ?_
          refine a_iload C (tk T_cX12_holds 105 rfl) rfl ?_
          refine a_bipush C (9 : Int32) (tk T_cX12_holds 106 rfl) kB_9 ?_
          refine a_icmp_ne C 199 (tk T_cX12_holds 107 rfl) rfl (fun c => ?_) (fun c => ?_)
          · have h := h.1 c
            refine a_iload C (tk T_cX12_holds 115 rfl) rfl ?_
            refine a_bipush C (10 : Int32) (tk T_cX12_holds 116 rfl) kB_10 ?_
            refine a_icmp_ne C 221 (tk T_cX12_holds 117 rfl) rfl (fun c => ?_) (fun c => ?_)
            · have h := h.1 c
              refine a_iload C (tk T_cX12_holds 125 rfl) rfl ?_
              refine a_bipush C (12 : Int32) (tk T_cX12_holds 126 rfl) kB_12 ?_
              refine a_icmp_ne C 245 (tk T_cX12_holds 127 rfl) rfl (fun c => ?_) (fun c => ?_)
              · have h := h.1 c
                refine a_iload C (tk T_cX12_holds 137 rfl) rfl ?_
                refine a_iload C (tk T_cX12_holds 138 rfl) rfl ?_
                refine a_iadd C (tk T_cX12_holds 139 rfl) ?_
                refine a_if_le C 257 (tk T_cX12_holds 140 rfl) rfl (fun c => ?_) (fun c => ?_)
                · have h := h.1 c
                  refine a_iconst C (0 : Int32) (tk T_cX12_holds 143 rfl) kI_0 ?_
                  exact a_to (k_M_holds_258 C hr hR ih x1 x2 (x3 + (-1 : Int32)) x4 (M2 1 i3.toNatClampNeg) (M2 12 i4.toNatClampNeg) x7_5 (0 : Int32) M2 h) rfl
                · have h := h.2 c
                  refine a_iconst C (1 : Int32) (tk T_cX12_holds 141 rfl) kI_1 ?_
                  refine a_goto C 258 (tk T_cX12_holds 142 rfl) rfl ?_
                  exact a_to (k_M_holds_258 C hr hR ih x1 x2 (x3 + (-1 : Int32)) x4 (M2 1 i3.toNatClampNeg) (M2 12 i4.toNatClampNeg) x7_5 (1 : Int32) M2 h) rfl
              · have h := h.2 c
                refine a_iload C (tk T_cX12_holds 128 rfl) rfl ?_
                refine a_iload C (tk T_cX12_holds 129 rfl) rfl ?_
                refine a_iadd C (tk T_cX12_holds 130 rfl) ?_
                refine a_iconst C (2 : Int32) (tk T_cX12_holds 131 rfl) kI_2 ?_
                refine a_icmp_ne C 241 (tk T_cX12_holds 132 rfl) rfl (fun c => ?_) (fun c => ?_)
                · have h := h.1 c
                  refine a_iconst C (0 : Int32) (tk T_cX12_holds 135 rfl) kI_0 ?_
                  refine a_goto C 258 (tk T_cX12_holds 136 rfl) rfl ?_
                  exact a_to (k_M_holds_258 C hr hR ih x1 x2 (x3 + (-1 : Int32)) x4 (M2 1 i3.toNatClampNeg) (M2 12 i4.toNatClampNeg) x7_5 (0 : Int32) M2 h) rfl
                · have h := h.2 c
                  refine a_iconst C (1 : Int32) (tk T_cX12_holds 133 rfl) kI_1 ?_
                  refine a_goto C 258 (tk T_cX12_holds 134 rfl) rfl ?_
                  exact a_to (k_M_holds_258 C hr hR ih x1 x2 (x3 + (-1 : Int32)) x4 (M2 1 i3.toNatClampNeg) (M2 12 i4.toNatClampNeg) x7_5 (1 : Int32) M2 h) rfl
            · have h := h.2 c
              refine a_iload C (tk T_cX12_holds 118 rfl) rfl ?_
              refine a_iload C (tk T_cX12_holds 119 rfl) rfl ?_
              refine a_icmp_le C 217 (tk T_cX12_holds 120 rfl) rfl (fun c => ?_) (fun c => ?_)
              · have h := h.1 c
                refine a_iconst C (0 : Int32) (tk T_cX12_holds 123 rfl) kI_0 ?_
                refine a_goto C 258 (tk T_cX12_holds 124 rfl) rfl ?_
                exact a_to (k_M_holds_258 C hr hR ih x1 x2 (x3 + (-1 : Int32)) x4 (M2 1 i3.toNatClampNeg) (M2 12 i4.toNatClampNeg) x7_5 (0 : Int32) M2 h) rfl
              · have h := h.2 c
                refine a_iconst C (1 : Int32) (tk T_cX12_holds 121 rfl) kI_1 ?_
                refine a_goto C 258 (tk T_cX12_holds 122 rfl) rfl ?_
                exact a_to (k_M_holds_258 C hr hR ih x1 x2 (x3 + (-1 : Int32)) x4 (M2 1 i3.toNatClampNeg) (M2 12 i4.toNatClampNeg) x7_5 (1 : Int32) M2 h) rfl
          · have h := h.2 c
            refine a_iload C (tk T_cX12_holds 108 rfl) rfl ?_
            refine a_iload C (tk T_cX12_holds 109 rfl) rfl ?_
            refine a_icmp_ge C 195 (tk T_cX12_holds 110 rfl) rfl (fun c => ?_) (fun c => ?_)
            · have h := h.1 c
              refine a_iconst C (0 : Int32) (tk T_cX12_holds 113 rfl) kI_0 ?_
              refine a_goto C 258 (tk T_cX12_holds 114 rfl) rfl ?_
              exact a_to (k_M_holds_258 C hr hR ih x1 x2 (x3 + (-1 : Int32)) x4 (M2 1 i3.toNatClampNeg) (M2 12 i4.toNatClampNeg) x7_5 (0 : Int32) M2 h) rfl
            · have h := h.2 c
              refine a_iconst C (1 : Int32) (tk T_cX12_holds 111 rfl) kI_1 ?_
              refine a_goto C 258 (tk T_cX12_holds 112 rfl) rfl ?_
              exact a_to (k_M_holds_258 C hr hR ih x1 x2 (x3 + (-1 : Int32)) x4 (M2 1 i3.toNatClampNeg) (M2 12 i4.toNatClampNeg) x7_5 (1 : Int32) M2 h) rfl
        · have h := h.2 c
          refine a_aload_n C (tk T_cX12_holds 77 rfl) rfl ?_
          refine a_getR C f_RX12_51 (tk T_cX12_holds 78 rfl) lm0 rfl ?_
          refine a_iload_n C (tk T_cX12_holds 79 rfl) rfl ?_
          refine a_iconst C (1 : Int32) (tk T_cX12_holds 80 rfl) kI_1 ?_
          refine a_isub C (tk T_cX12_holds 81 rfl) ?_
          refine a_iconst C (1 : Int32) (tk T_cX12_holds 82 rfl) kI_1 ?_
          refine a_aload_n C (tk T_cX12_holds 83 rfl) rfl ?_
          refine a_getR C f_RX12_51 (tk T_cX12_holds 84 rfl) lm0 rfl ?_
          refine a_iload_n C (tk T_cX12_holds 85 rfl) rfl ?_
          refine a_iconst C (1 : Int32) (tk T_cX12_holds 86 rfl) kI_1 ?_
          refine a_isub C (tk T_cX12_holds 87 rfl) ?_
          obtain ⟨hb, h⟩ := h
          refine a_iald C (tk T_cX12_holds 88 rfl) lm12 hb ?_
          refine a_isub C (tk T_cX12_holds 89 rfl) ?_
          obtain ⟨hb, h⟩ := h
          refine a_iast C (tk T_cX12_holds 90 rfl) lm12 hb ?_
          refine a_mem (fun M6 e_M6 => ?_)
          have h := h M6 e_M6
          refine a_goto C 293 (tk T_cX12_holds 91 rfl) rfl ?_
          exact a_to (k_M_holds_293 C hr hR ih x1 x2 x3 x4 M6 h) rfl
      · have h := h.2 c
        refine a_aload_n C (tk T_cX12_holds 53 rfl) rfl ?_
        refine a_getR C f_RX12_51 (tk T_cX12_holds 54 rfl) lm0 rfl ?_
        refine a_iload_n C (tk T_cX12_holds 55 rfl) rfl ?_
        refine a_aload_n C (tk T_cX12_holds 56 rfl) rfl ?_
        refine a_iload C (tk T_cX12_holds 57 rfl) rfl ?_
        refine a_aload_n C (tk T_cX12_holds 58 rfl) rfl ?_
        refine a_getR C f_RX12_13 (tk T_cX12_holds 59 rfl) lm0 rfl ?_
        refine a_iload_n C (tk T_cX12_holds 60 rfl) rfl ?_
        refine a_statI C [.int x1] me_yX12_textAt lk_RX12_312 (ct_M_textAt h) (by decide) rfl rfl (Nat.le_of_ble_eq_true rfl) (tk T_cX12_holds 61 rfl) hr (fun r7 M7 h => ?_)
        refine a_iconst C (2 : Int32) (tk T_cX12_holds 62 rfl) kI_2 ?_
        refine a_iadd C (tk T_cX12_holds 63 rfl) ?_
        refine a_iconst C (2 : Int32) (tk T_cX12_holds 64 rfl) kI_2 ?_
        refine a_iload C (tk T_cX12_holds 65 rfl) rfl ?_
        refine a_imul C (tk T_cX12_holds 66 rfl) ?_
        refine a_iadd C (tk T_cX12_holds 67 rfl) ?_
        refine a_top (fun i8 e_i8 => ?_)
        have h := h i8 e_i8
        obtain ⟨hb, h⟩ := h
        refine a_iald C (tk T_cX12_holds 68 rfl) lm1 hb ?_
        refine a_iload_n C (tk T_cX12_holds 69 rfl) rfl ?_
        refine a_callI C [.int (M2 1 i3.toNatClampNeg), .int (M7 1 i8.toNatClampNeg), .int x2] me_yX12_asked lk_RX12_371 (ct_M_asked h) (by decide) lm0 rfl rfl rfl (Nat.le_of_ble_eq_true rfl) (tk T_cX12_holds 70 rfl) hr (fun r9 M9 h => ?_)
        obtain ⟨hb, h⟩ := h
        refine a_iast C (tk T_cX12_holds 71 rfl) lm12 hb ?_
        refine a_mem (fun M10 e_M10 => ?_)
        have h := h M10 e_M10
        refine a_iinc C (1 : Int32) (tk T_cX12_holds 72 rfl) rfl kI_1 (by decide) rfl ?_
        refine a_goto C 293 (tk T_cX12_holds 73 rfl) rfl ?_
        exact a_to (k_M_holds_293 C hr hR ih x1 x2 (x3 + (1 : Int32)) x4 M10 h) rfl
def P_M_holds_31 (post : Int32 → Mem → Prop) (x1 x2 s1 : Int32) (M : Mem) : Prop :=
  P_M_throwsIf (fun r1 M1 =>
  (r1 = 0 → (P_M_spans (fun M2 =>
  P_M_findsSets (fun M3 =>
  ∃ j54, P_M_holds_54 post j54 x1 x2 (0 : Int32) (0 : Int32) M3) x2 M2) M1)) ∧
  (¬ r1 = 0 → (post (0 : Int32) M1))) s1 (1 : Int32) M
theorem k_M_holds_31 {X : FX} {g : GT} {A : Nat → Prop} {Z : State → Prop} {post : Int32 → Mem → Prop} (C : Cx X g layM A cX12_holds 9 RX12 7) (hr : 0 ≤ X.2.2.2.1.cells ∧ 0 ≤ X.2.2.2.1.slots) (hR : RetZ X g layM A cX12_holds 9 0 0 Z post) (x1 x2 s1 : Int32) (M : Mem) (h : P_M_holds_31 post x1 x2 s1 M) : AtX X g layM A 9 0 0 Z 31 [(0, .ref (ad g 0)), (1, .int x1), (2, .int x2)] [.int s1, .ref (ad g 0)] M := by
  refine a_iconst C (1 : Int32) (tk T_cX12_holds 17 rfl) kI_1 ?_
  refine a_callI C [.int s1, .int (1 : Int32)] me_yX12_throwsIf lk_RX12_72 (ct_M_throwsIf h) (by decide) lm0 rfl rfl rfl (Nat.le_of_ble_eq_true rfl) (tk T_cX12_holds 18 rfl) hr (fun r1 M1 h => ?_)
  refine a_if_eq C 40 (tk T_cX12_holds 19 rfl) rfl (fun c => ?_) (fun c => ?_)
  · have h := h.1 c
    refine a_aload_n C (tk T_cX12_holds 22 rfl) rfl ?_
    refine a_callV C [] me_yX12_spans lk_RX12_197 (ct_M_spans h) (by decide) lm0 rfl rfl rfl (Nat.le_of_ble_eq_true rfl) (tk T_cX12_holds 23 rfl) hr (fun M2 h => ?_)
    refine a_aload_n C (tk T_cX12_holds 24 rfl) rfl ?_
    refine a_iload_n C (tk T_cX12_holds 25 rfl) rfl ?_
    refine a_callV C [.int x2] me_yX12_findsSets lk_RX12_220 (ct_M_findsSets h) (by decide) lm0 rfl rfl rfl (Nat.le_of_ble_eq_true rfl) (tk T_cX12_holds 26 rfl) hr (fun M3 h => ?_)
    refine a_iconst C (0 : Int32) (tk T_cX12_holds 27 rfl) kI_0 ?_
    refine a_istore_n C (tk T_cX12_holds 28 rfl) (by decide) rfl ?_
    refine a_iconst C (0 : Int32) (tk T_cX12_holds 29 rfl) kI_0 ?_
    refine a_istore C (tk T_cX12_holds 30 rfl) (by decide) rfl ?_
    obtain ⟨n1, h⟩ := h
    exact a_to (k_M_holds_54 C hr hR n1 x1 x2 (0 : Int32) (0 : Int32) M3 h) rfl
  · have h := h.2 c
    refine a_iconst C (0 : Int32) (tk T_cX12_holds 20 rfl) kI_0 ?_
    exact hR _ _ _ _ (tk T_cX12_holds 21 rfl) ⟨Or.inl rfl, h⟩
def P_M_holds_26 (post : Int32 → Mem → Prop) (x1 x2 : Int32) (M : Mem) : Prop :=
  P_M_holds_31 post x1 x2 (1 : Int32) M
theorem k_M_holds_26 {X : FX} {g : GT} {A : Nat → Prop} {Z : State → Prop} {post : Int32 → Mem → Prop} (C : Cx X g layM A cX12_holds 9 RX12 7) (hr : 0 ≤ X.2.2.2.1.cells ∧ 0 ≤ X.2.2.2.1.slots) (hR : RetZ X g layM A cX12_holds 9 0 0 Z post) (x1 x2 : Int32) (M : Mem) (h : P_M_holds_26 post x1 x2 M) : AtX X g layM A 9 0 0 Z 26 [(0, .ref (ad g 0)), (1, .int x1), (2, .int x2)] [.ref (ad g 0)] M := by
  refine a_iconst C (1 : Int32) (tk T_cX12_holds 14 rfl) kI_1 ?_
  refine a_goto C 31 (tk T_cX12_holds 15 rfl) rfl ?_
  exact a_to (k_M_holds_31 C hr hR x1 x2 (1 : Int32) M h) rfl
def P_M_holds (post : Int32 → Mem → Prop) (x1 x2 : Int32) (M : Mem) : Prop :=
  ∀ M1, M1 = ms M 0 0 (0 : Int32) → P_M_none (fun r2 M2 =>
  (¬ r2 = 0 → (P_M_holds_26 post x1 x2 M2)) ∧
  (r2 = 0 → (P_M_none (fun r3 M3 =>
  (r3 = 0 → (P_M_holds_31 post x1 x2 (0 : Int32) M3)) ∧
  (¬ r3 = 0 → (P_M_holds_26 post x1 x2 M3))) x2 (8 : Int32) M2))) x1 (10 : Int32) M1
theorem k_M_holds {X : FX} {g : GT} {A : Nat → Prop} {Z : State → Prop} {post : Int32 → Mem → Prop} (C : Cx X g layM A cX12_holds 9 RX12 7) (hr : 0 ≤ X.2.2.2.1.cells ∧ 0 ≤ X.2.2.2.1.slots) (hR : RetZ X g layM A cX12_holds 9 0 0 Z post) (x1 x2 : Int32) (M : Mem) (h : P_M_holds post x1 x2 M) : AtX X g layM A 9 0 0 Z 0 [(0, .ref (ad g 0)), (1, .int x1), (2, .int x2)] [] M := by
  refine a_aload_n C (tk T_cX12_holds 0 rfl) rfl ?_
  refine a_iconst C (0 : Int32) (tk T_cX12_holds 1 rfl) kI_0 ?_
  refine a_put C f_RX12_3 f_RX12_3p rfl rfl (tk T_cX12_holds 2 rfl) lm0 rfl ?_
  refine a_mem (fun M1 e_M1 => ?_)
  have h := h M1 e_M1
  refine a_aload_n C (tk T_cX12_holds 3 rfl) rfl ?_
  refine a_aload_n C (tk T_cX12_holds 4 rfl) rfl ?_
  refine a_iload_n C (tk T_cX12_holds 5 rfl) rfl ?_
  refine a_bipush C (10 : Int32) (tk T_cX12_holds 6 rfl) kB_10 ?_
  refine a_callI C [.int x1, .int (10 : Int32)] me_yX12_none lk_RX12_121 (ct_M_none h) (by decide) lm0 rfl rfl rfl (Nat.le_of_ble_eq_true rfl) (tk T_cX12_holds 7 rfl) hr (fun r2 M2 h => ?_)
  refine a_if_ne C 26 (tk T_cX12_holds 8 rfl) rfl (fun c => ?_) (fun c => ?_)
  · have h := h.1 c
    exact a_to (k_M_holds_26 C hr hR x1 x2 M2 h) rfl
  · have h := h.2 c
    refine a_aload_n C (tk T_cX12_holds 9 rfl) rfl ?_
    refine a_iload_n C (tk T_cX12_holds 10 rfl) rfl ?_
    refine a_bipush C (8 : Int32) (tk T_cX12_holds 11 rfl) kB_8 ?_
    refine a_callI C [.int x2, .int (8 : Int32)] me_yX12_none lk_RX12_121 (ct_M_none h) (by decide) lm0 rfl rfl rfl (Nat.le_of_ble_eq_true rfl) (tk T_cX12_holds 12 rfl) hr (fun r3 M3 h => ?_)
    refine a_if_eq C 30 (tk T_cX12_holds 13 rfl) rfl (fun c => ?_) (fun c => ?_)
    · have h := h.1 c
      refine a_iconst C (0 : Int32) (tk T_cX12_holds 16 rfl) kI_0 ?_
      exact a_to (k_M_holds_31 C hr hR x1 x2 (0 : Int32) M3 h) rfl
    · have h := h.2 c
      exact a_to (k_M_holds_26 C hr hR x1 x2 M3 h) rfl
theorem ct_M_holds {l : Launch} {g : GT} {post : Int32 → Mem → Prop} {x1 x2 : Int32} {M : Mem} (h : P_M_holds post x1 x2 M) : CI l g layM yX12_holds cX12_holds 9 (some .boolean) 7 [.ref (ad g 0), .int x1, .int x2] M post :=
  cz_of (plainFor_of_name (by decide +kernel)) (Nat.le_of_ble_eq_true rfl) (fun X A Z hl C hr hR => by subst hl; exact k_M_holds C hr hR x1 x2 M h)
def T_cX12_countL : List (Nat × Instr × Nat) := [(0, .aload_n 0, 1), (1, .iconst 0, 1), (2, .putfield 3, 3), (5, .iconst 0, 1), (6, .istore_n 2, 1), (7, .iload_n 1, 1), (8, .tableswitch 220 0 10 #[60, 67, 75, 83, 112, 120, 125, 159, 167, 174, 212], 60), (68, .aload_n 0, 1), (69, .getfield 13, 3), (72, .iconst 5, 1), (73, .iaload, 1), (74, .ireturn, 1), (75, .aload_n 0, 1), (76, .getfield 13, 3), (79, .bipush 6, 2), (81, .iaload, 1), (82, .ireturn, 1), (83, .aload_n 0, 1), (84, .getfield 13, 3), (87, .bipush 7, 2), (89, .iaload, 1), (90, .ireturn, 1), (91, .iconst 0, 1), (92, .istore_n 3, 1), (93, .iload_n 3, 1), (94, .aload_n 0, 1), (95, .getfield 13, 3), (98, .bipush 7, 2), (100, .iaload, 1), (101, .if_icmp .ge 17, 3), (104, .iload_n 2, 1), (105, .aload_n 0, 1), (106, .iload_n 3, 1), (107, .invokevirtual 125, 3), (110, .iadd, 1), (111, .istore_n 2, 1), (112, .iinc 3 1, 3), (115, .goto (-22), 3), (118, .iload_n 2, 1), (119, .ireturn, 1), (120, .aload_n 0, 1), (121, .getfield 13, 3), (124, .bipush 8, 2), (126, .iaload, 1), (127, .ireturn, 1), (128, .aload_n 0, 1), (129, .invokevirtual 128, 3), (132, .ireturn, 1), (133, .iconst 0, 1), (134, .istore_n 3, 1), (135, .iload_n 3, 1), (136, .aload_n 0, 1), (137, .invokevirtual 128, 3), (140, .if_icmp .ge 25, 3), (143, .iload_n 2, 1), (144, .aload_n 0, 1), (145, .iload_n 3, 1), (146, .invokevirtual 145, 3), (149, .ifCond .eq 7, 3), (152, .iconst 1, 1), (153, .goto 4, 3), (156, .iconst 0, 1), (157, .iadd, 1), (158, .istore_n 2, 1), (159, .iinc 3 1, 3), (162, .goto (-27), 3), (165, .iload_n 2, 1), (166, .ireturn, 1), (167, .aload_n 0, 1), (168, .getfield 13, 3), (171, .bipush 10, 2), (173, .iaload, 1), (174, .ireturn, 1), (175, .aload_n 0, 1), (176, .getfield 13, 3), (179, .iconst 4, 1), (180, .iaload, 1), (181, .ireturn, 1), (182, .aload_n 0, 1), (183, .invokevirtual 197, 3), (186, .iconst 0, 1), (187, .istore_n 3, 1), (188, .iload_n 3, 1), (189, .aload_n 0, 1), (190, .invokevirtual 128, 3), (193, .if_icmp .ge 25, 3), (196, .iload_n 2, 1), (197, .aload_n 0, 1), (198, .iload_n 3, 1), (199, .invokevirtual 142, 3), (202, .ifCond .eq 7, 3), (205, .iconst 1, 1), (206, .goto 4, 3), (209, .iconst 0, 1), (210, .iadd, 1), (211, .istore_n 2, 1), (212, .iinc 3 1, 3), (215, .goto (-27), 3), (218, .iload_n 2, 1), (219, .ireturn, 1), (220, .aload_n 0, 1), (221, .getfield 13, 3), (224, .bipush 11, 2), (226, .iaload, 1), (227, .ireturn, 1), (228, .iconst (-1), 1), (229, .ireturn, 1)]
theorem T_cX12_count : tabOK cX12_count T_cX12_countL = true := by decide +kernel
def P_M_count_210 (post : Int32 → Mem → Prop) (R188 : Int32 → Int32 → Mem → Prop) (x3 s0 s1 : Int32) (M : Mem) : Prop :=
  ∀ x2_1, x2_1 = (s0 + s1) → R188 x2_1 (x3 + (1 : Int32)) M
theorem k_M_count_210 {X : FX} {g : GT} {A : Nat → Prop} {Z : State → Prop} {post : Int32 → Mem → Prop} {R188 : Int32 → Int32 → Mem → Prop} (C : Cx X g layM A cX12_count 4 RX12 5) (hr : 0 ≤ X.2.2.2.1.cells ∧ 0 ≤ X.2.2.2.1.slots) (hR : RetI X g layM A cX12_count 4 0 0 Z post) (k188 : ∀ (y2 y3 : Int32) (M : Mem), R188 y2 y3 M → AtX X g layM A 4 0 0 Z 188 [(0, .ref (ad g 0)), (2, .int y2), (3, .int y3)] [] M) (x3 s0 s1 : Int32) (M : Mem) (h : P_M_count_210 post R188 x3 s0 s1 M) : AtX X g layM A 4 0 0 Z 210 [(0, .ref (ad g 0)), (3, .int x3)] [.int s1, .int s0] M := by
  refine a_iadd C (tk T_cX12_count 94 rfl) ?_
  refine a_top (fun x2_1 e_x2_1 => ?_)
  have h := h x2_1 e_x2_1
  refine a_istore_n C (tk T_cX12_count 95 rfl) (by decide) rfl ?_
  refine a_iinc C (1 : Int32) (tk T_cX12_count 96 rfl) rfl kI_1 (by decide) rfl ?_
  refine a_goto C 188 (tk T_cX12_count 97 rfl) rfl ?_
  exact a_to (k188 x2_1 (x3 + (1 : Int32)) M h) rfl
def P_M_count_188 (post : Int32 → Mem → Prop) : Nat → Int32 → Int32 → Mem → Prop
  | 0, _, _, _ => False
  | n + 1, x2, x3, M =>
    P_M_readings (fun r1 M1 =>
  (r1 ≤ x3 → (post x2 M1)) ∧
  (¬ r1 ≤ x3 → (P_M_hasSpan (fun r2 M2 =>
  (r2 = 0 → (P_M_count_210 post (P_M_count_188 post n) x3 x2 (0 : Int32) M2)) ∧
  (¬ r2 = 0 → (P_M_count_210 post (P_M_count_188 post n) x3 x2 (1 : Int32) M2))) x3 M1))) M
theorem k_M_count_188 {X : FX} {g : GT} {A : Nat → Prop} {Z : State → Prop} {post : Int32 → Mem → Prop} (C : Cx X g layM A cX12_count 4 RX12 5) (hr : 0 ≤ X.2.2.2.1.cells ∧ 0 ≤ X.2.2.2.1.slots) (hR : RetI X g layM A cX12_count 4 0 0 Z post) : ∀ (n : Nat) (x2 x3 : Int32) (M : Mem), P_M_count_188 post n x2 x3 M → AtX X g layM A 4 0 0 Z 188 [(0, .ref (ad g 0)), (2, .int x2), (3, .int x3)] [] M := by
  intro n
  induction n with
  | zero =>
    intro x2 x3 M h
    exact h.elim
  | succ n ih =>
    intro x2 x3 M h
    refine a_iload_n C (tk T_cX12_count 82 rfl) rfl ?_
    refine a_aload_n C (tk T_cX12_count 83 rfl) rfl ?_
    refine a_callI C [] me_yX12_readings lk_RX12_128 (ct_M_readings h) (by decide) lm0 rfl rfl rfl (Nat.le_of_ble_eq_true rfl) (tk T_cX12_count 84 rfl) hr (fun r1 M1 h => ?_)
    refine a_icmp_ge C 218 (tk T_cX12_count 85 rfl) rfl (fun c => ?_) (fun c => ?_)
    · have h := h.1 c
      refine a_iload_n C (tk T_cX12_count 98 rfl) rfl ?_
      exact hR _ _ _ _ (tk T_cX12_count 99 rfl) h
    · have h := h.2 c
      refine a_iload_n C (tk T_cX12_count 86 rfl) rfl ?_
      refine a_aload_n C (tk T_cX12_count 87 rfl) rfl ?_
      refine a_iload_n C (tk T_cX12_count 88 rfl) rfl ?_
      refine a_callI C [.int x3] me_yX12_hasSpan lk_RX12_142 (ct_M_hasSpan h) (by decide) lm0 rfl rfl rfl (Nat.le_of_ble_eq_true rfl) (tk T_cX12_count 89 rfl) hr (fun r2 M2 h => ?_)
      refine a_if_eq C 209 (tk T_cX12_count 90 rfl) rfl (fun c => ?_) (fun c => ?_)
      · have h := h.1 c
        refine a_iconst C (0 : Int32) (tk T_cX12_count 93 rfl) kI_0 ?_
        exact a_to (k_M_count_210 C hr hR ih x3 x2 (0 : Int32) M2 h) rfl
      · have h := h.2 c
        refine a_iconst C (1 : Int32) (tk T_cX12_count 91 rfl) kI_1 ?_
        refine a_goto C 210 (tk T_cX12_count 92 rfl) rfl ?_
        exact a_to (k_M_count_210 C hr hR ih x3 x2 (1 : Int32) M2 h) rfl
def P_M_count_157 (post : Int32 → Mem → Prop) (R135 : Int32 → Int32 → Mem → Prop) (x3 s0 s1 : Int32) (M : Mem) : Prop :=
  ∀ x2_1, x2_1 = (s0 + s1) → R135 x2_1 (x3 + (1 : Int32)) M
theorem k_M_count_157 {X : FX} {g : GT} {A : Nat → Prop} {Z : State → Prop} {post : Int32 → Mem → Prop} {R135 : Int32 → Int32 → Mem → Prop} (C : Cx X g layM A cX12_count 4 RX12 5) (hr : 0 ≤ X.2.2.2.1.cells ∧ 0 ≤ X.2.2.2.1.slots) (hR : RetI X g layM A cX12_count 4 0 0 Z post) (k135 : ∀ (y2 y3 : Int32) (M : Mem), R135 y2 y3 M → AtX X g layM A 4 0 0 Z 135 [(0, .ref (ad g 0)), (2, .int y2), (3, .int y3)] [] M) (x3 s0 s1 : Int32) (M : Mem) (h : P_M_count_157 post R135 x3 s0 s1 M) : AtX X g layM A 4 0 0 Z 157 [(0, .ref (ad g 0)), (3, .int x3)] [.int s1, .int s0] M := by
  refine a_iadd C (tk T_cX12_count 62 rfl) ?_
  refine a_top (fun x2_1 e_x2_1 => ?_)
  have h := h x2_1 e_x2_1
  refine a_istore_n C (tk T_cX12_count 63 rfl) (by decide) rfl ?_
  refine a_iinc C (1 : Int32) (tk T_cX12_count 64 rfl) rfl kI_1 (by decide) rfl ?_
  refine a_goto C 135 (tk T_cX12_count 65 rfl) rfl ?_
  exact a_to (k135 x2_1 (x3 + (1 : Int32)) M h) rfl
def P_M_count_135 (post : Int32 → Mem → Prop) : Nat → Int32 → Int32 → Mem → Prop
  | 0, _, _, _ => False
  | n + 1, x2, x3, M =>
    P_M_readings (fun r1 M1 =>
  (r1 ≤ x3 → (post x2 M1)) ∧
  (¬ r1 ≤ x3 → (P_M_isGhost (fun r2 M2 =>
  (r2 = 0 → (P_M_count_157 post (P_M_count_135 post n) x3 x2 (0 : Int32) M2)) ∧
  (¬ r2 = 0 → (P_M_count_157 post (P_M_count_135 post n) x3 x2 (1 : Int32) M2))) x3 M1))) M
theorem k_M_count_135 {X : FX} {g : GT} {A : Nat → Prop} {Z : State → Prop} {post : Int32 → Mem → Prop} (C : Cx X g layM A cX12_count 4 RX12 5) (hr : 0 ≤ X.2.2.2.1.cells ∧ 0 ≤ X.2.2.2.1.slots) (hR : RetI X g layM A cX12_count 4 0 0 Z post) : ∀ (n : Nat) (x2 x3 : Int32) (M : Mem), P_M_count_135 post n x2 x3 M → AtX X g layM A 4 0 0 Z 135 [(0, .ref (ad g 0)), (2, .int x2), (3, .int x3)] [] M := by
  intro n
  induction n with
  | zero =>
    intro x2 x3 M h
    exact h.elim
  | succ n ih =>
    intro x2 x3 M h
    refine a_iload_n C (tk T_cX12_count 50 rfl) rfl ?_
    refine a_aload_n C (tk T_cX12_count 51 rfl) rfl ?_
    refine a_callI C [] me_yX12_readings lk_RX12_128 (ct_M_readings h) (by decide) lm0 rfl rfl rfl (Nat.le_of_ble_eq_true rfl) (tk T_cX12_count 52 rfl) hr (fun r1 M1 h => ?_)
    refine a_icmp_ge C 165 (tk T_cX12_count 53 rfl) rfl (fun c => ?_) (fun c => ?_)
    · have h := h.1 c
      refine a_iload_n C (tk T_cX12_count 66 rfl) rfl ?_
      exact hR _ _ _ _ (tk T_cX12_count 67 rfl) h
    · have h := h.2 c
      refine a_iload_n C (tk T_cX12_count 54 rfl) rfl ?_
      refine a_aload_n C (tk T_cX12_count 55 rfl) rfl ?_
      refine a_iload_n C (tk T_cX12_count 56 rfl) rfl ?_
      refine a_callI C [.int x3] me_yX12_isGhost lk_RX12_145 (ct_M_isGhost h) (by decide) lm0 rfl rfl rfl (Nat.le_of_ble_eq_true rfl) (tk T_cX12_count 57 rfl) hr (fun r2 M2 h => ?_)
      refine a_if_eq C 156 (tk T_cX12_count 58 rfl) rfl (fun c => ?_) (fun c => ?_)
      · have h := h.1 c
        refine a_iconst C (0 : Int32) (tk T_cX12_count 61 rfl) kI_0 ?_
        exact a_to (k_M_count_157 C hr hR ih x3 x2 (0 : Int32) M2 h) rfl
      · have h := h.2 c
        refine a_iconst C (1 : Int32) (tk T_cX12_count 59 rfl) kI_1 ?_
        refine a_goto C 157 (tk T_cX12_count 60 rfl) rfl ?_
        exact a_to (k_M_count_157 C hr hR ih x3 x2 (1 : Int32) M2 h) rfl
def P_M_count_93 (post : Int32 → Mem → Prop) : Nat → Int32 → Int32 → Mem → Prop
  | 0, _, _, _ => False
  | n + 1, x2, x3, M =>
    vp_in (7 : Int32) 5966 ∧ ((M 1 (7 : Int32).toNatClampNeg) ≤ x3 → (post x2 M)) ∧
  (¬ (M 1 (7 : Int32).toNatClampNeg) ≤ x3 → (P_M_lines (fun r1 M1 =>
  ∀ x2_2, x2_2 = (x2 + r1) → P_M_count_93 post n x2_2 (x3 + (1 : Int32)) M1) x3 M))
theorem k_M_count_93 {X : FX} {g : GT} {A : Nat → Prop} {Z : State → Prop} {post : Int32 → Mem → Prop} (C : Cx X g layM A cX12_count 4 RX12 5) (hr : 0 ≤ X.2.2.2.1.cells ∧ 0 ≤ X.2.2.2.1.slots) (hR : RetI X g layM A cX12_count 4 0 0 Z post) : ∀ (n : Nat) (x2 x3 : Int32) (M : Mem), P_M_count_93 post n x2 x3 M → AtX X g layM A 4 0 0 Z 93 [(0, .ref (ad g 0)), (2, .int x2), (3, .int x3)] [] M := by
  intro n
  induction n with
  | zero =>
    intro x2 x3 M h
    exact h.elim
  | succ n ih =>
    intro x2 x3 M h
    refine a_iload_n C (tk T_cX12_count 24 rfl) rfl ?_
    refine a_aload_n C (tk T_cX12_count 25 rfl) rfl ?_
    refine a_getR C f_RX12_13 (tk T_cX12_count 26 rfl) lm0 rfl ?_
    refine a_bipush C (7 : Int32) (tk T_cX12_count 27 rfl) kB_7 ?_
    obtain ⟨hb, h⟩ := h
    refine a_iald C (tk T_cX12_count 28 rfl) lm1 hb ?_
    refine a_icmp_ge C 118 (tk T_cX12_count 29 rfl) rfl (fun c => ?_) (fun c => ?_)
    · have h := h.1 c
      refine a_iload_n C (tk T_cX12_count 38 rfl) rfl ?_
      exact hR _ _ _ _ (tk T_cX12_count 39 rfl) h
    · have h := h.2 c
      refine a_iload_n C (tk T_cX12_count 30 rfl) rfl ?_
      refine a_aload_n C (tk T_cX12_count 31 rfl) rfl ?_
      refine a_iload_n C (tk T_cX12_count 32 rfl) rfl ?_
      refine a_callI C [.int x3] me_yX12_lines lk_RX12_125 (ct_M_lines h) (by decide) lm0 rfl rfl rfl (Nat.le_of_ble_eq_true rfl) (tk T_cX12_count 33 rfl) hr (fun r1 M1 h => ?_)
      refine a_iadd C (tk T_cX12_count 34 rfl) ?_
      refine a_top (fun x2_2 e_x2_2 => ?_)
      have h := h x2_2 e_x2_2
      refine a_istore_n C (tk T_cX12_count 35 rfl) (by decide) rfl ?_
      refine a_iinc C (1 : Int32) (tk T_cX12_count 36 rfl) rfl kI_1 (by decide) rfl ?_
      refine a_goto C 93 (tk T_cX12_count 37 rfl) rfl ?_
      exact a_to (ih x2_2 (x3 + (1 : Int32)) M1 h) rfl
def P_M_count (post : Int32 → Mem → Prop) (x1 : Int32) (M : Mem) : Prop :=
  ∀ M1, M1 = ms M 0 0 (0 : Int32) → (x1 = (0 : Int32) → (vp_in (5 : Int32) 5966 ∧ post (M1 1 (5 : Int32).toNatClampNeg) M1)) ∧
  (¬ x1 = (0 : Int32) → (x1 = (1 : Int32) → (vp_in (6 : Int32) 5966 ∧ post (M1 1 (6 : Int32).toNatClampNeg) M1)) ∧
  (¬ x1 = (1 : Int32) → (x1 = (2 : Int32) → (vp_in (7 : Int32) 5966 ∧ post (M1 1 (7 : Int32).toNatClampNeg) M1)) ∧
  (¬ x1 = (2 : Int32) → (x1 = (3 : Int32) → (∃ j93, P_M_count_93 post j93 (0 : Int32) (0 : Int32) M1)) ∧
  (¬ x1 = (3 : Int32) → (x1 = (4 : Int32) → (vp_in (8 : Int32) 5966 ∧ post (M1 1 (8 : Int32).toNatClampNeg) M1)) ∧
  (¬ x1 = (4 : Int32) → (x1 = (5 : Int32) → (P_M_readings (fun r2 M2 =>
  post r2 M2) M1)) ∧
  (¬ x1 = (5 : Int32) → (x1 = (6 : Int32) → (∃ j135, P_M_count_135 post j135 (0 : Int32) (0 : Int32) M1)) ∧
  (¬ x1 = (6 : Int32) → (x1 = (7 : Int32) → (vp_in (10 : Int32) 5966 ∧ post (M1 1 (10 : Int32).toNatClampNeg) M1)) ∧
  (¬ x1 = (7 : Int32) → (x1 = (8 : Int32) → (vp_in (4 : Int32) 5966 ∧ post (M1 1 (4 : Int32).toNatClampNeg) M1)) ∧
  (¬ x1 = (8 : Int32) → (x1 = (9 : Int32) → (P_M_spans (fun M3 =>
  ∃ j188, P_M_count_188 post j188 (0 : Int32) (0 : Int32) M3) M1)) ∧
  (¬ x1 = (9 : Int32) → (x1 = (10 : Int32) → (vp_in (11 : Int32) 5966 ∧ post (M1 1 (11 : Int32).toNatClampNeg) M1)) ∧
  (¬ x1 = (10 : Int32) → (post (-1 : Int32) M1))))))))))))
theorem k_M_count {X : FX} {g : GT} {A : Nat → Prop} {Z : State → Prop} {post : Int32 → Mem → Prop} (C : Cx X g layM A cX12_count 4 RX12 5) (hr : 0 ≤ X.2.2.2.1.cells ∧ 0 ≤ X.2.2.2.1.slots) (hR : RetI X g layM A cX12_count 4 0 0 Z post) (x1 : Int32) (M : Mem) (h : P_M_count post x1 M) : AtX X g layM A 4 0 0 Z 0 [(0, .ref (ad g 0)), (1, .int x1)] [] M := by
  refine a_aload_n C (tk T_cX12_count 0 rfl) rfl ?_
  refine a_iconst C (0 : Int32) (tk T_cX12_count 1 rfl) kI_0 ?_
  refine a_put C f_RX12_3 f_RX12_3p rfl rfl (tk T_cX12_count 2 rfl) lm0 rfl ?_
  refine a_mem (fun M1 e_M1 => ?_)
  have h := h M1 e_M1
  refine a_iconst C (0 : Int32) (tk T_cX12_count 3 rfl) kI_0 ?_
  refine a_istore_n C (tk T_cX12_count 4 rfl) (by decide) rfl ?_
  refine a_iload_n C (tk T_cX12_count 5 rfl) rfl ?_
  refine a_case (0 : Int32) (fun c => ?_) (fun c0 => ?_)
  · have h := h.1 c
    refine a_tswI C (60) 68 (tk T_cX12_count 6 rfl) (by decide) rfl ?_
    refine a_aload_n C (tk T_cX12_count 7 rfl) rfl ?_
    refine a_getR C f_RX12_13 (tk T_cX12_count 8 rfl) lm0 rfl ?_
    refine a_iconst C (5 : Int32) (tk T_cX12_count 9 rfl) kI_5 ?_
    obtain ⟨hb, h⟩ := h
    refine a_iald C (tk T_cX12_count 10 rfl) lm1 hb ?_
    exact hR _ _ _ _ (tk T_cX12_count 11 rfl) h
  · have h := h.2 c0
    refine a_case (1 : Int32) (fun c => ?_) (fun c1 => ?_)
    · have h := h.1 c
      refine a_tswI C (67) 75 (tk T_cX12_count 6 rfl) (by decide) rfl ?_
      refine a_aload_n C (tk T_cX12_count 12 rfl) rfl ?_
      refine a_getR C f_RX12_13 (tk T_cX12_count 13 rfl) lm0 rfl ?_
      refine a_bipush C (6 : Int32) (tk T_cX12_count 14 rfl) kB_6 ?_
      obtain ⟨hb, h⟩ := h
      refine a_iald C (tk T_cX12_count 15 rfl) lm1 hb ?_
      exact hR _ _ _ _ (tk T_cX12_count 16 rfl) h
    · have h := h.2 c1
      refine a_case (2 : Int32) (fun c => ?_) (fun c2 => ?_)
      · have h := h.1 c
        refine a_tswI C (75) 83 (tk T_cX12_count 6 rfl) (by decide) rfl ?_
        refine a_aload_n C (tk T_cX12_count 17 rfl) rfl ?_
        refine a_getR C f_RX12_13 (tk T_cX12_count 18 rfl) lm0 rfl ?_
        refine a_bipush C (7 : Int32) (tk T_cX12_count 19 rfl) kB_7 ?_
        obtain ⟨hb, h⟩ := h
        refine a_iald C (tk T_cX12_count 20 rfl) lm1 hb ?_
        exact hR _ _ _ _ (tk T_cX12_count 21 rfl) h
      · have h := h.2 c2
        refine a_case (3 : Int32) (fun c => ?_) (fun c3 => ?_)
        · have h := h.1 c
          refine a_tswI C (83) 91 (tk T_cX12_count 6 rfl) (by decide) rfl ?_
          refine a_iconst C (0 : Int32) (tk T_cX12_count 22 rfl) kI_0 ?_
          refine a_istore_n C (tk T_cX12_count 23 rfl) (by decide) rfl ?_
          obtain ⟨n1, h⟩ := h
          exact a_to (k_M_count_93 C hr hR n1 (0 : Int32) (0 : Int32) M1 h) rfl
        · have h := h.2 c3
          refine a_case (4 : Int32) (fun c => ?_) (fun c4 => ?_)
          · have h := h.1 c
            refine a_tswI C (112) 120 (tk T_cX12_count 6 rfl) (by decide) rfl ?_
            refine a_aload_n C (tk T_cX12_count 40 rfl) rfl ?_
            refine a_getR C f_RX12_13 (tk T_cX12_count 41 rfl) lm0 rfl ?_
            refine a_bipush C (8 : Int32) (tk T_cX12_count 42 rfl) kB_8 ?_
            obtain ⟨hb, h⟩ := h
            refine a_iald C (tk T_cX12_count 43 rfl) lm1 hb ?_
            exact hR _ _ _ _ (tk T_cX12_count 44 rfl) h
          · have h := h.2 c4
            refine a_case (5 : Int32) (fun c => ?_) (fun c5 => ?_)
            · have h := h.1 c
              refine a_tswI C (120) 128 (tk T_cX12_count 6 rfl) (by decide) rfl ?_
              refine a_aload_n C (tk T_cX12_count 45 rfl) rfl ?_
              refine a_callI C [] me_yX12_readings lk_RX12_128 (ct_M_readings h) (by decide) lm0 rfl rfl rfl (Nat.le_of_ble_eq_true rfl) (tk T_cX12_count 46 rfl) hr (fun r2 M2 h => ?_)
              exact hR _ _ _ _ (tk T_cX12_count 47 rfl) h
            · have h := h.2 c5
              refine a_case (6 : Int32) (fun c => ?_) (fun c6 => ?_)
              · have h := h.1 c
                refine a_tswI C (125) 133 (tk T_cX12_count 6 rfl) (by decide) rfl ?_
                refine a_iconst C (0 : Int32) (tk T_cX12_count 48 rfl) kI_0 ?_
                refine a_istore_n C (tk T_cX12_count 49 rfl) (by decide) rfl ?_
                obtain ⟨n1, h⟩ := h
                exact a_to (k_M_count_135 C hr hR n1 (0 : Int32) (0 : Int32) M1 h) rfl
              · have h := h.2 c6
                refine a_case (7 : Int32) (fun c => ?_) (fun c7 => ?_)
                · have h := h.1 c
                  refine a_tswI C (159) 167 (tk T_cX12_count 6 rfl) (by decide) rfl ?_
                  refine a_aload_n C (tk T_cX12_count 68 rfl) rfl ?_
                  refine a_getR C f_RX12_13 (tk T_cX12_count 69 rfl) lm0 rfl ?_
                  refine a_bipush C (10 : Int32) (tk T_cX12_count 70 rfl) kB_10 ?_
                  obtain ⟨hb, h⟩ := h
                  refine a_iald C (tk T_cX12_count 71 rfl) lm1 hb ?_
                  exact hR _ _ _ _ (tk T_cX12_count 72 rfl) h
                · have h := h.2 c7
                  refine a_case (8 : Int32) (fun c => ?_) (fun c8 => ?_)
                  · have h := h.1 c
                    refine a_tswI C (167) 175 (tk T_cX12_count 6 rfl) (by decide) rfl ?_
                    refine a_aload_n C (tk T_cX12_count 73 rfl) rfl ?_
                    refine a_getR C f_RX12_13 (tk T_cX12_count 74 rfl) lm0 rfl ?_
                    refine a_iconst C (4 : Int32) (tk T_cX12_count 75 rfl) kI_4 ?_
                    obtain ⟨hb, h⟩ := h
                    refine a_iald C (tk T_cX12_count 76 rfl) lm1 hb ?_
                    exact hR _ _ _ _ (tk T_cX12_count 77 rfl) h
                  · have h := h.2 c8
                    refine a_case (9 : Int32) (fun c => ?_) (fun c9 => ?_)
                    · have h := h.1 c
                      refine a_tswI C (174) 182 (tk T_cX12_count 6 rfl) (by decide) rfl ?_
                      refine a_aload_n C (tk T_cX12_count 78 rfl) rfl ?_
                      refine a_callV C [] me_yX12_spans lk_RX12_197 (ct_M_spans h) (by decide) lm0 rfl rfl rfl (Nat.le_of_ble_eq_true rfl) (tk T_cX12_count 79 rfl) hr (fun M3 h => ?_)
                      refine a_iconst C (0 : Int32) (tk T_cX12_count 80 rfl) kI_0 ?_
                      refine a_istore_n C (tk T_cX12_count 81 rfl) (by decide) rfl ?_
                      obtain ⟨n1, h⟩ := h
                      exact a_to (k_M_count_188 C hr hR n1 (0 : Int32) (0 : Int32) M3 h) rfl
                    · have h := h.2 c9
                      refine a_case (10 : Int32) (fun c => ?_) (fun c10 => ?_)
                      · have h := h.1 c
                        refine a_tswI C (212) 220 (tk T_cX12_count 6 rfl) (by decide) rfl ?_
                        refine a_aload_n C (tk T_cX12_count 100 rfl) rfl ?_
                        refine a_getR C f_RX12_13 (tk T_cX12_count 101 rfl) lm0 rfl ?_
                        refine a_bipush C (11 : Int32) (tk T_cX12_count 102 rfl) kB_11 ?_
                        obtain ⟨hb, h⟩ := h
                        refine a_iald C (tk T_cX12_count 103 rfl) lm1 hb ?_
                        exact hR _ _ _ _ (tk T_cX12_count 104 rfl) h
                      · have h := h.2 c10
                        have d0 := ne_toInt (z := 0) c0 (by decide)
                        have d1 := ne_toInt (z := 1) c1 (by decide)
                        have d2 := ne_toInt (z := 2) c2 (by decide)
                        have d3 := ne_toInt (z := 3) c3 (by decide)
                        have d4 := ne_toInt (z := 4) c4 (by decide)
                        have d5 := ne_toInt (z := 5) c5 (by decide)
                        have d6 := ne_toInt (z := 6) c6 (by decide)
                        have d7 := ne_toInt (z := 7) c7 (by decide)
                        have d8 := ne_toInt (z := 8) c8 (by decide)
                        have d9 := ne_toInt (z := 9) c9 (by decide)
                        have d10 := ne_toInt (z := 10) c10 (by decide)
                        refine a_tswO C 228 (tk T_cX12_count 6 rfl) (by omega) rfl ?_
                        refine a_iconst C (-1 : Int32) (tk T_cX12_count 105 rfl) kI_m1 ?_
                        exact hR _ _ _ _ (tk T_cX12_count 106 rfl) h
theorem ct_M_count {l : Launch} {g : GT} {post : Int32 → Mem → Prop} {x1 : Int32} {M : Mem} (h : P_M_count post x1 M) : CI l g layM yX12_count cX12_count 4 (some .int) 5 [.ref (ad g 0), .int x1] M post :=
  ci_of (plainFor_of_name (by decide +kernel)) (Nat.le_of_ble_eq_true rfl) (fun X A Z hl C hr hR => by subst hl; exact k_M_count C hr hR x1 M h)
