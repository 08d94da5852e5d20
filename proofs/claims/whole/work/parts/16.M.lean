def T_cX12_endL : List (Nat × Instr × Nat) := [(0, .aload_n 0, 1), (1, .iconst 0, 1), (2, .putfield 3, 3), (5, .iload_n 1, 1), (6, .ifCond .lt 11, 3), (9, .iload_n 1, 1), (10, .aload_n 0, 1), (11, .getfield 272, 3), (14, .if_icmp .le 5, 3), (17, .iconst 0, 1), (18, .ireturn, 1), (19, .aload_n 0, 1), (20, .iload_n 1, 1), (21, .putfield 272, 3), (24, .iconst 1, 1), (25, .ireturn, 1)]
theorem T_cX12_end : tabOK cX12_end T_cX12_endL = true := by decide +kernel
def P_M_end_17 (post : Int32 → Mem → Prop) (M : Mem) : Prop :=
  post (0 : Int32) M
theorem k_M_end_17 {X : FX} {g : GT} {A : Nat → Prop} {Z : State → Prop} {post : Int32 → Mem → Prop} (C : Cx X g layM A cX12_end 2 RX12 0) (hr : 0 ≤ X.2.2.2.1.cells ∧ 0 ≤ X.2.2.2.1.slots) (hR : RetZ X g layM A cX12_end 2 0 0 Z post)  (M : Mem) (h : P_M_end_17 post M) : AtX X g layM A 2 0 0 Z 17 [] [] M := by
  refine a_iconst C (0 : Int32) (tk T_cX12_end 9 rfl) kI_0 ?_
  exact hR _ _ _ _ (tk T_cX12_end 10 rfl) ⟨Or.inl rfl, h⟩
def P_M_end (post : Int32 → Mem → Prop) (x1 : Int32) (M : Mem) : Prop :=
  ∀ M1, M1 = ms M 0 0 (0 : Int32) → (x1 < 0 → (P_M_end_17 post M1)) ∧
  (¬ x1 < 0 → ((x1 ≤ (M1 0 19) → (∀ M2, M2 = ms M1 0 19 x1 → post (1 : Int32) M2)) ∧
  (¬ x1 ≤ (M1 0 19) → (P_M_end_17 post M1))))
theorem k_M_end {X : FX} {g : GT} {A : Nat → Prop} {Z : State → Prop} {post : Int32 → Mem → Prop} (C : Cx X g layM A cX12_end 2 RX12 0) (hr : 0 ≤ X.2.2.2.1.cells ∧ 0 ≤ X.2.2.2.1.slots) (hR : RetZ X g layM A cX12_end 2 0 0 Z post) (x1 : Int32) (M : Mem) (h : P_M_end post x1 M) : AtX X g layM A 2 0 0 Z 0 [(0, .ref (ad g 0)), (1, .int x1)] [] M := by
  refine a_aload_n C (tk T_cX12_end 0 rfl) rfl ?_
  refine a_iconst C (0 : Int32) (tk T_cX12_end 1 rfl) kI_0 ?_
  refine a_put C f_RX12_3 f_RX12_3p rfl rfl (tk T_cX12_end 2 rfl) lm0 rfl ?_
  refine a_mem (fun M1 e_M1 => ?_)
  have h := h M1 e_M1
  refine a_iload_n C (tk T_cX12_end 3 rfl) rfl ?_
  refine a_if_lt C 17 (tk T_cX12_end 4 rfl) rfl (fun c => ?_) (fun c => ?_)
  · have h := h.1 c
    exact a_to (k_M_end_17 C hr hR M1 h) rfl
  · have h := h.2 c
    refine a_iload_n C (tk T_cX12_end 5 rfl) rfl ?_
    refine a_aload_n C (tk T_cX12_end 6 rfl) rfl ?_
    refine a_getI C f_RX12_272 (tk T_cX12_end 7 rfl) lm0 rfl ?_
    refine a_icmp_le C 19 (tk T_cX12_end 8 rfl) rfl (fun c => ?_) (fun c => ?_)
    · have h := h.1 c
      refine a_aload_n C (tk T_cX12_end 11 rfl) rfl ?_
      refine a_iload_n C (tk T_cX12_end 12 rfl) rfl ?_
      refine a_put C f_RX12_272 f_RX12_272p rfl rfl (tk T_cX12_end 13 rfl) lm0 rfl ?_
      refine a_mem (fun M2 e_M2 => ?_)
      have h := h M2 e_M2
      refine a_iconst C (1 : Int32) (tk T_cX12_end 14 rfl) kI_1 ?_
      exact hR _ _ _ _ (tk T_cX12_end 15 rfl) ⟨Or.inr rfl, h⟩
    · have h := h.2 c
      exact a_to (k_M_end_17 C hr hR M1 h) rfl
theorem ct_M_end {l : Launch} {g : GT} {post : Int32 → Mem → Prop} {x1 : Int32} {M : Mem} (h : P_M_end post x1 M) : CI l g layM yX12_end cX12_end 2 (some .boolean) 0 [.ref (ad g 0), .int x1] M post :=
  cz_of (plainFor_of_name (by decide +kernel)) (Nat.le_of_ble_eq_true rfl) (fun X A Z hl C hr hR => by subst hl; exact k_M_end C hr hR x1 M h)
def T_cX12_usesL : List (Nat × Instr × Nat) := [(0, .aload_n 0, 1), (1, .iconst 0, 1), (2, .putfield 3, 3), (5, .aload_n 0, 1), (6, .aload_n 0, 1), (7, .getfield 272, 3), (10, .putfield 275, 3), (13, .aload_n 0, 1), (14, .iconst 0, 1), (15, .putfield 272, 3), (18, .aload_n 0, 1), (19, .iconst 0, 1), (20, .putfield 278, 3), (23, .aload_n 0, 1), (24, .iconst 0, 1), (25, .putfield 281, 3), (28, .aload_n 0, 1), (29, .iconst 0, 1), (30, .putfield 284, 3), (33, .return_, 1)]
theorem T_cX12_uses : tabOK cX12_uses T_cX12_usesL = true := by decide +kernel
def P_M_uses (post : Mem → Prop) (M : Mem) : Prop :=
  ∀ M1, M1 = ms M 0 0 (0 : Int32) → ∀ M2, M2 = ms M1 0 21 (M1 0 19) → ∀ M3, M3 = ms M2 0 19 (0 : Int32) → ∀ M4, M4 = ms M3 0 20 (0 : Int32) → ∀ M5, M5 = ms M4 0 26 (0 : Int32) → ∀ M6, M6 = ms M5 0 23 (0 : Int32) → post M6
theorem k_M_uses {X : FX} {g : GT} {A : Nat → Prop} {Z : State → Prop} {post : Mem → Prop} (C : Cx X g layM A cX12_uses 1 RX12 0) (hr : 0 ≤ X.2.2.2.1.cells ∧ 0 ≤ X.2.2.2.1.slots) (hR : RetV X g layM A cX12_uses 1 0 0 Z post) (M : Mem) (h : P_M_uses post M) : AtX X g layM A 1 0 0 Z 0 [(0, .ref (ad g 0))] [] M := by
  refine a_aload_n C (tk T_cX12_uses 0 rfl) rfl ?_
  refine a_iconst C (0 : Int32) (tk T_cX12_uses 1 rfl) kI_0 ?_
  refine a_put C f_RX12_3 f_RX12_3p rfl rfl (tk T_cX12_uses 2 rfl) lm0 rfl ?_
  refine a_mem (fun M1 e_M1 => ?_)
  have h := h M1 e_M1
  refine a_aload_n C (tk T_cX12_uses 3 rfl) rfl ?_
  refine a_aload_n C (tk T_cX12_uses 4 rfl) rfl ?_
  refine a_getI C f_RX12_272 (tk T_cX12_uses 5 rfl) lm0 rfl ?_
  refine a_put C f_RX12_275 f_RX12_275p rfl rfl (tk T_cX12_uses 6 rfl) lm0 rfl ?_
  refine a_mem (fun M2 e_M2 => ?_)
  have h := h M2 e_M2
  refine a_aload_n C (tk T_cX12_uses 7 rfl) rfl ?_
  refine a_iconst C (0 : Int32) (tk T_cX12_uses 8 rfl) kI_0 ?_
  refine a_put C f_RX12_272 f_RX12_272p rfl rfl (tk T_cX12_uses 9 rfl) lm0 rfl ?_
  refine a_mem (fun M3 e_M3 => ?_)
  have h := h M3 e_M3
  refine a_aload_n C (tk T_cX12_uses 10 rfl) rfl ?_
  refine a_iconst C (0 : Int32) (tk T_cX12_uses 11 rfl) kI_0 ?_
  refine a_put C f_RX12_278 f_RX12_278p rfl rfl (tk T_cX12_uses 12 rfl) lm0 rfl ?_
  refine a_mem (fun M4 e_M4 => ?_)
  have h := h M4 e_M4
  refine a_aload_n C (tk T_cX12_uses 13 rfl) rfl ?_
  refine a_iconst C (0 : Int32) (tk T_cX12_uses 14 rfl) kI_0 ?_
  refine a_put C f_RX12_281 f_RX12_281p rfl rfl (tk T_cX12_uses 15 rfl) lm0 rfl ?_
  refine a_mem (fun M5 e_M5 => ?_)
  have h := h M5 e_M5
  refine a_aload_n C (tk T_cX12_uses 16 rfl) rfl ?_
  refine a_iconst C (0 : Int32) (tk T_cX12_uses 17 rfl) kI_0 ?_
  refine a_put C f_RX12_284 f_RX12_284p rfl rfl (tk T_cX12_uses 18 rfl) lm0 rfl ?_
  refine a_mem (fun M6 e_M6 => ?_)
  have h := h M6 e_M6
  exact hR _ _ _ (tk T_cX12_uses 19 rfl) h
theorem ct_M_uses {l : Launch} {g : GT} {post : Mem → Prop} {M : Mem} (h : P_M_uses post M) : CV l g layM yX12_uses cX12_uses 1 none 0 [.ref (ad g 0)] M post :=
  cv_of (plainFor_of_name (by decide +kernel)) (Nat.le_of_ble_eq_true rfl) (fun X A Z hl C hr hR => by subst hl; exact k_M_uses C hr hR  M h)
def T_cX12_isAtL : List (Nat × Instr × Nat) := [(0, .aload_n 0, 1), (1, .getfield 278, 3), (4, .aload_n 0, 1), (5, .getfield 275, 3), (8, .if_icmp .ge 33, 3), (11, .aload_n 0, 1), (12, .getfield 41, 3), (15, .aload_n 0, 1), (16, .getfield 278, 3), (19, .baload, 1), (20, .iload_n 1, 1), (21, .if_icmp .lt 20, 3), (24, .aload_n 0, 1), (25, .getfield 41, 3), (28, .aload_n 0, 1), (29, .getfield 278, 3), (32, .baload, 1), (33, .iload_n 2, 1), (34, .if_icmp .gt 7, 3), (37, .iconst 1, 1), (38, .goto 4, 3), (41, .iconst 0, 1), (42, .ireturn, 1)]
theorem T_cX12_isAt : tabOK cX12_isAt T_cX12_isAtL = true := by decide +kernel
def P_M_isAt_42 (post : Int32 → Mem → Prop) (s0 : Int32) (M : Mem) : Prop :=
  (s0 = 0 ∨ s0 = 1) ∧ post s0 M
theorem k_M_isAt_42 {X : FX} {g : GT} {A : Nat → Prop} {Z : State → Prop} {post : Int32 → Mem → Prop} (C : Cx X g layM A cX12_isAt 3 RX12 0) (hr : 0 ≤ X.2.2.2.1.cells ∧ 0 ≤ X.2.2.2.1.slots) (hR : RetZ X g layM A cX12_isAt 3 0 0 Z post) (s0 : Int32) (M : Mem) (h : P_M_isAt_42 post s0 M) : AtX X g layM A 3 0 0 Z 42 [] [.int s0] M := by
  exact hR _ _ _ _ (tk T_cX12_isAt 22 rfl) h
def P_M_isAt_41 (post : Int32 → Mem → Prop) (M : Mem) : Prop :=
  P_M_isAt_42 post (0 : Int32) M
theorem k_M_isAt_41 {X : FX} {g : GT} {A : Nat → Prop} {Z : State → Prop} {post : Int32 → Mem → Prop} (C : Cx X g layM A cX12_isAt 3 RX12 0) (hr : 0 ≤ X.2.2.2.1.cells ∧ 0 ≤ X.2.2.2.1.slots) (hR : RetZ X g layM A cX12_isAt 3 0 0 Z post)  (M : Mem) (h : P_M_isAt_41 post M) : AtX X g layM A 3 0 0 Z 41 [] [] M := by
  refine a_iconst C (0 : Int32) (tk T_cX12_isAt 21 rfl) kI_0 ?_
  exact a_to (k_M_isAt_42 C hr hR (0 : Int32) M h) rfl
def P_M_isAt (post : Int32 → Mem → Prop) (x1 x2 : Int32) (M : Mem) : Prop :=
  ((M 0 21) ≤ (M 0 20) → (P_M_isAt_41 post M)) ∧
  (¬ (M 0 21) ≤ (M 0 20) → (vp_in (M 0 20) 400 ∧ ((M 10 (M 0 20).toNatClampNeg) < x1 → (P_M_isAt_41 post M)) ∧
  (¬ (M 10 (M 0 20).toNatClampNeg) < x1 → (vp_in (M 0 20) 400 ∧ (x2 < (M 10 (M 0 20).toNatClampNeg) → (P_M_isAt_41 post M)) ∧
  (¬ x2 < (M 10 (M 0 20).toNatClampNeg) → (P_M_isAt_42 post (1 : Int32) M))))))
theorem k_M_isAt {X : FX} {g : GT} {A : Nat → Prop} {Z : State → Prop} {post : Int32 → Mem → Prop} (C : Cx X g layM A cX12_isAt 3 RX12 0) (hr : 0 ≤ X.2.2.2.1.cells ∧ 0 ≤ X.2.2.2.1.slots) (hR : RetZ X g layM A cX12_isAt 3 0 0 Z post) (x1 x2 : Int32) (M : Mem) (h : P_M_isAt post x1 x2 M) : AtX X g layM A 3 0 0 Z 0 [(0, .ref (ad g 0)), (1, .int x1), (2, .int x2)] [] M := by
  refine a_aload_n C (tk T_cX12_isAt 0 rfl) rfl ?_
  refine a_getI C f_RX12_278 (tk T_cX12_isAt 1 rfl) lm0 rfl ?_
  refine a_aload_n C (tk T_cX12_isAt 2 rfl) rfl ?_
  refine a_getI C f_RX12_275 (tk T_cX12_isAt 3 rfl) lm0 rfl ?_
  refine a_icmp_ge C 41 (tk T_cX12_isAt 4 rfl) rfl (fun c => ?_) (fun c => ?_)
  · have h := h.1 c
    exact a_to (k_M_isAt_41 C hr hR M h) rfl
  · have h := h.2 c
    refine a_aload_n C (tk T_cX12_isAt 5 rfl) rfl ?_
    refine a_getR C f_RX12_41 (tk T_cX12_isAt 6 rfl) lm0 rfl ?_
    refine a_aload_n C (tk T_cX12_isAt 7 rfl) rfl ?_
    refine a_getI C f_RX12_278 (tk T_cX12_isAt 8 rfl) lm0 rfl ?_
    obtain ⟨hb, h⟩ := h
    refine a_bald C (tk T_cX12_isAt 9 rfl) lm10 hb ?_
    refine a_iload_n C (tk T_cX12_isAt 10 rfl) rfl ?_
    refine a_icmp_lt C 41 (tk T_cX12_isAt 11 rfl) rfl (fun c => ?_) (fun c => ?_)
    · have h := h.1 c
      exact a_to (k_M_isAt_41 C hr hR M h) rfl
    · have h := h.2 c
      refine a_aload_n C (tk T_cX12_isAt 12 rfl) rfl ?_
      refine a_getR C f_RX12_41 (tk T_cX12_isAt 13 rfl) lm0 rfl ?_
      refine a_aload_n C (tk T_cX12_isAt 14 rfl) rfl ?_
      refine a_getI C f_RX12_278 (tk T_cX12_isAt 15 rfl) lm0 rfl ?_
      obtain ⟨hb, h⟩ := h
      refine a_bald C (tk T_cX12_isAt 16 rfl) lm10 hb ?_
      refine a_iload_n C (tk T_cX12_isAt 17 rfl) rfl ?_
      refine a_icmp_gt C 41 (tk T_cX12_isAt 18 rfl) rfl (fun c => ?_) (fun c => ?_)
      · have h := h.1 c
        exact a_to (k_M_isAt_41 C hr hR M h) rfl
      · have h := h.2 c
        refine a_iconst C (1 : Int32) (tk T_cX12_isAt 19 rfl) kI_1 ?_
        refine a_goto C 42 (tk T_cX12_isAt 20 rfl) rfl ?_
        exact a_to (k_M_isAt_42 C hr hR (1 : Int32) M h) rfl
theorem ct_M_isAt {l : Launch} {g : GT} {post : Int32 → Mem → Prop} {x1 x2 : Int32} {M : Mem} (h : P_M_isAt post x1 x2 M) : CI l g layM yX12_isAt cX12_isAt 3 (some .boolean) 0 [.ref (ad g 0), .int x1, .int x2] M post :=
  cz_of (plainFor_of_name (by decide +kernel)) (Nat.le_of_ble_eq_true rfl) (fun X A Z hl C hr hR => by subst hl; exact k_M_isAt C hr hR x1 x2 M h)
def T_cX12_blanksL : List (Nat × Instr × Nat) := [(0, .aload_n 0, 1), (1, .bipush 32, 2), (3, .bipush 32, 2), (5, .invokevirtual 287, 3), (8, .ifCond .eq 16, 3), (11, .aload_n 0, 1), (12, .dup, 1), (13, .getfield 278, 3), (16, .iconst 1, 1), (17, .iadd, 1), (18, .putfield 278, 3), (21, .goto (-21), 3), (24, .aload_n 0, 1), (25, .aload_n 0, 1), (26, .getfield 278, 3), (29, .putfield 290, 3), (32, .return_, 1)]
theorem T_cX12_blanks : tabOK cX12_blanks T_cX12_blanksL = true := by decide +kernel
def P_M_blanks_0 (post : Mem → Prop) : Nat → Mem → Prop
  | 0, _ => False
  | n + 1, M =>
    P_M_isAt (fun r1 M1 =>
  (r1 = 0 → (∀ M2, M2 = ms M1 0 22 (M1 0 20) → post M2)) ∧
  (¬ r1 = 0 → (∀ M3, M3 = ms M1 0 20 ((M1 0 20) + (1 : Int32)) → P_M_blanks_0 post n M3))) (32 : Int32) (32 : Int32) M
theorem k_M_blanks_0 {X : FX} {g : GT} {A : Nat → Prop} {Z : State → Prop} {post : Mem → Prop} (C : Cx X g layM A cX12_blanks 1 RX12 1) (hr : 0 ≤ X.2.2.2.1.cells ∧ 0 ≤ X.2.2.2.1.slots) (hR : RetV X g layM A cX12_blanks 1 0 0 Z post) : ∀ (n : Nat) (M : Mem), P_M_blanks_0 post n M → AtX X g layM A 1 0 0 Z 0 [(0, .ref (ad g 0))] [] M := by
  intro n
  induction n with
  | zero =>
    intro M h
    exact h.elim
  | succ n ih =>
    intro M h
    refine a_aload_n C (tk T_cX12_blanks 0 rfl) rfl ?_
    refine a_bipush C (32 : Int32) (tk T_cX12_blanks 1 rfl) kB_32 ?_
    refine a_bipush C (32 : Int32) (tk T_cX12_blanks 2 rfl) kB_32 ?_
    refine a_callI C [.int (32 : Int32), .int (32 : Int32)] me_yX12_isAt lk_RX12_287 (ct_M_isAt h) (by decide) lm0 rfl rfl rfl (Nat.le_of_ble_eq_true rfl) (tk T_cX12_blanks 3 rfl) hr (fun r1 M1 h => ?_)
    refine a_if_eq C 24 (tk T_cX12_blanks 4 rfl) rfl (fun c => ?_) (fun c => ?_)
    · have h := h.1 c
      refine a_aload_n C (tk T_cX12_blanks 12 rfl) rfl ?_
      refine a_aload_n C (tk T_cX12_blanks 13 rfl) rfl ?_
      refine a_getI C f_RX12_278 (tk T_cX12_blanks 14 rfl) lm0 rfl ?_
      refine a_put C f_RX12_290 f_RX12_290p rfl rfl (tk T_cX12_blanks 15 rfl) lm0 rfl ?_
      refine a_mem (fun M2 e_M2 => ?_)
      have h := h M2 e_M2
      exact hR _ _ _ (tk T_cX12_blanks 16 rfl) h
    · have h := h.2 c
      refine a_aload_n C (tk T_cX12_blanks 5 rfl) rfl ?_
      refine a_dupr C (tk T_cX12_blanks 6 rfl) ?_
      refine a_getI C f_RX12_278 (tk T_cX12_blanks 7 rfl) lm0 rfl ?_
      refine a_iconst C (1 : Int32) (tk T_cX12_blanks 8 rfl) kI_1 ?_
      refine a_iadd C (tk T_cX12_blanks 9 rfl) ?_
      refine a_put C f_RX12_278 f_RX12_278p rfl rfl (tk T_cX12_blanks 10 rfl) lm0 rfl ?_
      refine a_mem (fun M3 e_M3 => ?_)
      have h := h M3 e_M3
      refine a_goto C 0 (tk T_cX12_blanks 11 rfl) rfl ?_
      exact a_to (ih M3 h) rfl
def P_M_blanks (post : Mem → Prop) (M : Mem) : Prop :=
  ∃ j0, P_M_blanks_0 post j0 M
theorem k_M_blanks {X : FX} {g : GT} {A : Nat → Prop} {Z : State → Prop} {post : Mem → Prop} (C : Cx X g layM A cX12_blanks 1 RX12 1) (hr : 0 ≤ X.2.2.2.1.cells ∧ 0 ≤ X.2.2.2.1.slots) (hR : RetV X g layM A cX12_blanks 1 0 0 Z post) (M : Mem) (h : P_M_blanks post M) : AtX X g layM A 1 0 0 Z 0 [(0, .ref (ad g 0))] [] M := by
  obtain ⟨n1, h⟩ := h
  exact a_to (k_M_blanks_0 C hr hR n1 M h) rfl
theorem ct_M_blanks {l : Launch} {g : GT} {post : Mem → Prop} {M : Mem} (h : P_M_blanks post M) : CV l g layM yX12_blanks cX12_blanks 1 none 1 [.ref (ad g 0)] M post :=
  cv_of (plainFor_of_name (by decide +kernel)) (Nat.le_of_ble_eq_true rfl) (fun X A Z hl C hr hR => by subst hl; exact k_M_blanks C hr hR  M h)
def T_cX12_lettersL : List (Nat × Instr × Nat) := [(0, .aload_n 0, 1), (1, .invokevirtual 293, 3), (4, .aload_n 0, 1), (5, .bipush 97, 2), (7, .bipush 122, 2), (9, .invokevirtual 287, 3), (12, .ifCond .eq 16, 3), (15, .aload_n 0, 1), (16, .dup, 1), (17, .getfield 278, 3), (20, .iconst 1, 1), (21, .iadd, 1), (22, .putfield 278, 3), (25, .goto (-21), 3), (28, .return_, 1)]
theorem T_cX12_letters : tabOK cX12_letters T_cX12_lettersL = true := by decide +kernel
def P_M_letters_4 (post : Mem → Prop) : Nat → Mem → Prop
  | 0, _ => False
  | n + 1, M =>
    P_M_isAt (fun r1 M1 =>
  (r1 = 0 → (post M1)) ∧
  (¬ r1 = 0 → (∀ M2, M2 = ms M1 0 20 ((M1 0 20) + (1 : Int32)) → P_M_letters_4 post n M2))) (97 : Int32) (122 : Int32) M
theorem k_M_letters_4 {X : FX} {g : GT} {A : Nat → Prop} {Z : State → Prop} {post : Mem → Prop} (C : Cx X g layM A cX12_letters 1 RX12 2) (hr : 0 ≤ X.2.2.2.1.cells ∧ 0 ≤ X.2.2.2.1.slots) (hR : RetV X g layM A cX12_letters 1 0 0 Z post) : ∀ (n : Nat) (M : Mem), P_M_letters_4 post n M → AtX X g layM A 1 0 0 Z 4 [(0, .ref (ad g 0))] [] M := by
  intro n
  induction n with
  | zero =>
    intro M h
    exact h.elim
  | succ n ih =>
    intro M h
    refine a_aload_n C (tk T_cX12_letters 2 rfl) rfl ?_
    refine a_bipush C (97 : Int32) (tk T_cX12_letters 3 rfl) kB_97 ?_
    refine a_bipush C (122 : Int32) (tk T_cX12_letters 4 rfl) kB_122 ?_
    refine a_callI C [.int (97 : Int32), .int (122 : Int32)] me_yX12_isAt lk_RX12_287 (ct_M_isAt h) (by decide) lm0 rfl rfl rfl (Nat.le_of_ble_eq_true rfl) (tk T_cX12_letters 5 rfl) hr (fun r1 M1 h => ?_)
    refine a_if_eq C 28 (tk T_cX12_letters 6 rfl) rfl (fun c => ?_) (fun c => ?_)
    · have h := h.1 c
      exact hR _ _ _ (tk T_cX12_letters 14 rfl) h
    · have h := h.2 c
      refine a_aload_n C (tk T_cX12_letters 7 rfl) rfl ?_
      refine a_dupr C (tk T_cX12_letters 8 rfl) ?_
      refine a_getI C f_RX12_278 (tk T_cX12_letters 9 rfl) lm0 rfl ?_
      refine a_iconst C (1 : Int32) (tk T_cX12_letters 10 rfl) kI_1 ?_
      refine a_iadd C (tk T_cX12_letters 11 rfl) ?_
      refine a_put C f_RX12_278 f_RX12_278p rfl rfl (tk T_cX12_letters 12 rfl) lm0 rfl ?_
      refine a_mem (fun M2 e_M2 => ?_)
      have h := h M2 e_M2
      refine a_goto C 4 (tk T_cX12_letters 13 rfl) rfl ?_
      exact a_to (ih M2 h) rfl
def P_M_letters (post : Mem → Prop) (M : Mem) : Prop :=
  P_M_blanks (fun M1 =>
  ∃ j4, P_M_letters_4 post j4 M1) M
theorem k_M_letters {X : FX} {g : GT} {A : Nat → Prop} {Z : State → Prop} {post : Mem → Prop} (C : Cx X g layM A cX12_letters 1 RX12 2) (hr : 0 ≤ X.2.2.2.1.cells ∧ 0 ≤ X.2.2.2.1.slots) (hR : RetV X g layM A cX12_letters 1 0 0 Z post) (M : Mem) (h : P_M_letters post M) : AtX X g layM A 1 0 0 Z 0 [(0, .ref (ad g 0))] [] M := by
  refine a_aload_n C (tk T_cX12_letters 0 rfl) rfl ?_
  refine a_callV C [] me_yX12_blanks lk_RX12_293 (ct_M_blanks h) (by decide) lm0 rfl rfl rfl (Nat.le_of_ble_eq_true rfl) (tk T_cX12_letters 1 rfl) hr (fun M1 h => ?_)
  obtain ⟨n1, h⟩ := h
  exact a_to (k_M_letters_4 C hr hR n1 M1 h) rfl
theorem ct_M_letters {l : Launch} {g : GT} {post : Mem → Prop} {M : Mem} (h : P_M_letters post M) : CV l g layM yX12_letters cX12_letters 1 none 2 [.ref (ad g 0)] M post :=
  cv_of (plainFor_of_name (by decide +kernel)) (Nat.le_of_ble_eq_true rfl) (fun X A Z hl C hr hR => by subst hl; exact k_M_letters C hr hR  M h)
def T_cX12_signL : List (Nat × Instr × Nat) := [(0, .aload_n 0, 1), (1, .invokevirtual 293, 3), (4, .aload_n 0, 1), (5, .iload_n 1, 1), (6, .iload_n 1, 1), (7, .invokevirtual 287, 3), (10, .ifCond .ne 5, 3), (13, .iconst 0, 1), (14, .ireturn, 1), (15, .aload_n 0, 1), (16, .dup, 1), (17, .getfield 278, 3), (20, .iconst 1, 1), (21, .iadd, 1), (22, .putfield 278, 3), (25, .iconst 1, 1), (26, .ireturn, 1)]
theorem T_cX12_sign : tabOK cX12_sign T_cX12_signL = true := by decide +kernel
def P_M_sign (post : Int32 → Mem → Prop) (x1 : Int32) (M : Mem) : Prop :=
  P_M_blanks (fun M1 =>
  P_M_isAt (fun r2 M2 =>
  (¬ r2 = 0 → (∀ M3, M3 = ms M2 0 20 ((M2 0 20) + (1 : Int32)) → post (1 : Int32) M3)) ∧
  (r2 = 0 → (post (0 : Int32) M2))) x1 x1 M1) M
theorem k_M_sign {X : FX} {g : GT} {A : Nat → Prop} {Z : State → Prop} {post : Int32 → Mem → Prop} (C : Cx X g layM A cX12_sign 2 RX12 2) (hr : 0 ≤ X.2.2.2.1.cells ∧ 0 ≤ X.2.2.2.1.slots) (hR : RetZ X g layM A cX12_sign 2 0 0 Z post) (x1 : Int32) (M : Mem) (h : P_M_sign post x1 M) : AtX X g layM A 2 0 0 Z 0 [(0, .ref (ad g 0)), (1, .int x1)] [] M := by
  refine a_aload_n C (tk T_cX12_sign 0 rfl) rfl ?_
  refine a_callV C [] me_yX12_blanks lk_RX12_293 (ct_M_blanks h) (by decide) lm0 rfl rfl rfl (Nat.le_of_ble_eq_true rfl) (tk T_cX12_sign 1 rfl) hr (fun M1 h => ?_)
  refine a_aload_n C (tk T_cX12_sign 2 rfl) rfl ?_
  refine a_iload_n C (tk T_cX12_sign 3 rfl) rfl ?_
  refine a_iload_n C (tk T_cX12_sign 4 rfl) rfl ?_
  refine a_callI C [.int x1, .int x1] me_yX12_isAt lk_RX12_287 (ct_M_isAt h) (by decide) lm0 rfl rfl rfl (Nat.le_of_ble_eq_true rfl) (tk T_cX12_sign 5 rfl) hr (fun r2 M2 h => ?_)
  refine a_if_ne C 15 (tk T_cX12_sign 6 rfl) rfl (fun c => ?_) (fun c => ?_)
  · have h := h.1 c
    refine a_aload_n C (tk T_cX12_sign 9 rfl) rfl ?_
    refine a_dupr C (tk T_cX12_sign 10 rfl) ?_
    refine a_getI C f_RX12_278 (tk T_cX12_sign 11 rfl) lm0 rfl ?_
    refine a_iconst C (1 : Int32) (tk T_cX12_sign 12 rfl) kI_1 ?_
    refine a_iadd C (tk T_cX12_sign 13 rfl) ?_
    refine a_put C f_RX12_278 f_RX12_278p rfl rfl (tk T_cX12_sign 14 rfl) lm0 rfl ?_
    refine a_mem (fun M3 e_M3 => ?_)
    have h := h M3 e_M3
    refine a_iconst C (1 : Int32) (tk T_cX12_sign 15 rfl) kI_1 ?_
    exact hR _ _ _ _ (tk T_cX12_sign 16 rfl) ⟨Or.inr rfl, h⟩
  · have h := h.2 c
    refine a_iconst C (0 : Int32) (tk T_cX12_sign 7 rfl) kI_0 ?_
    exact hR _ _ _ _ (tk T_cX12_sign 8 rfl) ⟨Or.inl rfl, h⟩
theorem ct_M_sign {l : Launch} {g : GT} {post : Int32 → Mem → Prop} {x1 : Int32} {M : Mem} (h : P_M_sign post x1 M) : CI l g layM yX12_sign cX12_sign 2 (some .boolean) 2 [.ref (ad g 0), .int x1] M post :=
  cz_of (plainFor_of_name (by decide +kernel)) (Nat.le_of_ble_eq_true rfl) (fun X A Z hl C hr hR => by subst hl; exact k_M_sign C hr hR x1 M h)
def T_cX12_readNumberL : List (Nat × Instr × Nat) := [(0, .aload_n 0, 1), (1, .invokevirtual 293, 3), (4, .iconst 0, 1), (5, .istore_n 2, 1), (6, .aload_n 0, 1), (7, .bipush 48, 2), (9, .bipush 57, 2), (11, .invokevirtual 287, 3), (14, .ifCond .eq 51, 3), (17, .aload_n 0, 1), (18, .getfield 278, 3), (21, .aload_n 0, 1), (22, .getfield 290, 3), (25, .isub, 1), (26, .iconst 4, 1), (27, .if_icmp .ge 23, 3), (30, .bipush 10, 2), (32, .iload_n 2, 1), (33, .imul, 1), (34, .aload_n 0, 1), (35, .getfield 41, 3), (38, .aload_n 0, 1), (39, .getfield 278, 3), (42, .baload, 1), (43, .iadd, 1), (44, .bipush 48, 2), (46, .isub, 1), (47, .goto 4, 3), (50, .iload_n 2, 1), (51, .istore_n 2, 1), (52, .aload_n 0, 1), (53, .dup, 1), (54, .getfield 278, 3), (57, .iconst 1, 1), (58, .iadd, 1), (59, .putfield 278, 3), (62, .goto (-56), 3), (65, .aload_n 0, 1), (66, .getfield 278, 3), (69, .aload_n 0, 1), (70, .getfield 290, 3), (73, .if_icmp .eq 21, 3), (76, .aload_n 0, 1), (77, .getfield 278, 3), (80, .aload_n 0, 1), (81, .getfield 290, 3), (84, .isub, 1), (85, .iconst 4, 1), (86, .if_icmp .gt 8, 3), (89, .iload_n 2, 1), (90, .iload_n 1, 1), (91, .if_icmp .le 7, 3), (94, .iconst (-1), 1), (95, .goto 4, 3), (98, .iload_n 2, 1), (99, .ireturn, 1)]
theorem T_cX12_readNumber : tabOK cX12_readNumber T_cX12_readNumberL = true := by decide +kernel
def P_M_readNumber_99 (post : Int32 → Mem → Prop) (s0 : Int32) (M : Mem) : Prop :=
  post s0 M
theorem k_M_readNumber_99 {X : FX} {g : GT} {A : Nat → Prop} {Z : State → Prop} {post : Int32 → Mem → Prop} (C : Cx X g layM A cX12_readNumber 3 RX12 2) (hr : 0 ≤ X.2.2.2.1.cells ∧ 0 ≤ X.2.2.2.1.slots) (hR : RetI X g layM A cX12_readNumber 3 0 0 Z post) (s0 : Int32) (M : Mem) (h : P_M_readNumber_99 post s0 M) : AtX X g layM A 3 0 0 Z 99 [] [.int s0] M := by
  exact hR _ _ _ _ (tk T_cX12_readNumber 55 rfl) h
def P_M_readNumber_94 (post : Int32 → Mem → Prop) (M : Mem) : Prop :=
  P_M_readNumber_99 post (-1 : Int32) M
theorem k_M_readNumber_94 {X : FX} {g : GT} {A : Nat → Prop} {Z : State → Prop} {post : Int32 → Mem → Prop} (C : Cx X g layM A cX12_readNumber 3 RX12 2) (hr : 0 ≤ X.2.2.2.1.cells ∧ 0 ≤ X.2.2.2.1.slots) (hR : RetI X g layM A cX12_readNumber 3 0 0 Z post)  (M : Mem) (h : P_M_readNumber_94 post M) : AtX X g layM A 3 0 0 Z 94 [] [] M := by
  refine a_iconst C (-1 : Int32) (tk T_cX12_readNumber 52 rfl) kI_m1 ?_
  refine a_goto C 99 (tk T_cX12_readNumber 53 rfl) rfl ?_
  exact a_to (k_M_readNumber_99 C hr hR (-1 : Int32) M h) rfl
def P_M_readNumber_51 (post : Int32 → Mem → Prop) (R6 : Int32 → Int32 → Mem → Prop) (x1 s0 : Int32) (M : Mem) : Prop :=
  ∀ M1, M1 = ms M 0 20 ((M 0 20) + (1 : Int32)) → R6 x1 s0 M1
theorem k_M_readNumber_51 {X : FX} {g : GT} {A : Nat → Prop} {Z : State → Prop} {post : Int32 → Mem → Prop} {R6 : Int32 → Int32 → Mem → Prop} (C : Cx X g layM A cX12_readNumber 3 RX12 2) (hr : 0 ≤ X.2.2.2.1.cells ∧ 0 ≤ X.2.2.2.1.slots) (hR : RetI X g layM A cX12_readNumber 3 0 0 Z post) (k6 : ∀ (y1 y2 : Int32) (M : Mem), R6 y1 y2 M → AtX X g layM A 3 0 0 Z 6 [(0, .ref (ad g 0)), (1, .int y1), (2, .int y2)] [] M) (x1 s0 : Int32) (M : Mem) (h : P_M_readNumber_51 post R6 x1 s0 M) : AtX X g layM A 3 0 0 Z 51 [(0, .ref (ad g 0)), (1, .int x1)] [.int s0] M := by
  refine a_istore_n C (tk T_cX12_readNumber 29 rfl) (by decide) rfl ?_
  refine a_aload_n C (tk T_cX12_readNumber 30 rfl) rfl ?_
  refine a_dupr C (tk T_cX12_readNumber 31 rfl) ?_
  refine a_getI C f_RX12_278 (tk T_cX12_readNumber 32 rfl) lm0 rfl ?_
  refine a_iconst C (1 : Int32) (tk T_cX12_readNumber 33 rfl) kI_1 ?_
  refine a_iadd C (tk T_cX12_readNumber 34 rfl) ?_
  refine a_put C f_RX12_278 f_RX12_278p rfl rfl (tk T_cX12_readNumber 35 rfl) lm0 rfl ?_
  refine a_mem (fun M1 e_M1 => ?_)
  have h := h M1 e_M1
  refine a_goto C 6 (tk T_cX12_readNumber 36 rfl) rfl ?_
  exact a_to (k6 x1 s0 M1 h) rfl
def P_M_readNumber_6 (post : Int32 → Mem → Prop) : Nat → Int32 → Int32 → Mem → Prop
  | 0, _, _, _ => False
  | n + 1, x1, x2, M =>
    P_M_isAt (fun r1 M1 =>
  (r1 = 0 → (((M1 0 20) = (M1 0 22) → (P_M_readNumber_94 post M1)) ∧
  (¬ (M1 0 20) = (M1 0 22) → (((4 : Int32) < ((M1 0 20) - (M1 0 22)) → (P_M_readNumber_94 post M1)) ∧
  (¬ (4 : Int32) < ((M1 0 20) - (M1 0 22)) → ((x2 ≤ x1 → (P_M_readNumber_99 post x2 M1)) ∧
  (¬ x2 ≤ x1 → (P_M_readNumber_94 post M1)))))))) ∧
  (¬ r1 = 0 → (((4 : Int32) ≤ ((M1 0 20) - (M1 0 22)) → (P_M_readNumber_51 post (P_M_readNumber_6 post n) x1 x2 M1)) ∧
  (¬ (4 : Int32) ≤ ((M1 0 20) - (M1 0 22)) → (vp_in (M1 0 20) 400 ∧ ∀ v2, v2 = ((((10 : Int32) * x2) + (M1 10 (M1 0 20).toNatClampNeg)) - (48 : Int32)) → P_M_readNumber_51 post (P_M_readNumber_6 post n) x1 v2 M1))))) (48 : Int32) (57 : Int32) M
theorem k_M_readNumber_6 {X : FX} {g : GT} {A : Nat → Prop} {Z : State → Prop} {post : Int32 → Mem → Prop} (C : Cx X g layM A cX12_readNumber 3 RX12 2) (hr : 0 ≤ X.2.2.2.1.cells ∧ 0 ≤ X.2.2.2.1.slots) (hR : RetI X g layM A cX12_readNumber 3 0 0 Z post) : ∀ (n : Nat) (x1 x2 : Int32) (M : Mem), P_M_readNumber_6 post n x1 x2 M → AtX X g layM A 3 0 0 Z 6 [(0, .ref (ad g 0)), (1, .int x1), (2, .int x2)] [] M := by
  intro n
  induction n with
  | zero =>
    intro x1 x2 M h
    exact h.elim
  | succ n ih =>
    intro x1 x2 M h
    refine a_aload_n C (tk T_cX12_readNumber 4 rfl) rfl ?_
    refine a_bipush C (48 : Int32) (tk T_cX12_readNumber 5 rfl) kB_48 ?_
    refine a_bipush C (57 : Int32) (tk T_cX12_readNumber 6 rfl) kB_57 ?_
    refine a_callI C [.int (48 : Int32), .int (57 : Int32)] me_yX12_isAt lk_RX12_287 (ct_M_isAt h) (by decide) lm0 rfl rfl rfl (Nat.le_of_ble_eq_true rfl) (tk T_cX12_readNumber 7 rfl) hr (fun r1 M1 h => ?_)
    refine a_if_eq C 65 (tk T_cX12_readNumber 8 rfl) rfl (fun c => ?_) (fun c => ?_)
    · have h := h.1 c
      refine a_aload_n C (tk T_cX12_readNumber 37 rfl) rfl ?_
      refine a_getI C f_RX12_278 (tk T_cX12_readNumber 38 rfl) lm0 rfl ?_
      refine a_aload_n C (tk T_cX12_readNumber 39 rfl) rfl ?_
      refine a_getI C f_RX12_290 (tk T_cX12_readNumber 40 rfl) lm0 rfl ?_
      refine a_icmp_eq C 94 (tk T_cX12_readNumber 41 rfl) rfl (fun c => ?_) (fun c => ?_)
      · have h := h.1 c
        exact a_to (k_M_readNumber_94 C hr hR M1 h) rfl
      · have h := h.2 c
        refine a_aload_n C (tk T_cX12_readNumber 42 rfl) rfl ?_
        refine a_getI C f_RX12_278 (tk T_cX12_readNumber 43 rfl) lm0 rfl ?_
        refine a_aload_n C (tk T_cX12_readNumber 44 rfl) rfl ?_
        refine a_getI C f_RX12_290 (tk T_cX12_readNumber 45 rfl) lm0 rfl ?_
        refine a_isub C (tk T_cX12_readNumber 46 rfl) ?_
        refine a_iconst C (4 : Int32) (tk T_cX12_readNumber 47 rfl) kI_4 ?_
        refine a_icmp_gt C 94 (tk T_cX12_readNumber 48 rfl) rfl (fun c => ?_) (fun c => ?_)
        · have h := h.1 c
          exact a_to (k_M_readNumber_94 C hr hR M1 h) rfl
        · have h := h.2 c
          refine a_iload_n C (tk T_cX12_readNumber 49 rfl) rfl ?_
          refine a_iload_n C (tk T_cX12_readNumber 50 rfl) rfl ?_
          refine a_icmp_le C 98 (tk T_cX12_readNumber 51 rfl) rfl (fun c => ?_) (fun c => ?_)
          · have h := h.1 c
            refine a_iload_n C (tk T_cX12_readNumber 54 rfl) rfl ?_
            exact a_to (k_M_readNumber_99 C hr hR x2 M1 h) rfl
          · have h := h.2 c
            exact a_to (k_M_readNumber_94 C hr hR M1 h) rfl
    · have h := h.2 c
      refine a_aload_n C (tk T_cX12_readNumber 9 rfl) rfl ?_
      refine a_getI C f_RX12_278 (tk T_cX12_readNumber 10 rfl) lm0 rfl ?_
      refine a_aload_n C (tk T_cX12_readNumber 11 rfl) rfl ?_
      refine a_getI C f_RX12_290 (tk T_cX12_readNumber 12 rfl) lm0 rfl ?_
      refine a_isub C (tk T_cX12_readNumber 13 rfl) ?_
      refine a_iconst C (4 : Int32) (tk T_cX12_readNumber 14 rfl) kI_4 ?_
      refine a_icmp_ge C 50 (tk T_cX12_readNumber 15 rfl) rfl (fun c => ?_) (fun c => ?_)
      · have h := h.1 c
        refine a_iload_n C (tk T_cX12_readNumber 28 rfl) rfl ?_
        exact a_to (k_M_readNumber_51 C hr hR ih x1 x2 M1 h) rfl
      · have h := h.2 c
        refine a_bipush C (10 : Int32) (tk T_cX12_readNumber 16 rfl) kB_10 ?_
        refine a_iload_n C (tk T_cX12_readNumber 17 rfl) rfl ?_
        refine a_imul C (tk T_cX12_readNumber 18 rfl) ?_
        refine a_aload_n C (tk T_cX12_readNumber 19 rfl) rfl ?_
        refine a_getR C f_RX12_41 (tk T_cX12_readNumber 20 rfl) lm0 rfl ?_
        refine a_aload_n C (tk T_cX12_readNumber 21 rfl) rfl ?_
        refine a_getI C f_RX12_278 (tk T_cX12_readNumber 22 rfl) lm0 rfl ?_
        obtain ⟨hb, h⟩ := h
        refine a_bald C (tk T_cX12_readNumber 23 rfl) lm10 hb ?_
        refine a_iadd C (tk T_cX12_readNumber 24 rfl) ?_
        refine a_bipush C (48 : Int32) (tk T_cX12_readNumber 25 rfl) kB_48 ?_
        refine a_isub C (tk T_cX12_readNumber 26 rfl) ?_
        refine a_top (fun v2 e_v2 => ?_)
        have h := h v2 e_v2
        refine a_goto C 51 (tk T_cX12_readNumber 27 rfl) rfl ?_
        exact a_to (k_M_readNumber_51 C hr hR ih x1 v2 M1 h) rfl
def P_M_readNumber (post : Int32 → Mem → Prop) (x1 : Int32) (M : Mem) : Prop :=
  P_M_blanks (fun M1 =>
  ∃ j6, P_M_readNumber_6 post j6 x1 (0 : Int32) M1) M
theorem k_M_readNumber {X : FX} {g : GT} {A : Nat → Prop} {Z : State → Prop} {post : Int32 → Mem → Prop} (C : Cx X g layM A cX12_readNumber 3 RX12 2) (hr : 0 ≤ X.2.2.2.1.cells ∧ 0 ≤ X.2.2.2.1.slots) (hR : RetI X g layM A cX12_readNumber 3 0 0 Z post) (x1 : Int32) (M : Mem) (h : P_M_readNumber post x1 M) : AtX X g layM A 3 0 0 Z 0 [(0, .ref (ad g 0)), (1, .int x1)] [] M := by
  refine a_aload_n C (tk T_cX12_readNumber 0 rfl) rfl ?_
  refine a_callV C [] me_yX12_blanks lk_RX12_293 (ct_M_blanks h) (by decide) lm0 rfl rfl rfl (Nat.le_of_ble_eq_true rfl) (tk T_cX12_readNumber 1 rfl) hr (fun M1 h => ?_)
  refine a_iconst C (0 : Int32) (tk T_cX12_readNumber 2 rfl) kI_0 ?_
  refine a_istore_n C (tk T_cX12_readNumber 3 rfl) (by decide) rfl ?_
  obtain ⟨n1, h⟩ := h
  exact a_to (k_M_readNumber_6 C hr hR n1 x1 (0 : Int32) M1 h) rfl
theorem ct_M_readNumber {l : Launch} {g : GT} {post : Int32 → Mem → Prop} {x1 : Int32} {M : Mem} (h : P_M_readNumber post x1 M) : CI l g layM yX12_readNumber cX12_readNumber 3 (some .int) 2 [.ref (ad g 0), .int x1] M post :=
  ci_of (plainFor_of_name (by decide +kernel)) (Nat.le_of_ble_eq_true rfl) (fun X A Z hl C hr hR => by subst hl; exact k_M_readNumber C hr hR x1 M h)
def T_cX12_faultL : List (Nat × Instr × Nat) := [(0, .aload_n 0, 1), (1, .iconst 0, 1), (2, .putfield 3, 3), (5, .aload_n 0, 1), (6, .getfield 45, 3), (9, .ireturn, 1)]
theorem T_cX12_fault : tabOK cX12_fault T_cX12_faultL = true := by decide +kernel
def P_M_fault (post : Int32 → Mem → Prop) (M : Mem) : Prop :=
  ∀ M1, M1 = ms M 0 0 (0 : Int32) → post (M1 0 24) M1
theorem k_M_fault {X : FX} {g : GT} {A : Nat → Prop} {Z : State → Prop} {post : Int32 → Mem → Prop} (C : Cx X g layM A cX12_fault 1 RX12 0) (hr : 0 ≤ X.2.2.2.1.cells ∧ 0 ≤ X.2.2.2.1.slots) (hR : RetI X g layM A cX12_fault 1 0 0 Z post) (M : Mem) (h : P_M_fault post M) : AtX X g layM A 1 0 0 Z 0 [(0, .ref (ad g 0))] [] M := by
  refine a_aload_n C (tk T_cX12_fault 0 rfl) rfl ?_
  refine a_iconst C (0 : Int32) (tk T_cX12_fault 1 rfl) kI_0 ?_
  refine a_put C f_RX12_3 f_RX12_3p rfl rfl (tk T_cX12_fault 2 rfl) lm0 rfl ?_
  refine a_mem (fun M1 e_M1 => ?_)
  have h := h M1 e_M1
  refine a_aload_n C (tk T_cX12_fault 3 rfl) rfl ?_
  refine a_getI C f_RX12_45 (tk T_cX12_fault 4 rfl) lm0 rfl ?_
  exact hR _ _ _ _ (tk T_cX12_fault 5 rfl) h
theorem ct_M_fault {l : Launch} {g : GT} {post : Int32 → Mem → Prop} {M : Mem} (h : P_M_fault post M) : CI l g layM yX12_fault cX12_fault 1 (some .int) 0 [.ref (ad g 0)] M post :=
  ci_of (plainFor_of_name (by decide +kernel)) (Nat.le_of_ble_eq_true rfl) (fun X A Z hl C hr hR => by subst hl; exact k_M_fault C hr hR  M h)
def T_cX12_textAtL : List (Nat × Instr × Nat) := [(0, .sipush 359, 3), (3, .sipush 801, 3), (6, .iload_n 0, 1), (7, .imul, 1), (8, .iadd, 1), (9, .ireturn, 1)]
theorem T_cX12_textAt : tabOK cX12_textAt T_cX12_textAtL = true := by decide +kernel
def P_M_textAt (post : Int32 → Mem → Prop) (x0 : Int32) (M : Mem) : Prop :=
  post ((359 : Int32) + ((801 : Int32) * x0)) M
theorem k_M_textAt {X : FX} {g : GT} {A : Nat → Prop} {Z : State → Prop} {post : Int32 → Mem → Prop} (C : Cx X g layM A cX12_textAt 1 RX12 0) (hr : 0 ≤ X.2.2.2.1.cells ∧ 0 ≤ X.2.2.2.1.slots) (hR : RetI X g layM A cX12_textAt 1 0 0 Z post) (x0 : Int32) (M : Mem) (h : P_M_textAt post x0 M) : AtX X g layM A 1 0 0 Z 0 [(0, .int x0)] [] M := by
  refine a_sipush C (359 : Int32) (tk T_cX12_textAt 0 rfl) kS_359 ?_
  refine a_sipush C (801 : Int32) (tk T_cX12_textAt 1 rfl) kS_801 ?_
  refine a_iload_n C (tk T_cX12_textAt 2 rfl) rfl ?_
  refine a_imul C (tk T_cX12_textAt 3 rfl) ?_
  refine a_iadd C (tk T_cX12_textAt 4 rfl) ?_
  exact hR _ _ _ _ (tk T_cX12_textAt 5 rfl) h
theorem ct_M_textAt {l : Launch} {g : GT} {post : Int32 → Mem → Prop} {x0 : Int32} {M : Mem} (h : P_M_textAt post x0 M) : CI l g layM yX12_textAt cX12_textAt 1 (some .int) 0 [.int x0] M post :=
  ci_of (plainFor_of_name (by decide +kernel)) (Nat.le_of_ble_eq_true rfl) (fun X A Z hl C hr hR => by subst hl; exact k_M_textAt C hr hR x0 M h)
def T_cX12_emitsL : List (Nat × Instr × Nat) := [(0, .bipush 6, 2), (2, .invokestatic 312, 3), (5, .iconst 1, 1), (6, .iadd, 1), (7, .iconst 2, 1), (8, .aload_n 0, 1), (9, .getfield 281, 3), (12, .imul, 1), (13, .iadd, 1), (14, .istore_n 3, 1), (15, .aload_n 0, 1), (16, .getfield 13, 3), (19, .iload_n 3, 1), (20, .iload_n 1, 1), (21, .iastore, 1), (22, .aload_n 0, 1), (23, .getfield 13, 3), (26, .iload_n 3, 1), (27, .iconst 1, 1), (28, .iadd, 1), (29, .iload_n 2, 1), (30, .iastore, 1), (31, .aload_n 0, 1), (32, .dup, 1), (33, .getfield 281, 3), (36, .iconst 1, 1), (37, .iadd, 1), (38, .putfield 281, 3), (41, .return_, 1)]
theorem T_cX12_emits : tabOK cX12_emits T_cX12_emitsL = true := by decide +kernel
def P_M_emits (post : Mem → Prop) (x1 x2 : Int32) (M : Mem) : Prop :=
  P_M_textAt (fun r1 M1 =>
  ∀ x3_2, x3_2 = ((r1 + (1 : Int32)) + ((2 : Int32) * (M1 0 26))) → vp_in x3_2 5966 ∧ ∀ M3, M3 = ms M1 1 x3_2.toNatClampNeg x1 → vp_in (x3_2 + (1 : Int32)) 5966 ∧ ∀ M4, M4 = ms M3 1 (x3_2 + (1 : Int32)).toNatClampNeg x2 → ∀ M5, M5 = ms M4 0 26 ((M4 0 26) + (1 : Int32)) → post M5) (6 : Int32) M
theorem k_M_emits {X : FX} {g : GT} {A : Nat → Prop} {Z : State → Prop} {post : Mem → Prop} (C : Cx X g layM A cX12_emits 4 RX12 1) (hr : 0 ≤ X.2.2.2.1.cells ∧ 0 ≤ X.2.2.2.1.slots) (hR : RetV X g layM A cX12_emits 4 0 0 Z post) (x1 x2 : Int32) (M : Mem) (h : P_M_emits post x1 x2 M) : AtX X g layM A 4 0 0 Z 0 [(0, .ref (ad g 0)), (1, .int x1), (2, .int x2)] [] M := by
  refine a_bipush C (6 : Int32) (tk T_cX12_emits 0 rfl) kB_6 ?_
  refine a_statI C [.int (6 : Int32)] me_yX12_textAt lk_RX12_312 (ct_M_textAt h) (by decide) rfl rfl (Nat.le_of_ble_eq_true rfl) (tk T_cX12_emits 1 rfl) hr (fun r1 M1 h => ?_)
  refine a_iconst C (1 : Int32) (tk T_cX12_emits 2 rfl) kI_1 ?_
  refine a_iadd C (tk T_cX12_emits 3 rfl) ?_
  refine a_iconst C (2 : Int32) (tk T_cX12_emits 4 rfl) kI_2 ?_
  refine a_aload_n C (tk T_cX12_emits 5 rfl) rfl ?_
  refine a_getI C f_RX12_281 (tk T_cX12_emits 6 rfl) lm0 rfl ?_
  refine a_imul C (tk T_cX12_emits 7 rfl) ?_
  refine a_iadd C (tk T_cX12_emits 8 rfl) ?_
  refine a_top (fun x3_2 e_x3_2 => ?_)
  have h := h x3_2 e_x3_2
  refine a_istore_n C (tk T_cX12_emits 9 rfl) (by decide) rfl ?_
  refine a_aload_n C (tk T_cX12_emits 10 rfl) rfl ?_
  refine a_getR C f_RX12_13 (tk T_cX12_emits 11 rfl) lm0 rfl ?_
  refine a_iload_n C (tk T_cX12_emits 12 rfl) rfl ?_
  refine a_iload_n C (tk T_cX12_emits 13 rfl) rfl ?_
  obtain ⟨hb, h⟩ := h
  refine a_iast C (tk T_cX12_emits 14 rfl) lm1 hb ?_
  refine a_mem (fun M3 e_M3 => ?_)
  have h := h M3 e_M3
  refine a_aload_n C (tk T_cX12_emits 15 rfl) rfl ?_
  refine a_getR C f_RX12_13 (tk T_cX12_emits 16 rfl) lm0 rfl ?_
  refine a_iload_n C (tk T_cX12_emits 17 rfl) rfl ?_
  refine a_iconst C (1 : Int32) (tk T_cX12_emits 18 rfl) kI_1 ?_
  refine a_iadd C (tk T_cX12_emits 19 rfl) ?_
  refine a_iload_n C (tk T_cX12_emits 20 rfl) rfl ?_
  obtain ⟨hb, h⟩ := h
  refine a_iast C (tk T_cX12_emits 21 rfl) lm1 hb ?_
  refine a_mem (fun M4 e_M4 => ?_)
  have h := h M4 e_M4
  refine a_aload_n C (tk T_cX12_emits 22 rfl) rfl ?_
  refine a_dupr C (tk T_cX12_emits 23 rfl) ?_
  refine a_getI C f_RX12_281 (tk T_cX12_emits 24 rfl) lm0 rfl ?_
  refine a_iconst C (1 : Int32) (tk T_cX12_emits 25 rfl) kI_1 ?_
  refine a_iadd C (tk T_cX12_emits 26 rfl) ?_
  refine a_put C f_RX12_281 f_RX12_281p rfl rfl (tk T_cX12_emits 27 rfl) lm0 rfl ?_
  refine a_mem (fun M5 e_M5 => ?_)
  have h := h M5 e_M5
  exact hR _ _ _ (tk T_cX12_emits 28 rfl) h
theorem ct_M_emits {l : Launch} {g : GT} {post : Mem → Prop} {x1 x2 : Int32} {M : Mem} (h : P_M_emits post x1 x2 M) : CV l g layM yX12_emits cX12_emits 4 none 1 [.ref (ad g 0), .int x1, .int x2] M post :=
  cv_of (plainFor_of_name (by decide +kernel)) (Nat.le_of_ble_eq_true rfl) (fun X A Z hl C hr hR => by subst hl; exact k_M_emits C hr hR x1 x2 M h)
def T_cX12_emitsIfL : List (Nat × Instr × Nat) := [(0, .aload_n 0, 1), (1, .iload_n 1, 1), (2, .iload_n 2, 1), (3, .invokevirtual 315, 3), (6, .iload_n 2, 1), (7, .ifCond .lt 7, 3), (10, .iconst 1, 1), (11, .goto 4, 3), (14, .iconst 0, 1), (15, .ireturn, 1)]
theorem T_cX12_emitsIf : tabOK cX12_emitsIf T_cX12_emitsIfL = true := by decide +kernel
def P_M_emitsIf_15 (post : Int32 → Mem → Prop) (s0 : Int32) (M : Mem) : Prop :=
  (s0 = 0 ∨ s0 = 1) ∧ post s0 M
theorem k_M_emitsIf_15 {X : FX} {g : GT} {A : Nat → Prop} {Z : State → Prop} {post : Int32 → Mem → Prop} (C : Cx X g layM A cX12_emitsIf 3 RX12 2) (hr : 0 ≤ X.2.2.2.1.cells ∧ 0 ≤ X.2.2.2.1.slots) (hR : RetZ X g layM A cX12_emitsIf 3 0 0 Z post) (s0 : Int32) (M : Mem) (h : P_M_emitsIf_15 post s0 M) : AtX X g layM A 3 0 0 Z 15 [] [.int s0] M := by
  exact hR _ _ _ _ (tk T_cX12_emitsIf 9 rfl) h
def P_M_emitsIf (post : Int32 → Mem → Prop) (x1 x2 : Int32) (M : Mem) : Prop :=
  P_M_emits (fun M1 =>
  (x2 < 0 → (P_M_emitsIf_15 post (0 : Int32) M1)) ∧
  (¬ x2 < 0 → (P_M_emitsIf_15 post (1 : Int32) M1))) x1 x2 M
theorem k_M_emitsIf {X : FX} {g : GT} {A : Nat → Prop} {Z : State → Prop} {post : Int32 → Mem → Prop} (C : Cx X g layM A cX12_emitsIf 3 RX12 2) (hr : 0 ≤ X.2.2.2.1.cells ∧ 0 ≤ X.2.2.2.1.slots) (hR : RetZ X g layM A cX12_emitsIf 3 0 0 Z post) (x1 x2 : Int32) (M : Mem) (h : P_M_emitsIf post x1 x2 M) : AtX X g layM A 3 0 0 Z 0 [(0, .ref (ad g 0)), (1, .int x1), (2, .int x2)] [] M := by
  refine a_aload_n C (tk T_cX12_emitsIf 0 rfl) rfl ?_
  refine a_iload_n C (tk T_cX12_emitsIf 1 rfl) rfl ?_
  refine a_iload_n C (tk T_cX12_emitsIf 2 rfl) rfl ?_
  refine a_callV C [.int x1, .int x2] me_yX12_emits lk_RX12_315 (ct_M_emits h) (by decide) lm0 rfl rfl rfl (Nat.le_of_ble_eq_true rfl) (tk T_cX12_emitsIf 3 rfl) hr (fun M1 h => ?_)
  refine a_iload_n C (tk T_cX12_emitsIf 4 rfl) rfl ?_
  refine a_if_lt C 14 (tk T_cX12_emitsIf 5 rfl) rfl (fun c => ?_) (fun c => ?_)
  · have h := h.1 c
    refine a_iconst C (0 : Int32) (tk T_cX12_emitsIf 8 rfl) kI_0 ?_
    exact a_to (k_M_emitsIf_15 C hr hR (0 : Int32) M1 h) rfl
  · have h := h.2 c
    refine a_iconst C (1 : Int32) (tk T_cX12_emitsIf 6 rfl) kI_1 ?_
    refine a_goto C 15 (tk T_cX12_emitsIf 7 rfl) rfl ?_
    exact a_to (k_M_emitsIf_15 C hr hR (1 : Int32) M1 h) rfl
theorem ct_M_emitsIf {l : Launch} {g : GT} {post : Int32 → Mem → Prop} {x1 x2 : Int32} {M : Mem} (h : P_M_emitsIf post x1 x2 M) : CI l g layM yX12_emitsIf cX12_emitsIf 3 (some .boolean) 2 [.ref (ad g 0), .int x1, .int x2] M post :=
  cz_of (plainFor_of_name (by decide +kernel)) (Nat.le_of_ble_eq_true rfl) (fun X A Z hl C hr hR => by subst hl; exact k_M_emitsIf C hr hR x1 x2 M h)
def T_cX12_isWordL : List (Nat × Instr × Nat) := [(0, .aload_n 0, 1), (1, .getfield 278, 3), (4, .aload_n 0, 1), (5, .getfield 290, 3), (8, .isub, 1), (9, .aload_n 1, 1), (10, .invokevirtual 296, 3), (13, .if_icmp .ne 7, 3), (16, .iconst 1, 1), (17, .goto 4, 3), (20, .iconst 0, 1), (21, .istore_n 2, 1), (22, .iconst 0, 1), (23, .istore_n 3, 1), (24, .iload_n 2, 1), (25, .ifCond .eq 42, 3), (28, .iload_n 3, 1), (29, .aload_n 1, 1), (30, .invokevirtual 296, 3), (33, .if_icmp .ge 34, 3), (36, .aload_n 0, 1), (37, .getfield 41, 3), (40, .aload_n 0, 1), (41, .getfield 290, 3), (44, .iload_n 3, 1), (45, .iadd, 1), (46, .baload, 1), (47, .aload_n 1, 1), (48, .iload_n 3, 1), (49, .invokevirtual 301, 3), (52, .if_icmp .ne 7, 3), (55, .iconst 1, 1), (56, .goto 4, 3), (59, .iconst 0, 1), (60, .istore_n 2, 1), (61, .iinc 3 1, 3), (64, .goto (-40), 3), (67, .iload_n 2, 1), (68, .ireturn, 1)]
theorem T_cX12_isWord : tabOK cX12_isWord T_cX12_isWordL = true := by decide +kernel
def P_M_isWord_w5_67 (post : Int32 → Mem → Prop) (x2 : Int32) (M : Mem) : Prop :=
  (x2 = 0 ∨ x2 = 1) ∧ post x2 M
theorem k_M_isWord_w5_67 {X : FX} {g : GT} {A : Nat → Prop} {Z : State → Prop} {post : Int32 → Mem → Prop} {sk : Nat → Nat} (C : CxX X g layM A cX12_isWord 4 RX12 4 0 sk) (hr : 0 ≤ X.2.2.2.1.cells ∧ 0 ≤ X.2.2.2.1.slots) (hR : RetZ X g layM A cX12_isWord 4 0 0 Z post) (x2 : Int32) (M : Mem) (h : P_M_isWord_w5_67 post x2 M) : AtX X g layM A 4 0 0 Z 67 [(2, .int x2)] [] M := by
  refine a_iload_n C.1 (tk T_cX12_isWord 37 rfl) rfl ?_
  exact hR _ _ _ _ (tk T_cX12_isWord 38 rfl) h
def P_M_isWord_w5_60 (post : Int32 → Mem → Prop) (R24 : Int32 → Int32 → Mem → Prop) (x3 s0 : Int32) (M : Mem) : Prop :=
  R24 s0 (x3 + (1 : Int32)) M
theorem k_M_isWord_w5_60 {X : FX} {g : GT} {A : Nat → Prop} {Z : State → Prop} {post : Int32 → Mem → Prop} {R24 : Int32 → Int32 → Mem → Prop} {sk : Nat → Nat} (C : CxX X g layM A cX12_isWord 4 RX12 4 0 sk) (hr : 0 ≤ X.2.2.2.1.cells ∧ 0 ≤ X.2.2.2.1.slots) (hR : RetZ X g layM A cX12_isWord 4 0 0 Z post) (k24 : ∀ (y2 y3 : Int32) (M : Mem), R24 y2 y3 M → AtX X g layM A 4 0 0 Z 24 [(0, .ref (ad g 0)), (1, .ref (sk (30 + 5))), (2, .int y2), (3, .int y3)] [] M) (x3 s0 : Int32) (M : Mem) (h : P_M_isWord_w5_60 post R24 x3 s0 M) : AtX X g layM A 4 0 0 Z 60 [(0, .ref (ad g 0)), (1, .ref (sk (30 + 5))), (3, .int x3)] [.int s0] M := by
  refine a_istore_n C.1 (tk T_cX12_isWord 34 rfl) (by decide) rfl ?_
  refine a_iinc C.1 (1 : Int32) (tk T_cX12_isWord 35 rfl) rfl kI_1 (by decide) rfl ?_
  refine a_goto C.1 24 (tk T_cX12_isWord 36 rfl) rfl ?_
  exact a_to (k24 s0 (x3 + (1 : Int32)) M h) rfl
def P_M_isWord_w5_24 (post : Int32 → Mem → Prop) : Nat → Int32 → Int32 → Mem → Prop
  | 0, _, _, _ => False
  | n + 1, x2, x3, M =>
    (x2 = 0 → (P_M_isWord_w5_67 post x2 M)) ∧
  (¬ x2 = 0 → (P_len 5 (fun r1 M1 =>
  (r1 ≤ x3 → (P_M_isWord_w5_67 post x2 M1)) ∧
  (¬ r1 ≤ x3 → (vp_in ((M1 0 22) + x3) 400 ∧ P_chr 5 (fun r2 M2 =>
  (¬ (M1 10 ((M1 0 22) + x3).toNatClampNeg) = r2 → (P_M_isWord_w5_60 post (P_M_isWord_w5_24 post n) x3 (0 : Int32) M2)) ∧
  ((M1 10 ((M1 0 22) + x3).toNatClampNeg) = r2 → (P_M_isWord_w5_60 post (P_M_isWord_w5_24 post n) x3 (1 : Int32) M2))) x3 M1))) M))
theorem k_M_isWord_w5_24 {X : FX} {g : GT} {A : Nat → Prop} {Z : State → Prop} {post : Int32 → Mem → Prop} {sk : Nat → Nat} (C : CxX X g layM A cX12_isWord 4 RX12 4 0 sk) (hr : 0 ≤ X.2.2.2.1.cells ∧ 0 ≤ X.2.2.2.1.slots) (hR : RetZ X g layM A cX12_isWord 4 0 0 Z post) : ∀ (n : Nat) (x2 x3 : Int32) (M : Mem), P_M_isWord_w5_24 post n x2 x3 M → AtX X g layM A 4 0 0 Z 24 [(0, .ref (ad g 0)), (1, .ref (sk (30 + 5))), (2, .int x2), (3, .int x3)] [] M := by
  intro n
  induction n with
  | zero =>
    intro x2 x3 M h
    exact h.elim
  | succ n ih =>
    intro x2 x3 M h
    refine a_iload_n C.1 (tk T_cX12_isWord 14 rfl) rfl ?_
    refine a_if_eq C.1 67 (tk T_cX12_isWord 15 rfl) rfl (fun c => ?_) (fun c => ?_)
    · have h := h.1 c
      exact a_to (k_M_isWord_w5_67 C hr hR x2 M h) rfl
    · have h := h.2 c
      refine a_iload_n C.1 (tk T_cX12_isWord 16 rfl) rfl ?_
      refine a_aload_n C.1 (tk T_cX12_isWord 17 rfl) rfl ?_
      refine s_strI C [] me_yJ0_length_8abf5 rfl lk_RX12_296 (ct_lenP (o := 30) (j := 5) ⟨Or.inr rfl, by decide⟩ h) (by decide) (wok.at (o := 30) (j := 5) ⟨Or.inr rfl, by decide⟩ C.2.1.2.2.2.2.2.2.2).1 rfl rfl (Nat.le_of_ble_eq_true rfl) (tk T_cX12_isWord 18 rfl) hr (fun r1 M1 h => ?_)
      refine a_icmp_ge C.1 67 (tk T_cX12_isWord 19 rfl) rfl (fun c => ?_) (fun c => ?_)
      · have h := h.1 c
        exact a_to (k_M_isWord_w5_67 C hr hR x2 M1 h) rfl
      · have h := h.2 c
        refine a_aload_n C.1 (tk T_cX12_isWord 20 rfl) rfl ?_
        refine a_getR C.1 f_RX12_41 (tk T_cX12_isWord 21 rfl) lm0 rfl ?_
        refine a_aload_n C.1 (tk T_cX12_isWord 22 rfl) rfl ?_
        refine a_getI C.1 f_RX12_290 (tk T_cX12_isWord 23 rfl) lm0 rfl ?_
        refine a_iload_n C.1 (tk T_cX12_isWord 24 rfl) rfl ?_
        refine a_iadd C.1 (tk T_cX12_isWord 25 rfl) ?_
        obtain ⟨hb, h⟩ := h
        refine a_bald C.1 (tk T_cX12_isWord 26 rfl) lm10 hb ?_
        refine a_aload_n C.1 (tk T_cX12_isWord 27 rfl) rfl ?_
        refine a_iload_n C.1 (tk T_cX12_isWord 28 rfl) rfl ?_
        refine s_strI C [.int x3] me_yJ0_charAt_5068e rfl lk_RX12_301 (ct_chrP (o := 30) (j := 5) ⟨Or.inr rfl, by decide⟩ h) (by decide) (wok.at (o := 30) (j := 5) ⟨Or.inr rfl, by decide⟩ C.2.1.2.2.2.2.2.2.2).1 rfl rfl (Nat.le_of_ble_eq_true rfl) (tk T_cX12_isWord 29 rfl) hr (fun r2 M2 h => ?_)
        refine a_icmp_ne C.1 59 (tk T_cX12_isWord 30 rfl) rfl (fun c => ?_) (fun c => ?_)
        · have h := h.1 c
          refine a_iconst C.1 (0 : Int32) (tk T_cX12_isWord 33 rfl) kI_0 ?_
          exact a_to (k_M_isWord_w5_60 C hr hR ih x3 (0 : Int32) M2 h) rfl
        · have h := h.2 c
          refine a_iconst C.1 (1 : Int32) (tk T_cX12_isWord 31 rfl) kI_1 ?_
          refine a_goto C.1 60 (tk T_cX12_isWord 32 rfl) rfl ?_
          exact a_to (k_M_isWord_w5_60 C hr hR ih x3 (1 : Int32) M2 h) rfl
def P_M_isWord_w5_21 (post : Int32 → Mem → Prop) (s0 : Int32) (M : Mem) : Prop :=
  ∃ j24, P_M_isWord_w5_24 post j24 s0 (0 : Int32) M
theorem k_M_isWord_w5_21 {X : FX} {g : GT} {A : Nat → Prop} {Z : State → Prop} {post : Int32 → Mem → Prop} {sk : Nat → Nat} (C : CxX X g layM A cX12_isWord 4 RX12 4 0 sk) (hr : 0 ≤ X.2.2.2.1.cells ∧ 0 ≤ X.2.2.2.1.slots) (hR : RetZ X g layM A cX12_isWord 4 0 0 Z post) (s0 : Int32) (M : Mem) (h : P_M_isWord_w5_21 post s0 M) : AtX X g layM A 4 0 0 Z 21 [(0, .ref (ad g 0)), (1, .ref (sk (30 + 5)))] [.int s0] M := by
  refine a_istore_n C.1 (tk T_cX12_isWord 11 rfl) (by decide) rfl ?_
  refine a_iconst C.1 (0 : Int32) (tk T_cX12_isWord 12 rfl) kI_0 ?_
  refine a_istore_n C.1 (tk T_cX12_isWord 13 rfl) (by decide) rfl ?_
  obtain ⟨n1, h⟩ := h
  exact a_to (k_M_isWord_w5_24 C hr hR n1 s0 (0 : Int32) M h) rfl
def P_M_isWord_w5 (post : Int32 → Mem → Prop) (M : Mem) : Prop :=
  P_len 5 (fun r1 M1 =>
  (¬ ((M 0 20) - (M 0 22)) = r1 → (P_M_isWord_w5_21 post (0 : Int32) M1)) ∧
  (((M 0 20) - (M 0 22)) = r1 → (P_M_isWord_w5_21 post (1 : Int32) M1))) M
theorem k_M_isWord_w5 {X : FX} {g : GT} {A : Nat → Prop} {Z : State → Prop} {post : Int32 → Mem → Prop} {sk : Nat → Nat} (C : CxX X g layM A cX12_isWord 4 RX12 4 0 sk) (hr : 0 ≤ X.2.2.2.1.cells ∧ 0 ≤ X.2.2.2.1.slots) (hR : RetZ X g layM A cX12_isWord 4 0 0 Z post) (M : Mem) (h : P_M_isWord_w5 post M) : AtX X g layM A 4 0 0 Z 0 [(0, .ref (ad g 0)), (1, .ref (sk (30 + 5)))] [] M := by
  refine a_aload_n C.1 (tk T_cX12_isWord 0 rfl) rfl ?_
  refine a_getI C.1 f_RX12_278 (tk T_cX12_isWord 1 rfl) lm0 rfl ?_
  refine a_aload_n C.1 (tk T_cX12_isWord 2 rfl) rfl ?_
  refine a_getI C.1 f_RX12_290 (tk T_cX12_isWord 3 rfl) lm0 rfl ?_
  refine a_isub C.1 (tk T_cX12_isWord 4 rfl) ?_
  refine a_aload_n C.1 (tk T_cX12_isWord 5 rfl) rfl ?_
  refine s_strI C [] me_yJ0_length_8abf5 rfl lk_RX12_296 (ct_lenP (o := 30) (j := 5) ⟨Or.inr rfl, by decide⟩ h) (by decide) (wok.at (o := 30) (j := 5) ⟨Or.inr rfl, by decide⟩ C.2.1.2.2.2.2.2.2.2).1 rfl rfl (Nat.le_of_ble_eq_true rfl) (tk T_cX12_isWord 6 rfl) hr (fun r1 M1 h => ?_)
  refine a_icmp_ne C.1 20 (tk T_cX12_isWord 7 rfl) rfl (fun c => ?_) (fun c => ?_)
  · have h := h.1 c
    refine a_iconst C.1 (0 : Int32) (tk T_cX12_isWord 10 rfl) kI_0 ?_
    exact a_to (k_M_isWord_w5_21 C hr hR (0 : Int32) M1 h) rfl
  · have h := h.2 c
    refine a_iconst C.1 (1 : Int32) (tk T_cX12_isWord 8 rfl) kI_1 ?_
    refine a_goto C.1 21 (tk T_cX12_isWord 9 rfl) rfl ?_
    exact a_to (k_M_isWord_w5_21 C hr hR (1 : Int32) M1 h) rfl
theorem ct_M_isWord_w5 {l : Launch} {g : GT} {sk : Nat → Nat} {post : Int32 → Mem → Prop} {M : Mem} (h : P_M_isWord_w5 post M) : SI l g layM sk yX12_isWord cX12_isWord 4 (some .boolean) 4 [.ref (ad g 0), .ref (sk (30 + 5))] M post :=
  st_of (plainFor_of_name (by decide +kernel)) (Nat.le_of_ble_eq_true rfl) (fun X A Z hl C hr hR => by subst hl; exact k_M_isWord_w5 C hr (fun v M pc lv hd hp => hR v M pc lv hd (nar_z hp.1) hp.2)  M h)
def P_M_isWord_w6_67 (post : Int32 → Mem → Prop) (x2 : Int32) (M : Mem) : Prop :=
  (x2 = 0 ∨ x2 = 1) ∧ post x2 M
theorem k_M_isWord_w6_67 {X : FX} {g : GT} {A : Nat → Prop} {Z : State → Prop} {post : Int32 → Mem → Prop} {sk : Nat → Nat} (C : CxX X g layM A cX12_isWord 4 RX12 4 0 sk) (hr : 0 ≤ X.2.2.2.1.cells ∧ 0 ≤ X.2.2.2.1.slots) (hR : RetZ X g layM A cX12_isWord 4 0 0 Z post) (x2 : Int32) (M : Mem) (h : P_M_isWord_w6_67 post x2 M) : AtX X g layM A 4 0 0 Z 67 [(2, .int x2)] [] M := by
  refine a_iload_n C.1 (tk T_cX12_isWord 37 rfl) rfl ?_
  exact hR _ _ _ _ (tk T_cX12_isWord 38 rfl) h
def P_M_isWord_w6_60 (post : Int32 → Mem → Prop) (R24 : Int32 → Int32 → Mem → Prop) (x3 s0 : Int32) (M : Mem) : Prop :=
  R24 s0 (x3 + (1 : Int32)) M
theorem k_M_isWord_w6_60 {X : FX} {g : GT} {A : Nat → Prop} {Z : State → Prop} {post : Int32 → Mem → Prop} {R24 : Int32 → Int32 → Mem → Prop} {sk : Nat → Nat} (C : CxX X g layM A cX12_isWord 4 RX12 4 0 sk) (hr : 0 ≤ X.2.2.2.1.cells ∧ 0 ≤ X.2.2.2.1.slots) (hR : RetZ X g layM A cX12_isWord 4 0 0 Z post) (k24 : ∀ (y2 y3 : Int32) (M : Mem), R24 y2 y3 M → AtX X g layM A 4 0 0 Z 24 [(0, .ref (ad g 0)), (1, .ref (sk (30 + 6))), (2, .int y2), (3, .int y3)] [] M) (x3 s0 : Int32) (M : Mem) (h : P_M_isWord_w6_60 post R24 x3 s0 M) : AtX X g layM A 4 0 0 Z 60 [(0, .ref (ad g 0)), (1, .ref (sk (30 + 6))), (3, .int x3)] [.int s0] M := by
  refine a_istore_n C.1 (tk T_cX12_isWord 34 rfl) (by decide) rfl ?_
  refine a_iinc C.1 (1 : Int32) (tk T_cX12_isWord 35 rfl) rfl kI_1 (by decide) rfl ?_
  refine a_goto C.1 24 (tk T_cX12_isWord 36 rfl) rfl ?_
  exact a_to (k24 s0 (x3 + (1 : Int32)) M h) rfl
def P_M_isWord_w6_24 (post : Int32 → Mem → Prop) : Nat → Int32 → Int32 → Mem → Prop
  | 0, _, _, _ => False
  | n + 1, x2, x3, M =>
    (x2 = 0 → (P_M_isWord_w6_67 post x2 M)) ∧
  (¬ x2 = 0 → (P_len 6 (fun r1 M1 =>
  (r1 ≤ x3 → (P_M_isWord_w6_67 post x2 M1)) ∧
  (¬ r1 ≤ x3 → (vp_in ((M1 0 22) + x3) 400 ∧ P_chr 6 (fun r2 M2 =>
  (¬ (M1 10 ((M1 0 22) + x3).toNatClampNeg) = r2 → (P_M_isWord_w6_60 post (P_M_isWord_w6_24 post n) x3 (0 : Int32) M2)) ∧
  ((M1 10 ((M1 0 22) + x3).toNatClampNeg) = r2 → (P_M_isWord_w6_60 post (P_M_isWord_w6_24 post n) x3 (1 : Int32) M2))) x3 M1))) M))
theorem k_M_isWord_w6_24 {X : FX} {g : GT} {A : Nat → Prop} {Z : State → Prop} {post : Int32 → Mem → Prop} {sk : Nat → Nat} (C : CxX X g layM A cX12_isWord 4 RX12 4 0 sk) (hr : 0 ≤ X.2.2.2.1.cells ∧ 0 ≤ X.2.2.2.1.slots) (hR : RetZ X g layM A cX12_isWord 4 0 0 Z post) : ∀ (n : Nat) (x2 x3 : Int32) (M : Mem), P_M_isWord_w6_24 post n x2 x3 M → AtX X g layM A 4 0 0 Z 24 [(0, .ref (ad g 0)), (1, .ref (sk (30 + 6))), (2, .int x2), (3, .int x3)] [] M := by
  intro n
  induction n with
  | zero =>
    intro x2 x3 M h
    exact h.elim
  | succ n ih =>
    intro x2 x3 M h
    refine a_iload_n C.1 (tk T_cX12_isWord 14 rfl) rfl ?_
    refine a_if_eq C.1 67 (tk T_cX12_isWord 15 rfl) rfl (fun c => ?_) (fun c => ?_)
    · have h := h.1 c
      exact a_to (k_M_isWord_w6_67 C hr hR x2 M h) rfl
    · have h := h.2 c
      refine a_iload_n C.1 (tk T_cX12_isWord 16 rfl) rfl ?_
      refine a_aload_n C.1 (tk T_cX12_isWord 17 rfl) rfl ?_
      refine s_strI C [] me_yJ0_length_8abf5 rfl lk_RX12_296 (ct_lenP (o := 30) (j := 6) ⟨Or.inr rfl, by decide⟩ h) (by decide) (wok.at (o := 30) (j := 6) ⟨Or.inr rfl, by decide⟩ C.2.1.2.2.2.2.2.2.2).1 rfl rfl (Nat.le_of_ble_eq_true rfl) (tk T_cX12_isWord 18 rfl) hr (fun r1 M1 h => ?_)
      refine a_icmp_ge C.1 67 (tk T_cX12_isWord 19 rfl) rfl (fun c => ?_) (fun c => ?_)
      · have h := h.1 c
        exact a_to (k_M_isWord_w6_67 C hr hR x2 M1 h) rfl
      · have h := h.2 c
        refine a_aload_n C.1 (tk T_cX12_isWord 20 rfl) rfl ?_
        refine a_getR C.1 f_RX12_41 (tk T_cX12_isWord 21 rfl) lm0 rfl ?_
        refine a_aload_n C.1 (tk T_cX12_isWord 22 rfl) rfl ?_
        refine a_getI C.1 f_RX12_290 (tk T_cX12_isWord 23 rfl) lm0 rfl ?_
        refine a_iload_n C.1 (tk T_cX12_isWord 24 rfl) rfl ?_
        refine a_iadd C.1 (tk T_cX12_isWord 25 rfl) ?_
        obtain ⟨hb, h⟩ := h
        refine a_bald C.1 (tk T_cX12_isWord 26 rfl) lm10 hb ?_
        refine a_aload_n C.1 (tk T_cX12_isWord 27 rfl) rfl ?_
        refine a_iload_n C.1 (tk T_cX12_isWord 28 rfl) rfl ?_
        refine s_strI C [.int x3] me_yJ0_charAt_5068e rfl lk_RX12_301 (ct_chrP (o := 30) (j := 6) ⟨Or.inr rfl, by decide⟩ h) (by decide) (wok.at (o := 30) (j := 6) ⟨Or.inr rfl, by decide⟩ C.2.1.2.2.2.2.2.2.2).1 rfl rfl (Nat.le_of_ble_eq_true rfl) (tk T_cX12_isWord 29 rfl) hr (fun r2 M2 h => ?_)
        refine a_icmp_ne C.1 59 (tk T_cX12_isWord 30 rfl) rfl (fun c => ?_) (fun c => ?_)
        · have h := h.1 c
          refine a_iconst C.1 (0 : Int32) (tk T_cX12_isWord 33 rfl) kI_0 ?_
          exact a_to (k_M_isWord_w6_60 C hr hR ih x3 (0 : Int32) M2 h) rfl
        · have h := h.2 c
          refine a_iconst C.1 (1 : Int32) (tk T_cX12_isWord 31 rfl) kI_1 ?_
          refine a_goto C.1 60 (tk T_cX12_isWord 32 rfl) rfl ?_
          exact a_to (k_M_isWord_w6_60 C hr hR ih x3 (1 : Int32) M2 h) rfl
def P_M_isWord_w6_21 (post : Int32 → Mem → Prop) (s0 : Int32) (M : Mem) : Prop :=
  ∃ j24, P_M_isWord_w6_24 post j24 s0 (0 : Int32) M
theorem k_M_isWord_w6_21 {X : FX} {g : GT} {A : Nat → Prop} {Z : State → Prop} {post : Int32 → Mem → Prop} {sk : Nat → Nat} (C : CxX X g layM A cX12_isWord 4 RX12 4 0 sk) (hr : 0 ≤ X.2.2.2.1.cells ∧ 0 ≤ X.2.2.2.1.slots) (hR : RetZ X g layM A cX12_isWord 4 0 0 Z post) (s0 : Int32) (M : Mem) (h : P_M_isWord_w6_21 post s0 M) : AtX X g layM A 4 0 0 Z 21 [(0, .ref (ad g 0)), (1, .ref (sk (30 + 6)))] [.int s0] M := by
  refine a_istore_n C.1 (tk T_cX12_isWord 11 rfl) (by decide) rfl ?_
  refine a_iconst C.1 (0 : Int32) (tk T_cX12_isWord 12 rfl) kI_0 ?_
  refine a_istore_n C.1 (tk T_cX12_isWord 13 rfl) (by decide) rfl ?_
  obtain ⟨n1, h⟩ := h
  exact a_to (k_M_isWord_w6_24 C hr hR n1 s0 (0 : Int32) M h) rfl
def P_M_isWord_w6 (post : Int32 → Mem → Prop) (M : Mem) : Prop :=
  P_len 6 (fun r1 M1 =>
  (¬ ((M 0 20) - (M 0 22)) = r1 → (P_M_isWord_w6_21 post (0 : Int32) M1)) ∧
  (((M 0 20) - (M 0 22)) = r1 → (P_M_isWord_w6_21 post (1 : Int32) M1))) M
theorem k_M_isWord_w6 {X : FX} {g : GT} {A : Nat → Prop} {Z : State → Prop} {post : Int32 → Mem → Prop} {sk : Nat → Nat} (C : CxX X g layM A cX12_isWord 4 RX12 4 0 sk) (hr : 0 ≤ X.2.2.2.1.cells ∧ 0 ≤ X.2.2.2.1.slots) (hR : RetZ X g layM A cX12_isWord 4 0 0 Z post) (M : Mem) (h : P_M_isWord_w6 post M) : AtX X g layM A 4 0 0 Z 0 [(0, .ref (ad g 0)), (1, .ref (sk (30 + 6)))] [] M := by
  refine a_aload_n C.1 (tk T_cX12_isWord 0 rfl) rfl ?_
  refine a_getI C.1 f_RX12_278 (tk T_cX12_isWord 1 rfl) lm0 rfl ?_
  refine a_aload_n C.1 (tk T_cX12_isWord 2 rfl) rfl ?_
  refine a_getI C.1 f_RX12_290 (tk T_cX12_isWord 3 rfl) lm0 rfl ?_
  refine a_isub C.1 (tk T_cX12_isWord 4 rfl) ?_
  refine a_aload_n C.1 (tk T_cX12_isWord 5 rfl) rfl ?_
  refine s_strI C [] me_yJ0_length_8abf5 rfl lk_RX12_296 (ct_lenP (o := 30) (j := 6) ⟨Or.inr rfl, by decide⟩ h) (by decide) (wok.at (o := 30) (j := 6) ⟨Or.inr rfl, by decide⟩ C.2.1.2.2.2.2.2.2.2).1 rfl rfl (Nat.le_of_ble_eq_true rfl) (tk T_cX12_isWord 6 rfl) hr (fun r1 M1 h => ?_)
  refine a_icmp_ne C.1 20 (tk T_cX12_isWord 7 rfl) rfl (fun c => ?_) (fun c => ?_)
  · have h := h.1 c
    refine a_iconst C.1 (0 : Int32) (tk T_cX12_isWord 10 rfl) kI_0 ?_
    exact a_to (k_M_isWord_w6_21 C hr hR (0 : Int32) M1 h) rfl
  · have h := h.2 c
    refine a_iconst C.1 (1 : Int32) (tk T_cX12_isWord 8 rfl) kI_1 ?_
    refine a_goto C.1 21 (tk T_cX12_isWord 9 rfl) rfl ?_
    exact a_to (k_M_isWord_w6_21 C hr hR (1 : Int32) M1 h) rfl
theorem ct_M_isWord_w6 {l : Launch} {g : GT} {sk : Nat → Nat} {post : Int32 → Mem → Prop} {M : Mem} (h : P_M_isWord_w6 post M) : SI l g layM sk yX12_isWord cX12_isWord 4 (some .boolean) 4 [.ref (ad g 0), .ref (sk (30 + 6))] M post :=
  st_of (plainFor_of_name (by decide +kernel)) (Nat.le_of_ble_eq_true rfl) (fun X A Z hl C hr hR => by subst hl; exact k_M_isWord_w6 C hr (fun v M pc lv hd hp => hR v M pc lv hd (nar_z hp.1) hp.2)  M h)
def P_M_isWord_w7_67 (post : Int32 → Mem → Prop) (x2 : Int32) (M : Mem) : Prop :=
  (x2 = 0 ∨ x2 = 1) ∧ post x2 M
theorem k_M_isWord_w7_67 {X : FX} {g : GT} {A : Nat → Prop} {Z : State → Prop} {post : Int32 → Mem → Prop} {sk : Nat → Nat} (C : CxX X g layM A cX12_isWord 4 RX12 4 0 sk) (hr : 0 ≤ X.2.2.2.1.cells ∧ 0 ≤ X.2.2.2.1.slots) (hR : RetZ X g layM A cX12_isWord 4 0 0 Z post) (x2 : Int32) (M : Mem) (h : P_M_isWord_w7_67 post x2 M) : AtX X g layM A 4 0 0 Z 67 [(2, .int x2)] [] M := by
  refine a_iload_n C.1 (tk T_cX12_isWord 37 rfl) rfl ?_
  exact hR _ _ _ _ (tk T_cX12_isWord 38 rfl) h
def P_M_isWord_w7_60 (post : Int32 → Mem → Prop) (R24 : Int32 → Int32 → Mem → Prop) (x3 s0 : Int32) (M : Mem) : Prop :=
  R24 s0 (x3 + (1 : Int32)) M
theorem k_M_isWord_w7_60 {X : FX} {g : GT} {A : Nat → Prop} {Z : State → Prop} {post : Int32 → Mem → Prop} {R24 : Int32 → Int32 → Mem → Prop} {sk : Nat → Nat} (C : CxX X g layM A cX12_isWord 4 RX12 4 0 sk) (hr : 0 ≤ X.2.2.2.1.cells ∧ 0 ≤ X.2.2.2.1.slots) (hR : RetZ X g layM A cX12_isWord 4 0 0 Z post) (k24 : ∀ (y2 y3 : Int32) (M : Mem), R24 y2 y3 M → AtX X g layM A 4 0 0 Z 24 [(0, .ref (ad g 0)), (1, .ref (sk (30 + 7))), (2, .int y2), (3, .int y3)] [] M) (x3 s0 : Int32) (M : Mem) (h : P_M_isWord_w7_60 post R24 x3 s0 M) : AtX X g layM A 4 0 0 Z 60 [(0, .ref (ad g 0)), (1, .ref (sk (30 + 7))), (3, .int x3)] [.int s0] M := by
  refine a_istore_n C.1 (tk T_cX12_isWord 34 rfl) (by decide) rfl ?_
  refine a_iinc C.1 (1 : Int32) (tk T_cX12_isWord 35 rfl) rfl kI_1 (by decide) rfl ?_
  refine a_goto C.1 24 (tk T_cX12_isWord 36 rfl) rfl ?_
  exact a_to (k24 s0 (x3 + (1 : Int32)) M h) rfl
def P_M_isWord_w7_24 (post : Int32 → Mem → Prop) : Nat → Int32 → Int32 → Mem → Prop
  | 0, _, _, _ => False
  | n + 1, x2, x3, M =>
    (x2 = 0 → (P_M_isWord_w7_67 post x2 M)) ∧
  (¬ x2 = 0 → (P_len 7 (fun r1 M1 =>
  (r1 ≤ x3 → (P_M_isWord_w7_67 post x2 M1)) ∧
  (¬ r1 ≤ x3 → (vp_in ((M1 0 22) + x3) 400 ∧ P_chr 7 (fun r2 M2 =>
  (¬ (M1 10 ((M1 0 22) + x3).toNatClampNeg) = r2 → (P_M_isWord_w7_60 post (P_M_isWord_w7_24 post n) x3 (0 : Int32) M2)) ∧
  ((M1 10 ((M1 0 22) + x3).toNatClampNeg) = r2 → (P_M_isWord_w7_60 post (P_M_isWord_w7_24 post n) x3 (1 : Int32) M2))) x3 M1))) M))
theorem k_M_isWord_w7_24 {X : FX} {g : GT} {A : Nat → Prop} {Z : State → Prop} {post : Int32 → Mem → Prop} {sk : Nat → Nat} (C : CxX X g layM A cX12_isWord 4 RX12 4 0 sk) (hr : 0 ≤ X.2.2.2.1.cells ∧ 0 ≤ X.2.2.2.1.slots) (hR : RetZ X g layM A cX12_isWord 4 0 0 Z post) : ∀ (n : Nat) (x2 x3 : Int32) (M : Mem), P_M_isWord_w7_24 post n x2 x3 M → AtX X g layM A 4 0 0 Z 24 [(0, .ref (ad g 0)), (1, .ref (sk (30 + 7))), (2, .int x2), (3, .int x3)] [] M := by
  intro n
  induction n with
  | zero =>
    intro x2 x3 M h
    exact h.elim
  | succ n ih =>
    intro x2 x3 M h
    refine a_iload_n C.1 (tk T_cX12_isWord 14 rfl) rfl ?_
    refine a_if_eq C.1 67 (tk T_cX12_isWord 15 rfl) rfl (fun c => ?_) (fun c => ?_)
    · have h := h.1 c
      exact a_to (k_M_isWord_w7_67 C hr hR x2 M h) rfl
    · have h := h.2 c
      refine a_iload_n C.1 (tk T_cX12_isWord 16 rfl) rfl ?_
      refine a_aload_n C.1 (tk T_cX12_isWord 17 rfl) rfl ?_
      refine s_strI C [] me_yJ0_length_8abf5 rfl lk_RX12_296 (ct_lenP (o := 30) (j := 7) ⟨Or.inr rfl, by decide⟩ h) (by decide) (wok.at (o := 30) (j := 7) ⟨Or.inr rfl, by decide⟩ C.2.1.2.2.2.2.2.2.2).1 rfl rfl (Nat.le_of_ble_eq_true rfl) (tk T_cX12_isWord 18 rfl) hr (fun r1 M1 h => ?_)
      refine a_icmp_ge C.1 67 (tk T_cX12_isWord 19 rfl) rfl (fun c => ?_) (fun c => ?_)
      · have h := h.1 c
        exact a_to (k_M_isWord_w7_67 C hr hR x2 M1 h) rfl
      · have h := h.2 c
        refine a_aload_n C.1 (tk T_cX12_isWord 20 rfl) rfl ?_
        refine a_getR C.1 f_RX12_41 (tk T_cX12_isWord 21 rfl) lm0 rfl ?_
        refine a_aload_n C.1 (tk T_cX12_isWord 22 rfl) rfl ?_
        refine a_getI C.1 f_RX12_290 (tk T_cX12_isWord 23 rfl) lm0 rfl ?_
        refine a_iload_n C.1 (tk T_cX12_isWord 24 rfl) rfl ?_
        refine a_iadd C.1 (tk T_cX12_isWord 25 rfl) ?_
        obtain ⟨hb, h⟩ := h
        refine a_bald C.1 (tk T_cX12_isWord 26 rfl) lm10 hb ?_
        refine a_aload_n C.1 (tk T_cX12_isWord 27 rfl) rfl ?_
        refine a_iload_n C.1 (tk T_cX12_isWord 28 rfl) rfl ?_
        refine s_strI C [.int x3] me_yJ0_charAt_5068e rfl lk_RX12_301 (ct_chrP (o := 30) (j := 7) ⟨Or.inr rfl, by decide⟩ h) (by decide) (wok.at (o := 30) (j := 7) ⟨Or.inr rfl, by decide⟩ C.2.1.2.2.2.2.2.2.2).1 rfl rfl (Nat.le_of_ble_eq_true rfl) (tk T_cX12_isWord 29 rfl) hr (fun r2 M2 h => ?_)
        refine a_icmp_ne C.1 59 (tk T_cX12_isWord 30 rfl) rfl (fun c => ?_) (fun c => ?_)
        · have h := h.1 c
          refine a_iconst C.1 (0 : Int32) (tk T_cX12_isWord 33 rfl) kI_0 ?_
          exact a_to (k_M_isWord_w7_60 C hr hR ih x3 (0 : Int32) M2 h) rfl
        · have h := h.2 c
          refine a_iconst C.1 (1 : Int32) (tk T_cX12_isWord 31 rfl) kI_1 ?_
          refine a_goto C.1 60 (tk T_cX12_isWord 32 rfl) rfl ?_
          exact a_to (k_M_isWord_w7_60 C hr hR ih x3 (1 : Int32) M2 h) rfl
def P_M_isWord_w7_21 (post : Int32 → Mem → Prop) (s0 : Int32) (M : Mem) : Prop :=
  ∃ j24, P_M_isWord_w7_24 post j24 s0 (0 : Int32) M
theorem k_M_isWord_w7_21 {X : FX} {g : GT} {A : Nat → Prop} {Z : State → Prop} {post : Int32 → Mem → Prop} {sk : Nat → Nat} (C : CxX X g layM A cX12_isWord 4 RX12 4 0 sk) (hr : 0 ≤ X.2.2.2.1.cells ∧ 0 ≤ X.2.2.2.1.slots) (hR : RetZ X g layM A cX12_isWord 4 0 0 Z post) (s0 : Int32) (M : Mem) (h : P_M_isWord_w7_21 post s0 M) : AtX X g layM A 4 0 0 Z 21 [(0, .ref (ad g 0)), (1, .ref (sk (30 + 7)))] [.int s0] M := by
  refine a_istore_n C.1 (tk T_cX12_isWord 11 rfl) (by decide) rfl ?_
  refine a_iconst C.1 (0 : Int32) (tk T_cX12_isWord 12 rfl) kI_0 ?_
  refine a_istore_n C.1 (tk T_cX12_isWord 13 rfl) (by decide) rfl ?_
  obtain ⟨n1, h⟩ := h
  exact a_to (k_M_isWord_w7_24 C hr hR n1 s0 (0 : Int32) M h) rfl
def P_M_isWord_w7 (post : Int32 → Mem → Prop) (M : Mem) : Prop :=
  P_len 7 (fun r1 M1 =>
  (¬ ((M 0 20) - (M 0 22)) = r1 → (P_M_isWord_w7_21 post (0 : Int32) M1)) ∧
  (((M 0 20) - (M 0 22)) = r1 → (P_M_isWord_w7_21 post (1 : Int32) M1))) M
theorem k_M_isWord_w7 {X : FX} {g : GT} {A : Nat → Prop} {Z : State → Prop} {post : Int32 → Mem → Prop} {sk : Nat → Nat} (C : CxX X g layM A cX12_isWord 4 RX12 4 0 sk) (hr : 0 ≤ X.2.2.2.1.cells ∧ 0 ≤ X.2.2.2.1.slots) (hR : RetZ X g layM A cX12_isWord 4 0 0 Z post) (M : Mem) (h : P_M_isWord_w7 post M) : AtX X g layM A 4 0 0 Z 0 [(0, .ref (ad g 0)), (1, .ref (sk (30 + 7)))] [] M := by
  refine a_aload_n C.1 (tk T_cX12_isWord 0 rfl) rfl ?_
  refine a_getI C.1 f_RX12_278 (tk T_cX12_isWord 1 rfl) lm0 rfl ?_
  refine a_aload_n C.1 (tk T_cX12_isWord 2 rfl) rfl ?_
  refine a_getI C.1 f_RX12_290 (tk T_cX12_isWord 3 rfl) lm0 rfl ?_
  refine a_isub C.1 (tk T_cX12_isWord 4 rfl) ?_
  refine a_aload_n C.1 (tk T_cX12_isWord 5 rfl) rfl ?_
  refine s_strI C [] me_yJ0_length_8abf5 rfl lk_RX12_296 (ct_lenP (o := 30) (j := 7) ⟨Or.inr rfl, by decide⟩ h) (by decide) (wok.at (o := 30) (j := 7) ⟨Or.inr rfl, by decide⟩ C.2.1.2.2.2.2.2.2.2).1 rfl rfl (Nat.le_of_ble_eq_true rfl) (tk T_cX12_isWord 6 rfl) hr (fun r1 M1 h => ?_)
  refine a_icmp_ne C.1 20 (tk T_cX12_isWord 7 rfl) rfl (fun c => ?_) (fun c => ?_)
  · have h := h.1 c
    refine a_iconst C.1 (0 : Int32) (tk T_cX12_isWord 10 rfl) kI_0 ?_
    exact a_to (k_M_isWord_w7_21 C hr hR (0 : Int32) M1 h) rfl
  · have h := h.2 c
    refine a_iconst C.1 (1 : Int32) (tk T_cX12_isWord 8 rfl) kI_1 ?_
    refine a_goto C.1 21 (tk T_cX12_isWord 9 rfl) rfl ?_
    exact a_to (k_M_isWord_w7_21 C hr hR (1 : Int32) M1 h) rfl
theorem ct_M_isWord_w7 {l : Launch} {g : GT} {sk : Nat → Nat} {post : Int32 → Mem → Prop} {M : Mem} (h : P_M_isWord_w7 post M) : SI l g layM sk yX12_isWord cX12_isWord 4 (some .boolean) 4 [.ref (ad g 0), .ref (sk (30 + 7))] M post :=
  st_of (plainFor_of_name (by decide +kernel)) (Nat.le_of_ble_eq_true rfl) (fun X A Z hl C hr hR => by subst hl; exact k_M_isWord_w7 C hr (fun v M pc lv hd hp => hR v M pc lv hd (nar_z hp.1) hp.2)  M h)
def P_M_isWord_w8_67 (post : Int32 → Mem → Prop) (x2 : Int32) (M : Mem) : Prop :=
  (x2 = 0 ∨ x2 = 1) ∧ post x2 M
theorem k_M_isWord_w8_67 {X : FX} {g : GT} {A : Nat → Prop} {Z : State → Prop} {post : Int32 → Mem → Prop} {sk : Nat → Nat} (C : CxX X g layM A cX12_isWord 4 RX12 4 0 sk) (hr : 0 ≤ X.2.2.2.1.cells ∧ 0 ≤ X.2.2.2.1.slots) (hR : RetZ X g layM A cX12_isWord 4 0 0 Z post) (x2 : Int32) (M : Mem) (h : P_M_isWord_w8_67 post x2 M) : AtX X g layM A 4 0 0 Z 67 [(2, .int x2)] [] M := by
  refine a_iload_n C.1 (tk T_cX12_isWord 37 rfl) rfl ?_
  exact hR _ _ _ _ (tk T_cX12_isWord 38 rfl) h
def P_M_isWord_w8_60 (post : Int32 → Mem → Prop) (R24 : Int32 → Int32 → Mem → Prop) (x3 s0 : Int32) (M : Mem) : Prop :=
  R24 s0 (x3 + (1 : Int32)) M
theorem k_M_isWord_w8_60 {X : FX} {g : GT} {A : Nat → Prop} {Z : State → Prop} {post : Int32 → Mem → Prop} {R24 : Int32 → Int32 → Mem → Prop} {sk : Nat → Nat} (C : CxX X g layM A cX12_isWord 4 RX12 4 0 sk) (hr : 0 ≤ X.2.2.2.1.cells ∧ 0 ≤ X.2.2.2.1.slots) (hR : RetZ X g layM A cX12_isWord 4 0 0 Z post) (k24 : ∀ (y2 y3 : Int32) (M : Mem), R24 y2 y3 M → AtX X g layM A 4 0 0 Z 24 [(0, .ref (ad g 0)), (1, .ref (sk (30 + 8))), (2, .int y2), (3, .int y3)] [] M) (x3 s0 : Int32) (M : Mem) (h : P_M_isWord_w8_60 post R24 x3 s0 M) : AtX X g layM A 4 0 0 Z 60 [(0, .ref (ad g 0)), (1, .ref (sk (30 + 8))), (3, .int x3)] [.int s0] M := by
  refine a_istore_n C.1 (tk T_cX12_isWord 34 rfl) (by decide) rfl ?_
  refine a_iinc C.1 (1 : Int32) (tk T_cX12_isWord 35 rfl) rfl kI_1 (by decide) rfl ?_
  refine a_goto C.1 24 (tk T_cX12_isWord 36 rfl) rfl ?_
  exact a_to (k24 s0 (x3 + (1 : Int32)) M h) rfl
def P_M_isWord_w8_24 (post : Int32 → Mem → Prop) : Nat → Int32 → Int32 → Mem → Prop
  | 0, _, _, _ => False
  | n + 1, x2, x3, M =>
    (x2 = 0 → (P_M_isWord_w8_67 post x2 M)) ∧
  (¬ x2 = 0 → (P_len 8 (fun r1 M1 =>
  (r1 ≤ x3 → (P_M_isWord_w8_67 post x2 M1)) ∧
  (¬ r1 ≤ x3 → (vp_in ((M1 0 22) + x3) 400 ∧ P_chr 8 (fun r2 M2 =>
  (¬ (M1 10 ((M1 0 22) + x3).toNatClampNeg) = r2 → (P_M_isWord_w8_60 post (P_M_isWord_w8_24 post n) x3 (0 : Int32) M2)) ∧
  ((M1 10 ((M1 0 22) + x3).toNatClampNeg) = r2 → (P_M_isWord_w8_60 post (P_M_isWord_w8_24 post n) x3 (1 : Int32) M2))) x3 M1))) M))
theorem k_M_isWord_w8_24 {X : FX} {g : GT} {A : Nat → Prop} {Z : State → Prop} {post : Int32 → Mem → Prop} {sk : Nat → Nat} (C : CxX X g layM A cX12_isWord 4 RX12 4 0 sk) (hr : 0 ≤ X.2.2.2.1.cells ∧ 0 ≤ X.2.2.2.1.slots) (hR : RetZ X g layM A cX12_isWord 4 0 0 Z post) : ∀ (n : Nat) (x2 x3 : Int32) (M : Mem), P_M_isWord_w8_24 post n x2 x3 M → AtX X g layM A 4 0 0 Z 24 [(0, .ref (ad g 0)), (1, .ref (sk (30 + 8))), (2, .int x2), (3, .int x3)] [] M := by
  intro n
  induction n with
  | zero =>
    intro x2 x3 M h
    exact h.elim
  | succ n ih =>
    intro x2 x3 M h
    refine a_iload_n C.1 (tk T_cX12_isWord 14 rfl) rfl ?_
    refine a_if_eq C.1 67 (tk T_cX12_isWord 15 rfl) rfl (fun c => ?_) (fun c => ?_)
    · have h := h.1 c
      exact a_to (k_M_isWord_w8_67 C hr hR x2 M h) rfl
    · have h := h.2 c
      refine a_iload_n C.1 (tk T_cX12_isWord 16 rfl) rfl ?_
      refine a_aload_n C.1 (tk T_cX12_isWord 17 rfl) rfl ?_
      refine s_strI C [] me_yJ0_length_8abf5 rfl lk_RX12_296 (ct_lenP (o := 30) (j := 8) ⟨Or.inr rfl, by decide⟩ h) (by decide) (wok.at (o := 30) (j := 8) ⟨Or.inr rfl, by decide⟩ C.2.1.2.2.2.2.2.2.2).1 rfl rfl (Nat.le_of_ble_eq_true rfl) (tk T_cX12_isWord 18 rfl) hr (fun r1 M1 h => ?_)
      refine a_icmp_ge C.1 67 (tk T_cX12_isWord 19 rfl) rfl (fun c => ?_) (fun c => ?_)
      · have h := h.1 c
        exact a_to (k_M_isWord_w8_67 C hr hR x2 M1 h) rfl
      · have h := h.2 c
        refine a_aload_n C.1 (tk T_cX12_isWord 20 rfl) rfl ?_
        refine a_getR C.1 f_RX12_41 (tk T_cX12_isWord 21 rfl) lm0 rfl ?_
        refine a_aload_n C.1 (tk T_cX12_isWord 22 rfl) rfl ?_
        refine a_getI C.1 f_RX12_290 (tk T_cX12_isWord 23 rfl) lm0 rfl ?_
        refine a_iload_n C.1 (tk T_cX12_isWord 24 rfl) rfl ?_
        refine a_iadd C.1 (tk T_cX12_isWord 25 rfl) ?_
        obtain ⟨hb, h⟩ := h
        refine a_bald C.1 (tk T_cX12_isWord 26 rfl) lm10 hb ?_
        refine a_aload_n C.1 (tk T_cX12_isWord 27 rfl) rfl ?_
        refine a_iload_n C.1 (tk T_cX12_isWord 28 rfl) rfl ?_
        refine s_strI C [.int x3] me_yJ0_charAt_5068e rfl lk_RX12_301 (ct_chrP (o := 30) (j := 8) ⟨Or.inr rfl, by decide⟩ h) (by decide) (wok.at (o := 30) (j := 8) ⟨Or.inr rfl, by decide⟩ C.2.1.2.2.2.2.2.2.2).1 rfl rfl (Nat.le_of_ble_eq_true rfl) (tk T_cX12_isWord 29 rfl) hr (fun r2 M2 h => ?_)
        refine a_icmp_ne C.1 59 (tk T_cX12_isWord 30 rfl) rfl (fun c => ?_) (fun c => ?_)
        · have h := h.1 c
          refine a_iconst C.1 (0 : Int32) (tk T_cX12_isWord 33 rfl) kI_0 ?_
          exact a_to (k_M_isWord_w8_60 C hr hR ih x3 (0 : Int32) M2 h) rfl
        · have h := h.2 c
          refine a_iconst C.1 (1 : Int32) (tk T_cX12_isWord 31 rfl) kI_1 ?_
          refine a_goto C.1 60 (tk T_cX12_isWord 32 rfl) rfl ?_
          exact a_to (k_M_isWord_w8_60 C hr hR ih x3 (1 : Int32) M2 h) rfl
def P_M_isWord_w8_21 (post : Int32 → Mem → Prop) (s0 : Int32) (M : Mem) : Prop :=
  ∃ j24, P_M_isWord_w8_24 post j24 s0 (0 : Int32) M
theorem k_M_isWord_w8_21 {X : FX} {g : GT} {A : Nat → Prop} {Z : State → Prop} {post : Int32 → Mem → Prop} {sk : Nat → Nat} (C : CxX X g layM A cX12_isWord 4 RX12 4 0 sk) (hr : 0 ≤ X.2.2.2.1.cells ∧ 0 ≤ X.2.2.2.1.slots) (hR : RetZ X g layM A cX12_isWord 4 0 0 Z post) (s0 : Int32) (M : Mem) (h : P_M_isWord_w8_21 post s0 M) : AtX X g layM A 4 0 0 Z 21 [(0, .ref (ad g 0)), (1, .ref (sk (30 + 8)))] [.int s0] M := by
  refine a_istore_n C.1 (tk T_cX12_isWord 11 rfl) (by decide) rfl ?_
  refine a_iconst C.1 (0 : Int32) (tk T_cX12_isWord 12 rfl) kI_0 ?_
  refine a_istore_n C.1 (tk T_cX12_isWord 13 rfl) (by decide) rfl ?_
  obtain ⟨n1, h⟩ := h
  exact a_to (k_M_isWord_w8_24 C hr hR n1 s0 (0 : Int32) M h) rfl
def P_M_isWord_w8 (post : Int32 → Mem → Prop) (M : Mem) : Prop :=
  P_len 8 (fun r1 M1 =>
  (¬ ((M 0 20) - (M 0 22)) = r1 → (P_M_isWord_w8_21 post (0 : Int32) M1)) ∧
  (((M 0 20) - (M 0 22)) = r1 → (P_M_isWord_w8_21 post (1 : Int32) M1))) M
theorem k_M_isWord_w8 {X : FX} {g : GT} {A : Nat → Prop} {Z : State → Prop} {post : Int32 → Mem → Prop} {sk : Nat → Nat} (C : CxX X g layM A cX12_isWord 4 RX12 4 0 sk) (hr : 0 ≤ X.2.2.2.1.cells ∧ 0 ≤ X.2.2.2.1.slots) (hR : RetZ X g layM A cX12_isWord 4 0 0 Z post) (M : Mem) (h : P_M_isWord_w8 post M) : AtX X g layM A 4 0 0 Z 0 [(0, .ref (ad g 0)), (1, .ref (sk (30 + 8)))] [] M := by
  refine a_aload_n C.1 (tk T_cX12_isWord 0 rfl) rfl ?_
  refine a_getI C.1 f_RX12_278 (tk T_cX12_isWord 1 rfl) lm0 rfl ?_
  refine a_aload_n C.1 (tk T_cX12_isWord 2 rfl) rfl ?_
  refine a_getI C.1 f_RX12_290 (tk T_cX12_isWord 3 rfl) lm0 rfl ?_
  refine a_isub C.1 (tk T_cX12_isWord 4 rfl) ?_
  refine a_aload_n C.1 (tk T_cX12_isWord 5 rfl) rfl ?_
  refine s_strI C [] me_yJ0_length_8abf5 rfl lk_RX12_296 (ct_lenP (o := 30) (j := 8) ⟨Or.inr rfl, by decide⟩ h) (by decide) (wok.at (o := 30) (j := 8) ⟨Or.inr rfl, by decide⟩ C.2.1.2.2.2.2.2.2.2).1 rfl rfl (Nat.le_of_ble_eq_true rfl) (tk T_cX12_isWord 6 rfl) hr (fun r1 M1 h => ?_)
  refine a_icmp_ne C.1 20 (tk T_cX12_isWord 7 rfl) rfl (fun c => ?_) (fun c => ?_)
  · have h := h.1 c
    refine a_iconst C.1 (0 : Int32) (tk T_cX12_isWord 10 rfl) kI_0 ?_
    exact a_to (k_M_isWord_w8_21 C hr hR (0 : Int32) M1 h) rfl
  · have h := h.2 c
    refine a_iconst C.1 (1 : Int32) (tk T_cX12_isWord 8 rfl) kI_1 ?_
    refine a_goto C.1 21 (tk T_cX12_isWord 9 rfl) rfl ?_
    exact a_to (k_M_isWord_w8_21 C hr hR (1 : Int32) M1 h) rfl
theorem ct_M_isWord_w8 {l : Launch} {g : GT} {sk : Nat → Nat} {post : Int32 → Mem → Prop} {M : Mem} (h : P_M_isWord_w8 post M) : SI l g layM sk yX12_isWord cX12_isWord 4 (some .boolean) 4 [.ref (ad g 0), .ref (sk (30 + 8))] M post :=
  st_of (plainFor_of_name (by decide +kernel)) (Nat.le_of_ble_eq_true rfl) (fun X A Z hl C hr hR => by subst hl; exact k_M_isWord_w8 C hr (fun v M pc lv hd hp => hR v M pc lv hd (nar_z hp.1) hp.2)  M h)
def P_M_isWord_w9_67 (post : Int32 → Mem → Prop) (x2 : Int32) (M : Mem) : Prop :=
  (x2 = 0 ∨ x2 = 1) ∧ post x2 M
theorem k_M_isWord_w9_67 {X : FX} {g : GT} {A : Nat → Prop} {Z : State → Prop} {post : Int32 → Mem → Prop} {sk : Nat → Nat} (C : CxX X g layM A cX12_isWord 4 RX12 4 0 sk) (hr : 0 ≤ X.2.2.2.1.cells ∧ 0 ≤ X.2.2.2.1.slots) (hR : RetZ X g layM A cX12_isWord 4 0 0 Z post) (x2 : Int32) (M : Mem) (h : P_M_isWord_w9_67 post x2 M) : AtX X g layM A 4 0 0 Z 67 [(2, .int x2)] [] M := by
  refine a_iload_n C.1 (tk T_cX12_isWord 37 rfl) rfl ?_
  exact hR _ _ _ _ (tk T_cX12_isWord 38 rfl) h
def P_M_isWord_w9_60 (post : Int32 → Mem → Prop) (R24 : Int32 → Int32 → Mem → Prop) (x3 s0 : Int32) (M : Mem) : Prop :=
  R24 s0 (x3 + (1 : Int32)) M
theorem k_M_isWord_w9_60 {X : FX} {g : GT} {A : Nat → Prop} {Z : State → Prop} {post : Int32 → Mem → Prop} {R24 : Int32 → Int32 → Mem → Prop} {sk : Nat → Nat} (C : CxX X g layM A cX12_isWord 4 RX12 4 0 sk) (hr : 0 ≤ X.2.2.2.1.cells ∧ 0 ≤ X.2.2.2.1.slots) (hR : RetZ X g layM A cX12_isWord 4 0 0 Z post) (k24 : ∀ (y2 y3 : Int32) (M : Mem), R24 y2 y3 M → AtX X g layM A 4 0 0 Z 24 [(0, .ref (ad g 0)), (1, .ref (sk (30 + 9))), (2, .int y2), (3, .int y3)] [] M) (x3 s0 : Int32) (M : Mem) (h : P_M_isWord_w9_60 post R24 x3 s0 M) : AtX X g layM A 4 0 0 Z 60 [(0, .ref (ad g 0)), (1, .ref (sk (30 + 9))), (3, .int x3)] [.int s0] M := by
  refine a_istore_n C.1 (tk T_cX12_isWord 34 rfl) (by decide) rfl ?_
  refine a_iinc C.1 (1 : Int32) (tk T_cX12_isWord 35 rfl) rfl kI_1 (by decide) rfl ?_
  refine a_goto C.1 24 (tk T_cX12_isWord 36 rfl) rfl ?_
  exact a_to (k24 s0 (x3 + (1 : Int32)) M h) rfl
def P_M_isWord_w9_24 (post : Int32 → Mem → Prop) : Nat → Int32 → Int32 → Mem → Prop
  | 0, _, _, _ => False
  | n + 1, x2, x3, M =>
    (x2 = 0 → (P_M_isWord_w9_67 post x2 M)) ∧
  (¬ x2 = 0 → (P_len 9 (fun r1 M1 =>
  (r1 ≤ x3 → (P_M_isWord_w9_67 post x2 M1)) ∧
  (¬ r1 ≤ x3 → (vp_in ((M1 0 22) + x3) 400 ∧ P_chr 9 (fun r2 M2 =>
  (¬ (M1 10 ((M1 0 22) + x3).toNatClampNeg) = r2 → (P_M_isWord_w9_60 post (P_M_isWord_w9_24 post n) x3 (0 : Int32) M2)) ∧
  ((M1 10 ((M1 0 22) + x3).toNatClampNeg) = r2 → (P_M_isWord_w9_60 post (P_M_isWord_w9_24 post n) x3 (1 : Int32) M2))) x3 M1))) M))
theorem k_M_isWord_w9_24 {X : FX} {g : GT} {A : Nat → Prop} {Z : State → Prop} {post : Int32 → Mem → Prop} {sk : Nat → Nat} (C : CxX X g layM A cX12_isWord 4 RX12 4 0 sk) (hr : 0 ≤ X.2.2.2.1.cells ∧ 0 ≤ X.2.2.2.1.slots) (hR : RetZ X g layM A cX12_isWord 4 0 0 Z post) : ∀ (n : Nat) (x2 x3 : Int32) (M : Mem), P_M_isWord_w9_24 post n x2 x3 M → AtX X g layM A 4 0 0 Z 24 [(0, .ref (ad g 0)), (1, .ref (sk (30 + 9))), (2, .int x2), (3, .int x3)] [] M := by
  intro n
  induction n with
  | zero =>
    intro x2 x3 M h
    exact h.elim
  | succ n ih =>
    intro x2 x3 M h
    refine a_iload_n C.1 (tk T_cX12_isWord 14 rfl) rfl ?_
    refine a_if_eq C.1 67 (tk T_cX12_isWord 15 rfl) rfl (fun c => ?_) (fun c => ?_)
    · have h := h.1 c
      exact a_to (k_M_isWord_w9_67 C hr hR x2 M h) rfl
    · have h := h.2 c
      refine a_iload_n C.1 (tk T_cX12_isWord 16 rfl) rfl ?_
      refine a_aload_n C.1 (tk T_cX12_isWord 17 rfl) rfl ?_
      refine s_strI C [] me_yJ0_length_8abf5 rfl lk_RX12_296 (ct_lenP (o := 30) (j := 9) ⟨Or.inr rfl, by decide⟩ h) (by decide) (wok.at (o := 30) (j := 9) ⟨Or.inr rfl, by decide⟩ C.2.1.2.2.2.2.2.2.2).1 rfl rfl (Nat.le_of_ble_eq_true rfl) (tk T_cX12_isWord 18 rfl) hr (fun r1 M1 h => ?_)
      refine a_icmp_ge C.1 67 (tk T_cX12_isWord 19 rfl) rfl (fun c => ?_) (fun c => ?_)
      · have h := h.1 c
        exact a_to (k_M_isWord_w9_67 C hr hR x2 M1 h) rfl
      · have h := h.2 c
        refine a_aload_n C.1 (tk T_cX12_isWord 20 rfl) rfl ?_
        refine a_getR C.1 f_RX12_41 (tk T_cX12_isWord 21 rfl) lm0 rfl ?_
        refine a_aload_n C.1 (tk T_cX12_isWord 22 rfl) rfl ?_
        refine a_getI C.1 f_RX12_290 (tk T_cX12_isWord 23 rfl) lm0 rfl ?_
        refine a_iload_n C.1 (tk T_cX12_isWord 24 rfl) rfl ?_
        refine a_iadd C.1 (tk T_cX12_isWord 25 rfl) ?_
        obtain ⟨hb, h⟩ := h
        refine a_bald C.1 (tk T_cX12_isWord 26 rfl) lm10 hb ?_
        refine a_aload_n C.1 (tk T_cX12_isWord 27 rfl) rfl ?_
        refine a_iload_n C.1 (tk T_cX12_isWord 28 rfl) rfl ?_
        refine s_strI C [.int x3] me_yJ0_charAt_5068e rfl lk_RX12_301 (ct_chrP (o := 30) (j := 9) ⟨Or.inr rfl, by decide⟩ h) (by decide) (wok.at (o := 30) (j := 9) ⟨Or.inr rfl, by decide⟩ C.2.1.2.2.2.2.2.2.2).1 rfl rfl (Nat.le_of_ble_eq_true rfl) (tk T_cX12_isWord 29 rfl) hr (fun r2 M2 h => ?_)
        refine a_icmp_ne C.1 59 (tk T_cX12_isWord 30 rfl) rfl (fun c => ?_) (fun c => ?_)
        · have h := h.1 c
          refine a_iconst C.1 (0 : Int32) (tk T_cX12_isWord 33 rfl) kI_0 ?_
          exact a_to (k_M_isWord_w9_60 C hr hR ih x3 (0 : Int32) M2 h) rfl
        · have h := h.2 c
          refine a_iconst C.1 (1 : Int32) (tk T_cX12_isWord 31 rfl) kI_1 ?_
          refine a_goto C.1 60 (tk T_cX12_isWord 32 rfl) rfl ?_
          exact a_to (k_M_isWord_w9_60 C hr hR ih x3 (1 : Int32) M2 h) rfl
def P_M_isWord_w9_21 (post : Int32 → Mem → Prop) (s0 : Int32) (M : Mem) : Prop :=
  ∃ j24, P_M_isWord_w9_24 post j24 s0 (0 : Int32) M
theorem k_M_isWord_w9_21 {X : FX} {g : GT} {A : Nat → Prop} {Z : State → Prop} {post : Int32 → Mem → Prop} {sk : Nat → Nat} (C : CxX X g layM A cX12_isWord 4 RX12 4 0 sk) (hr : 0 ≤ X.2.2.2.1.cells ∧ 0 ≤ X.2.2.2.1.slots) (hR : RetZ X g layM A cX12_isWord 4 0 0 Z post) (s0 : Int32) (M : Mem) (h : P_M_isWord_w9_21 post s0 M) : AtX X g layM A 4 0 0 Z 21 [(0, .ref (ad g 0)), (1, .ref (sk (30 + 9)))] [.int s0] M := by
  refine a_istore_n C.1 (tk T_cX12_isWord 11 rfl) (by decide) rfl ?_
  refine a_iconst C.1 (0 : Int32) (tk T_cX12_isWord 12 rfl) kI_0 ?_
  refine a_istore_n C.1 (tk T_cX12_isWord 13 rfl) (by decide) rfl ?_
  obtain ⟨n1, h⟩ := h
  exact a_to (k_M_isWord_w9_24 C hr hR n1 s0 (0 : Int32) M h) rfl
def P_M_isWord_w9 (post : Int32 → Mem → Prop) (M : Mem) : Prop :=
  P_len 9 (fun r1 M1 =>
  (¬ ((M 0 20) - (M 0 22)) = r1 → (P_M_isWord_w9_21 post (0 : Int32) M1)) ∧
  (((M 0 20) - (M 0 22)) = r1 → (P_M_isWord_w9_21 post (1 : Int32) M1))) M
theorem k_M_isWord_w9 {X : FX} {g : GT} {A : Nat → Prop} {Z : State → Prop} {post : Int32 → Mem → Prop} {sk : Nat → Nat} (C : CxX X g layM A cX12_isWord 4 RX12 4 0 sk) (hr : 0 ≤ X.2.2.2.1.cells ∧ 0 ≤ X.2.2.2.1.slots) (hR : RetZ X g layM A cX12_isWord 4 0 0 Z post) (M : Mem) (h : P_M_isWord_w9 post M) : AtX X g layM A 4 0 0 Z 0 [(0, .ref (ad g 0)), (1, .ref (sk (30 + 9)))] [] M := by
  refine a_aload_n C.1 (tk T_cX12_isWord 0 rfl) rfl ?_
  refine a_getI C.1 f_RX12_278 (tk T_cX12_isWord 1 rfl) lm0 rfl ?_
  refine a_aload_n C.1 (tk T_cX12_isWord 2 rfl) rfl ?_
  refine a_getI C.1 f_RX12_290 (tk T_cX12_isWord 3 rfl) lm0 rfl ?_
  refine a_isub C.1 (tk T_cX12_isWord 4 rfl) ?_
  refine a_aload_n C.1 (tk T_cX12_isWord 5 rfl) rfl ?_
  refine s_strI C [] me_yJ0_length_8abf5 rfl lk_RX12_296 (ct_lenP (o := 30) (j := 9) ⟨Or.inr rfl, by decide⟩ h) (by decide) (wok.at (o := 30) (j := 9) ⟨Or.inr rfl, by decide⟩ C.2.1.2.2.2.2.2.2.2).1 rfl rfl (Nat.le_of_ble_eq_true rfl) (tk T_cX12_isWord 6 rfl) hr (fun r1 M1 h => ?_)
  refine a_icmp_ne C.1 20 (tk T_cX12_isWord 7 rfl) rfl (fun c => ?_) (fun c => ?_)
  · have h := h.1 c
    refine a_iconst C.1 (0 : Int32) (tk T_cX12_isWord 10 rfl) kI_0 ?_
    exact a_to (k_M_isWord_w9_21 C hr hR (0 : Int32) M1 h) rfl
  · have h := h.2 c
    refine a_iconst C.1 (1 : Int32) (tk T_cX12_isWord 8 rfl) kI_1 ?_
    refine a_goto C.1 21 (tk T_cX12_isWord 9 rfl) rfl ?_
    exact a_to (k_M_isWord_w9_21 C hr hR (1 : Int32) M1 h) rfl
theorem ct_M_isWord_w9 {l : Launch} {g : GT} {sk : Nat → Nat} {post : Int32 → Mem → Prop} {M : Mem} (h : P_M_isWord_w9 post M) : SI l g layM sk yX12_isWord cX12_isWord 4 (some .boolean) 4 [.ref (ad g 0), .ref (sk (30 + 9))] M post :=
  st_of (plainFor_of_name (by decide +kernel)) (Nat.le_of_ble_eq_true rfl) (fun X A Z hl C hr hR => by subst hl; exact k_M_isWord_w9 C hr (fun v M pc lv hd hp => hR v M pc lv hd (nar_z hp.1) hp.2)  M h)
def T_cX12_readPartL : List (Nat × Instr × Nat) := [(0, .aload_n 0, 1), (1, .invokevirtual 305, 3), (4, .aload_n 0, 1), (5, .getfield 278, 3), (8, .aload_n 0, 1), (9, .getfield 290, 3), (12, .if_icmp .ne 17, 3), (15, .aload_n 0, 1), (16, .bipush 7, 2), (18, .aload_n 0, 1), (19, .sipush 9999, 3), (22, .invokevirtual 318, 3), (25, .invokevirtual 321, 3), (28, .ireturn, 1), (29, .aload_n 0, 1), (30, .ldc_w 324, 3), (33, .invokevirtual 308, 3), (36, .ifCond .eq 7, 3), (39, .iconst 0, 1), (40, .goto 60, 3), (43, .aload_n 0, 1), (44, .ldc_w 326, 3), (47, .invokevirtual 308, 3), (50, .ifCond .eq 7, 3), (53, .iconst 1, 1), (54, .goto 46, 3), (57, .aload_n 0, 1), (58, .ldc_w 328, 3), (61, .invokevirtual 308, 3), (64, .ifCond .eq 7, 3), (67, .iconst 2, 1), (68, .goto 32, 3), (71, .aload_n 0, 1), (72, .ldc_w 329, 3), (75, .invokevirtual 308, 3), (78, .ifCond .eq 7, 3), (81, .iconst 3, 1), (82, .goto 18, 3), (85, .aload_n 0, 1), (86, .ldc_w 331, 3), (89, .invokevirtual 308, 3), (92, .ifCond .eq 7, 3), (95, .iconst 4, 1), (96, .goto 4, 3), (99, .iconst (-1), 1), (100, .istore_n 1, 1), (101, .iload_n 1, 1), (102, .ifCond .lt 9, 3), (105, .aload_n 0, 1), (106, .iload_n 1, 1), (107, .iconst 0, 1), (108, .invokevirtual 315, 3), (111, .iload_n 1, 1), (112, .ifCond .lt 7, 3), (115, .iconst 1, 1), (116, .goto 4, 3), (119, .iconst 0, 1), (120, .ireturn, 1)]
theorem T_cX12_readPart : tabOK cX12_readPart T_cX12_readPartL = true := by decide +kernel
def P_M_readPart_120 (post : Int32 → Mem → Prop) (s0 : Int32) (M : Mem) : Prop :=
  (s0 = 0 ∨ s0 = 1) ∧ post s0 M
theorem k_M_readPart_120 {X : FX} {g : GT} {A : Nat → Prop} {Z : State → Prop} {post : Int32 → Mem → Prop} {sk : Nat → Nat} (C : CxX X g layM A cX12_readPart 2 RX12 5 0 sk) (hr : 0 ≤ X.2.2.2.1.cells ∧ 0 ≤ X.2.2.2.1.slots) (hR : RetZ X g layM A cX12_readPart 2 0 0 Z post) (s0 : Int32) (M : Mem) (h : P_M_readPart_120 post s0 M) : AtX X g layM A 2 0 0 Z 120 [] [.int s0] M := by
  exact hR _ _ _ _ (tk T_cX12_readPart 57 rfl) h
def P_M_readPart_111 (post : Int32 → Mem → Prop) (x1 : Int32) (M : Mem) : Prop :=
  (x1 < 0 → (P_M_readPart_120 post (0 : Int32) M)) ∧
  (¬ x1 < 0 → (P_M_readPart_120 post (1 : Int32) M))
theorem k_M_readPart_111 {X : FX} {g : GT} {A : Nat → Prop} {Z : State → Prop} {post : Int32 → Mem → Prop} {sk : Nat → Nat} (C : CxX X g layM A cX12_readPart 2 RX12 5 0 sk) (hr : 0 ≤ X.2.2.2.1.cells ∧ 0 ≤ X.2.2.2.1.slots) (hR : RetZ X g layM A cX12_readPart 2 0 0 Z post) (x1 : Int32) (M : Mem) (h : P_M_readPart_111 post x1 M) : AtX X g layM A 2 0 0 Z 111 [(1, .int x1)] [] M := by
  refine a_iload_n C.1 (tk T_cX12_readPart 52 rfl) rfl ?_
  refine a_if_lt C.1 119 (tk T_cX12_readPart 53 rfl) rfl (fun c => ?_) (fun c => ?_)
  · have h := h.1 c
    refine a_iconst C.1 (0 : Int32) (tk T_cX12_readPart 56 rfl) kI_0 ?_
    exact a_to (k_M_readPart_120 C hr hR (0 : Int32) M h) rfl
  · have h := h.2 c
    refine a_iconst C.1 (1 : Int32) (tk T_cX12_readPart 54 rfl) kI_1 ?_
    refine a_goto C.1 120 (tk T_cX12_readPart 55 rfl) rfl ?_
    exact a_to (k_M_readPart_120 C hr hR (1 : Int32) M h) rfl
def P_M_readPart_100 (post : Int32 → Mem → Prop) (s0 : Int32) (M : Mem) : Prop :=
  (s0 < 0 → (P_M_readPart_111 post s0 M)) ∧
  (¬ s0 < 0 → (P_M_emits (fun M1 =>
  P_M_readPart_111 post s0 M1) s0 (0 : Int32) M))
theorem k_M_readPart_100 {X : FX} {g : GT} {A : Nat → Prop} {Z : State → Prop} {post : Int32 → Mem → Prop} {sk : Nat → Nat} (C : CxX X g layM A cX12_readPart 2 RX12 5 0 sk) (hr : 0 ≤ X.2.2.2.1.cells ∧ 0 ≤ X.2.2.2.1.slots) (hR : RetZ X g layM A cX12_readPart 2 0 0 Z post) (s0 : Int32) (M : Mem) (h : P_M_readPart_100 post s0 M) : AtX X g layM A 2 0 0 Z 100 [(0, .ref (ad g 0))] [.int s0] M := by
  refine a_istore_n C.1 (tk T_cX12_readPart 45 rfl) (by decide) rfl ?_
  refine a_iload_n C.1 (tk T_cX12_readPart 46 rfl) rfl ?_
  refine a_if_lt C.1 111 (tk T_cX12_readPart 47 rfl) rfl (fun c => ?_) (fun c => ?_)
  · have h := h.1 c
    exact a_to (k_M_readPart_111 C hr hR s0 M h) rfl
  · have h := h.2 c
    refine a_aload_n C.1 (tk T_cX12_readPart 48 rfl) rfl ?_
    refine a_iload_n C.1 (tk T_cX12_readPart 49 rfl) rfl ?_
    refine a_iconst C.1 (0 : Int32) (tk T_cX12_readPart 50 rfl) kI_0 ?_
    refine a_callV C.1 [.int s0, .int (0 : Int32)] me_yX12_emits lk_RX12_315 (ct_M_emits h) (by decide) lm0 rfl rfl rfl (Nat.le_of_ble_eq_true rfl) (tk T_cX12_readPart 51 rfl) hr (fun M1 h => ?_)
    exact a_to (k_M_readPart_111 C hr hR s0 M1 h) rfl
def P_M_readPart (post : Int32 → Mem → Prop) (M : Mem) : Prop :=
  P_M_letters (fun M1 =>
  (¬ (M1 0 20) = (M1 0 22) → (P_M_isWord_w5 (fun r2 M2 =>
  (r2 = 0 → (P_M_isWord_w6 (fun r3 M3 =>
  (r3 = 0 → (P_M_isWord_w7 (fun r4 M4 =>
  (r4 = 0 → (P_M_isWord_w8 (fun r5 M5 =>
  (r5 = 0 → (P_M_isWord_w9 (fun r6 M6 =>
  (r6 = 0 → (P_M_readPart_100 post (-1 : Int32) M6)) ∧
  (¬ r6 = 0 → (P_M_readPart_100 post (4 : Int32) M6))) M5)) ∧
  (¬ r5 = 0 → (P_M_readPart_100 post (3 : Int32) M5))) M4)) ∧
  (¬ r4 = 0 → (P_M_readPart_100 post (2 : Int32) M4))) M3)) ∧
  (¬ r3 = 0 → (P_M_readPart_100 post (1 : Int32) M3))) M2)) ∧
  (¬ r2 = 0 → (P_M_readPart_100 post (0 : Int32) M2))) M1)) ∧
  ((M1 0 20) = (M1 0 22) → (P_M_readNumber (fun r7 M7 =>
  P_M_emitsIf (fun r8 M8 =>
  (r8 = 0 ∨ r8 = 1) ∧ post r8 M8) (7 : Int32) r7 M7) (9999 : Int32) M1))) M
theorem k_M_readPart {X : FX} {g : GT} {A : Nat → Prop} {Z : State → Prop} {post : Int32 → Mem → Prop} {sk : Nat → Nat} (C : CxX X g layM A cX12_readPart 2 RX12 5 0 sk) (hr : 0 ≤ X.2.2.2.1.cells ∧ 0 ≤ X.2.2.2.1.slots) (hR : RetZ X g layM A cX12_readPart 2 0 0 Z post) (M : Mem) (h : P_M_readPart post M) : AtX X g layM A 2 0 0 Z 0 [(0, .ref (ad g 0))] [] M := by
  refine a_aload_n C.1 (tk T_cX12_readPart 0 rfl) rfl ?_
  refine a_callV C.1 [] me_yX12_letters lk_RX12_305 (ct_M_letters h) (by decide) lm0 rfl rfl rfl (Nat.le_of_ble_eq_true rfl) (tk T_cX12_readPart 1 rfl) hr (fun M1 h => ?_)
  refine a_aload_n C.1 (tk T_cX12_readPart 2 rfl) rfl ?_
  refine a_getI C.1 f_RX12_278 (tk T_cX12_readPart 3 rfl) lm0 rfl ?_
  refine a_aload_n C.1 (tk T_cX12_readPart 4 rfl) rfl ?_
  refine a_getI C.1 f_RX12_290 (tk T_cX12_readPart 5 rfl) lm0 rfl ?_
  refine a_icmp_ne C.1 29 (tk T_cX12_readPart 6 rfl) rfl (fun c => ?_) (fun c => ?_)
  · have h := h.1 c
    refine a_aload_n C.1 (tk T_cX12_readPart 14 rfl) rfl ?_
    refine s_ldc_w C (C.2.1.2.2.2.2.2.2.2.2.2.2.2.2 5 (by decide)) (tk T_cX12_readPart 15 rfl) ?_
    refine s_callI C [.ref (sk (30 + 5))] me_yX12_isWord lk_RX12_308 (ct_M_isWord_w5 h) (by decide) lm0 rfl rfl rfl (Nat.le_of_ble_eq_true rfl) (tk T_cX12_readPart 16 rfl) hr (fun r2 M2 h => ?_)
    refine a_if_eq C.1 43 (tk T_cX12_readPart 17 rfl) rfl (fun c => ?_) (fun c => ?_)
    · have h := h.1 c
      refine a_aload_n C.1 (tk T_cX12_readPart 20 rfl) rfl ?_
      refine s_ldc_w C (C.2.1.2.2.2.2.2.2.2.2.2.2.2.2 6 (by decide)) (tk T_cX12_readPart 21 rfl) ?_
      refine s_callI C [.ref (sk (30 + 6))] me_yX12_isWord lk_RX12_308 (ct_M_isWord_w6 h) (by decide) lm0 rfl rfl rfl (Nat.le_of_ble_eq_true rfl) (tk T_cX12_readPart 22 rfl) hr (fun r3 M3 h => ?_)
      refine a_if_eq C.1 57 (tk T_cX12_readPart 23 rfl) rfl (fun c => ?_) (fun c => ?_)
      · have h := h.1 c
        refine a_aload_n C.1 (tk T_cX12_readPart 26 rfl) rfl ?_
        refine s_ldc_w C (C.2.1.2.2.2.2.2.2.2.2.2.2.2.2 7 (by decide)) (tk T_cX12_readPart 27 rfl) ?_
        refine s_callI C [.ref (sk (30 + 7))] me_yX12_isWord lk_RX12_308 (ct_M_isWord_w7 h) (by decide) lm0 rfl rfl rfl (Nat.le_of_ble_eq_true rfl) (tk T_cX12_readPart 28 rfl) hr (fun r4 M4 h => ?_)
        refine a_if_eq C.1 71 (tk T_cX12_readPart 29 rfl) rfl (fun c => ?_) (fun c => ?_)
        · have h := h.1 c
          refine a_aload_n C.1 (tk T_cX12_readPart 32 rfl) rfl ?_
          refine s_ldc_w C (C.2.1.2.2.2.2.2.2.2.2.2.2.2.2 8 (by decide)) (tk T_cX12_readPart 33 rfl) ?_
          refine s_callI C [.ref (sk (30 + 8))] me_yX12_isWord lk_RX12_308 (ct_M_isWord_w8 h) (by decide) lm0 rfl rfl rfl (Nat.le_of_ble_eq_true rfl) (tk T_cX12_readPart 34 rfl) hr (fun r5 M5 h => ?_)
          refine a_if_eq C.1 85 (tk T_cX12_readPart 35 rfl) rfl (fun c => ?_) (fun c => ?_)
          · have h := h.1 c
            refine a_aload_n C.1 (tk T_cX12_readPart 38 rfl) rfl ?_
            refine s_ldc_w C (C.2.1.2.2.2.2.2.2.2.2.2.2.2.2 9 (by decide)) (tk T_cX12_readPart 39 rfl) ?_
            refine s_callI C [.ref (sk (30 + 9))] me_yX12_isWord lk_RX12_308 (ct_M_isWord_w9 h) (by decide) lm0 rfl rfl rfl (Nat.le_of_ble_eq_true rfl) (tk T_cX12_readPart 40 rfl) hr (fun r6 M6 h => ?_)
            refine a_if_eq C.1 99 (tk T_cX12_readPart 41 rfl) rfl (fun c => ?_) (fun c => ?_)
            · have h := h.1 c
              refine a_iconst C.1 (-1 : Int32) (tk T_cX12_readPart 44 rfl) kI_m1 ?_
              exact a_to (k_M_readPart_100 C hr hR (-1 : Int32) M6 h) rfl
            · have h := h.2 c
              refine a_iconst C.1 (4 : Int32) (tk T_cX12_readPart 42 rfl) kI_4 ?_
              refine a_goto C.1 100 (tk T_cX12_readPart 43 rfl) rfl ?_
              exact a_to (k_M_readPart_100 C hr hR (4 : Int32) M6 h) rfl
          · have h := h.2 c
            refine a_iconst C.1 (3 : Int32) (tk T_cX12_readPart 36 rfl) kI_3 ?_
            refine a_goto C.1 100 (tk T_cX12_readPart 37 rfl) rfl ?_
            exact a_to (k_M_readPart_100 C hr hR (3 : Int32) M5 h) rfl
        · have h := h.2 c
          refine a_iconst C.1 (2 : Int32) (tk T_cX12_readPart 30 rfl) kI_2 ?_
          refine a_goto C.1 100 (tk T_cX12_readPart 31 rfl) rfl ?_
          exact a_to (k_M_readPart_100 C hr hR (2 : Int32) M4 h) rfl
      · have h := h.2 c
        refine a_iconst C.1 (1 : Int32) (tk T_cX12_readPart 24 rfl) kI_1 ?_
        refine a_goto C.1 100 (tk T_cX12_readPart 25 rfl) rfl ?_
        exact a_to (k_M_readPart_100 C hr hR (1 : Int32) M3 h) rfl
    · have h := h.2 c
      refine a_iconst C.1 (0 : Int32) (tk T_cX12_readPart 18 rfl) kI_0 ?_
      refine a_goto C.1 100 (tk T_cX12_readPart 19 rfl) rfl ?_
      exact a_to (k_M_readPart_100 C hr hR (0 : Int32) M2 h) rfl
  · have h := h.2 c
    refine a_aload_n C.1 (tk T_cX12_readPart 7 rfl) rfl ?_
    refine a_bipush C.1 (7 : Int32) (tk T_cX12_readPart 8 rfl) kB_7 ?_
    refine a_aload_n C.1 (tk T_cX12_readPart 9 rfl) rfl ?_
    refine a_sipush C.1 (9999 : Int32) (tk T_cX12_readPart 10 rfl) kS_9999 ?_
    refine a_callI C.1 [.int (9999 : Int32)] me_yX12_readNumber lk_RX12_318 (ct_M_readNumber h) (by decide) lm0 rfl rfl rfl (Nat.le_of_ble_eq_true rfl) (tk T_cX12_readPart 11 rfl) hr (fun r7 M7 h => ?_)
    refine a_callI C.1 [.int (7 : Int32), .int r7] me_yX12_emitsIf lk_RX12_321 (ct_M_emitsIf h) (by decide) lm0 rfl rfl rfl (Nat.le_of_ble_eq_true rfl) (tk T_cX12_readPart 12 rfl) hr (fun r8 M8 h => ?_)
    exact hR _ _ _ _ (tk T_cX12_readPart 13 rfl) h
theorem ct_M_readPart {l : Launch} {g : GT} {sk : Nat → Nat} {post : Int32 → Mem → Prop} {M : Mem} (h : P_M_readPart post M) : SI l g layM sk yX12_readPart cX12_readPart 2 (some .boolean) 5 [.ref (ad g 0)] M post :=
  st_of (plainFor_of_name (by decide +kernel)) (Nat.le_of_ble_eq_true rfl) (fun X A Z hl C hr hR => by subst hl; exact k_M_readPart C hr (fun v M pc lv hd hp => hR v M pc lv hd (nar_z hp.1) hp.2)  M h)
def T_cX12_readSumL : List (Nat × Instr × Nat) := [(0, .aload_n 0, 1), (1, .invokevirtual 333, 3), (4, .ifCond .ne 5, 3), (7, .iconst 0, 1), (8, .ireturn, 1), (9, .aload_n 0, 1), (10, .bipush 43, 2), (12, .invokevirtual 337, 3), (15, .ifCond .eq 22, 3), (18, .aload_n 0, 1), (19, .invokevirtual 333, 3), (22, .ifCond .ne 5, 3), (25, .iconst 0, 1), (26, .ireturn, 1), (27, .aload_n 0, 1), (28, .bipush 8, 2), (30, .iconst 0, 1), (31, .invokevirtual 315, 3), (34, .goto (-25), 3), (37, .iconst 1, 1), (38, .ireturn, 1)]
theorem T_cX12_readSum : tabOK cX12_readSum T_cX12_readSumL = true := by decide +kernel
def P_M_readSum_9 (post : Int32 → Mem → Prop) : Nat → Mem → Prop
  | 0, _ => False
  | n + 1, M =>
    P_M_sign (fun r1 M1 =>
  (r1 = 0 → (post (1 : Int32) M1)) ∧
  (¬ r1 = 0 → (P_M_readPart (fun r2 M2 =>
  (¬ r2 = 0 → (P_M_emits (fun M3 =>
  P_M_readSum_9 post n M3) (8 : Int32) (0 : Int32) M2)) ∧
  (r2 = 0 → (post (0 : Int32) M2))) M1))) (43 : Int32) M
theorem k_M_readSum_9 {X : FX} {g : GT} {A : Nat → Prop} {Z : State → Prop} {post : Int32 → Mem → Prop} {sk : Nat → Nat} (C : CxX X g layM A cX12_readSum 1 RX12 6 0 sk) (hr : 0 ≤ X.2.2.2.1.cells ∧ 0 ≤ X.2.2.2.1.slots) (hR : RetZ X g layM A cX12_readSum 1 0 0 Z post) : ∀ (n : Nat) (M : Mem), P_M_readSum_9 post n M → AtX X g layM A 1 0 0 Z 9 [(0, .ref (ad g 0))] [] M := by
  intro n
  induction n with
  | zero =>
    intro M h
    exact h.elim
  | succ n ih =>
    intro M h
    refine a_aload_n C.1 (tk T_cX12_readSum 5 rfl) rfl ?_
    refine a_bipush C.1 (43 : Int32) (tk T_cX12_readSum 6 rfl) kB_43 ?_
    refine a_callI C.1 [.int (43 : Int32)] me_yX12_sign lk_RX12_337 (ct_M_sign h) (by decide) lm0 rfl rfl rfl (Nat.le_of_ble_eq_true rfl) (tk T_cX12_readSum 7 rfl) hr (fun r1 M1 h => ?_)
    refine a_if_eq C.1 37 (tk T_cX12_readSum 8 rfl) rfl (fun c => ?_) (fun c => ?_)
    · have h := h.1 c
      refine a_iconst C.1 (1 : Int32) (tk T_cX12_readSum 19 rfl) kI_1 ?_
      exact hR _ _ _ _ (tk T_cX12_readSum 20 rfl) ⟨Or.inr rfl, h⟩
    · have h := h.2 c
      refine a_aload_n C.1 (tk T_cX12_readSum 9 rfl) rfl ?_
      refine s_callI C [] me_yX12_readPart lk_RX12_333 (ct_M_readPart h) (by decide) lm0 rfl rfl rfl (Nat.le_of_ble_eq_true rfl) (tk T_cX12_readSum 10 rfl) hr (fun r2 M2 h => ?_)
      refine a_if_ne C.1 27 (tk T_cX12_readSum 11 rfl) rfl (fun c => ?_) (fun c => ?_)
      · have h := h.1 c
        refine a_aload_n C.1 (tk T_cX12_readSum 14 rfl) rfl ?_
        refine a_bipush C.1 (8 : Int32) (tk T_cX12_readSum 15 rfl) kB_8 ?_
        refine a_iconst C.1 (0 : Int32) (tk T_cX12_readSum 16 rfl) kI_0 ?_
        refine a_callV C.1 [.int (8 : Int32), .int (0 : Int32)] me_yX12_emits lk_RX12_315 (ct_M_emits h) (by decide) lm0 rfl rfl rfl (Nat.le_of_ble_eq_true rfl) (tk T_cX12_readSum 17 rfl) hr (fun M3 h => ?_)
        refine a_goto C.1 9 (tk T_cX12_readSum 18 rfl) rfl ?_
        exact a_to (ih M3 h) rfl
      · have h := h.2 c
        refine a_iconst C.1 (0 : Int32) (tk T_cX12_readSum 12 rfl) kI_0 ?_
        exact hR _ _ _ _ (tk T_cX12_readSum 13 rfl) ⟨Or.inl rfl, h⟩
def P_M_readSum (post : Int32 → Mem → Prop) (M : Mem) : Prop :=
  P_M_readPart (fun r1 M1 =>
  (¬ r1 = 0 → (∃ j9, P_M_readSum_9 post j9 M1)) ∧
  (r1 = 0 → (post (0 : Int32) M1))) M
theorem k_M_readSum {X : FX} {g : GT} {A : Nat → Prop} {Z : State → Prop} {post : Int32 → Mem → Prop} {sk : Nat → Nat} (C : CxX X g layM A cX12_readSum 1 RX12 6 0 sk) (hr : 0 ≤ X.2.2.2.1.cells ∧ 0 ≤ X.2.2.2.1.slots) (hR : RetZ X g layM A cX12_readSum 1 0 0 Z post) (M : Mem) (h : P_M_readSum post M) : AtX X g layM A 1 0 0 Z 0 [(0, .ref (ad g 0))] [] M := by
  refine a_aload_n C.1 (tk T_cX12_readSum 0 rfl) rfl ?_
  refine s_callI C [] me_yX12_readPart lk_RX12_333 (ct_M_readPart h) (by decide) lm0 rfl rfl rfl (Nat.le_of_ble_eq_true rfl) (tk T_cX12_readSum 1 rfl) hr (fun r1 M1 h => ?_)
  refine a_if_ne C.1 9 (tk T_cX12_readSum 2 rfl) rfl (fun c => ?_) (fun c => ?_)
  · have h := h.1 c
    obtain ⟨n1, h⟩ := h
    exact a_to (k_M_readSum_9 C hr hR n1 M1 h) rfl
  · have h := h.2 c
    refine a_iconst C.1 (0 : Int32) (tk T_cX12_readSum 3 rfl) kI_0 ?_
    exact hR _ _ _ _ (tk T_cX12_readSum 4 rfl) ⟨Or.inl rfl, h⟩
theorem ct_M_readSum {l : Launch} {g : GT} {sk : Nat → Nat} {post : Int32 → Mem → Prop} {M : Mem} (h : P_M_readSum post M) : SI l g layM sk yX12_readSum cX12_readSum 1 (some .boolean) 6 [.ref (ad g 0)] M post :=
  st_of (plainFor_of_name (by decide +kernel)) (Nat.le_of_ble_eq_true rfl) (fun X A Z hl C hr hR => by subst hl; exact k_M_readSum C hr (fun v M pc lv hd hp => hR v M pc lv hd (nar_z hp.1) hp.2)  M h)
def P_M_isWord_w2_67 (post : Int32 → Mem → Prop) (x2 : Int32) (M : Mem) : Prop :=
  (x2 = 0 ∨ x2 = 1) ∧ post x2 M
theorem k_M_isWord_w2_67 {X : FX} {g : GT} {A : Nat → Prop} {Z : State → Prop} {post : Int32 → Mem → Prop} {sk : Nat → Nat} (C : CxX X g layM A cX12_isWord 4 RX12 4 0 sk) (hr : 0 ≤ X.2.2.2.1.cells ∧ 0 ≤ X.2.2.2.1.slots) (hR : RetZ X g layM A cX12_isWord 4 0 0 Z post) (x2 : Int32) (M : Mem) (h : P_M_isWord_w2_67 post x2 M) : AtX X g layM A 4 0 0 Z 67 [(2, .int x2)] [] M := by
  refine a_iload_n C.1 (tk T_cX12_isWord 37 rfl) rfl ?_
  exact hR _ _ _ _ (tk T_cX12_isWord 38 rfl) h
def P_M_isWord_w2_60 (post : Int32 → Mem → Prop) (R24 : Int32 → Int32 → Mem → Prop) (x3 s0 : Int32) (M : Mem) : Prop :=
  R24 s0 (x3 + (1 : Int32)) M
theorem k_M_isWord_w2_60 {X : FX} {g : GT} {A : Nat → Prop} {Z : State → Prop} {post : Int32 → Mem → Prop} {R24 : Int32 → Int32 → Mem → Prop} {sk : Nat → Nat} (C : CxX X g layM A cX12_isWord 4 RX12 4 0 sk) (hr : 0 ≤ X.2.2.2.1.cells ∧ 0 ≤ X.2.2.2.1.slots) (hR : RetZ X g layM A cX12_isWord 4 0 0 Z post) (k24 : ∀ (y2 y3 : Int32) (M : Mem), R24 y2 y3 M → AtX X g layM A 4 0 0 Z 24 [(0, .ref (ad g 0)), (1, .ref (sk (30 + 2))), (2, .int y2), (3, .int y3)] [] M) (x3 s0 : Int32) (M : Mem) (h : P_M_isWord_w2_60 post R24 x3 s0 M) : AtX X g layM A 4 0 0 Z 60 [(0, .ref (ad g 0)), (1, .ref (sk (30 + 2))), (3, .int x3)] [.int s0] M := by
  refine a_istore_n C.1 (tk T_cX12_isWord 34 rfl) (by decide) rfl ?_
  refine a_iinc C.1 (1 : Int32) (tk T_cX12_isWord 35 rfl) rfl kI_1 (by decide) rfl ?_
  refine a_goto C.1 24 (tk T_cX12_isWord 36 rfl) rfl ?_
  exact a_to (k24 s0 (x3 + (1 : Int32)) M h) rfl
def P_M_isWord_w2_24 (post : Int32 → Mem → Prop) : Nat → Int32 → Int32 → Mem → Prop
  | 0, _, _, _ => False
  | n + 1, x2, x3, M =>
    (x2 = 0 → (P_M_isWord_w2_67 post x2 M)) ∧
  (¬ x2 = 0 → (P_len 2 (fun r1 M1 =>
  (r1 ≤ x3 → (P_M_isWord_w2_67 post x2 M1)) ∧
  (¬ r1 ≤ x3 → (vp_in ((M1 0 22) + x3) 400 ∧ P_chr 2 (fun r2 M2 =>
  (¬ (M1 10 ((M1 0 22) + x3).toNatClampNeg) = r2 → (P_M_isWord_w2_60 post (P_M_isWord_w2_24 post n) x3 (0 : Int32) M2)) ∧
  ((M1 10 ((M1 0 22) + x3).toNatClampNeg) = r2 → (P_M_isWord_w2_60 post (P_M_isWord_w2_24 post n) x3 (1 : Int32) M2))) x3 M1))) M))
theorem k_M_isWord_w2_24 {X : FX} {g : GT} {A : Nat → Prop} {Z : State → Prop} {post : Int32 → Mem → Prop} {sk : Nat → Nat} (C : CxX X g layM A cX12_isWord 4 RX12 4 0 sk) (hr : 0 ≤ X.2.2.2.1.cells ∧ 0 ≤ X.2.2.2.1.slots) (hR : RetZ X g layM A cX12_isWord 4 0 0 Z post) : ∀ (n : Nat) (x2 x3 : Int32) (M : Mem), P_M_isWord_w2_24 post n x2 x3 M → AtX X g layM A 4 0 0 Z 24 [(0, .ref (ad g 0)), (1, .ref (sk (30 + 2))), (2, .int x2), (3, .int x3)] [] M := by
  intro n
  induction n with
  | zero =>
    intro x2 x3 M h
    exact h.elim
  | succ n ih =>
    intro x2 x3 M h
    refine a_iload_n C.1 (tk T_cX12_isWord 14 rfl) rfl ?_
    refine a_if_eq C.1 67 (tk T_cX12_isWord 15 rfl) rfl (fun c => ?_) (fun c => ?_)
    · have h := h.1 c
      exact a_to (k_M_isWord_w2_67 C hr hR x2 M h) rfl
    · have h := h.2 c
      refine a_iload_n C.1 (tk T_cX12_isWord 16 rfl) rfl ?_
      refine a_aload_n C.1 (tk T_cX12_isWord 17 rfl) rfl ?_
      refine s_strI C [] me_yJ0_length_8abf5 rfl lk_RX12_296 (ct_lenP (o := 30) (j := 2) ⟨Or.inr rfl, by decide⟩ h) (by decide) (wok.at (o := 30) (j := 2) ⟨Or.inr rfl, by decide⟩ C.2.1.2.2.2.2.2.2.2).1 rfl rfl (Nat.le_of_ble_eq_true rfl) (tk T_cX12_isWord 18 rfl) hr (fun r1 M1 h => ?_)
      refine a_icmp_ge C.1 67 (tk T_cX12_isWord 19 rfl) rfl (fun c => ?_) (fun c => ?_)
      · have h := h.1 c
        exact a_to (k_M_isWord_w2_67 C hr hR x2 M1 h) rfl
      · have h := h.2 c
        refine a_aload_n C.1 (tk T_cX12_isWord 20 rfl) rfl ?_
        refine a_getR C.1 f_RX12_41 (tk T_cX12_isWord 21 rfl) lm0 rfl ?_
        refine a_aload_n C.1 (tk T_cX12_isWord 22 rfl) rfl ?_
        refine a_getI C.1 f_RX12_290 (tk T_cX12_isWord 23 rfl) lm0 rfl ?_
        refine a_iload_n C.1 (tk T_cX12_isWord 24 rfl) rfl ?_
        refine a_iadd C.1 (tk T_cX12_isWord 25 rfl) ?_
        obtain ⟨hb, h⟩ := h
        refine a_bald C.1 (tk T_cX12_isWord 26 rfl) lm10 hb ?_
        refine a_aload_n C.1 (tk T_cX12_isWord 27 rfl) rfl ?_
        refine a_iload_n C.1 (tk T_cX12_isWord 28 rfl) rfl ?_
        refine s_strI C [.int x3] me_yJ0_charAt_5068e rfl lk_RX12_301 (ct_chrP (o := 30) (j := 2) ⟨Or.inr rfl, by decide⟩ h) (by decide) (wok.at (o := 30) (j := 2) ⟨Or.inr rfl, by decide⟩ C.2.1.2.2.2.2.2.2.2).1 rfl rfl (Nat.le_of_ble_eq_true rfl) (tk T_cX12_isWord 29 rfl) hr (fun r2 M2 h => ?_)
        refine a_icmp_ne C.1 59 (tk T_cX12_isWord 30 rfl) rfl (fun c => ?_) (fun c => ?_)
        · have h := h.1 c
          refine a_iconst C.1 (0 : Int32) (tk T_cX12_isWord 33 rfl) kI_0 ?_
          exact a_to (k_M_isWord_w2_60 C hr hR ih x3 (0 : Int32) M2 h) rfl
        · have h := h.2 c
          refine a_iconst C.1 (1 : Int32) (tk T_cX12_isWord 31 rfl) kI_1 ?_
          refine a_goto C.1 60 (tk T_cX12_isWord 32 rfl) rfl ?_
          exact a_to (k_M_isWord_w2_60 C hr hR ih x3 (1 : Int32) M2 h) rfl
def P_M_isWord_w2_21 (post : Int32 → Mem → Prop) (s0 : Int32) (M : Mem) : Prop :=
  ∃ j24, P_M_isWord_w2_24 post j24 s0 (0 : Int32) M
theorem k_M_isWord_w2_21 {X : FX} {g : GT} {A : Nat → Prop} {Z : State → Prop} {post : Int32 → Mem → Prop} {sk : Nat → Nat} (C : CxX X g layM A cX12_isWord 4 RX12 4 0 sk) (hr : 0 ≤ X.2.2.2.1.cells ∧ 0 ≤ X.2.2.2.1.slots) (hR : RetZ X g layM A cX12_isWord 4 0 0 Z post) (s0 : Int32) (M : Mem) (h : P_M_isWord_w2_21 post s0 M) : AtX X g layM A 4 0 0 Z 21 [(0, .ref (ad g 0)), (1, .ref (sk (30 + 2)))] [.int s0] M := by
  refine a_istore_n C.1 (tk T_cX12_isWord 11 rfl) (by decide) rfl ?_
  refine a_iconst C.1 (0 : Int32) (tk T_cX12_isWord 12 rfl) kI_0 ?_
  refine a_istore_n C.1 (tk T_cX12_isWord 13 rfl) (by decide) rfl ?_
  obtain ⟨n1, h⟩ := h
  exact a_to (k_M_isWord_w2_24 C hr hR n1 s0 (0 : Int32) M h) rfl
def P_M_isWord_w2 (post : Int32 → Mem → Prop) (M : Mem) : Prop :=
  P_len 2 (fun r1 M1 =>
  (¬ ((M 0 20) - (M 0 22)) = r1 → (P_M_isWord_w2_21 post (0 : Int32) M1)) ∧
  (((M 0 20) - (M 0 22)) = r1 → (P_M_isWord_w2_21 post (1 : Int32) M1))) M
theorem k_M_isWord_w2 {X : FX} {g : GT} {A : Nat → Prop} {Z : State → Prop} {post : Int32 → Mem → Prop} {sk : Nat → Nat} (C : CxX X g layM A cX12_isWord 4 RX12 4 0 sk) (hr : 0 ≤ X.2.2.2.1.cells ∧ 0 ≤ X.2.2.2.1.slots) (hR : RetZ X g layM A cX12_isWord 4 0 0 Z post) (M : Mem) (h : P_M_isWord_w2 post M) : AtX X g layM A 4 0 0 Z 0 [(0, .ref (ad g 0)), (1, .ref (sk (30 + 2)))] [] M := by
  refine a_aload_n C.1 (tk T_cX12_isWord 0 rfl) rfl ?_
  refine a_getI C.1 f_RX12_278 (tk T_cX12_isWord 1 rfl) lm0 rfl ?_
  refine a_aload_n C.1 (tk T_cX12_isWord 2 rfl) rfl ?_
  refine a_getI C.1 f_RX12_290 (tk T_cX12_isWord 3 rfl) lm0 rfl ?_
  refine a_isub C.1 (tk T_cX12_isWord 4 rfl) ?_
  refine a_aload_n C.1 (tk T_cX12_isWord 5 rfl) rfl ?_
  refine s_strI C [] me_yJ0_length_8abf5 rfl lk_RX12_296 (ct_lenP (o := 30) (j := 2) ⟨Or.inr rfl, by decide⟩ h) (by decide) (wok.at (o := 30) (j := 2) ⟨Or.inr rfl, by decide⟩ C.2.1.2.2.2.2.2.2.2).1 rfl rfl (Nat.le_of_ble_eq_true rfl) (tk T_cX12_isWord 6 rfl) hr (fun r1 M1 h => ?_)
  refine a_icmp_ne C.1 20 (tk T_cX12_isWord 7 rfl) rfl (fun c => ?_) (fun c => ?_)
  · have h := h.1 c
    refine a_iconst C.1 (0 : Int32) (tk T_cX12_isWord 10 rfl) kI_0 ?_
    exact a_to (k_M_isWord_w2_21 C hr hR (0 : Int32) M1 h) rfl
  · have h := h.2 c
    refine a_iconst C.1 (1 : Int32) (tk T_cX12_isWord 8 rfl) kI_1 ?_
    refine a_goto C.1 21 (tk T_cX12_isWord 9 rfl) rfl ?_
    exact a_to (k_M_isWord_w2_21 C hr hR (1 : Int32) M1 h) rfl
theorem ct_M_isWord_w2 {l : Launch} {g : GT} {sk : Nat → Nat} {post : Int32 → Mem → Prop} {M : Mem} (h : P_M_isWord_w2 post M) : SI l g layM sk yX12_isWord cX12_isWord 4 (some .boolean) 4 [.ref (ad g 0), .ref (sk (30 + 2))] M post :=
  st_of (plainFor_of_name (by decide +kernel)) (Nat.le_of_ble_eq_true rfl) (fun X A Z hl C hr hR => by subst hl; exact k_M_isWord_w2 C hr (fun v M pc lv hd hp => hR v M pc lv hd (nar_z hp.1) hp.2)  M h)
def T_cX12_passesL : List (Nat × Instr × Nat) := [(0, .aload_n 0, 1), (1, .invokevirtual 305, 3), (4, .aload_n 0, 1), (5, .aload_n 1, 1), (6, .invokevirtual 308, 3), (9, .ifCond .eq 5, 3), (12, .iconst 1, 1), (13, .ireturn, 1), (14, .aload_n 0, 1), (15, .aload_n 0, 1), (16, .getfield 290, 3), (19, .putfield 278, 3), (22, .iconst 0, 1), (23, .ireturn, 1)]
theorem T_cX12_passes : tabOK cX12_passes T_cX12_passesL = true := by decide +kernel
def P_M_passes_w2 (post : Int32 → Mem → Prop) (M : Mem) : Prop :=
  P_M_letters (fun M1 =>
  P_M_isWord_w2 (fun r2 M2 =>
  (r2 = 0 → (∀ M3, M3 = ms M2 0 20 (M2 0 22) → post (0 : Int32) M3)) ∧
  (¬ r2 = 0 → (post (1 : Int32) M2))) M1) M
theorem k_M_passes_w2 {X : FX} {g : GT} {A : Nat → Prop} {Z : State → Prop} {post : Int32 → Mem → Prop} {sk : Nat → Nat} (C : CxX X g layM A cX12_passes 2 RX12 5 0 sk) (hr : 0 ≤ X.2.2.2.1.cells ∧ 0 ≤ X.2.2.2.1.slots) (hR : RetZ X g layM A cX12_passes 2 0 0 Z post) (M : Mem) (h : P_M_passes_w2 post M) : AtX X g layM A 2 0 0 Z 0 [(0, .ref (ad g 0)), (1, .ref (sk (30 + 2)))] [] M := by
  refine a_aload_n C.1 (tk T_cX12_passes 0 rfl) rfl ?_
  refine a_callV C.1 [] me_yX12_letters lk_RX12_305 (ct_M_letters h) (by decide) lm0 rfl rfl rfl (Nat.le_of_ble_eq_true rfl) (tk T_cX12_passes 1 rfl) hr (fun M1 h => ?_)
  refine a_aload_n C.1 (tk T_cX12_passes 2 rfl) rfl ?_
  refine a_aload_n C.1 (tk T_cX12_passes 3 rfl) rfl ?_
  refine s_callI C [.ref (sk (30 + 2))] me_yX12_isWord lk_RX12_308 (ct_M_isWord_w2 h) (by decide) lm0 rfl rfl rfl (Nat.le_of_ble_eq_true rfl) (tk T_cX12_passes 4 rfl) hr (fun r2 M2 h => ?_)
  refine a_if_eq C.1 14 (tk T_cX12_passes 5 rfl) rfl (fun c => ?_) (fun c => ?_)
  · have h := h.1 c
    refine a_aload_n C.1 (tk T_cX12_passes 8 rfl) rfl ?_
    refine a_aload_n C.1 (tk T_cX12_passes 9 rfl) rfl ?_
    refine a_getI C.1 f_RX12_290 (tk T_cX12_passes 10 rfl) lm0 rfl ?_
    refine a_put C.1 f_RX12_278 f_RX12_278p rfl rfl (tk T_cX12_passes 11 rfl) lm0 rfl ?_
    refine a_mem (fun M3 e_M3 => ?_)
    have h := h M3 e_M3
    refine a_iconst C.1 (0 : Int32) (tk T_cX12_passes 12 rfl) kI_0 ?_
    exact hR _ _ _ _ (tk T_cX12_passes 13 rfl) ⟨Or.inl rfl, h⟩
  · have h := h.2 c
    refine a_iconst C.1 (1 : Int32) (tk T_cX12_passes 6 rfl) kI_1 ?_
    exact hR _ _ _ _ (tk T_cX12_passes 7 rfl) ⟨Or.inr rfl, h⟩
theorem ct_M_passes_w2 {l : Launch} {g : GT} {sk : Nat → Nat} {post : Int32 → Mem → Prop} {M : Mem} (h : P_M_passes_w2 post M) : SI l g layM sk yX12_passes cX12_passes 2 (some .boolean) 5 [.ref (ad g 0), .ref (sk (30 + 2))] M post :=
  st_of (plainFor_of_name (by decide +kernel)) (Nat.le_of_ble_eq_true rfl) (fun X A Z hl C hr hR => by subst hl; exact k_M_passes_w2 C hr (fun v M pc lv hd hp => hR v M pc lv hd (nar_z hp.1) hp.2)  M h)
def P_M_isWord_w3_67 (post : Int32 → Mem → Prop) (x2 : Int32) (M : Mem) : Prop :=
  (x2 = 0 ∨ x2 = 1) ∧ post x2 M
theorem k_M_isWord_w3_67 {X : FX} {g : GT} {A : Nat → Prop} {Z : State → Prop} {post : Int32 → Mem → Prop} {sk : Nat → Nat} (C : CxX X g layM A cX12_isWord 4 RX12 4 0 sk) (hr : 0 ≤ X.2.2.2.1.cells ∧ 0 ≤ X.2.2.2.1.slots) (hR : RetZ X g layM A cX12_isWord 4 0 0 Z post) (x2 : Int32) (M : Mem) (h : P_M_isWord_w3_67 post x2 M) : AtX X g layM A 4 0 0 Z 67 [(2, .int x2)] [] M := by
  refine a_iload_n C.1 (tk T_cX12_isWord 37 rfl) rfl ?_
  exact hR _ _ _ _ (tk T_cX12_isWord 38 rfl) h
def P_M_isWord_w3_60 (post : Int32 → Mem → Prop) (R24 : Int32 → Int32 → Mem → Prop) (x3 s0 : Int32) (M : Mem) : Prop :=
  R24 s0 (x3 + (1 : Int32)) M
theorem k_M_isWord_w3_60 {X : FX} {g : GT} {A : Nat → Prop} {Z : State → Prop} {post : Int32 → Mem → Prop} {R24 : Int32 → Int32 → Mem → Prop} {sk : Nat → Nat} (C : CxX X g layM A cX12_isWord 4 RX12 4 0 sk) (hr : 0 ≤ X.2.2.2.1.cells ∧ 0 ≤ X.2.2.2.1.slots) (hR : RetZ X g layM A cX12_isWord 4 0 0 Z post) (k24 : ∀ (y2 y3 : Int32) (M : Mem), R24 y2 y3 M → AtX X g layM A 4 0 0 Z 24 [(0, .ref (ad g 0)), (1, .ref (sk (30 + 3))), (2, .int y2), (3, .int y3)] [] M) (x3 s0 : Int32) (M : Mem) (h : P_M_isWord_w3_60 post R24 x3 s0 M) : AtX X g layM A 4 0 0 Z 60 [(0, .ref (ad g 0)), (1, .ref (sk (30 + 3))), (3, .int x3)] [.int s0] M := by
  refine a_istore_n C.1 (tk T_cX12_isWord 34 rfl) (by decide) rfl ?_
  refine a_iinc C.1 (1 : Int32) (tk T_cX12_isWord 35 rfl) rfl kI_1 (by decide) rfl ?_
  refine a_goto C.1 24 (tk T_cX12_isWord 36 rfl) rfl ?_
  exact a_to (k24 s0 (x3 + (1 : Int32)) M h) rfl
def P_M_isWord_w3_24 (post : Int32 → Mem → Prop) : Nat → Int32 → Int32 → Mem → Prop
  | 0, _, _, _ => False
  | n + 1, x2, x3, M =>
    (x2 = 0 → (P_M_isWord_w3_67 post x2 M)) ∧
  (¬ x2 = 0 → (P_len 3 (fun r1 M1 =>
  (r1 ≤ x3 → (P_M_isWord_w3_67 post x2 M1)) ∧
  (¬ r1 ≤ x3 → (vp_in ((M1 0 22) + x3) 400 ∧ P_chr 3 (fun r2 M2 =>
  (¬ (M1 10 ((M1 0 22) + x3).toNatClampNeg) = r2 → (P_M_isWord_w3_60 post (P_M_isWord_w3_24 post n) x3 (0 : Int32) M2)) ∧
  ((M1 10 ((M1 0 22) + x3).toNatClampNeg) = r2 → (P_M_isWord_w3_60 post (P_M_isWord_w3_24 post n) x3 (1 : Int32) M2))) x3 M1))) M))
theorem k_M_isWord_w3_24 {X : FX} {g : GT} {A : Nat → Prop} {Z : State → Prop} {post : Int32 → Mem → Prop} {sk : Nat → Nat} (C : CxX X g layM A cX12_isWord 4 RX12 4 0 sk) (hr : 0 ≤ X.2.2.2.1.cells ∧ 0 ≤ X.2.2.2.1.slots) (hR : RetZ X g layM A cX12_isWord 4 0 0 Z post) : ∀ (n : Nat) (x2 x3 : Int32) (M : Mem), P_M_isWord_w3_24 post n x2 x3 M → AtX X g layM A 4 0 0 Z 24 [(0, .ref (ad g 0)), (1, .ref (sk (30 + 3))), (2, .int x2), (3, .int x3)] [] M := by
  intro n
  induction n with
  | zero =>
    intro x2 x3 M h
    exact h.elim
  | succ n ih =>
    intro x2 x3 M h
    refine a_iload_n C.1 (tk T_cX12_isWord 14 rfl) rfl ?_
    refine a_if_eq C.1 67 (tk T_cX12_isWord 15 rfl) rfl (fun c => ?_) (fun c => ?_)
    · have h := h.1 c
      exact a_to (k_M_isWord_w3_67 C hr hR x2 M h) rfl
    · have h := h.2 c
      refine a_iload_n C.1 (tk T_cX12_isWord 16 rfl) rfl ?_
      refine a_aload_n C.1 (tk T_cX12_isWord 17 rfl) rfl ?_
      refine s_strI C [] me_yJ0_length_8abf5 rfl lk_RX12_296 (ct_lenP (o := 30) (j := 3) ⟨Or.inr rfl, by decide⟩ h) (by decide) (wok.at (o := 30) (j := 3) ⟨Or.inr rfl, by decide⟩ C.2.1.2.2.2.2.2.2.2).1 rfl rfl (Nat.le_of_ble_eq_true rfl) (tk T_cX12_isWord 18 rfl) hr (fun r1 M1 h => ?_)
      refine a_icmp_ge C.1 67 (tk T_cX12_isWord 19 rfl) rfl (fun c => ?_) (fun c => ?_)
      · have h := h.1 c
        exact a_to (k_M_isWord_w3_67 C hr hR x2 M1 h) rfl
      · have h := h.2 c
        refine a_aload_n C.1 (tk T_cX12_isWord 20 rfl) rfl ?_
        refine a_getR C.1 f_RX12_41 (tk T_cX12_isWord 21 rfl) lm0 rfl ?_
        refine a_aload_n C.1 (tk T_cX12_isWord 22 rfl) rfl ?_
        refine a_getI C.1 f_RX12_290 (tk T_cX12_isWord 23 rfl) lm0 rfl ?_
        refine a_iload_n C.1 (tk T_cX12_isWord 24 rfl) rfl ?_
        refine a_iadd C.1 (tk T_cX12_isWord 25 rfl) ?_
        obtain ⟨hb, h⟩ := h
        refine a_bald C.1 (tk T_cX12_isWord 26 rfl) lm10 hb ?_
        refine a_aload_n C.1 (tk T_cX12_isWord 27 rfl) rfl ?_
        refine a_iload_n C.1 (tk T_cX12_isWord 28 rfl) rfl ?_
        refine s_strI C [.int x3] me_yJ0_charAt_5068e rfl lk_RX12_301 (ct_chrP (o := 30) (j := 3) ⟨Or.inr rfl, by decide⟩ h) (by decide) (wok.at (o := 30) (j := 3) ⟨Or.inr rfl, by decide⟩ C.2.1.2.2.2.2.2.2.2).1 rfl rfl (Nat.le_of_ble_eq_true rfl) (tk T_cX12_isWord 29 rfl) hr (fun r2 M2 h => ?_)
        refine a_icmp_ne C.1 59 (tk T_cX12_isWord 30 rfl) rfl (fun c => ?_) (fun c => ?_)
        · have h := h.1 c
          refine a_iconst C.1 (0 : Int32) (tk T_cX12_isWord 33 rfl) kI_0 ?_
          exact a_to (k_M_isWord_w3_60 C hr hR ih x3 (0 : Int32) M2 h) rfl
        · have h := h.2 c
          refine a_iconst C.1 (1 : Int32) (tk T_cX12_isWord 31 rfl) kI_1 ?_
          refine a_goto C.1 60 (tk T_cX12_isWord 32 rfl) rfl ?_
          exact a_to (k_M_isWord_w3_60 C hr hR ih x3 (1 : Int32) M2 h) rfl
def P_M_isWord_w3_21 (post : Int32 → Mem → Prop) (s0 : Int32) (M : Mem) : Prop :=
  ∃ j24, P_M_isWord_w3_24 post j24 s0 (0 : Int32) M
theorem k_M_isWord_w3_21 {X : FX} {g : GT} {A : Nat → Prop} {Z : State → Prop} {post : Int32 → Mem → Prop} {sk : Nat → Nat} (C : CxX X g layM A cX12_isWord 4 RX12 4 0 sk) (hr : 0 ≤ X.2.2.2.1.cells ∧ 0 ≤ X.2.2.2.1.slots) (hR : RetZ X g layM A cX12_isWord 4 0 0 Z post) (s0 : Int32) (M : Mem) (h : P_M_isWord_w3_21 post s0 M) : AtX X g layM A 4 0 0 Z 21 [(0, .ref (ad g 0)), (1, .ref (sk (30 + 3)))] [.int s0] M := by
  refine a_istore_n C.1 (tk T_cX12_isWord 11 rfl) (by decide) rfl ?_
  refine a_iconst C.1 (0 : Int32) (tk T_cX12_isWord 12 rfl) kI_0 ?_
  refine a_istore_n C.1 (tk T_cX12_isWord 13 rfl) (by decide) rfl ?_
  obtain ⟨n1, h⟩ := h
  exact a_to (k_M_isWord_w3_24 C hr hR n1 s0 (0 : Int32) M h) rfl
def P_M_isWord_w3 (post : Int32 → Mem → Prop) (M : Mem) : Prop :=
  P_len 3 (fun r1 M1 =>
  (¬ ((M 0 20) - (M 0 22)) = r1 → (P_M_isWord_w3_21 post (0 : Int32) M1)) ∧
  (((M 0 20) - (M 0 22)) = r1 → (P_M_isWord_w3_21 post (1 : Int32) M1))) M
theorem k_M_isWord_w3 {X : FX} {g : GT} {A : Nat → Prop} {Z : State → Prop} {post : Int32 → Mem → Prop} {sk : Nat → Nat} (C : CxX X g layM A cX12_isWord 4 RX12 4 0 sk) (hr : 0 ≤ X.2.2.2.1.cells ∧ 0 ≤ X.2.2.2.1.slots) (hR : RetZ X g layM A cX12_isWord 4 0 0 Z post) (M : Mem) (h : P_M_isWord_w3 post M) : AtX X g layM A 4 0 0 Z 0 [(0, .ref (ad g 0)), (1, .ref (sk (30 + 3)))] [] M := by
  refine a_aload_n C.1 (tk T_cX12_isWord 0 rfl) rfl ?_
  refine a_getI C.1 f_RX12_278 (tk T_cX12_isWord 1 rfl) lm0 rfl ?_
  refine a_aload_n C.1 (tk T_cX12_isWord 2 rfl) rfl ?_
  refine a_getI C.1 f_RX12_290 (tk T_cX12_isWord 3 rfl) lm0 rfl ?_
  refine a_isub C.1 (tk T_cX12_isWord 4 rfl) ?_
  refine a_aload_n C.1 (tk T_cX12_isWord 5 rfl) rfl ?_
  refine s_strI C [] me_yJ0_length_8abf5 rfl lk_RX12_296 (ct_lenP (o := 30) (j := 3) ⟨Or.inr rfl, by decide⟩ h) (by decide) (wok.at (o := 30) (j := 3) ⟨Or.inr rfl, by decide⟩ C.2.1.2.2.2.2.2.2.2).1 rfl rfl (Nat.le_of_ble_eq_true rfl) (tk T_cX12_isWord 6 rfl) hr (fun r1 M1 h => ?_)
  refine a_icmp_ne C.1 20 (tk T_cX12_isWord 7 rfl) rfl (fun c => ?_) (fun c => ?_)
  · have h := h.1 c
    refine a_iconst C.1 (0 : Int32) (tk T_cX12_isWord 10 rfl) kI_0 ?_
    exact a_to (k_M_isWord_w3_21 C hr hR (0 : Int32) M1 h) rfl
  · have h := h.2 c
    refine a_iconst C.1 (1 : Int32) (tk T_cX12_isWord 8 rfl) kI_1 ?_
    refine a_goto C.1 21 (tk T_cX12_isWord 9 rfl) rfl ?_
    exact a_to (k_M_isWord_w3_21 C hr hR (1 : Int32) M1 h) rfl
theorem ct_M_isWord_w3 {l : Launch} {g : GT} {sk : Nat → Nat} {post : Int32 → Mem → Prop} {M : Mem} (h : P_M_isWord_w3 post M) : SI l g layM sk yX12_isWord cX12_isWord 4 (some .boolean) 4 [.ref (ad g 0), .ref (sk (30 + 3))] M post :=
  st_of (plainFor_of_name (by decide +kernel)) (Nat.le_of_ble_eq_true rfl) (fun X A Z hl C hr hR => by subst hl; exact k_M_isWord_w3 C hr (fun v M pc lv hd hp => hR v M pc lv hd (nar_z hp.1) hp.2)  M h)
def P_M_passes_w3 (post : Int32 → Mem → Prop) (M : Mem) : Prop :=
  P_M_letters (fun M1 =>
  P_M_isWord_w3 (fun r2 M2 =>
  (r2 = 0 → (∀ M3, M3 = ms M2 0 20 (M2 0 22) → post (0 : Int32) M3)) ∧
  (¬ r2 = 0 → (post (1 : Int32) M2))) M1) M
theorem k_M_passes_w3 {X : FX} {g : GT} {A : Nat → Prop} {Z : State → Prop} {post : Int32 → Mem → Prop} {sk : Nat → Nat} (C : CxX X g layM A cX12_passes 2 RX12 5 0 sk) (hr : 0 ≤ X.2.2.2.1.cells ∧ 0 ≤ X.2.2.2.1.slots) (hR : RetZ X g layM A cX12_passes 2 0 0 Z post) (M : Mem) (h : P_M_passes_w3 post M) : AtX X g layM A 2 0 0 Z 0 [(0, .ref (ad g 0)), (1, .ref (sk (30 + 3)))] [] M := by
  refine a_aload_n C.1 (tk T_cX12_passes 0 rfl) rfl ?_
  refine a_callV C.1 [] me_yX12_letters lk_RX12_305 (ct_M_letters h) (by decide) lm0 rfl rfl rfl (Nat.le_of_ble_eq_true rfl) (tk T_cX12_passes 1 rfl) hr (fun M1 h => ?_)
  refine a_aload_n C.1 (tk T_cX12_passes 2 rfl) rfl ?_
  refine a_aload_n C.1 (tk T_cX12_passes 3 rfl) rfl ?_
  refine s_callI C [.ref (sk (30 + 3))] me_yX12_isWord lk_RX12_308 (ct_M_isWord_w3 h) (by decide) lm0 rfl rfl rfl (Nat.le_of_ble_eq_true rfl) (tk T_cX12_passes 4 rfl) hr (fun r2 M2 h => ?_)
  refine a_if_eq C.1 14 (tk T_cX12_passes 5 rfl) rfl (fun c => ?_) (fun c => ?_)
  · have h := h.1 c
    refine a_aload_n C.1 (tk T_cX12_passes 8 rfl) rfl ?_
    refine a_aload_n C.1 (tk T_cX12_passes 9 rfl) rfl ?_
    refine a_getI C.1 f_RX12_290 (tk T_cX12_passes 10 rfl) lm0 rfl ?_
    refine a_put C.1 f_RX12_278 f_RX12_278p rfl rfl (tk T_cX12_passes 11 rfl) lm0 rfl ?_
    refine a_mem (fun M3 e_M3 => ?_)
    have h := h M3 e_M3
    refine a_iconst C.1 (0 : Int32) (tk T_cX12_passes 12 rfl) kI_0 ?_
    exact hR _ _ _ _ (tk T_cX12_passes 13 rfl) ⟨Or.inl rfl, h⟩
  · have h := h.2 c
    refine a_iconst C.1 (1 : Int32) (tk T_cX12_passes 6 rfl) kI_1 ?_
    exact hR _ _ _ _ (tk T_cX12_passes 7 rfl) ⟨Or.inr rfl, h⟩
theorem ct_M_passes_w3 {l : Launch} {g : GT} {sk : Nat → Nat} {post : Int32 → Mem → Prop} {M : Mem} (h : P_M_passes_w3 post M) : SI l g layM sk yX12_passes cX12_passes 2 (some .boolean) 5 [.ref (ad g 0), .ref (sk (30 + 3))] M post :=
  st_of (plainFor_of_name (by decide +kernel)) (Nat.le_of_ble_eq_true rfl) (fun X A Z hl C hr hR => by subst hl; exact k_M_passes_w3 C hr (fun v M pc lv hd hp => hR v M pc lv hd (nar_z hp.1) hp.2)  M h)
def P_M_isWord_w4_67 (post : Int32 → Mem → Prop) (x2 : Int32) (M : Mem) : Prop :=
  (x2 = 0 ∨ x2 = 1) ∧ post x2 M
theorem k_M_isWord_w4_67 {X : FX} {g : GT} {A : Nat → Prop} {Z : State → Prop} {post : Int32 → Mem → Prop} {sk : Nat → Nat} (C : CxX X g layM A cX12_isWord 4 RX12 4 0 sk) (hr : 0 ≤ X.2.2.2.1.cells ∧ 0 ≤ X.2.2.2.1.slots) (hR : RetZ X g layM A cX12_isWord 4 0 0 Z post) (x2 : Int32) (M : Mem) (h : P_M_isWord_w4_67 post x2 M) : AtX X g layM A 4 0 0 Z 67 [(2, .int x2)] [] M := by
  refine a_iload_n C.1 (tk T_cX12_isWord 37 rfl) rfl ?_
  exact hR _ _ _ _ (tk T_cX12_isWord 38 rfl) h
def P_M_isWord_w4_60 (post : Int32 → Mem → Prop) (R24 : Int32 → Int32 → Mem → Prop) (x3 s0 : Int32) (M : Mem) : Prop :=
  R24 s0 (x3 + (1 : Int32)) M
theorem k_M_isWord_w4_60 {X : FX} {g : GT} {A : Nat → Prop} {Z : State → Prop} {post : Int32 → Mem → Prop} {R24 : Int32 → Int32 → Mem → Prop} {sk : Nat → Nat} (C : CxX X g layM A cX12_isWord 4 RX12 4 0 sk) (hr : 0 ≤ X.2.2.2.1.cells ∧ 0 ≤ X.2.2.2.1.slots) (hR : RetZ X g layM A cX12_isWord 4 0 0 Z post) (k24 : ∀ (y2 y3 : Int32) (M : Mem), R24 y2 y3 M → AtX X g layM A 4 0 0 Z 24 [(0, .ref (ad g 0)), (1, .ref (sk (30 + 4))), (2, .int y2), (3, .int y3)] [] M) (x3 s0 : Int32) (M : Mem) (h : P_M_isWord_w4_60 post R24 x3 s0 M) : AtX X g layM A 4 0 0 Z 60 [(0, .ref (ad g 0)), (1, .ref (sk (30 + 4))), (3, .int x3)] [.int s0] M := by
  refine a_istore_n C.1 (tk T_cX12_isWord 34 rfl) (by decide) rfl ?_
  refine a_iinc C.1 (1 : Int32) (tk T_cX12_isWord 35 rfl) rfl kI_1 (by decide) rfl ?_
  refine a_goto C.1 24 (tk T_cX12_isWord 36 rfl) rfl ?_
  exact a_to (k24 s0 (x3 + (1 : Int32)) M h) rfl
def P_M_isWord_w4_24 (post : Int32 → Mem → Prop) : Nat → Int32 → Int32 → Mem → Prop
  | 0, _, _, _ => False
  | n + 1, x2, x3, M =>
    (x2 = 0 → (P_M_isWord_w4_67 post x2 M)) ∧
  (¬ x2 = 0 → (P_len 4 (fun r1 M1 =>
  (r1 ≤ x3 → (P_M_isWord_w4_67 post x2 M1)) ∧
  (¬ r1 ≤ x3 → (vp_in ((M1 0 22) + x3) 400 ∧ P_chr 4 (fun r2 M2 =>
  (¬ (M1 10 ((M1 0 22) + x3).toNatClampNeg) = r2 → (P_M_isWord_w4_60 post (P_M_isWord_w4_24 post n) x3 (0 : Int32) M2)) ∧
  ((M1 10 ((M1 0 22) + x3).toNatClampNeg) = r2 → (P_M_isWord_w4_60 post (P_M_isWord_w4_24 post n) x3 (1 : Int32) M2))) x3 M1))) M))
theorem k_M_isWord_w4_24 {X : FX} {g : GT} {A : Nat → Prop} {Z : State → Prop} {post : Int32 → Mem → Prop} {sk : Nat → Nat} (C : CxX X g layM A cX12_isWord 4 RX12 4 0 sk) (hr : 0 ≤ X.2.2.2.1.cells ∧ 0 ≤ X.2.2.2.1.slots) (hR : RetZ X g layM A cX12_isWord 4 0 0 Z post) : ∀ (n : Nat) (x2 x3 : Int32) (M : Mem), P_M_isWord_w4_24 post n x2 x3 M → AtX X g layM A 4 0 0 Z 24 [(0, .ref (ad g 0)), (1, .ref (sk (30 + 4))), (2, .int x2), (3, .int x3)] [] M := by
  intro n
  induction n with
  | zero =>
    intro x2 x3 M h
    exact h.elim
  | succ n ih =>
    intro x2 x3 M h
    refine a_iload_n C.1 (tk T_cX12_isWord 14 rfl) rfl ?_
    refine a_if_eq C.1 67 (tk T_cX12_isWord 15 rfl) rfl (fun c => ?_) (fun c => ?_)
    · have h := h.1 c
      exact a_to (k_M_isWord_w4_67 C hr hR x2 M h) rfl
    · have h := h.2 c
      refine a_iload_n C.1 (tk T_cX12_isWord 16 rfl) rfl ?_
      refine a_aload_n C.1 (tk T_cX12_isWord 17 rfl) rfl ?_
      refine s_strI C [] me_yJ0_length_8abf5 rfl lk_RX12_296 (ct_lenP (o := 30) (j := 4) ⟨Or.inr rfl, by decide⟩ h) (by decide) (wok.at (o := 30) (j := 4) ⟨Or.inr rfl, by decide⟩ C.2.1.2.2.2.2.2.2.2).1 rfl rfl (Nat.le_of_ble_eq_true rfl) (tk T_cX12_isWord 18 rfl) hr (fun r1 M1 h => ?_)
      refine a_icmp_ge C.1 67 (tk T_cX12_isWord 19 rfl) rfl (fun c => ?_) (fun c => ?_)
      · have h := h.1 c
        exact a_to (k_M_isWord_w4_67 C hr hR x2 M1 h) rfl
      · have h := h.2 c
        refine a_aload_n C.1 (tk T_cX12_isWord 20 rfl) rfl ?_
        refine a_getR C.1 f_RX12_41 (tk T_cX12_isWord 21 rfl) lm0 rfl ?_
        refine a_aload_n C.1 (tk T_cX12_isWord 22 rfl) rfl ?_
        refine a_getI C.1 f_RX12_290 (tk T_cX12_isWord 23 rfl) lm0 rfl ?_
        refine a_iload_n C.1 (tk T_cX12_isWord 24 rfl) rfl ?_
        refine a_iadd C.1 (tk T_cX12_isWord 25 rfl) ?_
        obtain ⟨hb, h⟩ := h
        refine a_bald C.1 (tk T_cX12_isWord 26 rfl) lm10 hb ?_
        refine a_aload_n C.1 (tk T_cX12_isWord 27 rfl) rfl ?_
        refine a_iload_n C.1 (tk T_cX12_isWord 28 rfl) rfl ?_
        refine s_strI C [.int x3] me_yJ0_charAt_5068e rfl lk_RX12_301 (ct_chrP (o := 30) (j := 4) ⟨Or.inr rfl, by decide⟩ h) (by decide) (wok.at (o := 30) (j := 4) ⟨Or.inr rfl, by decide⟩ C.2.1.2.2.2.2.2.2.2).1 rfl rfl (Nat.le_of_ble_eq_true rfl) (tk T_cX12_isWord 29 rfl) hr (fun r2 M2 h => ?_)
        refine a_icmp_ne C.1 59 (tk T_cX12_isWord 30 rfl) rfl (fun c => ?_) (fun c => ?_)
        · have h := h.1 c
          refine a_iconst C.1 (0 : Int32) (tk T_cX12_isWord 33 rfl) kI_0 ?_
          exact a_to (k_M_isWord_w4_60 C hr hR ih x3 (0 : Int32) M2 h) rfl
        · have h := h.2 c
          refine a_iconst C.1 (1 : Int32) (tk T_cX12_isWord 31 rfl) kI_1 ?_
          refine a_goto C.1 60 (tk T_cX12_isWord 32 rfl) rfl ?_
          exact a_to (k_M_isWord_w4_60 C hr hR ih x3 (1 : Int32) M2 h) rfl
def P_M_isWord_w4_21 (post : Int32 → Mem → Prop) (s0 : Int32) (M : Mem) : Prop :=
  ∃ j24, P_M_isWord_w4_24 post j24 s0 (0 : Int32) M
theorem k_M_isWord_w4_21 {X : FX} {g : GT} {A : Nat → Prop} {Z : State → Prop} {post : Int32 → Mem → Prop} {sk : Nat → Nat} (C : CxX X g layM A cX12_isWord 4 RX12 4 0 sk) (hr : 0 ≤ X.2.2.2.1.cells ∧ 0 ≤ X.2.2.2.1.slots) (hR : RetZ X g layM A cX12_isWord 4 0 0 Z post) (s0 : Int32) (M : Mem) (h : P_M_isWord_w4_21 post s0 M) : AtX X g layM A 4 0 0 Z 21 [(0, .ref (ad g 0)), (1, .ref (sk (30 + 4)))] [.int s0] M := by
  refine a_istore_n C.1 (tk T_cX12_isWord 11 rfl) (by decide) rfl ?_
  refine a_iconst C.1 (0 : Int32) (tk T_cX12_isWord 12 rfl) kI_0 ?_
  refine a_istore_n C.1 (tk T_cX12_isWord 13 rfl) (by decide) rfl ?_
  obtain ⟨n1, h⟩ := h
  exact a_to (k_M_isWord_w4_24 C hr hR n1 s0 (0 : Int32) M h) rfl
def P_M_isWord_w4 (post : Int32 → Mem → Prop) (M : Mem) : Prop :=
  P_len 4 (fun r1 M1 =>
  (¬ ((M 0 20) - (M 0 22)) = r1 → (P_M_isWord_w4_21 post (0 : Int32) M1)) ∧
  (((M 0 20) - (M 0 22)) = r1 → (P_M_isWord_w4_21 post (1 : Int32) M1))) M
theorem k_M_isWord_w4 {X : FX} {g : GT} {A : Nat → Prop} {Z : State → Prop} {post : Int32 → Mem → Prop} {sk : Nat → Nat} (C : CxX X g layM A cX12_isWord 4 RX12 4 0 sk) (hr : 0 ≤ X.2.2.2.1.cells ∧ 0 ≤ X.2.2.2.1.slots) (hR : RetZ X g layM A cX12_isWord 4 0 0 Z post) (M : Mem) (h : P_M_isWord_w4 post M) : AtX X g layM A 4 0 0 Z 0 [(0, .ref (ad g 0)), (1, .ref (sk (30 + 4)))] [] M := by
  refine a_aload_n C.1 (tk T_cX12_isWord 0 rfl) rfl ?_
  refine a_getI C.1 f_RX12_278 (tk T_cX12_isWord 1 rfl) lm0 rfl ?_
  refine a_aload_n C.1 (tk T_cX12_isWord 2 rfl) rfl ?_
  refine a_getI C.1 f_RX12_290 (tk T_cX12_isWord 3 rfl) lm0 rfl ?_
  refine a_isub C.1 (tk T_cX12_isWord 4 rfl) ?_
  refine a_aload_n C.1 (tk T_cX12_isWord 5 rfl) rfl ?_
  refine s_strI C [] me_yJ0_length_8abf5 rfl lk_RX12_296 (ct_lenP (o := 30) (j := 4) ⟨Or.inr rfl, by decide⟩ h) (by decide) (wok.at (o := 30) (j := 4) ⟨Or.inr rfl, by decide⟩ C.2.1.2.2.2.2.2.2.2).1 rfl rfl (Nat.le_of_ble_eq_true rfl) (tk T_cX12_isWord 6 rfl) hr (fun r1 M1 h => ?_)
  refine a_icmp_ne C.1 20 (tk T_cX12_isWord 7 rfl) rfl (fun c => ?_) (fun c => ?_)
  · have h := h.1 c
    refine a_iconst C.1 (0 : Int32) (tk T_cX12_isWord 10 rfl) kI_0 ?_
    exact a_to (k_M_isWord_w4_21 C hr hR (0 : Int32) M1 h) rfl
  · have h := h.2 c
    refine a_iconst C.1 (1 : Int32) (tk T_cX12_isWord 8 rfl) kI_1 ?_
    refine a_goto C.1 21 (tk T_cX12_isWord 9 rfl) rfl ?_
    exact a_to (k_M_isWord_w4_21 C hr hR (1 : Int32) M1 h) rfl
theorem ct_M_isWord_w4 {l : Launch} {g : GT} {sk : Nat → Nat} {post : Int32 → Mem → Prop} {M : Mem} (h : P_M_isWord_w4 post M) : SI l g layM sk yX12_isWord cX12_isWord 4 (some .boolean) 4 [.ref (ad g 0), .ref (sk (30 + 4))] M post :=
  st_of (plainFor_of_name (by decide +kernel)) (Nat.le_of_ble_eq_true rfl) (fun X A Z hl C hr hR => by subst hl; exact k_M_isWord_w4 C hr (fun v M pc lv hd hp => hR v M pc lv hd (nar_z hp.1) hp.2)  M h)
def P_M_passes_w4 (post : Int32 → Mem → Prop) (M : Mem) : Prop :=
  P_M_letters (fun M1 =>
  P_M_isWord_w4 (fun r2 M2 =>
  (r2 = 0 → (∀ M3, M3 = ms M2 0 20 (M2 0 22) → post (0 : Int32) M3)) ∧
  (¬ r2 = 0 → (post (1 : Int32) M2))) M1) M
theorem k_M_passes_w4 {X : FX} {g : GT} {A : Nat → Prop} {Z : State → Prop} {post : Int32 → Mem → Prop} {sk : Nat → Nat} (C : CxX X g layM A cX12_passes 2 RX12 5 0 sk) (hr : 0 ≤ X.2.2.2.1.cells ∧ 0 ≤ X.2.2.2.1.slots) (hR : RetZ X g layM A cX12_passes 2 0 0 Z post) (M : Mem) (h : P_M_passes_w4 post M) : AtX X g layM A 2 0 0 Z 0 [(0, .ref (ad g 0)), (1, .ref (sk (30 + 4)))] [] M := by
  refine a_aload_n C.1 (tk T_cX12_passes 0 rfl) rfl ?_
  refine a_callV C.1 [] me_yX12_letters lk_RX12_305 (ct_M_letters h) (by decide) lm0 rfl rfl rfl (Nat.le_of_ble_eq_true rfl) (tk T_cX12_passes 1 rfl) hr (fun M1 h => ?_)
  refine a_aload_n C.1 (tk T_cX12_passes 2 rfl) rfl ?_
  refine a_aload_n C.1 (tk T_cX12_passes 3 rfl) rfl ?_
  refine s_callI C [.ref (sk (30 + 4))] me_yX12_isWord lk_RX12_308 (ct_M_isWord_w4 h) (by decide) lm0 rfl rfl rfl (Nat.le_of_ble_eq_true rfl) (tk T_cX12_passes 4 rfl) hr (fun r2 M2 h => ?_)
  refine a_if_eq C.1 14 (tk T_cX12_passes 5 rfl) rfl (fun c => ?_) (fun c => ?_)
  · have h := h.1 c
    refine a_aload_n C.1 (tk T_cX12_passes 8 rfl) rfl ?_
    refine a_aload_n C.1 (tk T_cX12_passes 9 rfl) rfl ?_
    refine a_getI C.1 f_RX12_290 (tk T_cX12_passes 10 rfl) lm0 rfl ?_
    refine a_put C.1 f_RX12_278 f_RX12_278p rfl rfl (tk T_cX12_passes 11 rfl) lm0 rfl ?_
    refine a_mem (fun M3 e_M3 => ?_)
    have h := h M3 e_M3
    refine a_iconst C.1 (0 : Int32) (tk T_cX12_passes 12 rfl) kI_0 ?_
    exact hR _ _ _ _ (tk T_cX12_passes 13 rfl) ⟨Or.inl rfl, h⟩
  · have h := h.2 c
    refine a_iconst C.1 (1 : Int32) (tk T_cX12_passes 6 rfl) kI_1 ?_
    exact hR _ _ _ _ (tk T_cX12_passes 7 rfl) ⟨Or.inr rfl, h⟩
theorem ct_M_passes_w4 {l : Launch} {g : GT} {sk : Nat → Nat} {post : Int32 → Mem → Prop} {M : Mem} (h : P_M_passes_w4 post M) : SI l g layM sk yX12_passes cX12_passes 2 (some .boolean) 5 [.ref (ad g 0), .ref (sk (30 + 4))] M post :=
  st_of (plainFor_of_name (by decide +kernel)) (Nat.le_of_ble_eq_true rfl) (fun X A Z hl C hr hR => by subst hl; exact k_M_passes_w4 C hr (fun v M pc lv hd hp => hR v M pc lv hd (nar_z hp.1) hp.2)  M h)
def P_M_isWord_w0_67 (post : Int32 → Mem → Prop) (x2 : Int32) (M : Mem) : Prop :=
  (x2 = 0 ∨ x2 = 1) ∧ post x2 M
theorem k_M_isWord_w0_67 {X : FX} {g : GT} {A : Nat → Prop} {Z : State → Prop} {post : Int32 → Mem → Prop} {sk : Nat → Nat} (C : CxX X g layM A cX12_isWord 4 RX12 4 0 sk) (hr : 0 ≤ X.2.2.2.1.cells ∧ 0 ≤ X.2.2.2.1.slots) (hR : RetZ X g layM A cX12_isWord 4 0 0 Z post) (x2 : Int32) (M : Mem) (h : P_M_isWord_w0_67 post x2 M) : AtX X g layM A 4 0 0 Z 67 [(2, .int x2)] [] M := by
  refine a_iload_n C.1 (tk T_cX12_isWord 37 rfl) rfl ?_
  exact hR _ _ _ _ (tk T_cX12_isWord 38 rfl) h
def P_M_isWord_w0_60 (post : Int32 → Mem → Prop) (R24 : Int32 → Int32 → Mem → Prop) (x3 s0 : Int32) (M : Mem) : Prop :=
  R24 s0 (x3 + (1 : Int32)) M
theorem k_M_isWord_w0_60 {X : FX} {g : GT} {A : Nat → Prop} {Z : State → Prop} {post : Int32 → Mem → Prop} {R24 : Int32 → Int32 → Mem → Prop} {sk : Nat → Nat} (C : CxX X g layM A cX12_isWord 4 RX12 4 0 sk) (hr : 0 ≤ X.2.2.2.1.cells ∧ 0 ≤ X.2.2.2.1.slots) (hR : RetZ X g layM A cX12_isWord 4 0 0 Z post) (k24 : ∀ (y2 y3 : Int32) (M : Mem), R24 y2 y3 M → AtX X g layM A 4 0 0 Z 24 [(0, .ref (ad g 0)), (1, .ref (sk (30 + 0))), (2, .int y2), (3, .int y3)] [] M) (x3 s0 : Int32) (M : Mem) (h : P_M_isWord_w0_60 post R24 x3 s0 M) : AtX X g layM A 4 0 0 Z 60 [(0, .ref (ad g 0)), (1, .ref (sk (30 + 0))), (3, .int x3)] [.int s0] M := by
  refine a_istore_n C.1 (tk T_cX12_isWord 34 rfl) (by decide) rfl ?_
  refine a_iinc C.1 (1 : Int32) (tk T_cX12_isWord 35 rfl) rfl kI_1 (by decide) rfl ?_
  refine a_goto C.1 24 (tk T_cX12_isWord 36 rfl) rfl ?_
  exact a_to (k24 s0 (x3 + (1 : Int32)) M h) rfl
def P_M_isWord_w0_24 (post : Int32 → Mem → Prop) : Nat → Int32 → Int32 → Mem → Prop
  | 0, _, _, _ => False
  | n + 1, x2, x3, M =>
    (x2 = 0 → (P_M_isWord_w0_67 post x2 M)) ∧
  (¬ x2 = 0 → (P_len 0 (fun r1 M1 =>
  (r1 ≤ x3 → (P_M_isWord_w0_67 post x2 M1)) ∧
  (¬ r1 ≤ x3 → (vp_in ((M1 0 22) + x3) 400 ∧ P_chr 0 (fun r2 M2 =>
  (¬ (M1 10 ((M1 0 22) + x3).toNatClampNeg) = r2 → (P_M_isWord_w0_60 post (P_M_isWord_w0_24 post n) x3 (0 : Int32) M2)) ∧
  ((M1 10 ((M1 0 22) + x3).toNatClampNeg) = r2 → (P_M_isWord_w0_60 post (P_M_isWord_w0_24 post n) x3 (1 : Int32) M2))) x3 M1))) M))
theorem k_M_isWord_w0_24 {X : FX} {g : GT} {A : Nat → Prop} {Z : State → Prop} {post : Int32 → Mem → Prop} {sk : Nat → Nat} (C : CxX X g layM A cX12_isWord 4 RX12 4 0 sk) (hr : 0 ≤ X.2.2.2.1.cells ∧ 0 ≤ X.2.2.2.1.slots) (hR : RetZ X g layM A cX12_isWord 4 0 0 Z post) : ∀ (n : Nat) (x2 x3 : Int32) (M : Mem), P_M_isWord_w0_24 post n x2 x3 M → AtX X g layM A 4 0 0 Z 24 [(0, .ref (ad g 0)), (1, .ref (sk (30 + 0))), (2, .int x2), (3, .int x3)] [] M := by
  intro n
  induction n with
  | zero =>
    intro x2 x3 M h
    exact h.elim
  | succ n ih =>
    intro x2 x3 M h
    refine a_iload_n C.1 (tk T_cX12_isWord 14 rfl) rfl ?_
    refine a_if_eq C.1 67 (tk T_cX12_isWord 15 rfl) rfl (fun c => ?_) (fun c => ?_)
    · have h := h.1 c
      exact a_to (k_M_isWord_w0_67 C hr hR x2 M h) rfl
    · have h := h.2 c
      refine a_iload_n C.1 (tk T_cX12_isWord 16 rfl) rfl ?_
      refine a_aload_n C.1 (tk T_cX12_isWord 17 rfl) rfl ?_
      refine s_strI C [] me_yJ0_length_8abf5 rfl lk_RX12_296 (ct_lenP (o := 30) (j := 0) ⟨Or.inr rfl, by decide⟩ h) (by decide) (wok.at (o := 30) (j := 0) ⟨Or.inr rfl, by decide⟩ C.2.1.2.2.2.2.2.2.2).1 rfl rfl (Nat.le_of_ble_eq_true rfl) (tk T_cX12_isWord 18 rfl) hr (fun r1 M1 h => ?_)
      refine a_icmp_ge C.1 67 (tk T_cX12_isWord 19 rfl) rfl (fun c => ?_) (fun c => ?_)
      · have h := h.1 c
        exact a_to (k_M_isWord_w0_67 C hr hR x2 M1 h) rfl
      · have h := h.2 c
        refine a_aload_n C.1 (tk T_cX12_isWord 20 rfl) rfl ?_
        refine a_getR C.1 f_RX12_41 (tk T_cX12_isWord 21 rfl) lm0 rfl ?_
        refine a_aload_n C.1 (tk T_cX12_isWord 22 rfl) rfl ?_
        refine a_getI C.1 f_RX12_290 (tk T_cX12_isWord 23 rfl) lm0 rfl ?_
        refine a_iload_n C.1 (tk T_cX12_isWord 24 rfl) rfl ?_
        refine a_iadd C.1 (tk T_cX12_isWord 25 rfl) ?_
        obtain ⟨hb, h⟩ := h
        refine a_bald C.1 (tk T_cX12_isWord 26 rfl) lm10 hb ?_
        refine a_aload_n C.1 (tk T_cX12_isWord 27 rfl) rfl ?_
        refine a_iload_n C.1 (tk T_cX12_isWord 28 rfl) rfl ?_
        refine s_strI C [.int x3] me_yJ0_charAt_5068e rfl lk_RX12_301 (ct_chrP (o := 30) (j := 0) ⟨Or.inr rfl, by decide⟩ h) (by decide) (wok.at (o := 30) (j := 0) ⟨Or.inr rfl, by decide⟩ C.2.1.2.2.2.2.2.2.2).1 rfl rfl (Nat.le_of_ble_eq_true rfl) (tk T_cX12_isWord 29 rfl) hr (fun r2 M2 h => ?_)
        refine a_icmp_ne C.1 59 (tk T_cX12_isWord 30 rfl) rfl (fun c => ?_) (fun c => ?_)
        · have h := h.1 c
          refine a_iconst C.1 (0 : Int32) (tk T_cX12_isWord 33 rfl) kI_0 ?_
          exact a_to (k_M_isWord_w0_60 C hr hR ih x3 (0 : Int32) M2 h) rfl
        · have h := h.2 c
          refine a_iconst C.1 (1 : Int32) (tk T_cX12_isWord 31 rfl) kI_1 ?_
          refine a_goto C.1 60 (tk T_cX12_isWord 32 rfl) rfl ?_
          exact a_to (k_M_isWord_w0_60 C hr hR ih x3 (1 : Int32) M2 h) rfl
def P_M_isWord_w0_21 (post : Int32 → Mem → Prop) (s0 : Int32) (M : Mem) : Prop :=
  ∃ j24, P_M_isWord_w0_24 post j24 s0 (0 : Int32) M
theorem k_M_isWord_w0_21 {X : FX} {g : GT} {A : Nat → Prop} {Z : State → Prop} {post : Int32 → Mem → Prop} {sk : Nat → Nat} (C : CxX X g layM A cX12_isWord 4 RX12 4 0 sk) (hr : 0 ≤ X.2.2.2.1.cells ∧ 0 ≤ X.2.2.2.1.slots) (hR : RetZ X g layM A cX12_isWord 4 0 0 Z post) (s0 : Int32) (M : Mem) (h : P_M_isWord_w0_21 post s0 M) : AtX X g layM A 4 0 0 Z 21 [(0, .ref (ad g 0)), (1, .ref (sk (30 + 0)))] [.int s0] M := by
  refine a_istore_n C.1 (tk T_cX12_isWord 11 rfl) (by decide) rfl ?_
  refine a_iconst C.1 (0 : Int32) (tk T_cX12_isWord 12 rfl) kI_0 ?_
  refine a_istore_n C.1 (tk T_cX12_isWord 13 rfl) (by decide) rfl ?_
  obtain ⟨n1, h⟩ := h
  exact a_to (k_M_isWord_w0_24 C hr hR n1 s0 (0 : Int32) M h) rfl
def P_M_isWord_w0 (post : Int32 → Mem → Prop) (M : Mem) : Prop :=
  P_len 0 (fun r1 M1 =>
  (¬ ((M 0 20) - (M 0 22)) = r1 → (P_M_isWord_w0_21 post (0 : Int32) M1)) ∧
  (((M 0 20) - (M 0 22)) = r1 → (P_M_isWord_w0_21 post (1 : Int32) M1))) M
theorem k_M_isWord_w0 {X : FX} {g : GT} {A : Nat → Prop} {Z : State → Prop} {post : Int32 → Mem → Prop} {sk : Nat → Nat} (C : CxX X g layM A cX12_isWord 4 RX12 4 0 sk) (hr : 0 ≤ X.2.2.2.1.cells ∧ 0 ≤ X.2.2.2.1.slots) (hR : RetZ X g layM A cX12_isWord 4 0 0 Z post) (M : Mem) (h : P_M_isWord_w0 post M) : AtX X g layM A 4 0 0 Z 0 [(0, .ref (ad g 0)), (1, .ref (sk (30 + 0)))] [] M := by
  refine a_aload_n C.1 (tk T_cX12_isWord 0 rfl) rfl ?_
  refine a_getI C.1 f_RX12_278 (tk T_cX12_isWord 1 rfl) lm0 rfl ?_
  refine a_aload_n C.1 (tk T_cX12_isWord 2 rfl) rfl ?_
  refine a_getI C.1 f_RX12_290 (tk T_cX12_isWord 3 rfl) lm0 rfl ?_
  refine a_isub C.1 (tk T_cX12_isWord 4 rfl) ?_
  refine a_aload_n C.1 (tk T_cX12_isWord 5 rfl) rfl ?_
  refine s_strI C [] me_yJ0_length_8abf5 rfl lk_RX12_296 (ct_lenP (o := 30) (j := 0) ⟨Or.inr rfl, by decide⟩ h) (by decide) (wok.at (o := 30) (j := 0) ⟨Or.inr rfl, by decide⟩ C.2.1.2.2.2.2.2.2.2).1 rfl rfl (Nat.le_of_ble_eq_true rfl) (tk T_cX12_isWord 6 rfl) hr (fun r1 M1 h => ?_)
  refine a_icmp_ne C.1 20 (tk T_cX12_isWord 7 rfl) rfl (fun c => ?_) (fun c => ?_)
  · have h := h.1 c
    refine a_iconst C.1 (0 : Int32) (tk T_cX12_isWord 10 rfl) kI_0 ?_
    exact a_to (k_M_isWord_w0_21 C hr hR (0 : Int32) M1 h) rfl
  · have h := h.2 c
    refine a_iconst C.1 (1 : Int32) (tk T_cX12_isWord 8 rfl) kI_1 ?_
    refine a_goto C.1 21 (tk T_cX12_isWord 9 rfl) rfl ?_
    exact a_to (k_M_isWord_w0_21 C hr hR (1 : Int32) M1 h) rfl
theorem ct_M_isWord_w0 {l : Launch} {g : GT} {sk : Nat → Nat} {post : Int32 → Mem → Prop} {M : Mem} (h : P_M_isWord_w0 post M) : SI l g layM sk yX12_isWord cX12_isWord 4 (some .boolean) 4 [.ref (ad g 0), .ref (sk (30 + 0))] M post :=
  st_of (plainFor_of_name (by decide +kernel)) (Nat.le_of_ble_eq_true rfl) (fun X A Z hl C hr hR => by subst hl; exact k_M_isWord_w0 C hr (fun v M pc lv hd hp => hR v M pc lv hd (nar_z hp.1) hp.2)  M h)
def P_M_passes_w0 (post : Int32 → Mem → Prop) (M : Mem) : Prop :=
  P_M_letters (fun M1 =>
  P_M_isWord_w0 (fun r2 M2 =>
  (r2 = 0 → (∀ M3, M3 = ms M2 0 20 (M2 0 22) → post (0 : Int32) M3)) ∧
  (¬ r2 = 0 → (post (1 : Int32) M2))) M1) M
theorem k_M_passes_w0 {X : FX} {g : GT} {A : Nat → Prop} {Z : State → Prop} {post : Int32 → Mem → Prop} {sk : Nat → Nat} (C : CxX X g layM A cX12_passes 2 RX12 5 0 sk) (hr : 0 ≤ X.2.2.2.1.cells ∧ 0 ≤ X.2.2.2.1.slots) (hR : RetZ X g layM A cX12_passes 2 0 0 Z post) (M : Mem) (h : P_M_passes_w0 post M) : AtX X g layM A 2 0 0 Z 0 [(0, .ref (ad g 0)), (1, .ref (sk (30 + 0)))] [] M := by
  refine a_aload_n C.1 (tk T_cX12_passes 0 rfl) rfl ?_
  refine a_callV C.1 [] me_yX12_letters lk_RX12_305 (ct_M_letters h) (by decide) lm0 rfl rfl rfl (Nat.le_of_ble_eq_true rfl) (tk T_cX12_passes 1 rfl) hr (fun M1 h => ?_)
  refine a_aload_n C.1 (tk T_cX12_passes 2 rfl) rfl ?_
  refine a_aload_n C.1 (tk T_cX12_passes 3 rfl) rfl ?_
  refine s_callI C [.ref (sk (30 + 0))] me_yX12_isWord lk_RX12_308 (ct_M_isWord_w0 h) (by decide) lm0 rfl rfl rfl (Nat.le_of_ble_eq_true rfl) (tk T_cX12_passes 4 rfl) hr (fun r2 M2 h => ?_)
  refine a_if_eq C.1 14 (tk T_cX12_passes 5 rfl) rfl (fun c => ?_) (fun c => ?_)
  · have h := h.1 c
    refine a_aload_n C.1 (tk T_cX12_passes 8 rfl) rfl ?_
    refine a_aload_n C.1 (tk T_cX12_passes 9 rfl) rfl ?_
    refine a_getI C.1 f_RX12_290 (tk T_cX12_passes 10 rfl) lm0 rfl ?_
    refine a_put C.1 f_RX12_278 f_RX12_278p rfl rfl (tk T_cX12_passes 11 rfl) lm0 rfl ?_
    refine a_mem (fun M3 e_M3 => ?_)
    have h := h M3 e_M3
    refine a_iconst C.1 (0 : Int32) (tk T_cX12_passes 12 rfl) kI_0 ?_
    exact hR _ _ _ _ (tk T_cX12_passes 13 rfl) ⟨Or.inl rfl, h⟩
  · have h := h.2 c
    refine a_iconst C.1 (1 : Int32) (tk T_cX12_passes 6 rfl) kI_1 ?_
    exact hR _ _ _ _ (tk T_cX12_passes 7 rfl) ⟨Or.inr rfl, h⟩
theorem ct_M_passes_w0 {l : Launch} {g : GT} {sk : Nat → Nat} {post : Int32 → Mem → Prop} {M : Mem} (h : P_M_passes_w0 post M) : SI l g layM sk yX12_passes cX12_passes 2 (some .boolean) 5 [.ref (ad g 0), .ref (sk (30 + 0))] M post :=
  st_of (plainFor_of_name (by decide +kernel)) (Nat.le_of_ble_eq_true rfl) (fun X A Z hl C hr hR => by subst hl; exact k_M_passes_w0 C hr (fun v M pc lv hd hp => hR v M pc lv hd (nar_z hp.1) hp.2)  M h)
def P_M_isWord_w1_67 (post : Int32 → Mem → Prop) (x2 : Int32) (M : Mem) : Prop :=
  (x2 = 0 ∨ x2 = 1) ∧ post x2 M
theorem k_M_isWord_w1_67 {X : FX} {g : GT} {A : Nat → Prop} {Z : State → Prop} {post : Int32 → Mem → Prop} {sk : Nat → Nat} (C : CxX X g layM A cX12_isWord 4 RX12 4 0 sk) (hr : 0 ≤ X.2.2.2.1.cells ∧ 0 ≤ X.2.2.2.1.slots) (hR : RetZ X g layM A cX12_isWord 4 0 0 Z post) (x2 : Int32) (M : Mem) (h : P_M_isWord_w1_67 post x2 M) : AtX X g layM A 4 0 0 Z 67 [(2, .int x2)] [] M := by
  refine a_iload_n C.1 (tk T_cX12_isWord 37 rfl) rfl ?_
  exact hR _ _ _ _ (tk T_cX12_isWord 38 rfl) h
def P_M_isWord_w1_60 (post : Int32 → Mem → Prop) (R24 : Int32 → Int32 → Mem → Prop) (x3 s0 : Int32) (M : Mem) : Prop :=
  R24 s0 (x3 + (1 : Int32)) M
theorem k_M_isWord_w1_60 {X : FX} {g : GT} {A : Nat → Prop} {Z : State → Prop} {post : Int32 → Mem → Prop} {R24 : Int32 → Int32 → Mem → Prop} {sk : Nat → Nat} (C : CxX X g layM A cX12_isWord 4 RX12 4 0 sk) (hr : 0 ≤ X.2.2.2.1.cells ∧ 0 ≤ X.2.2.2.1.slots) (hR : RetZ X g layM A cX12_isWord 4 0 0 Z post) (k24 : ∀ (y2 y3 : Int32) (M : Mem), R24 y2 y3 M → AtX X g layM A 4 0 0 Z 24 [(0, .ref (ad g 0)), (1, .ref (sk (30 + 1))), (2, .int y2), (3, .int y3)] [] M) (x3 s0 : Int32) (M : Mem) (h : P_M_isWord_w1_60 post R24 x3 s0 M) : AtX X g layM A 4 0 0 Z 60 [(0, .ref (ad g 0)), (1, .ref (sk (30 + 1))), (3, .int x3)] [.int s0] M := by
  refine a_istore_n C.1 (tk T_cX12_isWord 34 rfl) (by decide) rfl ?_
  refine a_iinc C.1 (1 : Int32) (tk T_cX12_isWord 35 rfl) rfl kI_1 (by decide) rfl ?_
  refine a_goto C.1 24 (tk T_cX12_isWord 36 rfl) rfl ?_
  exact a_to (k24 s0 (x3 + (1 : Int32)) M h) rfl
def P_M_isWord_w1_24 (post : Int32 → Mem → Prop) : Nat → Int32 → Int32 → Mem → Prop
  | 0, _, _, _ => False
  | n + 1, x2, x3, M =>
    (x2 = 0 → (P_M_isWord_w1_67 post x2 M)) ∧
  (¬ x2 = 0 → (P_len 1 (fun r1 M1 =>
  (r1 ≤ x3 → (P_M_isWord_w1_67 post x2 M1)) ∧
  (¬ r1 ≤ x3 → (vp_in ((M1 0 22) + x3) 400 ∧ P_chr 1 (fun r2 M2 =>
  (¬ (M1 10 ((M1 0 22) + x3).toNatClampNeg) = r2 → (P_M_isWord_w1_60 post (P_M_isWord_w1_24 post n) x3 (0 : Int32) M2)) ∧
  ((M1 10 ((M1 0 22) + x3).toNatClampNeg) = r2 → (P_M_isWord_w1_60 post (P_M_isWord_w1_24 post n) x3 (1 : Int32) M2))) x3 M1))) M))
theorem k_M_isWord_w1_24 {X : FX} {g : GT} {A : Nat → Prop} {Z : State → Prop} {post : Int32 → Mem → Prop} {sk : Nat → Nat} (C : CxX X g layM A cX12_isWord 4 RX12 4 0 sk) (hr : 0 ≤ X.2.2.2.1.cells ∧ 0 ≤ X.2.2.2.1.slots) (hR : RetZ X g layM A cX12_isWord 4 0 0 Z post) : ∀ (n : Nat) (x2 x3 : Int32) (M : Mem), P_M_isWord_w1_24 post n x2 x3 M → AtX X g layM A 4 0 0 Z 24 [(0, .ref (ad g 0)), (1, .ref (sk (30 + 1))), (2, .int x2), (3, .int x3)] [] M := by
  intro n
  induction n with
  | zero =>
    intro x2 x3 M h
    exact h.elim
  | succ n ih =>
    intro x2 x3 M h
    refine a_iload_n C.1 (tk T_cX12_isWord 14 rfl) rfl ?_
    refine a_if_eq C.1 67 (tk T_cX12_isWord 15 rfl) rfl (fun c => ?_) (fun c => ?_)
    · have h := h.1 c
      exact a_to (k_M_isWord_w1_67 C hr hR x2 M h) rfl
    · have h := h.2 c
      refine a_iload_n C.1 (tk T_cX12_isWord 16 rfl) rfl ?_
      refine a_aload_n C.1 (tk T_cX12_isWord 17 rfl) rfl ?_
      refine s_strI C [] me_yJ0_length_8abf5 rfl lk_RX12_296 (ct_lenP (o := 30) (j := 1) ⟨Or.inr rfl, by decide⟩ h) (by decide) (wok.at (o := 30) (j := 1) ⟨Or.inr rfl, by decide⟩ C.2.1.2.2.2.2.2.2.2).1 rfl rfl (Nat.le_of_ble_eq_true rfl) (tk T_cX12_isWord 18 rfl) hr (fun r1 M1 h => ?_)
      refine a_icmp_ge C.1 67 (tk T_cX12_isWord 19 rfl) rfl (fun c => ?_) (fun c => ?_)
      · have h := h.1 c
        exact a_to (k_M_isWord_w1_67 C hr hR x2 M1 h) rfl
      · have h := h.2 c
        refine a_aload_n C.1 (tk T_cX12_isWord 20 rfl) rfl ?_
        refine a_getR C.1 f_RX12_41 (tk T_cX12_isWord 21 rfl) lm0 rfl ?_
        refine a_aload_n C.1 (tk T_cX12_isWord 22 rfl) rfl ?_
        refine a_getI C.1 f_RX12_290 (tk T_cX12_isWord 23 rfl) lm0 rfl ?_
        refine a_iload_n C.1 (tk T_cX12_isWord 24 rfl) rfl ?_
        refine a_iadd C.1 (tk T_cX12_isWord 25 rfl) ?_
        obtain ⟨hb, h⟩ := h
        refine a_bald C.1 (tk T_cX12_isWord 26 rfl) lm10 hb ?_
        refine a_aload_n C.1 (tk T_cX12_isWord 27 rfl) rfl ?_
        refine a_iload_n C.1 (tk T_cX12_isWord 28 rfl) rfl ?_
        refine s_strI C [.int x3] me_yJ0_charAt_5068e rfl lk_RX12_301 (ct_chrP (o := 30) (j := 1) ⟨Or.inr rfl, by decide⟩ h) (by decide) (wok.at (o := 30) (j := 1) ⟨Or.inr rfl, by decide⟩ C.2.1.2.2.2.2.2.2.2).1 rfl rfl (Nat.le_of_ble_eq_true rfl) (tk T_cX12_isWord 29 rfl) hr (fun r2 M2 h => ?_)
        refine a_icmp_ne C.1 59 (tk T_cX12_isWord 30 rfl) rfl (fun c => ?_) (fun c => ?_)
        · have h := h.1 c
          refine a_iconst C.1 (0 : Int32) (tk T_cX12_isWord 33 rfl) kI_0 ?_
          exact a_to (k_M_isWord_w1_60 C hr hR ih x3 (0 : Int32) M2 h) rfl
        · have h := h.2 c
          refine a_iconst C.1 (1 : Int32) (tk T_cX12_isWord 31 rfl) kI_1 ?_
          refine a_goto C.1 60 (tk T_cX12_isWord 32 rfl) rfl ?_
          exact a_to (k_M_isWord_w1_60 C hr hR ih x3 (1 : Int32) M2 h) rfl
def P_M_isWord_w1_21 (post : Int32 → Mem → Prop) (s0 : Int32) (M : Mem) : Prop :=
  ∃ j24, P_M_isWord_w1_24 post j24 s0 (0 : Int32) M
theorem k_M_isWord_w1_21 {X : FX} {g : GT} {A : Nat → Prop} {Z : State → Prop} {post : Int32 → Mem → Prop} {sk : Nat → Nat} (C : CxX X g layM A cX12_isWord 4 RX12 4 0 sk) (hr : 0 ≤ X.2.2.2.1.cells ∧ 0 ≤ X.2.2.2.1.slots) (hR : RetZ X g layM A cX12_isWord 4 0 0 Z post) (s0 : Int32) (M : Mem) (h : P_M_isWord_w1_21 post s0 M) : AtX X g layM A 4 0 0 Z 21 [(0, .ref (ad g 0)), (1, .ref (sk (30 + 1)))] [.int s0] M := by
  refine a_istore_n C.1 (tk T_cX12_isWord 11 rfl) (by decide) rfl ?_
  refine a_iconst C.1 (0 : Int32) (tk T_cX12_isWord 12 rfl) kI_0 ?_
  refine a_istore_n C.1 (tk T_cX12_isWord 13 rfl) (by decide) rfl ?_
  obtain ⟨n1, h⟩ := h
  exact a_to (k_M_isWord_w1_24 C hr hR n1 s0 (0 : Int32) M h) rfl
def P_M_isWord_w1 (post : Int32 → Mem → Prop) (M : Mem) : Prop :=
  P_len 1 (fun r1 M1 =>
  (¬ ((M 0 20) - (M 0 22)) = r1 → (P_M_isWord_w1_21 post (0 : Int32) M1)) ∧
  (((M 0 20) - (M 0 22)) = r1 → (P_M_isWord_w1_21 post (1 : Int32) M1))) M
theorem k_M_isWord_w1 {X : FX} {g : GT} {A : Nat → Prop} {Z : State → Prop} {post : Int32 → Mem → Prop} {sk : Nat → Nat} (C : CxX X g layM A cX12_isWord 4 RX12 4 0 sk) (hr : 0 ≤ X.2.2.2.1.cells ∧ 0 ≤ X.2.2.2.1.slots) (hR : RetZ X g layM A cX12_isWord 4 0 0 Z post) (M : Mem) (h : P_M_isWord_w1 post M) : AtX X g layM A 4 0 0 Z 0 [(0, .ref (ad g 0)), (1, .ref (sk (30 + 1)))] [] M := by
  refine a_aload_n C.1 (tk T_cX12_isWord 0 rfl) rfl ?_
  refine a_getI C.1 f_RX12_278 (tk T_cX12_isWord 1 rfl) lm0 rfl ?_
  refine a_aload_n C.1 (tk T_cX12_isWord 2 rfl) rfl ?_
  refine a_getI C.1 f_RX12_290 (tk T_cX12_isWord 3 rfl) lm0 rfl ?_
  refine a_isub C.1 (tk T_cX12_isWord 4 rfl) ?_
  refine a_aload_n C.1 (tk T_cX12_isWord 5 rfl) rfl ?_
  refine s_strI C [] me_yJ0_length_8abf5 rfl lk_RX12_296 (ct_lenP (o := 30) (j := 1) ⟨Or.inr rfl, by decide⟩ h) (by decide) (wok.at (o := 30) (j := 1) ⟨Or.inr rfl, by decide⟩ C.2.1.2.2.2.2.2.2.2).1 rfl rfl (Nat.le_of_ble_eq_true rfl) (tk T_cX12_isWord 6 rfl) hr (fun r1 M1 h => ?_)
  refine a_icmp_ne C.1 20 (tk T_cX12_isWord 7 rfl) rfl (fun c => ?_) (fun c => ?_)
  · have h := h.1 c
    refine a_iconst C.1 (0 : Int32) (tk T_cX12_isWord 10 rfl) kI_0 ?_
    exact a_to (k_M_isWord_w1_21 C hr hR (0 : Int32) M1 h) rfl
  · have h := h.2 c
    refine a_iconst C.1 (1 : Int32) (tk T_cX12_isWord 8 rfl) kI_1 ?_
    refine a_goto C.1 21 (tk T_cX12_isWord 9 rfl) rfl ?_
    exact a_to (k_M_isWord_w1_21 C hr hR (1 : Int32) M1 h) rfl
theorem ct_M_isWord_w1 {l : Launch} {g : GT} {sk : Nat → Nat} {post : Int32 → Mem → Prop} {M : Mem} (h : P_M_isWord_w1 post M) : SI l g layM sk yX12_isWord cX12_isWord 4 (some .boolean) 4 [.ref (ad g 0), .ref (sk (30 + 1))] M post :=
  st_of (plainFor_of_name (by decide +kernel)) (Nat.le_of_ble_eq_true rfl) (fun X A Z hl C hr hR => by subst hl; exact k_M_isWord_w1 C hr (fun v M pc lv hd hp => hR v M pc lv hd (nar_z hp.1) hp.2)  M h)
def P_M_passes_w1 (post : Int32 → Mem → Prop) (M : Mem) : Prop :=
  P_M_letters (fun M1 =>
  P_M_isWord_w1 (fun r2 M2 =>
  (r2 = 0 → (∀ M3, M3 = ms M2 0 20 (M2 0 22) → post (0 : Int32) M3)) ∧
  (¬ r2 = 0 → (post (1 : Int32) M2))) M1) M
theorem k_M_passes_w1 {X : FX} {g : GT} {A : Nat → Prop} {Z : State → Prop} {post : Int32 → Mem → Prop} {sk : Nat → Nat} (C : CxX X g layM A cX12_passes 2 RX12 5 0 sk) (hr : 0 ≤ X.2.2.2.1.cells ∧ 0 ≤ X.2.2.2.1.slots) (hR : RetZ X g layM A cX12_passes 2 0 0 Z post) (M : Mem) (h : P_M_passes_w1 post M) : AtX X g layM A 2 0 0 Z 0 [(0, .ref (ad g 0)), (1, .ref (sk (30 + 1)))] [] M := by
  refine a_aload_n C.1 (tk T_cX12_passes 0 rfl) rfl ?_
  refine a_callV C.1 [] me_yX12_letters lk_RX12_305 (ct_M_letters h) (by decide) lm0 rfl rfl rfl (Nat.le_of_ble_eq_true rfl) (tk T_cX12_passes 1 rfl) hr (fun M1 h => ?_)
  refine a_aload_n C.1 (tk T_cX12_passes 2 rfl) rfl ?_
  refine a_aload_n C.1 (tk T_cX12_passes 3 rfl) rfl ?_
  refine s_callI C [.ref (sk (30 + 1))] me_yX12_isWord lk_RX12_308 (ct_M_isWord_w1 h) (by decide) lm0 rfl rfl rfl (Nat.le_of_ble_eq_true rfl) (tk T_cX12_passes 4 rfl) hr (fun r2 M2 h => ?_)
  refine a_if_eq C.1 14 (tk T_cX12_passes 5 rfl) rfl (fun c => ?_) (fun c => ?_)
  · have h := h.1 c
    refine a_aload_n C.1 (tk T_cX12_passes 8 rfl) rfl ?_
    refine a_aload_n C.1 (tk T_cX12_passes 9 rfl) rfl ?_
    refine a_getI C.1 f_RX12_290 (tk T_cX12_passes 10 rfl) lm0 rfl ?_
    refine a_put C.1 f_RX12_278 f_RX12_278p rfl rfl (tk T_cX12_passes 11 rfl) lm0 rfl ?_
    refine a_mem (fun M3 e_M3 => ?_)
    have h := h M3 e_M3
    refine a_iconst C.1 (0 : Int32) (tk T_cX12_passes 12 rfl) kI_0 ?_
    exact hR _ _ _ _ (tk T_cX12_passes 13 rfl) ⟨Or.inl rfl, h⟩
  · have h := h.2 c
    refine a_iconst C.1 (1 : Int32) (tk T_cX12_passes 6 rfl) kI_1 ?_
    exact hR _ _ _ _ (tk T_cX12_passes 7 rfl) ⟨Or.inr rfl, h⟩
theorem ct_M_passes_w1 {l : Launch} {g : GT} {sk : Nat → Nat} {post : Int32 → Mem → Prop} {M : Mem} (h : P_M_passes_w1 post M) : SI l g layM sk yX12_passes cX12_passes 2 (some .boolean) 5 [.ref (ad g 0), .ref (sk (30 + 1))] M post :=
  st_of (plainFor_of_name (by decide +kernel)) (Nat.le_of_ble_eq_true rfl) (fun X A Z hl C hr hR => by subst hl; exact k_M_passes_w1 C hr (fun v M pc lv hd hp => hR v M pc lv hd (nar_z hp.1) hp.2)  M h)
def T_cX12_readAllOfL : List (Nat × Instr × Nat) := [(0, .aload_n 0, 1), (1, .invokevirtual 348, 3), (4, .ifCond .ne 5, 3), (7, .iconst 0, 1), (8, .ireturn, 1), (9, .aload_n 0, 1), (10, .ldc_w 358, 3), (13, .invokevirtual 345, 3), (16, .ifCond .eq 22, 3), (19, .aload_n 0, 1), (20, .invokevirtual 348, 3), (23, .ifCond .ne 5, 3), (26, .iconst 0, 1), (27, .ireturn, 1), (28, .aload_n 0, 1), (29, .bipush 12, 2), (31, .iconst 0, 1), (32, .invokevirtual 315, 3), (35, .goto (-26), 3), (38, .iconst 1, 1), (39, .ireturn, 1)]
theorem T_cX12_readAllOf : tabOK cX12_readAllOf T_cX12_readAllOfL = true := by decide +kernel
def P_M_readAllOf_9 (RA : (Int32 → Mem → Prop) → Mem → Prop) (post : Int32 → Mem → Prop) : Nat → Mem → Prop
  | 0, _ => False
  | n + 1, M =>
    P_M_passes_w1 (fun r1 M1 =>
  (r1 = 0 → (post (1 : Int32) M1)) ∧
  (¬ r1 = 0 → (RA (fun r2 M2 =>
  (¬ r2 = 0 → (P_M_emits (fun M3 =>
  P_M_readAllOf_9 RA post n M3) (12 : Int32) (0 : Int32) M2)) ∧
  (r2 = 0 → (post (0 : Int32) M2))) M1))) M
theorem k_M_readAllOf_9 {X : FX} {g : GT} {A : Nat → Prop} {Z : State → Prop} {post : Int32 → Mem → Prop} {sk : Nat → Nat} {hA : Nat} (hc : 20 ≤ hA) {RA : (Int32 → Mem → Prop) → Mem → Prop} (hRA : ∀ (post : Int32 → Mem → Prop) (M : Mem), RA post M → SI X.2.1 g layM sk yX12_readAtom cX12_readAtom 2 (some .boolean) hA [.ref (ad g 0)] M post) (C : CxX X g layM A cX12_readAllOf 1 RX12 (hA + 1) 0 sk) (hr : 0 ≤ X.2.2.2.1.cells ∧ 0 ≤ X.2.2.2.1.slots) (hR : RetZ X g layM A cX12_readAllOf 1 0 0 Z post) : ∀ (n : Nat) (M : Mem), P_M_readAllOf_9 RA post n M → AtX X g layM A 1 0 0 Z 9 [(0, .ref (ad g 0))] [] M := by
  intro n
  induction n with
  | zero =>
    intro M h
    exact h.elim
  | succ n ih =>
    intro M h
    refine a_aload_n C.1 (tk T_cX12_readAllOf 5 rfl) rfl ?_
    refine s_ldc_w C (C.2.1.2.2.2.2.2.2.2.2.2.2.2.2 1 (by decide)) (tk T_cX12_readAllOf 6 rfl) ?_
    refine s_callI C [.ref (sk (30 + 1))] me_yX12_passes lk_RX12_345 (ct_M_passes_w1 h) (by omega) lm0 rfl rfl rfl (Nat.le_of_ble_eq_true rfl) (tk T_cX12_readAllOf 7 rfl) hr (fun r1 M1 h => ?_)
    refine a_if_eq C.1 38 (tk T_cX12_readAllOf 8 rfl) rfl (fun c => ?_) (fun c => ?_)
    · have h := h.1 c
      refine a_iconst C.1 (1 : Int32) (tk T_cX12_readAllOf 19 rfl) kI_1 ?_
      exact hR _ _ _ _ (tk T_cX12_readAllOf 20 rfl) ⟨Or.inr rfl, h⟩
    · have h := h.2 c
      refine a_aload_n C.1 (tk T_cX12_readAllOf 9 rfl) rfl ?_
      refine s_callI C [] me_yX12_readAtom lk_RX12_348 (hRA _ _ h) (by omega) lm0 rfl rfl rfl (Nat.le_of_ble_eq_true rfl) (tk T_cX12_readAllOf 10 rfl) hr (fun r2 M2 h => ?_)
      refine a_if_ne C.1 28 (tk T_cX12_readAllOf 11 rfl) rfl (fun c => ?_) (fun c => ?_)
      · have h := h.1 c
        refine a_aload_n C.1 (tk T_cX12_readAllOf 14 rfl) rfl ?_
        refine a_bipush C.1 (12 : Int32) (tk T_cX12_readAllOf 15 rfl) kB_12 ?_
        refine a_iconst C.1 (0 : Int32) (tk T_cX12_readAllOf 16 rfl) kI_0 ?_
        refine a_callV C.1 [.int (12 : Int32), .int (0 : Int32)] me_yX12_emits lk_RX12_315 (ct_M_emits h) (by omega) lm0 rfl rfl rfl (Nat.le_of_ble_eq_true rfl) (tk T_cX12_readAllOf 17 rfl) hr (fun M3 h => ?_)
        refine a_goto C.1 9 (tk T_cX12_readAllOf 18 rfl) rfl ?_
        exact a_to (ih M3 h) rfl
      · have h := h.2 c
        refine a_iconst C.1 (0 : Int32) (tk T_cX12_readAllOf 12 rfl) kI_0 ?_
        exact hR _ _ _ _ (tk T_cX12_readAllOf 13 rfl) ⟨Or.inl rfl, h⟩
def P_M_readAllOf (RA : (Int32 → Mem → Prop) → Mem → Prop) (post : Int32 → Mem → Prop) (M : Mem) : Prop :=
  RA (fun r1 M1 =>
  (¬ r1 = 0 → (∃ j9, P_M_readAllOf_9 RA post j9 M1)) ∧
  (r1 = 0 → (post (0 : Int32) M1))) M
theorem k_M_readAllOf {X : FX} {g : GT} {A : Nat → Prop} {Z : State → Prop} {post : Int32 → Mem → Prop} {sk : Nat → Nat} {hA : Nat} (hc : 20 ≤ hA) {RA : (Int32 → Mem → Prop) → Mem → Prop} (hRA : ∀ (post : Int32 → Mem → Prop) (M : Mem), RA post M → SI X.2.1 g layM sk yX12_readAtom cX12_readAtom 2 (some .boolean) hA [.ref (ad g 0)] M post) (C : CxX X g layM A cX12_readAllOf 1 RX12 (hA + 1) 0 sk) (hr : 0 ≤ X.2.2.2.1.cells ∧ 0 ≤ X.2.2.2.1.slots) (hR : RetZ X g layM A cX12_readAllOf 1 0 0 Z post) (M : Mem) (h : P_M_readAllOf RA post M) : AtX X g layM A 1 0 0 Z 0 [(0, .ref (ad g 0))] [] M := by
  refine a_aload_n C.1 (tk T_cX12_readAllOf 0 rfl) rfl ?_
  refine s_callI C [] me_yX12_readAtom lk_RX12_348 (hRA _ _ h) (by omega) lm0 rfl rfl rfl (Nat.le_of_ble_eq_true rfl) (tk T_cX12_readAllOf 1 rfl) hr (fun r1 M1 h => ?_)
  refine a_if_ne C.1 9 (tk T_cX12_readAllOf 2 rfl) rfl (fun c => ?_) (fun c => ?_)
  · have h := h.1 c
    obtain ⟨n1, h⟩ := h
    exact a_to (k_M_readAllOf_9 hc hRA C hr hR n1 M1 h) rfl
  · have h := h.2 c
    refine a_iconst C.1 (0 : Int32) (tk T_cX12_readAllOf 3 rfl) kI_0 ?_
    exact hR _ _ _ _ (tk T_cX12_readAllOf 4 rfl) ⟨Or.inl rfl, h⟩
theorem ct_M_readAllOf {l : Launch} {g : GT} {sk : Nat → Nat} {post : Int32 → Mem → Prop} {hA : Nat} (hc : 20 ≤ hA) {RA : (Int32 → Mem → Prop) → Mem → Prop} (hRA : ∀ (post : Int32 → Mem → Prop) (M : Mem), RA post M → SI l g layM sk yX12_readAtom cX12_readAtom 2 (some .boolean) hA [.ref (ad g 0)] M post) {M : Mem} (h : P_M_readAllOf RA post M) : SI l g layM sk yX12_readAllOf cX12_readAllOf 1 (some .boolean) (hA + 1) [.ref (ad g 0)] M post :=
  st_of (plainFor_of_name (by decide +kernel)) (Nat.le_of_ble_eq_true rfl) (fun X A Z hl C hr hR => by subst hl; exact k_M_readAllOf hc hRA C hr (fun v M pc lv hd hp => hR v M pc lv hd (nar_z hp.1) hp.2)  M h)
