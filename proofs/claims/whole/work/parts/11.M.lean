def T_cX12_thrownL : List (Nat × Instr × Nat) := [(0, .aload_n 0, 1), (1, .getfield 3, 3), (4, .ireturn, 1)]
theorem T_cX12_thrown : tabOK cX12_thrown T_cX12_thrownL = true := by decide +kernel
def P_M_thrown (post : Int32 → Mem → Prop) (M : Mem) : Prop :=
  post (M 0 0) M
theorem k_M_thrown {X : FX} {g : GT} {A : Nat → Prop} {Z : State → Prop} {post : Int32 → Mem → Prop} (C : Cx X g layM A cX12_thrown 1 RX12 0) (hr : 0 ≤ X.2.2.2.1.cells ∧ 0 ≤ X.2.2.2.1.slots) (hR : RetI X g layM A cX12_thrown 1 0 0 Z post) (M : Mem) (h : P_M_thrown post M) : AtX X g layM A 1 0 0 Z 0 [(0, .ref (ad g 0))] [] M := by
  refine a_aload_n C (tk T_cX12_thrown 0 rfl) rfl ?_
  refine a_getI C f_RX12_3 (tk T_cX12_thrown 1 rfl) lm0 rfl ?_
  exact hR _ _ _ _ (tk T_cX12_thrown 2 rfl) h
theorem ct_M_thrown {l : Launch} {g : GT} {post : Int32 → Mem → Prop} {M : Mem} (h : P_M_thrown post M) : CI l g layM yX12_thrown cX12_thrown 1 (some .int) 0 [.ref (ad g 0)] M post :=
  ci_of (plainFor_of_name (by decide +kernel)) (Nat.le_of_ble_eq_true rfl) (fun X A Z hl C hr hR => by subst hl; exact k_M_thrown C hr hR  M h)
def T_cX12_throwsIfL : List (Nat × Instr × Nat) := [(0, .iload_n 1, 1), (1, .ifCond .eq 8, 3), (4, .aload_n 0, 1), (5, .iload_n 2, 1), (6, .putfield 3, 3), (9, .iload_n 1, 1), (10, .ireturn, 1)]
theorem T_cX12_throwsIf : tabOK cX12_throwsIf T_cX12_throwsIfL = true := by decide +kernel
def P_M_throwsIf_9 (post : Int32 → Mem → Prop) (x1 : Int32) (M : Mem) : Prop :=
  (x1 = 0 ∨ x1 = 1) ∧ post x1 M
theorem k_M_throwsIf_9 {X : FX} {g : GT} {A : Nat → Prop} {Z : State → Prop} {post : Int32 → Mem → Prop} (C : Cx X g layM A cX12_throwsIf 3 RX12 0) (hr : 0 ≤ X.2.2.2.1.cells ∧ 0 ≤ X.2.2.2.1.slots) (hR : RetZ X g layM A cX12_throwsIf 3 0 0 Z post) (x1 : Int32) (M : Mem) (h : P_M_throwsIf_9 post x1 M) : AtX X g layM A 3 0 0 Z 9 [(1, .int x1)] [] M := by
  refine a_iload_n C (tk T_cX12_throwsIf 5 rfl) rfl ?_
  exact hR _ _ _ _ (tk T_cX12_throwsIf 6 rfl) h
def P_M_throwsIf (post : Int32 → Mem → Prop) (x1 x2 : Int32) (M : Mem) : Prop :=
  (x1 = 0 → (P_M_throwsIf_9 post x1 M)) ∧
  (¬ x1 = 0 → (∀ M1, M1 = ms M 0 0 x2 → P_M_throwsIf_9 post x1 M1))
theorem k_M_throwsIf {X : FX} {g : GT} {A : Nat → Prop} {Z : State → Prop} {post : Int32 → Mem → Prop} (C : Cx X g layM A cX12_throwsIf 3 RX12 0) (hr : 0 ≤ X.2.2.2.1.cells ∧ 0 ≤ X.2.2.2.1.slots) (hR : RetZ X g layM A cX12_throwsIf 3 0 0 Z post) (x1 x2 : Int32) (M : Mem) (h : P_M_throwsIf post x1 x2 M) : AtX X g layM A 3 0 0 Z 0 [(0, .ref (ad g 0)), (1, .int x1), (2, .int x2)] [] M := by
  refine a_iload_n C (tk T_cX12_throwsIf 0 rfl) rfl ?_
  refine a_if_eq C 9 (tk T_cX12_throwsIf 1 rfl) rfl (fun c => ?_) (fun c => ?_)
  · have h := h.1 c
    exact a_to (k_M_throwsIf_9 C hr hR x1 M h) rfl
  · have h := h.2 c
    refine a_aload_n C (tk T_cX12_throwsIf 2 rfl) rfl ?_
    refine a_iload_n C (tk T_cX12_throwsIf 3 rfl) rfl ?_
    refine a_put C f_RX12_3 f_RX12_3p rfl rfl (tk T_cX12_throwsIf 4 rfl) lm0 rfl ?_
    refine a_mem (fun M1 e_M1 => ?_)
    have h := h M1 e_M1
    exact a_to (k_M_throwsIf_9 C hr hR x1 M1 h) rfl
theorem ct_M_throwsIf {l : Launch} {g : GT} {post : Int32 → Mem → Prop} {x1 x2 : Int32} {M : Mem} (h : P_M_throwsIf post x1 x2 M) : CI l g layM yX12_throwsIf cX12_throwsIf 3 (some .boolean) 0 [.ref (ad g 0), .int x1, .int x2] M post :=
  cz_of (plainFor_of_name (by decide +kernel)) (Nat.le_of_ble_eq_true rfl) (fun X A Z hl C hr hR => by subst hl; exact k_M_throwsIf C hr hR x1 x2 M h)
def T_cX12_inL : List (Nat × Instr × Nat) := [(0, .iload_n 0, 1), (1, .iload_n 1, 1), (2, .if_icmp .lt 12, 3), (5, .iload_n 0, 1), (6, .iload_n 2, 1), (7, .if_icmp .gt 7, 3), (10, .iconst 1, 1), (11, .goto 4, 3), (14, .iconst 0, 1), (15, .ireturn, 1)]
theorem T_cX12_in : tabOK cX12_in T_cX12_inL = true := by decide +kernel
def P_M_in_15 (post : Int32 → Mem → Prop) (s0 : Int32) (M : Mem) : Prop :=
  (s0 = 0 ∨ s0 = 1) ∧ post s0 M
theorem k_M_in_15 {X : FX} {g : GT} {A : Nat → Prop} {Z : State → Prop} {post : Int32 → Mem → Prop} (C : Cx X g layM A cX12_in 3 RX12 0) (hr : 0 ≤ X.2.2.2.1.cells ∧ 0 ≤ X.2.2.2.1.slots) (hR : RetZ X g layM A cX12_in 3 0 0 Z post) (s0 : Int32) (M : Mem) (h : P_M_in_15 post s0 M) : AtX X g layM A 3 0 0 Z 15 [] [.int s0] M := by
  exact hR _ _ _ _ (tk T_cX12_in 9 rfl) h
def P_M_in_14 (post : Int32 → Mem → Prop) (M : Mem) : Prop :=
  P_M_in_15 post (0 : Int32) M
theorem k_M_in_14 {X : FX} {g : GT} {A : Nat → Prop} {Z : State → Prop} {post : Int32 → Mem → Prop} (C : Cx X g layM A cX12_in 3 RX12 0) (hr : 0 ≤ X.2.2.2.1.cells ∧ 0 ≤ X.2.2.2.1.slots) (hR : RetZ X g layM A cX12_in 3 0 0 Z post)  (M : Mem) (h : P_M_in_14 post M) : AtX X g layM A 3 0 0 Z 14 [] [] M := by
  refine a_iconst C (0 : Int32) (tk T_cX12_in 8 rfl) kI_0 ?_
  exact a_to (k_M_in_15 C hr hR (0 : Int32) M h) rfl
def P_M_in (post : Int32 → Mem → Prop) (x0 x1 x2 : Int32) (M : Mem) : Prop :=
  (x0 < x1 → (P_M_in_14 post M)) ∧
  (¬ x0 < x1 → ((x2 < x0 → (P_M_in_14 post M)) ∧
  (¬ x2 < x0 → (P_M_in_15 post (1 : Int32) M))))
theorem k_M_in {X : FX} {g : GT} {A : Nat → Prop} {Z : State → Prop} {post : Int32 → Mem → Prop} (C : Cx X g layM A cX12_in 3 RX12 0) (hr : 0 ≤ X.2.2.2.1.cells ∧ 0 ≤ X.2.2.2.1.slots) (hR : RetZ X g layM A cX12_in 3 0 0 Z post) (x0 x1 x2 : Int32) (M : Mem) (h : P_M_in post x0 x1 x2 M) : AtX X g layM A 3 0 0 Z 0 [(0, .int x0), (1, .int x1), (2, .int x2)] [] M := by
  refine a_iload_n C (tk T_cX12_in 0 rfl) rfl ?_
  refine a_iload_n C (tk T_cX12_in 1 rfl) rfl ?_
  refine a_icmp_lt C 14 (tk T_cX12_in 2 rfl) rfl (fun c => ?_) (fun c => ?_)
  · have h := h.1 c
    exact a_to (k_M_in_14 C hr hR M h) rfl
  · have h := h.2 c
    refine a_iload_n C (tk T_cX12_in 3 rfl) rfl ?_
    refine a_iload_n C (tk T_cX12_in 4 rfl) rfl ?_
    refine a_icmp_gt C 14 (tk T_cX12_in 5 rfl) rfl (fun c => ?_) (fun c => ?_)
    · have h := h.1 c
      exact a_to (k_M_in_14 C hr hR M h) rfl
    · have h := h.2 c
      refine a_iconst C (1 : Int32) (tk T_cX12_in 6 rfl) kI_1 ?_
      refine a_goto C 15 (tk T_cX12_in 7 rfl) rfl ?_
      exact a_to (k_M_in_15 C hr hR (1 : Int32) M h) rfl
theorem ct_M_in {l : Launch} {g : GT} {post : Int32 → Mem → Prop} {x0 x1 x2 : Int32} {M : Mem} (h : P_M_in post x0 x1 x2 M) : CI l g layM yX12_in cX12_in 3 (some .boolean) 0 [.int x0, .int x1, .int x2] M post :=
  cz_of (plainFor_of_name (by decide +kernel)) (Nat.le_of_ble_eq_true rfl) (fun X A Z hl C hr hR => by subst hl; exact k_M_in C hr hR x0 x1 x2 M h)
def T_cX12_imageL : List (Nat × Instr × Nat) := [(0, .aload_n 0, 1), (1, .iconst 0, 1), (2, .putfield 3, 3), (5, .iconst 0, 1), (6, .istore_n 1, 1), (7, .iload_n 1, 1), (8, .sipush 5165, 3), (11, .if_icmp .ge 21, 3), (14, .aload_n 0, 1), (15, .getfield 17, 3), (18, .iload_n 1, 1), (19, .aload_n 0, 1), (20, .getfield 13, 3), (23, .iload_n 1, 1), (24, .iaload, 1), (25, .iastore, 1), (26, .iinc 1 1, 3), (29, .goto (-22), 3), (32, .aload_n 0, 1), (33, .iconst 1, 1), (34, .putfield 54, 3), (37, .return_, 1)]
theorem T_cX12_image : tabOK cX12_image T_cX12_imageL = true := by decide +kernel
def P_M_image_7 (post : Mem → Prop) : Nat → Int32 → Mem → Prop
  | 0, _, _ => False
  | n + 1, x1, M =>
    ((5165 : Int32) ≤ x1 → (∀ M1, M1 = ms M 0 3 (1 : Int32) → post M1)) ∧
  (¬ (5165 : Int32) ≤ x1 → (vp_in x1 5966 ∧ vp_in x1 5165 ∧ ∀ M2, M2 = ms M 2 x1.toNatClampNeg (M 1 x1.toNatClampNeg) → P_M_image_7 post n (x1 + (1 : Int32)) M2))
theorem k_M_image_7 {X : FX} {g : GT} {A : Nat → Prop} {Z : State → Prop} {post : Mem → Prop} (C : Cx X g layM A cX12_image 2 RX12 0) (hr : 0 ≤ X.2.2.2.1.cells ∧ 0 ≤ X.2.2.2.1.slots) (hR : RetV X g layM A cX12_image 2 0 0 Z post) : ∀ (n : Nat) (x1 : Int32) (M : Mem), P_M_image_7 post n x1 M → AtX X g layM A 2 0 0 Z 7 [(0, .ref (ad g 0)), (1, .int x1)] [] M := by
  intro n
  induction n with
  | zero =>
    intro x1 M h
    exact h.elim
  | succ n ih =>
    intro x1 M h
    refine a_iload_n C (tk T_cX12_image 5 rfl) rfl ?_
    refine a_sipush C (5165 : Int32) (tk T_cX12_image 6 rfl) kS_5165 ?_
    refine a_icmp_ge C 32 (tk T_cX12_image 7 rfl) rfl (fun c => ?_) (fun c => ?_)
    · have h := h.1 c
      refine a_aload_n C (tk T_cX12_image 18 rfl) rfl ?_
      refine a_iconst C (1 : Int32) (tk T_cX12_image 19 rfl) kI_1 ?_
      refine a_put C f_RX12_54 f_RX12_54p (nar_z (Or.inr rfl)) (fit_z (Or.inr rfl)) (tk T_cX12_image 20 rfl) lm0 rfl ?_
      refine a_mem (fun M1 e_M1 => ?_)
      have h := h M1 e_M1
      exact hR _ _ _ (tk T_cX12_image 21 rfl) h
    · have h := h.2 c
      refine a_aload_n C (tk T_cX12_image 8 rfl) rfl ?_
      refine a_getR C f_RX12_17 (tk T_cX12_image 9 rfl) lm0 rfl ?_
      refine a_iload_n C (tk T_cX12_image 10 rfl) rfl ?_
      refine a_aload_n C (tk T_cX12_image 11 rfl) rfl ?_
      refine a_getR C f_RX12_13 (tk T_cX12_image 12 rfl) lm0 rfl ?_
      refine a_iload_n C (tk T_cX12_image 13 rfl) rfl ?_
      obtain ⟨hb, h⟩ := h
      refine a_iald C (tk T_cX12_image 14 rfl) lm1 hb ?_
      obtain ⟨hb, h⟩ := h
      refine a_iast C (tk T_cX12_image 15 rfl) lm2 hb ?_
      refine a_mem (fun M2 e_M2 => ?_)
      have h := h M2 e_M2
      refine a_iinc C (1 : Int32) (tk T_cX12_image 16 rfl) rfl kI_1 (by decide) rfl ?_
      refine a_goto C 7 (tk T_cX12_image 17 rfl) rfl ?_
      exact a_to (ih (x1 + (1 : Int32)) M2 h) rfl
def P_M_image (post : Mem → Prop) (M : Mem) : Prop :=
  ∀ M1, M1 = ms M 0 0 (0 : Int32) → ∃ j7, P_M_image_7 post j7 (0 : Int32) M1
theorem k_M_image {X : FX} {g : GT} {A : Nat → Prop} {Z : State → Prop} {post : Mem → Prop} (C : Cx X g layM A cX12_image 2 RX12 0) (hr : 0 ≤ X.2.2.2.1.cells ∧ 0 ≤ X.2.2.2.1.slots) (hR : RetV X g layM A cX12_image 2 0 0 Z post) (M : Mem) (h : P_M_image post M) : AtX X g layM A 2 0 0 Z 0 [(0, .ref (ad g 0))] [] M := by
  refine a_aload_n C (tk T_cX12_image 0 rfl) rfl ?_
  refine a_iconst C (0 : Int32) (tk T_cX12_image 1 rfl) kI_0 ?_
  refine a_put C f_RX12_3 f_RX12_3p rfl rfl (tk T_cX12_image 2 rfl) lm0 rfl ?_
  refine a_mem (fun M1 e_M1 => ?_)
  have h := h M1 e_M1
  refine a_iconst C (0 : Int32) (tk T_cX12_image 3 rfl) kI_0 ?_
  refine a_istore_n C (tk T_cX12_image 4 rfl) (by decide) rfl ?_
  obtain ⟨n1, h⟩ := h
  exact a_to (k_M_image_7 C hr hR n1 (0 : Int32) M1 h) rfl
theorem ct_M_image {l : Launch} {g : GT} {post : Mem → Prop} {M : Mem} (h : P_M_image post M) : CV l g layM yX12_image cX12_image 2 none 0 [.ref (ad g 0)] M post :=
  cv_of (plainFor_of_name (by decide +kernel)) (Nat.le_of_ble_eq_true rfl) (fun X A Z hl C hr hR => by subst hl; exact k_M_image C hr hR  M h)
def T_cX12_backL : List (Nat × Instr × Nat) := [(0, .aload_n 0, 1), (1, .iconst 0, 1), (2, .putfield 3, 3), (5, .aload_n 0, 1), (6, .getfield 54, 3), (9, .ifCond .ne 5, 3), (12, .iconst 0, 1), (13, .ireturn, 1), (14, .iconst 0, 1), (15, .istore_n 1, 1), (16, .iload_n 1, 1), (17, .sipush 5165, 3), (20, .if_icmp .ge 21, 3), (23, .aload_n 0, 1), (24, .getfield 13, 3), (27, .iload_n 1, 1), (28, .aload_n 0, 1), (29, .getfield 17, 3), (32, .iload_n 1, 1), (33, .iaload, 1), (34, .iastore, 1), (35, .iinc 1 1, 3), (38, .goto (-22), 3), (41, .iconst 1, 1), (42, .ireturn, 1)]
theorem T_cX12_back : tabOK cX12_back T_cX12_backL = true := by decide +kernel
def P_M_back_16 (post : Int32 → Mem → Prop) : Nat → Int32 → Mem → Prop
  | 0, _, _ => False
  | n + 1, x1, M =>
    ((5165 : Int32) ≤ x1 → (post (1 : Int32) M)) ∧
  (¬ (5165 : Int32) ≤ x1 → (vp_in x1 5165 ∧ vp_in x1 5966 ∧ ∀ M1, M1 = ms M 1 x1.toNatClampNeg (M 2 x1.toNatClampNeg) → P_M_back_16 post n (x1 + (1 : Int32)) M1))
theorem k_M_back_16 {X : FX} {g : GT} {A : Nat → Prop} {Z : State → Prop} {post : Int32 → Mem → Prop} (C : Cx X g layM A cX12_back 2 RX12 0) (hr : 0 ≤ X.2.2.2.1.cells ∧ 0 ≤ X.2.2.2.1.slots) (hR : RetZ X g layM A cX12_back 2 0 0 Z post) : ∀ (n : Nat) (x1 : Int32) (M : Mem), P_M_back_16 post n x1 M → AtX X g layM A 2 0 0 Z 16 [(0, .ref (ad g 0)), (1, .int x1)] [] M := by
  intro n
  induction n with
  | zero =>
    intro x1 M h
    exact h.elim
  | succ n ih =>
    intro x1 M h
    refine a_iload_n C (tk T_cX12_back 10 rfl) rfl ?_
    refine a_sipush C (5165 : Int32) (tk T_cX12_back 11 rfl) kS_5165 ?_
    refine a_icmp_ge C 41 (tk T_cX12_back 12 rfl) rfl (fun c => ?_) (fun c => ?_)
    · have h := h.1 c
      refine a_iconst C (1 : Int32) (tk T_cX12_back 23 rfl) kI_1 ?_
      exact hR _ _ _ _ (tk T_cX12_back 24 rfl) ⟨Or.inr rfl, h⟩
    · have h := h.2 c
      refine a_aload_n C (tk T_cX12_back 13 rfl) rfl ?_
      refine a_getR C f_RX12_13 (tk T_cX12_back 14 rfl) lm0 rfl ?_
      refine a_iload_n C (tk T_cX12_back 15 rfl) rfl ?_
      refine a_aload_n C (tk T_cX12_back 16 rfl) rfl ?_
      refine a_getR C f_RX12_17 (tk T_cX12_back 17 rfl) lm0 rfl ?_
      refine a_iload_n C (tk T_cX12_back 18 rfl) rfl ?_
      obtain ⟨hb, h⟩ := h
      refine a_iald C (tk T_cX12_back 19 rfl) lm2 hb ?_
      obtain ⟨hb, h⟩ := h
      refine a_iast C (tk T_cX12_back 20 rfl) lm1 hb ?_
      refine a_mem (fun M1 e_M1 => ?_)
      have h := h M1 e_M1
      refine a_iinc C (1 : Int32) (tk T_cX12_back 21 rfl) rfl kI_1 (by decide) rfl ?_
      refine a_goto C 16 (tk T_cX12_back 22 rfl) rfl ?_
      exact a_to (ih (x1 + (1 : Int32)) M1 h) rfl
def P_M_back (post : Int32 → Mem → Prop) (M : Mem) : Prop :=
  ∀ M1, M1 = ms M 0 0 (0 : Int32) → (¬ (M1 0 3) = 0 → (∃ j16, P_M_back_16 post j16 (0 : Int32) M1)) ∧
  ((M1 0 3) = 0 → (post (0 : Int32) M1))
theorem k_M_back {X : FX} {g : GT} {A : Nat → Prop} {Z : State → Prop} {post : Int32 → Mem → Prop} (C : Cx X g layM A cX12_back 2 RX12 0) (hr : 0 ≤ X.2.2.2.1.cells ∧ 0 ≤ X.2.2.2.1.slots) (hR : RetZ X g layM A cX12_back 2 0 0 Z post) (M : Mem) (h : P_M_back post M) : AtX X g layM A 2 0 0 Z 0 [(0, .ref (ad g 0))] [] M := by
  refine a_aload_n C (tk T_cX12_back 0 rfl) rfl ?_
  refine a_iconst C (0 : Int32) (tk T_cX12_back 1 rfl) kI_0 ?_
  refine a_put C f_RX12_3 f_RX12_3p rfl rfl (tk T_cX12_back 2 rfl) lm0 rfl ?_
  refine a_mem (fun M1 e_M1 => ?_)
  have h := h M1 e_M1
  refine a_aload_n C (tk T_cX12_back 3 rfl) rfl ?_
  refine a_getI C f_RX12_54 (tk T_cX12_back 4 rfl) lm0 rfl ?_
  refine a_if_ne C 14 (tk T_cX12_back 5 rfl) rfl (fun c => ?_) (fun c => ?_)
  · have h := h.1 c
    refine a_iconst C (0 : Int32) (tk T_cX12_back 8 rfl) kI_0 ?_
    refine a_istore_n C (tk T_cX12_back 9 rfl) (by decide) rfl ?_
    obtain ⟨n1, h⟩ := h
    exact a_to (k_M_back_16 C hr hR n1 (0 : Int32) M1 h) rfl
  · have h := h.2 c
    refine a_iconst C (0 : Int32) (tk T_cX12_back 6 rfl) kI_0 ?_
    exact hR _ _ _ _ (tk T_cX12_back 7 rfl) ⟨Or.inl rfl, h⟩
theorem ct_M_back {l : Launch} {g : GT} {post : Int32 → Mem → Prop} {M : Mem} (h : P_M_back post M) : CI l g layM yX12_back cX12_back 2 (some .boolean) 0 [.ref (ad g 0)] M post :=
  cz_of (plainFor_of_name (by decide +kernel)) (Nat.le_of_ble_eq_true rfl) (fun X A Z hl C hr hR => by subst hl; exact k_M_back C hr hR  M h)
def T_cX12_noneL : List (Nat × Instr × Nat) := [(0, .iload_n 1, 1), (1, .iconst 0, 1), (2, .aload_n 0, 1), (3, .getfield 13, 3), (6, .iload_n 2, 1), (7, .iaload, 1), (8, .iconst 1, 1), (9, .isub, 1), (10, .invokestatic 58, 3), (13, .ifCond .ne 7, 3), (16, .iconst 1, 1), (17, .goto 4, 3), (20, .iconst 0, 1), (21, .ireturn, 1)]
theorem T_cX12_none : tabOK cX12_none T_cX12_noneL = true := by decide +kernel
def P_M_none_21 (post : Int32 → Mem → Prop) (s0 : Int32) (M : Mem) : Prop :=
  (s0 = 0 ∨ s0 = 1) ∧ post s0 M
theorem k_M_none_21 {X : FX} {g : GT} {A : Nat → Prop} {Z : State → Prop} {post : Int32 → Mem → Prop} (C : Cx X g layM A cX12_none 3 RX12 1) (hr : 0 ≤ X.2.2.2.1.cells ∧ 0 ≤ X.2.2.2.1.slots) (hR : RetZ X g layM A cX12_none 3 0 0 Z post) (s0 : Int32) (M : Mem) (h : P_M_none_21 post s0 M) : AtX X g layM A 3 0 0 Z 21 [] [.int s0] M := by
  exact hR _ _ _ _ (tk T_cX12_none 13 rfl) h
def P_M_none (post : Int32 → Mem → Prop) (x1 x2 : Int32) (M : Mem) : Prop :=
  vp_in x2 5966 ∧ P_M_in (fun r1 M1 =>
  (¬ r1 = 0 → (P_M_none_21 post (0 : Int32) M1)) ∧
  (r1 = 0 → (P_M_none_21 post (1 : Int32) M1))) x1 (0 : Int32) ((M 1 x2.toNatClampNeg) - (1 : Int32)) M
theorem k_M_none {X : FX} {g : GT} {A : Nat → Prop} {Z : State → Prop} {post : Int32 → Mem → Prop} (C : Cx X g layM A cX12_none 3 RX12 1) (hr : 0 ≤ X.2.2.2.1.cells ∧ 0 ≤ X.2.2.2.1.slots) (hR : RetZ X g layM A cX12_none 3 0 0 Z post) (x1 x2 : Int32) (M : Mem) (h : P_M_none post x1 x2 M) : AtX X g layM A 3 0 0 Z 0 [(0, .ref (ad g 0)), (1, .int x1), (2, .int x2)] [] M := by
  refine a_iload_n C (tk T_cX12_none 0 rfl) rfl ?_
  refine a_iconst C (0 : Int32) (tk T_cX12_none 1 rfl) kI_0 ?_
  refine a_aload_n C (tk T_cX12_none 2 rfl) rfl ?_
  refine a_getR C f_RX12_13 (tk T_cX12_none 3 rfl) lm0 rfl ?_
  refine a_iload_n C (tk T_cX12_none 4 rfl) rfl ?_
  obtain ⟨hb, h⟩ := h
  refine a_iald C (tk T_cX12_none 5 rfl) lm1 hb ?_
  refine a_iconst C (1 : Int32) (tk T_cX12_none 6 rfl) kI_1 ?_
  refine a_isub C (tk T_cX12_none 7 rfl) ?_
  refine a_statI C [.int x1, .int (0 : Int32), .int ((M 1 x2.toNatClampNeg) - (1 : Int32))] me_yX12_in lk_RX12_58 (ct_M_in h) (by decide) rfl rfl (Nat.le_of_ble_eq_true rfl) (tk T_cX12_none 8 rfl) hr (fun r1 M1 h => ?_)
  refine a_if_ne C 20 (tk T_cX12_none 9 rfl) rfl (fun c => ?_) (fun c => ?_)
  · have h := h.1 c
    refine a_iconst C (0 : Int32) (tk T_cX12_none 12 rfl) kI_0 ?_
    exact a_to (k_M_none_21 C hr hR (0 : Int32) M1 h) rfl
  · have h := h.2 c
    refine a_iconst C (1 : Int32) (tk T_cX12_none 10 rfl) kI_1 ?_
    refine a_goto C 21 (tk T_cX12_none 11 rfl) rfl ?_
    exact a_to (k_M_none_21 C hr hR (1 : Int32) M1 h) rfl
theorem ct_M_none {l : Launch} {g : GT} {post : Int32 → Mem → Prop} {x1 x2 : Int32} {M : Mem} (h : P_M_none post x1 x2 M) : CI l g layM yX12_none cX12_none 3 (some .boolean) 1 [.ref (ad g 0), .int x1, .int x2] M post :=
  cz_of (plainFor_of_name (by decide +kernel)) (Nat.le_of_ble_eq_true rfl) (fun X A Z hl C hr hR => by subst hl; exact k_M_none C hr hR x1 x2 M h)
def T_cX12_putsL : List (Nat × Instr × Nat) := [(0, .iload_n 2, 1), (1, .iload_n 3, 1), (2, .aload_n 0, 1), (3, .getfield 13, 3), (6, .iload_n 1, 1), (7, .iaload, 1), (8, .imul, 1), (9, .iadd, 1), (10, .istore 9, 2), (12, .aload_n 0, 1), (13, .getfield 13, 3), (16, .iload 9, 2), (18, .iload 4, 2), (20, .iastore, 1), (21, .aload_n 0, 1), (22, .getfield 13, 3), (25, .iload 9, 2), (27, .iconst 1, 1), (28, .iadd, 1), (29, .iload 5, 2), (31, .iastore, 1), (32, .aload_n 0, 1), (33, .getfield 13, 3), (36, .iload 9, 2), (38, .iconst 2, 1), (39, .iadd, 1), (40, .iload 6, 2), (42, .iastore, 1), (43, .aload_n 0, 1), (44, .getfield 13, 3), (47, .iload 9, 2), (49, .iconst 3, 1), (50, .iadd, 1), (51, .iload 7, 2), (53, .iastore, 1), (54, .iload_n 3, 1), (55, .iconst 4, 1), (56, .if_icmp .le 14, 3), (59, .aload_n 0, 1), (60, .getfield 13, 3), (63, .iload 9, 2), (65, .iconst 4, 1), (66, .iadd, 1), (67, .iload 8, 2), (69, .iastore, 1), (70, .aload_n 0, 1), (71, .getfield 13, 3), (74, .iload_n 1, 1), (75, .dup2, 1), (76, .iaload, 1), (77, .iconst 1, 1), (78, .iadd, 1), (79, .iastore, 1), (80, .aload_n 0, 1), (81, .getfield 13, 3), (84, .iload_n 1, 1), (85, .iaload, 1), (86, .iconst 1, 1), (87, .isub, 1), (88, .ireturn, 1)]
theorem T_cX12_puts : tabOK cX12_puts T_cX12_putsL = true := by decide +kernel
def P_M_puts_70 (post : Int32 → Mem → Prop) (x1 : Int32) (M : Mem) : Prop :=
  vp_in x1 5966 ∧ vp_in x1 5966 ∧ ∀ M1, M1 = ms M 1 x1.toNatClampNeg ((M 1 x1.toNatClampNeg) + (1 : Int32)) → vp_in x1 5966 ∧ post ((M1 1 x1.toNatClampNeg) - (1 : Int32)) M1
theorem k_M_puts_70 {X : FX} {g : GT} {A : Nat → Prop} {Z : State → Prop} {post : Int32 → Mem → Prop} (C : Cx X g layM A cX12_puts 10 RX12 0) (hr : 0 ≤ X.2.2.2.1.cells ∧ 0 ≤ X.2.2.2.1.slots) (hR : RetI X g layM A cX12_puts 10 0 0 Z post) (x1 : Int32) (M : Mem) (h : P_M_puts_70 post x1 M) : AtX X g layM A 10 0 0 Z 70 [(0, .ref (ad g 0)), (1, .int x1)] [] M := by
  refine a_aload_n C (tk T_cX12_puts 45 rfl) rfl ?_
  refine a_getR C f_RX12_13 (tk T_cX12_puts 46 rfl) lm0 rfl ?_
  refine a_iload_n C (tk T_cX12_puts 47 rfl) rfl ?_
  refine a_dup2ir C (tk T_cX12_puts 48 rfl) ?_
  obtain ⟨hb, h⟩ := h
  refine a_iald C (tk T_cX12_puts 49 rfl) lm1 hb ?_
  refine a_iconst C (1 : Int32) (tk T_cX12_puts 50 rfl) kI_1 ?_
  refine a_iadd C (tk T_cX12_puts 51 rfl) ?_
  obtain ⟨hb, h⟩ := h
  refine a_iast C (tk T_cX12_puts 52 rfl) lm1 hb ?_
  refine a_mem (fun M1 e_M1 => ?_)
  have h := h M1 e_M1
  refine a_aload_n C (tk T_cX12_puts 53 rfl) rfl ?_
  refine a_getR C f_RX12_13 (tk T_cX12_puts 54 rfl) lm0 rfl ?_
  refine a_iload_n C (tk T_cX12_puts 55 rfl) rfl ?_
  obtain ⟨hb, h⟩ := h
  refine a_iald C (tk T_cX12_puts 56 rfl) lm1 hb ?_
  refine a_iconst C (1 : Int32) (tk T_cX12_puts 57 rfl) kI_1 ?_
  refine a_isub C (tk T_cX12_puts 58 rfl) ?_
  exact hR _ _ _ _ (tk T_cX12_puts 59 rfl) h
def P_M_puts (post : Int32 → Mem → Prop) (x1 x2 x3 x4 x5 x6 x7 x8 : Int32) (M : Mem) : Prop :=
  vp_in x1 5966 ∧ ∀ x9_1, x9_1 = (x2 + (x3 * (M 1 x1.toNatClampNeg))) → vp_in x9_1 5966 ∧ ∀ M2, M2 = ms M 1 x9_1.toNatClampNeg x4 → vp_in (x9_1 + (1 : Int32)) 5966 ∧ ∀ M3, M3 = ms M2 1 (x9_1 + (1 : Int32)).toNatClampNeg x5 → vp_in (x9_1 + (2 : Int32)) 5966 ∧ ∀ M4, M4 = ms M3 1 (x9_1 + (2 : Int32)).toNatClampNeg x6 → vp_in (x9_1 + (3 : Int32)) 5966 ∧ ∀ M5, M5 = ms M4 1 (x9_1 + (3 : Int32)).toNatClampNeg x7 → (x3 ≤ (4 : Int32) → (P_M_puts_70 post x1 M5)) ∧
  (¬ x3 ≤ (4 : Int32) → (vp_in (x9_1 + (4 : Int32)) 5966 ∧ ∀ M6, M6 = ms M5 1 (x9_1 + (4 : Int32)).toNatClampNeg x8 → P_M_puts_70 post x1 M6))
theorem k_M_puts {X : FX} {g : GT} {A : Nat → Prop} {Z : State → Prop} {post : Int32 → Mem → Prop} (C : Cx X g layM A cX12_puts 10 RX12 0) (hr : 0 ≤ X.2.2.2.1.cells ∧ 0 ≤ X.2.2.2.1.slots) (hR : RetI X g layM A cX12_puts 10 0 0 Z post) (x1 x2 x3 x4 x5 x6 x7 x8 : Int32) (M : Mem) (h : P_M_puts post x1 x2 x3 x4 x5 x6 x7 x8 M) : AtX X g layM A 10 0 0 Z 0 [(0, .ref (ad g 0)), (1, .int x1), (2, .int x2), (3, .int x3), (4, .int x4), (5, .int x5), (6, .int x6), (7, .int x7), (8, .int x8)] [] M := by
  refine a_iload_n C (tk T_cX12_puts 0 rfl) rfl ?_
  refine a_iload_n C (tk T_cX12_puts 1 rfl) rfl ?_
  refine a_aload_n C (tk T_cX12_puts 2 rfl) rfl ?_
  refine a_getR C f_RX12_13 (tk T_cX12_puts 3 rfl) lm0 rfl ?_
  refine a_iload_n C (tk T_cX12_puts 4 rfl) rfl ?_
  obtain ⟨hb, h⟩ := h
  refine a_iald C (tk T_cX12_puts 5 rfl) lm1 hb ?_
  refine a_imul C (tk T_cX12_puts 6 rfl) ?_
  refine a_iadd C (tk T_cX12_puts 7 rfl) ?_
  refine a_top (fun x9_1 e_x9_1 => ?_)
  have h := h x9_1 e_x9_1
  refine a_istore C (tk T_cX12_puts 8 rfl) (by decide) rfl ?_
  refine a_aload_n C (tk T_cX12_puts 9 rfl) rfl ?_
  refine a_getR C f_RX12_13 (tk T_cX12_puts 10 rfl) lm0 rfl ?_
  refine a_iload C (tk T_cX12_puts 11 rfl) rfl ?_
  refine a_iload C (tk T_cX12_puts 12 rfl) rfl ?_
  obtain ⟨hb, h⟩ := h
  refine a_iast C (tk T_cX12_puts 13 rfl) lm1 hb ?_
  refine a_mem (fun M2 e_M2 => ?_)
  have h := h M2 e_M2
  refine a_aload_n C (tk T_cX12_puts 14 rfl) rfl ?_
  refine a_getR C f_RX12_13 (tk T_cX12_puts 15 rfl) lm0 rfl ?_
  refine a_iload C (tk T_cX12_puts 16 rfl) rfl ?_
  refine a_iconst C (1 : Int32) (tk T_cX12_puts 17 rfl) kI_1 ?_
  refine a_iadd C (tk T_cX12_puts 18 rfl) ?_
  refine a_iload C (tk T_cX12_puts 19 rfl) rfl ?_
  obtain ⟨hb, h⟩ := h
  refine a_iast C (tk T_cX12_puts 20 rfl) lm1 hb ?_
  refine a_mem (fun M3 e_M3 => ?_)
  have h := h M3 e_M3
  refine a_aload_n C (tk T_cX12_puts 21 rfl) rfl ?_
  refine a_getR C f_RX12_13 (tk T_cX12_puts 22 rfl) lm0 rfl ?_
  refine a_iload C (tk T_cX12_puts 23 rfl) rfl ?_
  refine a_iconst C (2 : Int32) (tk T_cX12_puts 24 rfl) kI_2 ?_
  refine a_iadd C (tk T_cX12_puts 25 rfl) ?_
  refine a_iload C (tk T_cX12_puts 26 rfl) rfl ?_
  obtain ⟨hb, h⟩ := h
  refine a_iast C (tk T_cX12_puts 27 rfl) lm1 hb ?_
  refine a_mem (fun M4 e_M4 => ?_)
  have h := h M4 e_M4
  refine a_aload_n C (tk T_cX12_puts 28 rfl) rfl ?_
  refine a_getR C f_RX12_13 (tk T_cX12_puts 29 rfl) lm0 rfl ?_
  refine a_iload C (tk T_cX12_puts 30 rfl) rfl ?_
  refine a_iconst C (3 : Int32) (tk T_cX12_puts 31 rfl) kI_3 ?_
  refine a_iadd C (tk T_cX12_puts 32 rfl) ?_
  refine a_iload C (tk T_cX12_puts 33 rfl) rfl ?_
  obtain ⟨hb, h⟩ := h
  refine a_iast C (tk T_cX12_puts 34 rfl) lm1 hb ?_
  refine a_mem (fun M5 e_M5 => ?_)
  have h := h M5 e_M5
  refine a_iload_n C (tk T_cX12_puts 35 rfl) rfl ?_
  refine a_iconst C (4 : Int32) (tk T_cX12_puts 36 rfl) kI_4 ?_
  refine a_icmp_le C 70 (tk T_cX12_puts 37 rfl) rfl (fun c => ?_) (fun c => ?_)
  · have h := h.1 c
    exact a_to (k_M_puts_70 C hr hR x1 M5 h) rfl
  · have h := h.2 c
    refine a_aload_n C (tk T_cX12_puts 38 rfl) rfl ?_
    refine a_getR C f_RX12_13 (tk T_cX12_puts 39 rfl) lm0 rfl ?_
    refine a_iload C (tk T_cX12_puts 40 rfl) rfl ?_
    refine a_iconst C (4 : Int32) (tk T_cX12_puts 41 rfl) kI_4 ?_
    refine a_iadd C (tk T_cX12_puts 42 rfl) ?_
    refine a_iload C (tk T_cX12_puts 43 rfl) rfl ?_
    obtain ⟨hb, h⟩ := h
    refine a_iast C (tk T_cX12_puts 44 rfl) lm1 hb ?_
    refine a_mem (fun M6 e_M6 => ?_)
    have h := h M6 e_M6
    exact a_to (k_M_puts_70 C hr hR x1 M6 h) rfl
theorem ct_M_puts {l : Launch} {g : GT} {post : Int32 → Mem → Prop} {x1 x2 x3 x4 x5 x6 x7 x8 : Int32} {M : Mem} (h : P_M_puts post x1 x2 x3 x4 x5 x6 x7 x8 M) : CI l g layM yX12_puts cX12_puts 10 (some .int) 0 [.ref (ad g 0), .int x1, .int x2, .int x3, .int x4, .int x5, .int x6, .int x7, .int x8] M post :=
  ci_of (plainFor_of_name (by decide +kernel)) (Nat.le_of_ble_eq_true rfl) (fun X A Z hl C hr hR => by subst hl; exact k_M_puts C hr hR x1 x2 x3 x4 x5 x6 x7 x8 M h)
def T_cX12_noPlaceL : List (Nat × Instr × Nat) := [(0, .iload_n 0, 1), (1, .iconst 0, 1), (2, .sipush 999, 3), (5, .invokestatic 58, 3), (8, .ifCond .ne 7, 3), (11, .iconst 1, 1), (12, .goto 4, 3), (15, .iconst 0, 1), (16, .ireturn, 1)]
theorem T_cX12_noPlace : tabOK cX12_noPlace T_cX12_noPlaceL = true := by decide +kernel
def P_M_noPlace_16 (post : Int32 → Mem → Prop) (s0 : Int32) (M : Mem) : Prop :=
  (s0 = 0 ∨ s0 = 1) ∧ post s0 M
theorem k_M_noPlace_16 {X : FX} {g : GT} {A : Nat → Prop} {Z : State → Prop} {post : Int32 → Mem → Prop} (C : Cx X g layM A cX12_noPlace 1 RX12 1) (hr : 0 ≤ X.2.2.2.1.cells ∧ 0 ≤ X.2.2.2.1.slots) (hR : RetZ X g layM A cX12_noPlace 1 0 0 Z post) (s0 : Int32) (M : Mem) (h : P_M_noPlace_16 post s0 M) : AtX X g layM A 1 0 0 Z 16 [] [.int s0] M := by
  exact hR _ _ _ _ (tk T_cX12_noPlace 8 rfl) h
def P_M_noPlace (post : Int32 → Mem → Prop) (x0 : Int32) (M : Mem) : Prop :=
  P_M_in (fun r1 M1 =>
  (¬ r1 = 0 → (P_M_noPlace_16 post (0 : Int32) M1)) ∧
  (r1 = 0 → (P_M_noPlace_16 post (1 : Int32) M1))) x0 (0 : Int32) (999 : Int32) M
theorem k_M_noPlace {X : FX} {g : GT} {A : Nat → Prop} {Z : State → Prop} {post : Int32 → Mem → Prop} (C : Cx X g layM A cX12_noPlace 1 RX12 1) (hr : 0 ≤ X.2.2.2.1.cells ∧ 0 ≤ X.2.2.2.1.slots) (hR : RetZ X g layM A cX12_noPlace 1 0 0 Z post) (x0 : Int32) (M : Mem) (h : P_M_noPlace post x0 M) : AtX X g layM A 1 0 0 Z 0 [(0, .int x0)] [] M := by
  refine a_iload_n C (tk T_cX12_noPlace 0 rfl) rfl ?_
  refine a_iconst C (0 : Int32) (tk T_cX12_noPlace 1 rfl) kI_0 ?_
  refine a_sipush C (999 : Int32) (tk T_cX12_noPlace 2 rfl) kS_999 ?_
  refine a_statI C [.int x0, .int (0 : Int32), .int (999 : Int32)] me_yX12_in lk_RX12_58 (ct_M_in h) (by decide) rfl rfl (Nat.le_of_ble_eq_true rfl) (tk T_cX12_noPlace 3 rfl) hr (fun r1 M1 h => ?_)
  refine a_if_ne C 15 (tk T_cX12_noPlace 4 rfl) rfl (fun c => ?_) (fun c => ?_)
  · have h := h.1 c
    refine a_iconst C (0 : Int32) (tk T_cX12_noPlace 7 rfl) kI_0 ?_
    exact a_to (k_M_noPlace_16 C hr hR (0 : Int32) M1 h) rfl
  · have h := h.2 c
    refine a_iconst C (1 : Int32) (tk T_cX12_noPlace 5 rfl) kI_1 ?_
    refine a_goto C 16 (tk T_cX12_noPlace 6 rfl) rfl ?_
    exact a_to (k_M_noPlace_16 C hr hR (1 : Int32) M1 h) rfl
theorem ct_M_noPlace {l : Launch} {g : GT} {post : Int32 → Mem → Prop} {x0 : Int32} {M : Mem} (h : P_M_noPlace post x0 M) : CI l g layM yX12_noPlace cX12_noPlace 1 (some .boolean) 1 [.int x0] M post :=
  cz_of (plainFor_of_name (by decide +kernel)) (Nat.le_of_ble_eq_true rfl) (fun X A Z hl C hr hR => by subst hl; exact k_M_noPlace C hr hR x0 M h)
def T_cX12_turnedL : List (Nat × Instr × Nat) := [(0, .iload_n 0, 1), (1, .iload 4, 2), (3, .isub, 1), (4, .iload_n 2, 1), (5, .invokestatic 62, 3), (8, .iload_n 2, 1), (9, .iconst 2, 1), (10, .idiv, 1), (11, .if_icmp .ge 7, 3), (14, .iconst 1, 1), (15, .goto 4, 3), (18, .iconst 0, 1), (19, .istore 6, 2), (21, .iload_n 0, 1), (22, .iload 6, 2), (24, .ifCond .eq 7, 3), (27, .iload_n 3, 1), (28, .goto 5, 3), (31, .iload_n 3, 1), (32, .ineg, 1), (33, .iadd, 1), (34, .iload_n 1, 1), (35, .iconst 1, 1), (36, .if_icmp .ne 8, 3), (39, .iload 5, 2), (41, .goto 4, 3), (44, .iconst 0, 1), (45, .iadd, 1), (46, .ireturn, 1)]
theorem T_cX12_turned : tabOK cX12_turned T_cX12_turnedL = true := by decide +kernel
def P_M_turned_45 (post : Int32 → Mem → Prop) (s0 s1 : Int32) (M : Mem) : Prop :=
  post (s0 + s1) M
theorem k_M_turned_45 {X : FX} {g : GT} {A : Nat → Prop} {Z : State → Prop} {post : Int32 → Mem → Prop} (C : Cx X g layM A cX12_turned 7 RX12 1) (hr : 0 ≤ X.2.2.2.1.cells ∧ 0 ≤ X.2.2.2.1.slots) (hR : RetI X g layM A cX12_turned 7 0 0 Z post) (s0 s1 : Int32) (M : Mem) (h : P_M_turned_45 post s0 s1 M) : AtX X g layM A 7 0 0 Z 45 [] [.int s1, .int s0] M := by
  refine a_iadd C (tk T_cX12_turned 27 rfl) ?_
  exact hR _ _ _ _ (tk T_cX12_turned 28 rfl) h
def P_M_turned_33 (post : Int32 → Mem → Prop) (x1 x5 s0 s1 : Int32) (M : Mem) : Prop :=
  (¬ x1 = (1 : Int32) → (P_M_turned_45 post (s0 + s1) (0 : Int32) M)) ∧
  (x1 = (1 : Int32) → (P_M_turned_45 post (s0 + s1) x5 M))
theorem k_M_turned_33 {X : FX} {g : GT} {A : Nat → Prop} {Z : State → Prop} {post : Int32 → Mem → Prop} (C : Cx X g layM A cX12_turned 7 RX12 1) (hr : 0 ≤ X.2.2.2.1.cells ∧ 0 ≤ X.2.2.2.1.slots) (hR : RetI X g layM A cX12_turned 7 0 0 Z post) (x1 x5 s0 s1 : Int32) (M : Mem) (h : P_M_turned_33 post x1 x5 s0 s1 M) : AtX X g layM A 7 0 0 Z 33 [(1, .int x1), (5, .int x5)] [.int s1, .int s0] M := by
  refine a_iadd C (tk T_cX12_turned 20 rfl) ?_
  refine a_iload_n C (tk T_cX12_turned 21 rfl) rfl ?_
  refine a_iconst C (1 : Int32) (tk T_cX12_turned 22 rfl) kI_1 ?_
  refine a_icmp_ne C 44 (tk T_cX12_turned 23 rfl) rfl (fun c => ?_) (fun c => ?_)
  · have h := h.1 c
    refine a_iconst C (0 : Int32) (tk T_cX12_turned 26 rfl) kI_0 ?_
    exact a_to (k_M_turned_45 C hr hR (s0 + s1) (0 : Int32) M h) rfl
  · have h := h.2 c
    refine a_iload C (tk T_cX12_turned 24 rfl) rfl ?_
    refine a_goto C 45 (tk T_cX12_turned 25 rfl) rfl ?_
    exact a_to (k_M_turned_45 C hr hR (s0 + s1) x5 M h) rfl
def P_M_turned_19 (post : Int32 → Mem → Prop) (x0 x1 x3 x5 s0 : Int32) (M : Mem) : Prop :=
  (s0 = 0 → (P_M_turned_33 post x1 x5 x0 (-x3) M)) ∧
  (¬ s0 = 0 → (P_M_turned_33 post x1 x5 x0 x3 M))
theorem k_M_turned_19 {X : FX} {g : GT} {A : Nat → Prop} {Z : State → Prop} {post : Int32 → Mem → Prop} (C : Cx X g layM A cX12_turned 7 RX12 1) (hr : 0 ≤ X.2.2.2.1.cells ∧ 0 ≤ X.2.2.2.1.slots) (hR : RetI X g layM A cX12_turned 7 0 0 Z post) (x0 x1 x3 x5 s0 : Int32) (M : Mem) (h : P_M_turned_19 post x0 x1 x3 x5 s0 M) : AtX X g layM A 7 0 0 Z 19 [(0, .int x0), (1, .int x1), (3, .int x3), (5, .int x5)] [.int s0] M := by
  refine a_istore C (tk T_cX12_turned 12 rfl) (by decide) rfl ?_
  refine a_iload_n C (tk T_cX12_turned 13 rfl) rfl ?_
  refine a_iload C (tk T_cX12_turned 14 rfl) rfl ?_
  refine a_if_eq C 31 (tk T_cX12_turned 15 rfl) rfl (fun c => ?_) (fun c => ?_)
  · have h := h.1 c
    refine a_iload_n C (tk T_cX12_turned 18 rfl) rfl ?_
    refine a_ineg C (tk T_cX12_turned 19 rfl) ?_
    exact a_to (k_M_turned_33 C hr hR x1 x5 x0 (-x3) M h) rfl
  · have h := h.2 c
    refine a_iload_n C (tk T_cX12_turned 16 rfl) rfl ?_
    refine a_goto C 33 (tk T_cX12_turned 17 rfl) rfl ?_
    exact a_to (k_M_turned_33 C hr hR x1 x5 x0 x3 M h) rfl
def P_M_turned (post : Int32 → Mem → Prop) (x0 x1 x2 x3 x4 x5 : Int32) (M : Mem) : Prop :=
  P_Math_floorMod (fun r1 M1 =>
  ((x2 / (2 : Int32)) ≤ r1 → (P_M_turned_19 post x0 x1 x3 x5 (0 : Int32) M1)) ∧
  (¬ (x2 / (2 : Int32)) ≤ r1 → (P_M_turned_19 post x0 x1 x3 x5 (1 : Int32) M1))) (x0 - x4) x2 M
theorem k_M_turned {X : FX} {g : GT} {A : Nat → Prop} {Z : State → Prop} {post : Int32 → Mem → Prop} (C : Cx X g layM A cX12_turned 7 RX12 1) (hr : 0 ≤ X.2.2.2.1.cells ∧ 0 ≤ X.2.2.2.1.slots) (hR : RetI X g layM A cX12_turned 7 0 0 Z post) (x0 x1 x2 x3 x4 x5 : Int32) (M : Mem) (h : P_M_turned post x0 x1 x2 x3 x4 x5 M) : AtX X g layM A 7 0 0 Z 0 [(0, .int x0), (1, .int x1), (2, .int x2), (3, .int x3), (4, .int x4), (5, .int x5)] [] M := by
  refine a_iload_n C (tk T_cX12_turned 0 rfl) rfl ?_
  refine a_iload C (tk T_cX12_turned 1 rfl) rfl ?_
  refine a_isub C (tk T_cX12_turned 2 rfl) ?_
  refine a_iload_n C (tk T_cX12_turned 3 rfl) rfl ?_
  refine a_statI C [.int (x0 - x4), .int x2] me_yJ9_floorMod_7cf53 lk_RX12_62 (ct_Math_floorMod h) (by decide) rfl rfl (Nat.le_of_ble_eq_true rfl) (tk T_cX12_turned 4 rfl) hr (fun r1 M1 h => ?_)
  refine a_iload_n C (tk T_cX12_turned 5 rfl) rfl ?_
  refine a_iconst C (2 : Int32) (tk T_cX12_turned 6 rfl) kI_2 ?_
  refine a_idiv C (tk T_cX12_turned 7 rfl) (by decide) ?_
  refine a_icmp_ge C 18 (tk T_cX12_turned 8 rfl) rfl (fun c => ?_) (fun c => ?_)
  · have h := h.1 c
    refine a_iconst C (0 : Int32) (tk T_cX12_turned 11 rfl) kI_0 ?_
    exact a_to (k_M_turned_19 C hr hR x0 x1 x3 x5 (0 : Int32) M1 h) rfl
  · have h := h.2 c
    refine a_iconst C (1 : Int32) (tk T_cX12_turned 9 rfl) kI_1 ?_
    refine a_goto C 19 (tk T_cX12_turned 10 rfl) rfl ?_
    exact a_to (k_M_turned_19 C hr hR x0 x1 x3 x5 (1 : Int32) M1 h) rfl
theorem ct_M_turned {l : Launch} {g : GT} {post : Int32 → Mem → Prop} {x0 x1 x2 x3 x4 x5 : Int32} {M : Mem} (h : P_M_turned post x0 x1 x2 x3 x4 x5 M) : CI l g layM yX12_turned cX12_turned 7 (some .int) 1 [.int x0, .int x1, .int x2, .int x3, .int x4, .int x5] M post :=
  ci_of (plainFor_of_name (by decide +kernel)) (Nat.le_of_ble_eq_true rfl) (fun X A Z hl C hr hR => by subst hl; exact k_M_turned C hr hR x0 x1 x2 x3 x4 x5 M h)
def T_cX12_truePlaceL : List (Nat × Instr × Nat) := [(0, .iload_n 1, 1), (1, .iload_n 2, 1), (2, .aload_n 0, 1), (3, .getfield 13, 3), (6, .iconst 0, 1), (7, .iaload, 1), (8, .aload_n 0, 1), (9, .getfield 13, 3), (12, .iconst 1, 1), (13, .iaload, 1), (14, .aload_n 0, 1), (15, .getfield 13, 3), (18, .iconst 2, 1), (19, .iaload, 1), (20, .aload_n 0, 1), (21, .getfield 13, 3), (24, .iconst 3, 1), (25, .iaload, 1), (26, .invokestatic 68, 3), (29, .ireturn, 1)]
theorem T_cX12_truePlace : tabOK cX12_truePlace T_cX12_truePlaceL = true := by decide +kernel
def P_M_truePlace (post : Int32 → Mem → Prop) (x1 x2 : Int32) (M : Mem) : Prop :=
  vp_in (0 : Int32) 5966 ∧ vp_in (1 : Int32) 5966 ∧ vp_in (2 : Int32) 5966 ∧ vp_in (3 : Int32) 5966 ∧ P_M_turned (fun r1 M1 =>
  post r1 M1) x1 x2 (M 1 (0 : Int32).toNatClampNeg) (M 1 (1 : Int32).toNatClampNeg) (M 1 (2 : Int32).toNatClampNeg) (M 1 (3 : Int32).toNatClampNeg) M
theorem k_M_truePlace {X : FX} {g : GT} {A : Nat → Prop} {Z : State → Prop} {post : Int32 → Mem → Prop} (C : Cx X g layM A cX12_truePlace 3 RX12 2) (hr : 0 ≤ X.2.2.2.1.cells ∧ 0 ≤ X.2.2.2.1.slots) (hR : RetI X g layM A cX12_truePlace 3 0 0 Z post) (x1 x2 : Int32) (M : Mem) (h : P_M_truePlace post x1 x2 M) : AtX X g layM A 3 0 0 Z 0 [(0, .ref (ad g 0)), (1, .int x1), (2, .int x2)] [] M := by
  refine a_iload_n C (tk T_cX12_truePlace 0 rfl) rfl ?_
  refine a_iload_n C (tk T_cX12_truePlace 1 rfl) rfl ?_
  refine a_aload_n C (tk T_cX12_truePlace 2 rfl) rfl ?_
  refine a_getR C f_RX12_13 (tk T_cX12_truePlace 3 rfl) lm0 rfl ?_
  refine a_iconst C (0 : Int32) (tk T_cX12_truePlace 4 rfl) kI_0 ?_
  obtain ⟨hb, h⟩ := h
  refine a_iald C (tk T_cX12_truePlace 5 rfl) lm1 hb ?_
  refine a_aload_n C (tk T_cX12_truePlace 6 rfl) rfl ?_
  refine a_getR C f_RX12_13 (tk T_cX12_truePlace 7 rfl) lm0 rfl ?_
  refine a_iconst C (1 : Int32) (tk T_cX12_truePlace 8 rfl) kI_1 ?_
  obtain ⟨hb, h⟩ := h
  refine a_iald C (tk T_cX12_truePlace 9 rfl) lm1 hb ?_
  refine a_aload_n C (tk T_cX12_truePlace 10 rfl) rfl ?_
  refine a_getR C f_RX12_13 (tk T_cX12_truePlace 11 rfl) lm0 rfl ?_
  refine a_iconst C (2 : Int32) (tk T_cX12_truePlace 12 rfl) kI_2 ?_
  obtain ⟨hb, h⟩ := h
  refine a_iald C (tk T_cX12_truePlace 13 rfl) lm1 hb ?_
  refine a_aload_n C (tk T_cX12_truePlace 14 rfl) rfl ?_
  refine a_getR C f_RX12_13 (tk T_cX12_truePlace 15 rfl) lm0 rfl ?_
  refine a_iconst C (3 : Int32) (tk T_cX12_truePlace 16 rfl) kI_3 ?_
  obtain ⟨hb, h⟩ := h
  refine a_iald C (tk T_cX12_truePlace 17 rfl) lm1 hb ?_
  refine a_statI C [.int x1, .int x2, .int (M 1 (0 : Int32).toNatClampNeg), .int (M 1 (1 : Int32).toNatClampNeg), .int (M 1 (2 : Int32).toNatClampNeg), .int (M 1 (3 : Int32).toNatClampNeg)] me_yX12_turned lk_RX12_68 (ct_M_turned h) (by decide) rfl rfl (Nat.le_of_ble_eq_true rfl) (tk T_cX12_truePlace 18 rfl) hr (fun r1 M1 h => ?_)
  exact hR _ _ _ _ (tk T_cX12_truePlace 19 rfl) h
theorem ct_M_truePlace {l : Launch} {g : GT} {post : Int32 → Mem → Prop} {x1 x2 : Int32} {M : Mem} (h : P_M_truePlace post x1 x2 M) : CI l g layM yX12_truePlace cX12_truePlace 3 (some .int) 2 [.ref (ad g 0), .int x1, .int x2] M post :=
  ci_of (plainFor_of_name (by decide +kernel)) (Nat.le_of_ble_eq_true rfl) (fun X A Z hl C hr hR => by subst hl; exact k_M_truePlace C hr hR x1 x2 M h)
def T_cX12_screwL : List (Nat × Instr × Nat) := [(0, .aload_n 0, 1), (1, .iconst 0, 1), (2, .putfield 3, 3), (5, .aload_n 0, 1), (6, .iload_n 1, 1), (7, .iconst 2, 1), (8, .bipush 50, 2), (10, .invokestatic 58, 3), (13, .ifCond .eq 35, 3), (16, .iload_n 2, 1), (17, .iconst 0, 1), (18, .bipush 9, 2), (20, .invokestatic 58, 3), (23, .ifCond .eq 25, 3), (26, .iload_n 3, 1), (27, .iconst 0, 1), (28, .iload_n 1, 1), (29, .iconst 1, 1), (30, .isub, 1), (31, .invokestatic 58, 3), (34, .ifCond .eq 14, 3), (37, .iload 4, 2), (39, .iconst 0, 1), (40, .bipush 9, 2), (42, .invokestatic 58, 3), (45, .ifCond .ne 7, 3), (48, .iconst 1, 1), (49, .goto 4, 3), (52, .iconst 0, 1), (53, .iconst 1, 1), (54, .invokevirtual 72, 3), (57, .ifCond .eq 4, 3), (60, .return_, 1), (61, .aload_n 0, 1), (62, .getfield 13, 3), (65, .iconst 0, 1), (66, .iload_n 1, 1), (67, .iastore, 1), (68, .aload_n 0, 1), (69, .getfield 13, 3), (72, .iconst 1, 1), (73, .iload_n 2, 1), (74, .iastore, 1), (75, .aload_n 0, 1), (76, .getfield 13, 3), (79, .iconst 2, 1), (80, .iload_n 3, 1), (81, .iastore, 1), (82, .aload_n 0, 1), (83, .getfield 13, 3), (86, .iconst 3, 1), (87, .iload 4, 2), (89, .iastore, 1), (90, .return_, 1)]
theorem T_cX12_screw : tabOK cX12_screw T_cX12_screwL = true := by decide +kernel
def P_M_screw_53 (post : Mem → Prop) (x1 x2 x3 x4 s1 : Int32) (M : Mem) : Prop :=
  P_M_throwsIf (fun r1 M1 =>
  (r1 = 0 → (vp_in (0 : Int32) 5966 ∧ ∀ M2, M2 = ms M1 1 (0 : Int32).toNatClampNeg x1 → vp_in (1 : Int32) 5966 ∧ ∀ M3, M3 = ms M2 1 (1 : Int32).toNatClampNeg x2 → vp_in (2 : Int32) 5966 ∧ ∀ M4, M4 = ms M3 1 (2 : Int32).toNatClampNeg x3 → vp_in (3 : Int32) 5966 ∧ ∀ M5, M5 = ms M4 1 (3 : Int32).toNatClampNeg x4 → post M5)) ∧
  (¬ r1 = 0 → (post M1))) s1 (1 : Int32) M
theorem k_M_screw_53 {X : FX} {g : GT} {A : Nat → Prop} {Z : State → Prop} {post : Mem → Prop} (C : Cx X g layM A cX12_screw 5 RX12 1) (hr : 0 ≤ X.2.2.2.1.cells ∧ 0 ≤ X.2.2.2.1.slots) (hR : RetV X g layM A cX12_screw 5 0 0 Z post) (x1 x2 x3 x4 s1 : Int32) (M : Mem) (h : P_M_screw_53 post x1 x2 x3 x4 s1 M) : AtX X g layM A 5 0 0 Z 53 [(0, .ref (ad g 0)), (1, .int x1), (2, .int x2), (3, .int x3), (4, .int x4)] [.int s1, .ref (ad g 0)] M := by
  refine a_iconst C (1 : Int32) (tk T_cX12_screw 29 rfl) kI_1 ?_
  refine a_callI C [.int s1, .int (1 : Int32)] me_yX12_throwsIf lk_RX12_72 (ct_M_throwsIf h) (by decide) lm0 rfl rfl rfl (Nat.le_of_ble_eq_true rfl) (tk T_cX12_screw 30 rfl) hr (fun r1 M1 h => ?_)
  refine a_if_eq C 61 (tk T_cX12_screw 31 rfl) rfl (fun c => ?_) (fun c => ?_)
  · have h := h.1 c
    refine a_aload_n C (tk T_cX12_screw 33 rfl) rfl ?_
    refine a_getR C f_RX12_13 (tk T_cX12_screw 34 rfl) lm0 rfl ?_
    refine a_iconst C (0 : Int32) (tk T_cX12_screw 35 rfl) kI_0 ?_
    refine a_iload_n C (tk T_cX12_screw 36 rfl) rfl ?_
    obtain ⟨hb, h⟩ := h
    refine a_iast C (tk T_cX12_screw 37 rfl) lm1 hb ?_
    refine a_mem (fun M2 e_M2 => ?_)
    have h := h M2 e_M2
    refine a_aload_n C (tk T_cX12_screw 38 rfl) rfl ?_
    refine a_getR C f_RX12_13 (tk T_cX12_screw 39 rfl) lm0 rfl ?_
    refine a_iconst C (1 : Int32) (tk T_cX12_screw 40 rfl) kI_1 ?_
    refine a_iload_n C (tk T_cX12_screw 41 rfl) rfl ?_
    obtain ⟨hb, h⟩ := h
    refine a_iast C (tk T_cX12_screw 42 rfl) lm1 hb ?_
    refine a_mem (fun M3 e_M3 => ?_)
    have h := h M3 e_M3
    refine a_aload_n C (tk T_cX12_screw 43 rfl) rfl ?_
    refine a_getR C f_RX12_13 (tk T_cX12_screw 44 rfl) lm0 rfl ?_
    refine a_iconst C (2 : Int32) (tk T_cX12_screw 45 rfl) kI_2 ?_
    refine a_iload_n C (tk T_cX12_screw 46 rfl) rfl ?_
    obtain ⟨hb, h⟩ := h
    refine a_iast C (tk T_cX12_screw 47 rfl) lm1 hb ?_
    refine a_mem (fun M4 e_M4 => ?_)
    have h := h M4 e_M4
    refine a_aload_n C (tk T_cX12_screw 48 rfl) rfl ?_
    refine a_getR C f_RX12_13 (tk T_cX12_screw 49 rfl) lm0 rfl ?_
    refine a_iconst C (3 : Int32) (tk T_cX12_screw 50 rfl) kI_3 ?_
    refine a_iload C (tk T_cX12_screw 51 rfl) rfl ?_
    obtain ⟨hb, h⟩ := h
    refine a_iast C (tk T_cX12_screw 52 rfl) lm1 hb ?_
    refine a_mem (fun M5 e_M5 => ?_)
    have h := h M5 e_M5
    exact hR _ _ _ (tk T_cX12_screw 53 rfl) h
  · have h := h.2 c
    exact hR _ _ _ (tk T_cX12_screw 32 rfl) h
def P_M_screw_48 (post : Mem → Prop) (x1 x2 x3 x4 : Int32) (M : Mem) : Prop :=
  P_M_screw_53 post x1 x2 x3 x4 (1 : Int32) M
theorem k_M_screw_48 {X : FX} {g : GT} {A : Nat → Prop} {Z : State → Prop} {post : Mem → Prop} (C : Cx X g layM A cX12_screw 5 RX12 1) (hr : 0 ≤ X.2.2.2.1.cells ∧ 0 ≤ X.2.2.2.1.slots) (hR : RetV X g layM A cX12_screw 5 0 0 Z post) (x1 x2 x3 x4 : Int32) (M : Mem) (h : P_M_screw_48 post x1 x2 x3 x4 M) : AtX X g layM A 5 0 0 Z 48 [(0, .ref (ad g 0)), (1, .int x1), (2, .int x2), (3, .int x3), (4, .int x4)] [.ref (ad g 0)] M := by
  refine a_iconst C (1 : Int32) (tk T_cX12_screw 26 rfl) kI_1 ?_
  refine a_goto C 53 (tk T_cX12_screw 27 rfl) rfl ?_
  exact a_to (k_M_screw_53 C hr hR x1 x2 x3 x4 (1 : Int32) M h) rfl
def P_M_screw (post : Mem → Prop) (x1 x2 x3 x4 : Int32) (M : Mem) : Prop :=
  ∀ M1, M1 = ms M 0 0 (0 : Int32) → P_M_in (fun r2 M2 =>
  (r2 = 0 → (P_M_screw_48 post x1 x2 x3 x4 M2)) ∧
  (¬ r2 = 0 → (P_M_in (fun r3 M3 =>
  (r3 = 0 → (P_M_screw_48 post x1 x2 x3 x4 M3)) ∧
  (¬ r3 = 0 → (P_M_in (fun r4 M4 =>
  (r4 = 0 → (P_M_screw_48 post x1 x2 x3 x4 M4)) ∧
  (¬ r4 = 0 → (P_M_in (fun r5 M5 =>
  (¬ r5 = 0 → (P_M_screw_53 post x1 x2 x3 x4 (0 : Int32) M5)) ∧
  (r5 = 0 → (P_M_screw_48 post x1 x2 x3 x4 M5))) x4 (0 : Int32) (9 : Int32) M4))) x3 (0 : Int32) (x1 - (1 : Int32)) M3))) x2 (0 : Int32) (9 : Int32) M2))) x1 (2 : Int32) (50 : Int32) M1
theorem k_M_screw {X : FX} {g : GT} {A : Nat → Prop} {Z : State → Prop} {post : Mem → Prop} (C : Cx X g layM A cX12_screw 5 RX12 1) (hr : 0 ≤ X.2.2.2.1.cells ∧ 0 ≤ X.2.2.2.1.slots) (hR : RetV X g layM A cX12_screw 5 0 0 Z post) (x1 x2 x3 x4 : Int32) (M : Mem) (h : P_M_screw post x1 x2 x3 x4 M) : AtX X g layM A 5 0 0 Z 0 [(0, .ref (ad g 0)), (1, .int x1), (2, .int x2), (3, .int x3), (4, .int x4)] [] M := by
  refine a_aload_n C (tk T_cX12_screw 0 rfl) rfl ?_
  refine a_iconst C (0 : Int32) (tk T_cX12_screw 1 rfl) kI_0 ?_
  refine a_put C f_RX12_3 f_RX12_3p rfl rfl (tk T_cX12_screw 2 rfl) lm0 rfl ?_
  refine a_mem (fun M1 e_M1 => ?_)
  have h := h M1 e_M1
  refine a_aload_n C (tk T_cX12_screw 3 rfl) rfl ?_
  refine a_iload_n C (tk T_cX12_screw 4 rfl) rfl ?_
  refine a_iconst C (2 : Int32) (tk T_cX12_screw 5 rfl) kI_2 ?_
  refine a_bipush C (50 : Int32) (tk T_cX12_screw 6 rfl) kB_50 ?_
  refine a_statI C [.int x1, .int (2 : Int32), .int (50 : Int32)] me_yX12_in lk_RX12_58 (ct_M_in h) (by decide) rfl rfl (Nat.le_of_ble_eq_true rfl) (tk T_cX12_screw 7 rfl) hr (fun r2 M2 h => ?_)
  refine a_if_eq C 48 (tk T_cX12_screw 8 rfl) rfl (fun c => ?_) (fun c => ?_)
  · have h := h.1 c
    exact a_to (k_M_screw_48 C hr hR x1 x2 x3 x4 M2 h) rfl
  · have h := h.2 c
    refine a_iload_n C (tk T_cX12_screw 9 rfl) rfl ?_
    refine a_iconst C (0 : Int32) (tk T_cX12_screw 10 rfl) kI_0 ?_
    refine a_bipush C (9 : Int32) (tk T_cX12_screw 11 rfl) kB_9 ?_
    refine a_statI C [.int x2, .int (0 : Int32), .int (9 : Int32)] me_yX12_in lk_RX12_58 (ct_M_in h) (by decide) rfl rfl (Nat.le_of_ble_eq_true rfl) (tk T_cX12_screw 12 rfl) hr (fun r3 M3 h => ?_)
    refine a_if_eq C 48 (tk T_cX12_screw 13 rfl) rfl (fun c => ?_) (fun c => ?_)
    · have h := h.1 c
      exact a_to (k_M_screw_48 C hr hR x1 x2 x3 x4 M3 h) rfl
    · have h := h.2 c
      refine a_iload_n C (tk T_cX12_screw 14 rfl) rfl ?_
      refine a_iconst C (0 : Int32) (tk T_cX12_screw 15 rfl) kI_0 ?_
      refine a_iload_n C (tk T_cX12_screw 16 rfl) rfl ?_
      refine a_iconst C (1 : Int32) (tk T_cX12_screw 17 rfl) kI_1 ?_
      refine a_isub C (tk T_cX12_screw 18 rfl) ?_
      refine a_statI C [.int x3, .int (0 : Int32), .int (x1 - (1 : Int32))] me_yX12_in lk_RX12_58 (ct_M_in h) (by decide) rfl rfl (Nat.le_of_ble_eq_true rfl) (tk T_cX12_screw 19 rfl) hr (fun r4 M4 h => ?_)
      refine a_if_eq C 48 (tk T_cX12_screw 20 rfl) rfl (fun c => ?_) (fun c => ?_)
      · have h := h.1 c
        exact a_to (k_M_screw_48 C hr hR x1 x2 x3 x4 M4 h) rfl
      · have h := h.2 c
        refine a_iload C (tk T_cX12_screw 21 rfl) rfl ?_
        refine a_iconst C (0 : Int32) (tk T_cX12_screw 22 rfl) kI_0 ?_
        refine a_bipush C (9 : Int32) (tk T_cX12_screw 23 rfl) kB_9 ?_
        refine a_statI C [.int x4, .int (0 : Int32), .int (9 : Int32)] me_yX12_in lk_RX12_58 (ct_M_in h) (by decide) rfl rfl (Nat.le_of_ble_eq_true rfl) (tk T_cX12_screw 24 rfl) hr (fun r5 M5 h => ?_)
        refine a_if_ne C 52 (tk T_cX12_screw 25 rfl) rfl (fun c => ?_) (fun c => ?_)
        · have h := h.1 c
          refine a_iconst C (0 : Int32) (tk T_cX12_screw 28 rfl) kI_0 ?_
          exact a_to (k_M_screw_53 C hr hR x1 x2 x3 x4 (0 : Int32) M5 h) rfl
        · have h := h.2 c
          exact a_to (k_M_screw_48 C hr hR x1 x2 x3 x4 M5 h) rfl
theorem ct_M_screw {l : Launch} {g : GT} {post : Mem → Prop} {x1 x2 x3 x4 : Int32} {M : Mem} (h : P_M_screw post x1 x2 x3 x4 M) : CV l g layM yX12_screw cX12_screw 5 none 1 [.ref (ad g 0), .int x1, .int x2, .int x3, .int x4] M post :=
  cv_of (plainFor_of_name (by decide +kernel)) (Nat.le_of_ble_eq_true rfl) (fun X A Z hl C hr hR => by subst hl; exact k_M_screw C hr hR x1 x2 x3 x4 M h)
def T_cX12_trulyL : List (Nat × Instr × Nat) := [(0, .aload_n 0, 1), (1, .iconst 0, 1), (2, .putfield 3, 3), (5, .aload_n 0, 1), (6, .iload_n 1, 1), (7, .invokestatic 76, 3), (10, .iconst 1, 1), (11, .invokevirtual 72, 3), (14, .ifCond .eq 7, 3), (17, .iconst 0, 1), (18, .goto 17, 3), (21, .aload_n 0, 1), (22, .iload_n 1, 1), (23, .iload_n 2, 1), (24, .ifCond .eq 7, 3), (27, .iconst 1, 1), (28, .goto 4, 3), (31, .iconst 0, 1), (32, .invokevirtual 80, 3), (35, .ireturn, 1)]
theorem T_cX12_truly : tabOK cX12_truly T_cX12_trulyL = true := by decide +kernel
def P_M_truly_35 (post : Int32 → Mem → Prop) (s0 : Int32) (M : Mem) : Prop :=
  post s0 M
theorem k_M_truly_35 {X : FX} {g : GT} {A : Nat → Prop} {Z : State → Prop} {post : Int32 → Mem → Prop} (C : Cx X g layM A cX12_truly 3 RX12 3) (hr : 0 ≤ X.2.2.2.1.cells ∧ 0 ≤ X.2.2.2.1.slots) (hR : RetI X g layM A cX12_truly 3 0 0 Z post) (s0 : Int32) (M : Mem) (h : P_M_truly_35 post s0 M) : AtX X g layM A 3 0 0 Z 35 [] [.int s0] M := by
  exact hR _ _ _ _ (tk T_cX12_truly 19 rfl) h
def P_M_truly_32 (post : Int32 → Mem → Prop) (s1 s2 : Int32) (M : Mem) : Prop :=
  P_M_truePlace (fun r1 M1 =>
  P_M_truly_35 post r1 M1) s1 s2 M
theorem k_M_truly_32 {X : FX} {g : GT} {A : Nat → Prop} {Z : State → Prop} {post : Int32 → Mem → Prop} (C : Cx X g layM A cX12_truly 3 RX12 3) (hr : 0 ≤ X.2.2.2.1.cells ∧ 0 ≤ X.2.2.2.1.slots) (hR : RetI X g layM A cX12_truly 3 0 0 Z post) (s1 s2 : Int32) (M : Mem) (h : P_M_truly_32 post s1 s2 M) : AtX X g layM A 3 0 0 Z 32 [] [.int s2, .int s1, .ref (ad g 0)] M := by
  refine a_callI C [.int s1, .int s2] me_yX12_truePlace lk_RX12_80 (ct_M_truePlace h) (by decide) lm0 rfl rfl rfl (Nat.le_of_ble_eq_true rfl) (tk T_cX12_truly 18 rfl) hr (fun r1 M1 h => ?_)
  exact a_to (k_M_truly_35 C hr hR r1 M1 h) rfl
def P_M_truly (post : Int32 → Mem → Prop) (x1 x2 : Int32) (M : Mem) : Prop :=
  ∀ M1, M1 = ms M 0 0 (0 : Int32) → P_M_noPlace (fun r2 M2 =>
  P_M_throwsIf (fun r3 M3 =>
  (r3 = 0 → ((x2 = 0 → (P_M_truly_32 post x1 (0 : Int32) M3)) ∧
  (¬ x2 = 0 → (P_M_truly_32 post x1 (1 : Int32) M3)))) ∧
  (¬ r3 = 0 → (P_M_truly_35 post (0 : Int32) M3))) r2 (1 : Int32) M2) x1 M1
theorem k_M_truly {X : FX} {g : GT} {A : Nat → Prop} {Z : State → Prop} {post : Int32 → Mem → Prop} (C : Cx X g layM A cX12_truly 3 RX12 3) (hr : 0 ≤ X.2.2.2.1.cells ∧ 0 ≤ X.2.2.2.1.slots) (hR : RetI X g layM A cX12_truly 3 0 0 Z post) (x1 x2 : Int32) (M : Mem) (h : P_M_truly post x1 x2 M) : AtX X g layM A 3 0 0 Z 0 [(0, .ref (ad g 0)), (1, .int x1), (2, .int x2)] [] M := by
  refine a_aload_n C (tk T_cX12_truly 0 rfl) rfl ?_
  refine a_iconst C (0 : Int32) (tk T_cX12_truly 1 rfl) kI_0 ?_
  refine a_put C f_RX12_3 f_RX12_3p rfl rfl (tk T_cX12_truly 2 rfl) lm0 rfl ?_
  refine a_mem (fun M1 e_M1 => ?_)
  have h := h M1 e_M1
  refine a_aload_n C (tk T_cX12_truly 3 rfl) rfl ?_
  refine a_iload_n C (tk T_cX12_truly 4 rfl) rfl ?_
  refine a_statI C [.int x1] me_yX12_noPlace lk_RX12_76 (ct_M_noPlace h) (by decide) rfl rfl (Nat.le_of_ble_eq_true rfl) (tk T_cX12_truly 5 rfl) hr (fun r2 M2 h => ?_)
  refine a_iconst C (1 : Int32) (tk T_cX12_truly 6 rfl) kI_1 ?_
  refine a_callI C [.int r2, .int (1 : Int32)] me_yX12_throwsIf lk_RX12_72 (ct_M_throwsIf h) (by decide) lm0 rfl rfl rfl (Nat.le_of_ble_eq_true rfl) (tk T_cX12_truly 7 rfl) hr (fun r3 M3 h => ?_)
  refine a_if_eq C 21 (tk T_cX12_truly 8 rfl) rfl (fun c => ?_) (fun c => ?_)
  · have h := h.1 c
    refine a_aload_n C (tk T_cX12_truly 11 rfl) rfl ?_
    refine a_iload_n C (tk T_cX12_truly 12 rfl) rfl ?_
    refine a_iload_n C (tk T_cX12_truly 13 rfl) rfl ?_
    refine a_if_eq C 31 (tk T_cX12_truly 14 rfl) rfl (fun c => ?_) (fun c => ?_)
    · have h := h.1 c
      refine a_iconst C (0 : Int32) (tk T_cX12_truly 17 rfl) kI_0 ?_
      exact a_to (k_M_truly_32 C hr hR x1 (0 : Int32) M3 h) rfl
    · have h := h.2 c
      refine a_iconst C (1 : Int32) (tk T_cX12_truly 15 rfl) kI_1 ?_
      refine a_goto C 32 (tk T_cX12_truly 16 rfl) rfl ?_
      exact a_to (k_M_truly_32 C hr hR x1 (1 : Int32) M3 h) rfl
  · have h := h.2 c
    refine a_iconst C (0 : Int32) (tk T_cX12_truly 9 rfl) kI_0 ?_
    refine a_goto C 35 (tk T_cX12_truly 10 rfl) rfl ?_
    exact a_to (k_M_truly_35 C hr hR (0 : Int32) M3 h) rfl
theorem ct_M_truly {l : Launch} {g : GT} {post : Int32 → Mem → Prop} {x1 x2 : Int32} {M : Mem} (h : P_M_truly post x1 x2 M) : CI l g layM yX12_truly cX12_truly 3 (some .int) 3 [.ref (ad g 0), .int x1, .int x2] M post :=
  ci_of (plainFor_of_name (by decide +kernel)) (Nat.le_of_ble_eq_true rfl) (fun X A Z hl C hr hR => by subst hl; exact k_M_truly C hr hR x1 x2 M h)
def T_cX12_gaugeL : List (Nat × Instr × Nat) := [(0, .aload_n 0, 1), (1, .iconst 0, 1), (2, .putfield 3, 3), (5, .aload_n 0, 1), (6, .iload_n 1, 1), (7, .invokestatic 76, 3), (10, .ifCond .ne 22, 3), (13, .iload_n 3, 1), (14, .invokestatic 76, 3), (17, .ifCond .ne 15, 3), (20, .iload 5, 2), (22, .iconst 0, 1), (23, .sipush 1200, 3), (26, .invokestatic 58, 3), (29, .ifCond .ne 7, 3), (32, .iconst 1, 1), (33, .goto 4, 3), (36, .iconst 0, 1), (37, .iconst 1, 1), (38, .invokevirtual 72, 3), (41, .ifCond .ne 27, 3), (44, .aload_n 0, 1), (45, .aload_n 0, 1), (46, .getfield 13, 3), (49, .iconst 5, 1), (50, .iaload, 1), (51, .bipush 8, 2), (53, .if_icmp .ne 7, 3), (56, .iconst 1, 1), (57, .goto 4, 3), (60, .iconst 0, 1), (61, .iconst 2, 1), (62, .invokevirtual 72, 3), (65, .ifCond .eq 5, 3), (68, .iconst 0, 1), (69, .ireturn, 1), (70, .aload_n 0, 1), (71, .iconst 5, 1), (72, .bipush 12, 2), (74, .iconst 5, 1), (75, .iload_n 1, 1), (76, .iload_n 2, 1), (77, .ifCond .eq 7, 3), (80, .iconst 1, 1), (81, .goto 4, 3), (84, .iconst 0, 1), (85, .iload_n 3, 1), (86, .iload 4, 2), (88, .ifCond .eq 7, 3), (91, .iconst 1, 1), (92, .goto 4, 3), (95, .iconst 0, 1), (96, .iload 5, 2), (98, .invokevirtual 83, 3), (101, .iconst 1, 1), (102, .iadd, 1), (103, .ireturn, 1)]
theorem T_cX12_gauge : tabOK cX12_gauge T_cX12_gaugeL = true := by decide +kernel
def P_M_gauge_96 (post : Int32 → Mem → Prop) (x5 s1 s2 s3 s4 s5 s6 s7 : Int32) (M : Mem) : Prop :=
  P_M_puts (fun r1 M1 =>
  post (r1 + (1 : Int32)) M1) s1 s2 s3 s4 s5 s6 s7 x5 M
theorem k_M_gauge_96 {X : FX} {g : GT} {A : Nat → Prop} {Z : State → Prop} {post : Int32 → Mem → Prop} (C : Cx X g layM A cX12_gauge 6 RX12 2) (hr : 0 ≤ X.2.2.2.1.cells ∧ 0 ≤ X.2.2.2.1.slots) (hR : RetI X g layM A cX12_gauge 6 0 0 Z post) (x5 s1 s2 s3 s4 s5 s6 s7 : Int32) (M : Mem) (h : P_M_gauge_96 post x5 s1 s2 s3 s4 s5 s6 s7 M) : AtX X g layM A 6 0 0 Z 96 [(5, .int x5)] [.int s7, .int s6, .int s5, .int s4, .int s3, .int s2, .int s1, .ref (ad g 0)] M := by
  refine a_iload C (tk T_cX12_gauge 52 rfl) rfl ?_
  refine a_callI C [.int s1, .int s2, .int s3, .int s4, .int s5, .int s6, .int s7, .int x5] me_yX12_puts lk_RX12_83 (ct_M_puts h) (by decide) lm0 rfl rfl rfl (Nat.le_of_ble_eq_true rfl) (tk T_cX12_gauge 53 rfl) hr (fun r1 M1 h => ?_)
  refine a_iconst C (1 : Int32) (tk T_cX12_gauge 54 rfl) kI_1 ?_
  refine a_iadd C (tk T_cX12_gauge 55 rfl) ?_
  exact hR _ _ _ _ (tk T_cX12_gauge 56 rfl) h
def P_M_gauge_85 (post : Int32 → Mem → Prop) (x3 x4 x5 s1 s2 s3 s4 s5 : Int32) (M : Mem) : Prop :=
  (x4 = 0 → (P_M_gauge_96 post x5 s1 s2 s3 s4 s5 x3 (0 : Int32) M)) ∧
  (¬ x4 = 0 → (P_M_gauge_96 post x5 s1 s2 s3 s4 s5 x3 (1 : Int32) M))
theorem k_M_gauge_85 {X : FX} {g : GT} {A : Nat → Prop} {Z : State → Prop} {post : Int32 → Mem → Prop} (C : Cx X g layM A cX12_gauge 6 RX12 2) (hr : 0 ≤ X.2.2.2.1.cells ∧ 0 ≤ X.2.2.2.1.slots) (hR : RetI X g layM A cX12_gauge 6 0 0 Z post) (x3 x4 x5 s1 s2 s3 s4 s5 : Int32) (M : Mem) (h : P_M_gauge_85 post x3 x4 x5 s1 s2 s3 s4 s5 M) : AtX X g layM A 6 0 0 Z 85 [(3, .int x3), (4, .int x4), (5, .int x5)] [.int s5, .int s4, .int s3, .int s2, .int s1, .ref (ad g 0)] M := by
  refine a_iload_n C (tk T_cX12_gauge 46 rfl) rfl ?_
  refine a_iload C (tk T_cX12_gauge 47 rfl) rfl ?_
  refine a_if_eq C 95 (tk T_cX12_gauge 48 rfl) rfl (fun c => ?_) (fun c => ?_)
  · have h := h.1 c
    refine a_iconst C (0 : Int32) (tk T_cX12_gauge 51 rfl) kI_0 ?_
    exact a_to (k_M_gauge_96 C hr hR x5 s1 s2 s3 s4 s5 x3 (0 : Int32) M h) rfl
  · have h := h.2 c
    refine a_iconst C (1 : Int32) (tk T_cX12_gauge 49 rfl) kI_1 ?_
    refine a_goto C 96 (tk T_cX12_gauge 50 rfl) rfl ?_
    exact a_to (k_M_gauge_96 C hr hR x5 s1 s2 s3 s4 s5 x3 (1 : Int32) M h) rfl
def P_M_gauge_68 (post : Int32 → Mem → Prop) (M : Mem) : Prop :=
  post (0 : Int32) M
theorem k_M_gauge_68 {X : FX} {g : GT} {A : Nat → Prop} {Z : State → Prop} {post : Int32 → Mem → Prop} (C : Cx X g layM A cX12_gauge 6 RX12 2) (hr : 0 ≤ X.2.2.2.1.cells ∧ 0 ≤ X.2.2.2.1.slots) (hR : RetI X g layM A cX12_gauge 6 0 0 Z post)  (M : Mem) (h : P_M_gauge_68 post M) : AtX X g layM A 6 0 0 Z 68 [] [] M := by
  refine a_iconst C (0 : Int32) (tk T_cX12_gauge 34 rfl) kI_0 ?_
  exact hR _ _ _ _ (tk T_cX12_gauge 35 rfl) h
def P_M_gauge_61 (post : Int32 → Mem → Prop) (x1 x2 x3 x4 x5 s1 : Int32) (M : Mem) : Prop :=
  P_M_throwsIf (fun r1 M1 =>
  (r1 = 0 → ((x2 = 0 → (P_M_gauge_85 post x3 x4 x5 (5 : Int32) (12 : Int32) (5 : Int32) x1 (0 : Int32) M1)) ∧
  (¬ x2 = 0 → (P_M_gauge_85 post x3 x4 x5 (5 : Int32) (12 : Int32) (5 : Int32) x1 (1 : Int32) M1)))) ∧
  (¬ r1 = 0 → (P_M_gauge_68 post M1))) s1 (2 : Int32) M
theorem k_M_gauge_61 {X : FX} {g : GT} {A : Nat → Prop} {Z : State → Prop} {post : Int32 → Mem → Prop} (C : Cx X g layM A cX12_gauge 6 RX12 2) (hr : 0 ≤ X.2.2.2.1.cells ∧ 0 ≤ X.2.2.2.1.slots) (hR : RetI X g layM A cX12_gauge 6 0 0 Z post) (x1 x2 x3 x4 x5 s1 : Int32) (M : Mem) (h : P_M_gauge_61 post x1 x2 x3 x4 x5 s1 M) : AtX X g layM A 6 0 0 Z 61 [(0, .ref (ad g 0)), (1, .int x1), (2, .int x2), (3, .int x3), (4, .int x4), (5, .int x5)] [.int s1, .ref (ad g 0)] M := by
  refine a_iconst C (2 : Int32) (tk T_cX12_gauge 31 rfl) kI_2 ?_
  refine a_callI C [.int s1, .int (2 : Int32)] me_yX12_throwsIf lk_RX12_72 (ct_M_throwsIf h) (by decide) lm0 rfl rfl rfl (Nat.le_of_ble_eq_true rfl) (tk T_cX12_gauge 32 rfl) hr (fun r1 M1 h => ?_)
  refine a_if_eq C 70 (tk T_cX12_gauge 33 rfl) rfl (fun c => ?_) (fun c => ?_)
  · have h := h.1 c
    refine a_aload_n C (tk T_cX12_gauge 36 rfl) rfl ?_
    refine a_iconst C (5 : Int32) (tk T_cX12_gauge 37 rfl) kI_5 ?_
    refine a_bipush C (12 : Int32) (tk T_cX12_gauge 38 rfl) kB_12 ?_
    refine a_iconst C (5 : Int32) (tk T_cX12_gauge 39 rfl) kI_5 ?_
    refine a_iload_n C (tk T_cX12_gauge 40 rfl) rfl ?_
    refine a_iload_n C (tk T_cX12_gauge 41 rfl) rfl ?_
    refine a_if_eq C 84 (tk T_cX12_gauge 42 rfl) rfl (fun c => ?_) (fun c => ?_)
    · have h := h.1 c
      refine a_iconst C (0 : Int32) (tk T_cX12_gauge 45 rfl) kI_0 ?_
      exact a_to (k_M_gauge_85 C hr hR x3 x4 x5 (5 : Int32) (12 : Int32) (5 : Int32) x1 (0 : Int32) M1 h) rfl
    · have h := h.2 c
      refine a_iconst C (1 : Int32) (tk T_cX12_gauge 43 rfl) kI_1 ?_
      refine a_goto C 85 (tk T_cX12_gauge 44 rfl) rfl ?_
      exact a_to (k_M_gauge_85 C hr hR x3 x4 x5 (5 : Int32) (12 : Int32) (5 : Int32) x1 (1 : Int32) M1 h) rfl
  · have h := h.2 c
    exact a_to (k_M_gauge_68 C hr hR M1 h) rfl
def P_M_gauge_37 (post : Int32 → Mem → Prop) (x1 x2 x3 x4 x5 s1 : Int32) (M : Mem) : Prop :=
  P_M_throwsIf (fun r1 M1 =>
  (¬ r1 = 0 → (P_M_gauge_68 post M1)) ∧
  (r1 = 0 → (vp_in (5 : Int32) 5966 ∧ (¬ (M1 1 (5 : Int32).toNatClampNeg) = (8 : Int32) → (P_M_gauge_61 post x1 x2 x3 x4 x5 (0 : Int32) M1)) ∧
  ((M1 1 (5 : Int32).toNatClampNeg) = (8 : Int32) → (P_M_gauge_61 post x1 x2 x3 x4 x5 (1 : Int32) M1))))) s1 (1 : Int32) M
theorem k_M_gauge_37 {X : FX} {g : GT} {A : Nat → Prop} {Z : State → Prop} {post : Int32 → Mem → Prop} (C : Cx X g layM A cX12_gauge 6 RX12 2) (hr : 0 ≤ X.2.2.2.1.cells ∧ 0 ≤ X.2.2.2.1.slots) (hR : RetI X g layM A cX12_gauge 6 0 0 Z post) (x1 x2 x3 x4 x5 s1 : Int32) (M : Mem) (h : P_M_gauge_37 post x1 x2 x3 x4 x5 s1 M) : AtX X g layM A 6 0 0 Z 37 [(0, .ref (ad g 0)), (1, .int x1), (2, .int x2), (3, .int x3), (4, .int x4), (5, .int x5)] [.int s1, .ref (ad g 0)] M := by
  refine a_iconst C (1 : Int32) (tk T_cX12_gauge 18 rfl) kI_1 ?_
  refine a_callI C [.int s1, .int (1 : Int32)] me_yX12_throwsIf lk_RX12_72 (ct_M_throwsIf h) (by decide) lm0 rfl rfl rfl (Nat.le_of_ble_eq_true rfl) (tk T_cX12_gauge 19 rfl) hr (fun r1 M1 h => ?_)
  refine a_if_ne C 68 (tk T_cX12_gauge 20 rfl) rfl (fun c => ?_) (fun c => ?_)
  · have h := h.1 c
    exact a_to (k_M_gauge_68 C hr hR M1 h) rfl
  · have h := h.2 c
    refine a_aload_n C (tk T_cX12_gauge 21 rfl) rfl ?_
    refine a_aload_n C (tk T_cX12_gauge 22 rfl) rfl ?_
    refine a_getR C f_RX12_13 (tk T_cX12_gauge 23 rfl) lm0 rfl ?_
    refine a_iconst C (5 : Int32) (tk T_cX12_gauge 24 rfl) kI_5 ?_
    obtain ⟨hb, h⟩ := h
    refine a_iald C (tk T_cX12_gauge 25 rfl) lm1 hb ?_
    refine a_bipush C (8 : Int32) (tk T_cX12_gauge 26 rfl) kB_8 ?_
    refine a_icmp_ne C 60 (tk T_cX12_gauge 27 rfl) rfl (fun c => ?_) (fun c => ?_)
    · have h := h.1 c
      refine a_iconst C (0 : Int32) (tk T_cX12_gauge 30 rfl) kI_0 ?_
      exact a_to (k_M_gauge_61 C hr hR x1 x2 x3 x4 x5 (0 : Int32) M1 h) rfl
    · have h := h.2 c
      refine a_iconst C (1 : Int32) (tk T_cX12_gauge 28 rfl) kI_1 ?_
      refine a_goto C 61 (tk T_cX12_gauge 29 rfl) rfl ?_
      exact a_to (k_M_gauge_61 C hr hR x1 x2 x3 x4 x5 (1 : Int32) M1 h) rfl
def P_M_gauge_32 (post : Int32 → Mem → Prop) (x1 x2 x3 x4 x5 : Int32) (M : Mem) : Prop :=
  P_M_gauge_37 post x1 x2 x3 x4 x5 (1 : Int32) M
theorem k_M_gauge_32 {X : FX} {g : GT} {A : Nat → Prop} {Z : State → Prop} {post : Int32 → Mem → Prop} (C : Cx X g layM A cX12_gauge 6 RX12 2) (hr : 0 ≤ X.2.2.2.1.cells ∧ 0 ≤ X.2.2.2.1.slots) (hR : RetI X g layM A cX12_gauge 6 0 0 Z post) (x1 x2 x3 x4 x5 : Int32) (M : Mem) (h : P_M_gauge_32 post x1 x2 x3 x4 x5 M) : AtX X g layM A 6 0 0 Z 32 [(0, .ref (ad g 0)), (1, .int x1), (2, .int x2), (3, .int x3), (4, .int x4), (5, .int x5)] [.ref (ad g 0)] M := by
  refine a_iconst C (1 : Int32) (tk T_cX12_gauge 15 rfl) kI_1 ?_
  refine a_goto C 37 (tk T_cX12_gauge 16 rfl) rfl ?_
  exact a_to (k_M_gauge_37 C hr hR x1 x2 x3 x4 x5 (1 : Int32) M h) rfl
def P_M_gauge (post : Int32 → Mem → Prop) (x1 x2 x3 x4 x5 : Int32) (M : Mem) : Prop :=
  ∀ M1, M1 = ms M 0 0 (0 : Int32) → P_M_noPlace (fun r2 M2 =>
  (¬ r2 = 0 → (P_M_gauge_32 post x1 x2 x3 x4 x5 M2)) ∧
  (r2 = 0 → (P_M_noPlace (fun r3 M3 =>
  (¬ r3 = 0 → (P_M_gauge_32 post x1 x2 x3 x4 x5 M3)) ∧
  (r3 = 0 → (P_M_in (fun r4 M4 =>
  (¬ r4 = 0 → (P_M_gauge_37 post x1 x2 x3 x4 x5 (0 : Int32) M4)) ∧
  (r4 = 0 → (P_M_gauge_32 post x1 x2 x3 x4 x5 M4))) x5 (0 : Int32) (1200 : Int32) M3))) x3 M2))) x1 M1
theorem k_M_gauge {X : FX} {g : GT} {A : Nat → Prop} {Z : State → Prop} {post : Int32 → Mem → Prop} (C : Cx X g layM A cX12_gauge 6 RX12 2) (hr : 0 ≤ X.2.2.2.1.cells ∧ 0 ≤ X.2.2.2.1.slots) (hR : RetI X g layM A cX12_gauge 6 0 0 Z post) (x1 x2 x3 x4 x5 : Int32) (M : Mem) (h : P_M_gauge post x1 x2 x3 x4 x5 M) : AtX X g layM A 6 0 0 Z 0 [(0, .ref (ad g 0)), (1, .int x1), (2, .int x2), (3, .int x3), (4, .int x4), (5, .int x5)] [] M := by
  refine a_aload_n C (tk T_cX12_gauge 0 rfl) rfl ?_
  refine a_iconst C (0 : Int32) (tk T_cX12_gauge 1 rfl) kI_0 ?_
  refine a_put C f_RX12_3 f_RX12_3p rfl rfl (tk T_cX12_gauge 2 rfl) lm0 rfl ?_
  refine a_mem (fun M1 e_M1 => ?_)
  have h := h M1 e_M1
  refine a_aload_n C (tk T_cX12_gauge 3 rfl) rfl ?_
  refine a_iload_n C (tk T_cX12_gauge 4 rfl) rfl ?_
  refine a_statI C [.int x1] me_yX12_noPlace lk_RX12_76 (ct_M_noPlace h) (by decide) rfl rfl (Nat.le_of_ble_eq_true rfl) (tk T_cX12_gauge 5 rfl) hr (fun r2 M2 h => ?_)
  refine a_if_ne C 32 (tk T_cX12_gauge 6 rfl) rfl (fun c => ?_) (fun c => ?_)
  · have h := h.1 c
    exact a_to (k_M_gauge_32 C hr hR x1 x2 x3 x4 x5 M2 h) rfl
  · have h := h.2 c
    refine a_iload_n C (tk T_cX12_gauge 7 rfl) rfl ?_
    refine a_statI C [.int x3] me_yX12_noPlace lk_RX12_76 (ct_M_noPlace h) (by decide) rfl rfl (Nat.le_of_ble_eq_true rfl) (tk T_cX12_gauge 8 rfl) hr (fun r3 M3 h => ?_)
    refine a_if_ne C 32 (tk T_cX12_gauge 9 rfl) rfl (fun c => ?_) (fun c => ?_)
    · have h := h.1 c
      exact a_to (k_M_gauge_32 C hr hR x1 x2 x3 x4 x5 M3 h) rfl
    · have h := h.2 c
      refine a_iload C (tk T_cX12_gauge 10 rfl) rfl ?_
      refine a_iconst C (0 : Int32) (tk T_cX12_gauge 11 rfl) kI_0 ?_
      refine a_sipush C (1200 : Int32) (tk T_cX12_gauge 12 rfl) kS_1200 ?_
      refine a_statI C [.int x5, .int (0 : Int32), .int (1200 : Int32)] me_yX12_in lk_RX12_58 (ct_M_in h) (by decide) rfl rfl (Nat.le_of_ble_eq_true rfl) (tk T_cX12_gauge 13 rfl) hr (fun r4 M4 h => ?_)
      refine a_if_ne C 36 (tk T_cX12_gauge 14 rfl) rfl (fun c => ?_) (fun c => ?_)
      · have h := h.1 c
        refine a_iconst C (0 : Int32) (tk T_cX12_gauge 17 rfl) kI_0 ?_
        exact a_to (k_M_gauge_37 C hr hR x1 x2 x3 x4 x5 (0 : Int32) M4 h) rfl
      · have h := h.2 c
        exact a_to (k_M_gauge_32 C hr hR x1 x2 x3 x4 x5 M4 h) rfl
theorem ct_M_gauge {l : Launch} {g : GT} {post : Int32 → Mem → Prop} {x1 x2 x3 x4 x5 : Int32} {M : Mem} (h : P_M_gauge post x1 x2 x3 x4 x5 M) : CI l g layM yX12_gauge cX12_gauge 6 (some .int) 2 [.ref (ad g 0), .int x1, .int x2, .int x3, .int x4, .int x5] M post :=
  ci_of (plainFor_of_name (by decide +kernel)) (Nat.le_of_ble_eq_true rfl) (fun X A Z hl C hr hR => by subst hl; exact k_M_gauge C hr hR x1 x2 x3 x4 x5 M h)
def T_cX12_isFitL : List (Nat × Instr × Nat) := [(0, .iconst 1, 1), (1, .istore 4, 2), (3, .iconst 0, 1), (4, .istore 5, 2), (6, .iload 5, 2), (8, .aload_n 0, 1), (9, .getfield 13, 3), (12, .iconst 5, 1), (13, .iaload, 1), (14, .if_icmp .ge 113, 3), (17, .iload 4, 2), (19, .ifCond .eq 108, 3), (22, .bipush 12, 2), (24, .iconst 5, 1), (25, .iload 5, 2), (27, .imul, 1), (28, .iadd, 1), (29, .istore 6, 2), (31, .aload_n 0, 1), (32, .getfield 13, 3), (35, .iload 6, 2), (37, .iaload, 1), (38, .aload_n 0, 1), (39, .getfield 13, 3), (42, .iload 6, 2), (44, .iconst 1, 1), (45, .iadd, 1), (46, .iaload, 1), (47, .aload_n 0, 1), (48, .getfield 13, 3), (51, .iconst 0, 1), (52, .iaload, 1), (53, .iload_n 1, 1), (54, .iload_n 3, 1), (55, .iload_n 2, 1), (56, .invokestatic 68, 3), (59, .aload_n 0, 1), (60, .getfield 13, 3), (63, .iload 6, 2), (65, .iconst 2, 1), (66, .iadd, 1), (67, .iaload, 1), (68, .aload_n 0, 1), (69, .getfield 13, 3), (72, .iload 6, 2), (74, .iconst 3, 1), (75, .iadd, 1), (76, .iaload, 1), (77, .aload_n 0, 1), (78, .getfield 13, 3), (81, .iconst 0, 1), (82, .iaload, 1), (83, .iload_n 1, 1), (84, .iload_n 3, 1), (85, .iload_n 2, 1), (86, .invokestatic 68, 3), (89, .isub, 1), (90, .invokestatic 87, 3), (93, .istore 7, 2), (95, .iload 7, 2), (97, .aload_n 0, 1), (98, .getfield 13, 3), (101, .iload 6, 2), (103, .iconst 4, 1), (104, .iadd, 1), (105, .iaload, 1), (106, .isub, 1), (107, .invokestatic 87, 3), (110, .iconst 1, 1), (111, .if_icmp .gt 7, 3), (114, .iconst 1, 1), (115, .goto 4, 3), (118, .iconst 0, 1), (119, .istore 4, 2), (121, .iinc 5 1, 3), (124, .goto (-118), 3), (127, .iload 4, 2), (129, .ireturn, 1)]
theorem T_cX12_isFit : tabOK cX12_isFit T_cX12_isFitL = true := by decide +kernel
def P_M_isFit_127 (post : Int32 → Mem → Prop) (x4 : Int32) (M : Mem) : Prop :=
  (x4 = 0 ∨ x4 = 1) ∧ post x4 M
theorem k_M_isFit_127 {X : FX} {g : GT} {A : Nat → Prop} {Z : State → Prop} {post : Int32 → Mem → Prop} (C : Cx X g layM A cX12_isFit 8 RX12 2) (hr : 0 ≤ X.2.2.2.1.cells ∧ 0 ≤ X.2.2.2.1.slots) (hR : RetZ X g layM A cX12_isFit 8 0 0 Z post) (x4 : Int32) (M : Mem) (h : P_M_isFit_127 post x4 M) : AtX X g layM A 8 0 0 Z 127 [(4, .int x4)] [] M := by
  refine a_iload C (tk T_cX12_isFit 76 rfl) rfl ?_
  exact hR _ _ _ _ (tk T_cX12_isFit 77 rfl) h
def P_M_isFit_119 (post : Int32 → Mem → Prop) (R6 : Int32 → Int32 → Int32 → Int32 → Int32 → Mem → Prop) (x1 x2 x3 x5 s0 : Int32) (M : Mem) : Prop :=
  R6 x1 x2 x3 s0 (x5 + (1 : Int32)) M
theorem k_M_isFit_119 {X : FX} {g : GT} {A : Nat → Prop} {Z : State → Prop} {post : Int32 → Mem → Prop} {R6 : Int32 → Int32 → Int32 → Int32 → Int32 → Mem → Prop} (C : Cx X g layM A cX12_isFit 8 RX12 2) (hr : 0 ≤ X.2.2.2.1.cells ∧ 0 ≤ X.2.2.2.1.slots) (hR : RetZ X g layM A cX12_isFit 8 0 0 Z post) (k6 : ∀ (y1 y2 y3 y4 y5 : Int32) (M : Mem), R6 y1 y2 y3 y4 y5 M → AtX X g layM A 8 0 0 Z 6 [(0, .ref (ad g 0)), (1, .int y1), (2, .int y2), (3, .int y3), (4, .int y4), (5, .int y5)] [] M) (x1 x2 x3 x5 s0 : Int32) (M : Mem) (h : P_M_isFit_119 post R6 x1 x2 x3 x5 s0 M) : AtX X g layM A 8 0 0 Z 119 [(0, .ref (ad g 0)), (1, .int x1), (2, .int x2), (3, .int x3), (5, .int x5)] [.int s0] M := by
  refine a_istore C (tk T_cX12_isFit 73 rfl) (by decide) rfl ?_
  refine a_iinc C (1 : Int32) (tk T_cX12_isFit 74 rfl) rfl kI_1 (by decide) rfl ?_
  refine a_goto C 6 (tk T_cX12_isFit 75 rfl) rfl ?_
  exact a_to (k6 x1 x2 x3 s0 (x5 + (1 : Int32)) M h) rfl
def P_M_isFit_6 (post : Int32 → Mem → Prop) : Nat → Int32 → Int32 → Int32 → Int32 → Int32 → Mem → Prop
  | 0, _, _, _, _, _, _ => False
  | n + 1, x1, x2, x3, x4, x5, M =>
    vp_in (5 : Int32) 5966 ∧ ((M 1 (5 : Int32).toNatClampNeg) ≤ x5 → (P_M_isFit_127 post x4 M)) ∧
  (¬ (M 1 (5 : Int32).toNatClampNeg) ≤ x5 → ((x4 = 0 → (P_M_isFit_127 post x4 M)) ∧
  (¬ x4 = 0 → (∀ x6_1, x6_1 = ((12 : Int32) + ((5 : Int32) * x5)) → vp_in x6_1 5966 ∧ vp_in (x6_1 + (1 : Int32)) 5966 ∧ vp_in (0 : Int32) 5966 ∧ P_M_turned (fun r2 M2 =>
  vp_in (x6_1 + (2 : Int32)) 5966 ∧ vp_in (x6_1 + (3 : Int32)) 5966 ∧ vp_in (0 : Int32) 5966 ∧ P_M_turned (fun r3 M3 =>
  P_Math_abs (fun r4 M4 =>
  vp_in (x6_1 + (4 : Int32)) 5966 ∧ P_Math_abs (fun r5 M5 =>
  ((1 : Int32) < r5 → (P_M_isFit_119 post (P_M_isFit_6 post n) x1 x2 x3 x5 (0 : Int32) M5)) ∧
  (¬ (1 : Int32) < r5 → (P_M_isFit_119 post (P_M_isFit_6 post n) x1 x2 x3 x5 (1 : Int32) M5))) (r4 - (M4 1 (x6_1 + (4 : Int32)).toNatClampNeg)) M4) (r2 - r3) M3) (M2 1 (x6_1 + (2 : Int32)).toNatClampNeg) (M2 1 (x6_1 + (3 : Int32)).toNatClampNeg) (M2 1 (0 : Int32).toNatClampNeg) x1 x3 x2 M2) (M 1 x6_1.toNatClampNeg) (M 1 (x6_1 + (1 : Int32)).toNatClampNeg) (M 1 (0 : Int32).toNatClampNeg) x1 x3 x2 M))))
theorem k_M_isFit_6 {X : FX} {g : GT} {A : Nat → Prop} {Z : State → Prop} {post : Int32 → Mem → Prop} (C : Cx X g layM A cX12_isFit 8 RX12 2) (hr : 0 ≤ X.2.2.2.1.cells ∧ 0 ≤ X.2.2.2.1.slots) (hR : RetZ X g layM A cX12_isFit 8 0 0 Z post) : ∀ (n : Nat) (x1 x2 x3 x4 x5 : Int32) (M : Mem), P_M_isFit_6 post n x1 x2 x3 x4 x5 M → AtX X g layM A 8 0 0 Z 6 [(0, .ref (ad g 0)), (1, .int x1), (2, .int x2), (3, .int x3), (4, .int x4), (5, .int x5)] [] M := by
  intro n
  induction n with
  | zero =>
    intro x1 x2 x3 x4 x5 M h
    exact h.elim
  | succ n ih =>
    intro x1 x2 x3 x4 x5 M h
    refine a_iload C (tk T_cX12_isFit 4 rfl) rfl ?_
    refine a_aload_n C (tk T_cX12_isFit 5 rfl) rfl ?_
    refine a_getR C f_RX12_13 (tk T_cX12_isFit 6 rfl) lm0 rfl ?_
    refine a_iconst C (5 : Int32) (tk T_cX12_isFit 7 rfl) kI_5 ?_
    obtain ⟨hb, h⟩ := h
    refine a_iald C (tk T_cX12_isFit 8 rfl) lm1 hb ?_
    refine a_icmp_ge C 127 (tk T_cX12_isFit 9 rfl) rfl (fun c => ?_) (fun c => ?_)
    · have h := h.1 c
      exact a_to (k_M_isFit_127 C hr hR x4 M h) rfl
    · have h := h.2 c
      refine a_iload C (tk T_cX12_isFit 10 rfl) rfl ?_
      refine a_if_eq C 127 (tk T_cX12_isFit 11 rfl) rfl (fun c => ?_) (fun c => ?_)
      · have h := h.1 c
        exact a_to (k_M_isFit_127 C hr hR x4 M h) rfl
      · have h := h.2 c
        refine a_bipush C (12 : Int32) (tk T_cX12_isFit 12 rfl) kB_12 ?_
        refine a_iconst C (5 : Int32) (tk T_cX12_isFit 13 rfl) kI_5 ?_
        refine a_iload C (tk T_cX12_isFit 14 rfl) rfl ?_
        refine a_imul C (tk T_cX12_isFit 15 rfl) ?_
        refine a_iadd C (tk T_cX12_isFit 16 rfl) ?_
        refine a_top (fun x6_1 e_x6_1 => ?_)
        have h := h x6_1 e_x6_1
        refine a_istore C (tk T_cX12_isFit 17 rfl) (by decide) rfl ?_
        refine a_aload_n C (tk T_cX12_isFit 18 rfl) rfl ?_
        refine a_getR C f_RX12_13 (tk T_cX12_isFit 19 rfl) lm0 rfl ?_
        refine a_iload C (tk T_cX12_isFit 20 rfl) rfl ?_
        obtain ⟨hb, h⟩ := h
        refine a_iald C (tk T_cX12_isFit 21 rfl) lm1 hb ?_
        refine a_aload_n C (tk T_cX12_isFit 22 rfl) rfl ?_
        refine a_getR C f_RX12_13 (tk T_cX12_isFit 23 rfl) lm0 rfl ?_
        refine a_iload C (tk T_cX12_isFit 24 rfl) rfl ?_
        refine a_iconst C (1 : Int32) (tk T_cX12_isFit 25 rfl) kI_1 ?_
        refine a_iadd C (tk T_cX12_isFit 26 rfl) ?_
        obtain ⟨hb, h⟩ := h
        refine a_iald C (tk T_cX12_isFit 27 rfl) lm1 hb ?_
        refine a_aload_n C (tk T_cX12_isFit 28 rfl) rfl ?_
        refine a_getR C f_RX12_13 (tk T_cX12_isFit 29 rfl) lm0 rfl ?_
        refine a_iconst C (0 : Int32) (tk T_cX12_isFit 30 rfl) kI_0 ?_
        obtain ⟨hb, h⟩ := h
        refine a_iald C (tk T_cX12_isFit 31 rfl) lm1 hb ?_
        refine a_iload_n C (tk T_cX12_isFit 32 rfl) rfl ?_
        refine a_iload_n C (tk T_cX12_isFit 33 rfl) rfl ?_
        refine a_iload_n C (tk T_cX12_isFit 34 rfl) rfl ?_
        refine a_statI C [.int (M 1 x6_1.toNatClampNeg), .int (M 1 (x6_1 + (1 : Int32)).toNatClampNeg), .int (M 1 (0 : Int32).toNatClampNeg), .int x1, .int x3, .int x2] me_yX12_turned lk_RX12_68 (ct_M_turned h) (by decide) rfl rfl (Nat.le_of_ble_eq_true rfl) (tk T_cX12_isFit 35 rfl) hr (fun r2 M2 h => ?_)
        refine a_aload_n C (tk T_cX12_isFit 36 rfl) rfl ?_
        refine a_getR C f_RX12_13 (tk T_cX12_isFit 37 rfl) lm0 rfl ?_
        refine a_iload C (tk T_cX12_isFit 38 rfl) rfl ?_
        refine a_iconst C (2 : Int32) (tk T_cX12_isFit 39 rfl) kI_2 ?_
        refine a_iadd C (tk T_cX12_isFit 40 rfl) ?_
        obtain ⟨hb, h⟩ := h
        refine a_iald C (tk T_cX12_isFit 41 rfl) lm1 hb ?_
        refine a_aload_n C (tk T_cX12_isFit 42 rfl) rfl ?_
        refine a_getR C f_RX12_13 (tk T_cX12_isFit 43 rfl) lm0 rfl ?_
        refine a_iload C (tk T_cX12_isFit 44 rfl) rfl ?_
        refine a_iconst C (3 : Int32) (tk T_cX12_isFit 45 rfl) kI_3 ?_
        refine a_iadd C (tk T_cX12_isFit 46 rfl) ?_
        obtain ⟨hb, h⟩ := h
        refine a_iald C (tk T_cX12_isFit 47 rfl) lm1 hb ?_
        refine a_aload_n C (tk T_cX12_isFit 48 rfl) rfl ?_
        refine a_getR C f_RX12_13 (tk T_cX12_isFit 49 rfl) lm0 rfl ?_
        refine a_iconst C (0 : Int32) (tk T_cX12_isFit 50 rfl) kI_0 ?_
        obtain ⟨hb, h⟩ := h
        refine a_iald C (tk T_cX12_isFit 51 rfl) lm1 hb ?_
        refine a_iload_n C (tk T_cX12_isFit 52 rfl) rfl ?_
        refine a_iload_n C (tk T_cX12_isFit 53 rfl) rfl ?_
        refine a_iload_n C (tk T_cX12_isFit 54 rfl) rfl ?_
        refine a_statI C [.int (M2 1 (x6_1 + (2 : Int32)).toNatClampNeg), .int (M2 1 (x6_1 + (3 : Int32)).toNatClampNeg), .int (M2 1 (0 : Int32).toNatClampNeg), .int x1, .int x3, .int x2] me_yX12_turned lk_RX12_68 (ct_M_turned h) (by decide) rfl rfl (Nat.le_of_ble_eq_true rfl) (tk T_cX12_isFit 55 rfl) hr (fun r3 M3 h => ?_)
        refine a_isub C (tk T_cX12_isFit 56 rfl) ?_
        refine a_statI C [.int (r2 - r3)] me_yJ9_abs_0f7a4 lk_RX12_87 (ct_Math_abs h) (by decide) rfl rfl (Nat.le_of_ble_eq_true rfl) (tk T_cX12_isFit 57 rfl) hr (fun r4 M4 h => ?_)
        refine a_istore C (tk T_cX12_isFit 58 rfl) (by decide) rfl ?_
        refine a_iload C (tk T_cX12_isFit 59 rfl) rfl ?_
        refine a_aload_n C (tk T_cX12_isFit 60 rfl) rfl ?_
        refine a_getR C f_RX12_13 (tk T_cX12_isFit 61 rfl) lm0 rfl ?_
        refine a_iload C (tk T_cX12_isFit 62 rfl) rfl ?_
        refine a_iconst C (4 : Int32) (tk T_cX12_isFit 63 rfl) kI_4 ?_
        refine a_iadd C (tk T_cX12_isFit 64 rfl) ?_
        obtain ⟨hb, h⟩ := h
        refine a_iald C (tk T_cX12_isFit 65 rfl) lm1 hb ?_
        refine a_isub C (tk T_cX12_isFit 66 rfl) ?_
        refine a_statI C [.int (r4 - (M4 1 (x6_1 + (4 : Int32)).toNatClampNeg))] me_yJ9_abs_0f7a4 lk_RX12_87 (ct_Math_abs h) (by decide) rfl rfl (Nat.le_of_ble_eq_true rfl) (tk T_cX12_isFit 67 rfl) hr (fun r5 M5 h => ?_)
        refine a_iconst C (1 : Int32) (tk T_cX12_isFit 68 rfl) kI_1 ?_
        refine a_icmp_gt C 118 (tk T_cX12_isFit 69 rfl) rfl (fun c => ?_) (fun c => ?_)
        · have h := h.1 c
          refine a_iconst C (0 : Int32) (tk T_cX12_isFit 72 rfl) kI_0 ?_
          exact a_to (k_M_isFit_119 C hr hR ih x1 x2 x3 x5 (0 : Int32) M5 h) rfl
        · have h := h.2 c
          refine a_iconst C (1 : Int32) (tk T_cX12_isFit 70 rfl) kI_1 ?_
          refine a_goto C 119 (tk T_cX12_isFit 71 rfl) rfl ?_
          exact a_to (k_M_isFit_119 C hr hR ih x1 x2 x3 x5 (1 : Int32) M5 h) rfl
def P_M_isFit (post : Int32 → Mem → Prop) (x1 x2 x3 : Int32) (M : Mem) : Prop :=
  ∃ j6, P_M_isFit_6 post j6 x1 x2 x3 (1 : Int32) (0 : Int32) M
theorem k_M_isFit {X : FX} {g : GT} {A : Nat → Prop} {Z : State → Prop} {post : Int32 → Mem → Prop} (C : Cx X g layM A cX12_isFit 8 RX12 2) (hr : 0 ≤ X.2.2.2.1.cells ∧ 0 ≤ X.2.2.2.1.slots) (hR : RetZ X g layM A cX12_isFit 8 0 0 Z post) (x1 x2 x3 : Int32) (M : Mem) (h : P_M_isFit post x1 x2 x3 M) : AtX X g layM A 8 0 0 Z 0 [(0, .ref (ad g 0)), (1, .int x1), (2, .int x2), (3, .int x3)] [] M := by
  refine a_iconst C (1 : Int32) (tk T_cX12_isFit 0 rfl) kI_1 ?_
  refine a_istore C (tk T_cX12_isFit 1 rfl) (by decide) rfl ?_
  refine a_iconst C (0 : Int32) (tk T_cX12_isFit 2 rfl) kI_0 ?_
  refine a_istore C (tk T_cX12_isFit 3 rfl) (by decide) rfl ?_
  obtain ⟨n1, h⟩ := h
  exact a_to (k_M_isFit_6 C hr hR n1 x1 x2 x3 (1 : Int32) (0 : Int32) M h) rfl
theorem ct_M_isFit {l : Launch} {g : GT} {post : Int32 → Mem → Prop} {x1 x2 x3 : Int32} {M : Mem} (h : P_M_isFit post x1 x2 x3 M) : CI l g layM yX12_isFit cX12_isFit 8 (some .boolean) 2 [.ref (ad g 0), .int x1, .int x2, .int x3] M post :=
  cz_of (plainFor_of_name (by decide +kernel)) (Nat.le_of_ble_eq_true rfl) (fun X A Z hl C hr hR => by subst hl; exact k_M_isFit C hr hR x1 x2 x3 M h)
def T_cX12_fitAtL : List (Nat × Instr × Nat) := [(0, .iconst 0, 1), (1, .istore_n 2, 1), (2, .iconst 0, 1), (3, .istore_n 3, 1), (4, .iload_n 3, 1), (5, .bipush 10, 2), (7, .if_icmp .ge 91, 3), (10, .iconst 0, 1), (11, .istore 4, 2), (13, .iload 4, 2), (15, .bipush 10, 2), (17, .if_icmp .ge 75, 3), (20, .iconst 0, 1), (21, .istore 5, 2), (23, .iload 5, 2), (25, .iload_n 3, 1), (26, .ifCond .ne 7, 3), (29, .iconst 1, 1), (30, .goto 9, 3), (33, .aload_n 0, 1), (34, .getfield 13, 3), (37, .iconst 0, 1), (38, .iaload, 1), (39, .if_icmp .ge 47, 3), (42, .aload_n 0, 1), (43, .iload_n 3, 1), (44, .iload 4, 2), (46, .iload 5, 2), (48, .invokevirtual 91, 3), (51, .ifCond .ne 6, 3), (54, .goto 26, 3), (57, .iload_n 2, 1), (58, .iload_n 1, 1), (59, .if_icmp .ne 18, 3), (62, .sipush 1000, 3), (65, .iload_n 3, 1), (66, .imul, 1), (67, .bipush 100, 2), (69, .iload 4, 2), (71, .imul, 1), (72, .iadd, 1), (73, .iload 5, 2), (75, .iadd, 1), (76, .ireturn, 1), (77, .iinc 2 1, 3), (80, .iinc 5 1, 3), (83, .goto (-60), 3), (86, .iinc 4 1, 3), (89, .goto (-76), 3), (92, .iinc 3 1, 3), (95, .goto (-91), 3), (98, .iload_n 1, 1), (99, .ifCond .ge 7, 3), (102, .iload_n 2, 1), (103, .goto 4, 3), (106, .iconst (-1), 1), (107, .ireturn, 1)]
theorem T_cX12_fitAt : tabOK cX12_fitAt T_cX12_fitAtL = true := by decide +kernel
def P_M_fitAt_107 (post : Int32 → Mem → Prop) (s0 : Int32) (M : Mem) : Prop :=
  post s0 M
theorem k_M_fitAt_107 {X : FX} {g : GT} {A : Nat → Prop} {Z : State → Prop} {post : Int32 → Mem → Prop} (C : Cx X g layM A cX12_fitAt 6 RX12 3) (hr : 0 ≤ X.2.2.2.1.cells ∧ 0 ≤ X.2.2.2.1.slots) (hR : RetI X g layM A cX12_fitAt 6 0 0 Z post) (s0 : Int32) (M : Mem) (h : P_M_fitAt_107 post s0 M) : AtX X g layM A 6 0 0 Z 107 [] [.int s0] M := by
  exact hR _ _ _ _ (tk T_cX12_fitAt 56 rfl) h
def P_M_fitAt_80 (post : Int32 → Mem → Prop) (R4 : Int32 → Int32 → Int32 → Mem → Prop) (R13 : Int32 → Int32 → Int32 → Int32 → Mem → Prop) (R23 : Int32 → Int32 → Int32 → Int32 → Int32 → Mem → Prop) (x1 x2 x3 x4 x5 : Int32) (M : Mem) : Prop :=
  R23 x1 x2 x3 x4 (x5 + (1 : Int32)) M
theorem k_M_fitAt_80 {X : FX} {g : GT} {A : Nat → Prop} {Z : State → Prop} {post : Int32 → Mem → Prop} {R4 : Int32 → Int32 → Int32 → Mem → Prop} {R13 : Int32 → Int32 → Int32 → Int32 → Mem → Prop} {R23 : Int32 → Int32 → Int32 → Int32 → Int32 → Mem → Prop} (C : Cx X g layM A cX12_fitAt 6 RX12 3) (hr : 0 ≤ X.2.2.2.1.cells ∧ 0 ≤ X.2.2.2.1.slots) (hR : RetI X g layM A cX12_fitAt 6 0 0 Z post) (k4 : ∀ (y1 y2 y3 : Int32) (M : Mem), R4 y1 y2 y3 M → AtX X g layM A 6 0 0 Z 4 [(0, .ref (ad g 0)), (1, .int y1), (2, .int y2), (3, .int y3)] [] M) (k13 : ∀ (y1 y2 y3 y4 : Int32) (M : Mem), R13 y1 y2 y3 y4 M → AtX X g layM A 6 0 0 Z 13 [(0, .ref (ad g 0)), (1, .int y1), (2, .int y2), (3, .int y3), (4, .int y4)] [] M) (k23 : ∀ (y1 y2 y3 y4 y5 : Int32) (M : Mem), R23 y1 y2 y3 y4 y5 M → AtX X g layM A 6 0 0 Z 23 [(0, .ref (ad g 0)), (1, .int y1), (2, .int y2), (3, .int y3), (4, .int y4), (5, .int y5)] [] M) (x1 x2 x3 x4 x5 : Int32) (M : Mem) (h : P_M_fitAt_80 post R4 R13 R23 x1 x2 x3 x4 x5 M) : AtX X g layM A 6 0 0 Z 80 [(0, .ref (ad g 0)), (1, .int x1), (2, .int x2), (3, .int x3), (4, .int x4), (5, .int x5)] [] M := by
  refine a_iinc C (1 : Int32) (tk T_cX12_fitAt 45 rfl) rfl kI_1 (by decide) rfl ?_
  refine a_goto C 23 (tk T_cX12_fitAt 46 rfl) rfl ?_
  exact a_to (k23 x1 x2 x3 x4 (x5 + (1 : Int32)) M h) rfl
def P_M_fitAt_39 (post : Int32 → Mem → Prop) (R4 : Int32 → Int32 → Int32 → Mem → Prop) (R13 : Int32 → Int32 → Int32 → Int32 → Mem → Prop) (R23 : Int32 → Int32 → Int32 → Int32 → Int32 → Mem → Prop) (x1 x2 x3 x4 x5 s0 s1 : Int32) (M : Mem) : Prop :=
  (s1 ≤ s0 → (R13 x1 x2 x3 (x4 + (1 : Int32)) M)) ∧
  (¬ s1 ≤ s0 → (P_M_isFit (fun r1 M1 =>
  (¬ r1 = 0 → ((¬ x2 = x1 → (P_M_fitAt_80 post R4 R13 R23 x1 (x2 + (1 : Int32)) x3 x4 x5 M1)) ∧
  (x2 = x1 → (post ((((1000 : Int32) * x3) + ((100 : Int32) * x4)) + x5) M1)))) ∧
  (r1 = 0 → (P_M_fitAt_80 post R4 R13 R23 x1 x2 x3 x4 x5 M1))) x3 x4 x5 M))
theorem k_M_fitAt_39 {X : FX} {g : GT} {A : Nat → Prop} {Z : State → Prop} {post : Int32 → Mem → Prop} {R4 : Int32 → Int32 → Int32 → Mem → Prop} {R13 : Int32 → Int32 → Int32 → Int32 → Mem → Prop} {R23 : Int32 → Int32 → Int32 → Int32 → Int32 → Mem → Prop} (C : Cx X g layM A cX12_fitAt 6 RX12 3) (hr : 0 ≤ X.2.2.2.1.cells ∧ 0 ≤ X.2.2.2.1.slots) (hR : RetI X g layM A cX12_fitAt 6 0 0 Z post) (k4 : ∀ (y1 y2 y3 : Int32) (M : Mem), R4 y1 y2 y3 M → AtX X g layM A 6 0 0 Z 4 [(0, .ref (ad g 0)), (1, .int y1), (2, .int y2), (3, .int y3)] [] M) (k13 : ∀ (y1 y2 y3 y4 : Int32) (M : Mem), R13 y1 y2 y3 y4 M → AtX X g layM A 6 0 0 Z 13 [(0, .ref (ad g 0)), (1, .int y1), (2, .int y2), (3, .int y3), (4, .int y4)] [] M) (k23 : ∀ (y1 y2 y3 y4 y5 : Int32) (M : Mem), R23 y1 y2 y3 y4 y5 M → AtX X g layM A 6 0 0 Z 23 [(0, .ref (ad g 0)), (1, .int y1), (2, .int y2), (3, .int y3), (4, .int y4), (5, .int y5)] [] M) (x1 x2 x3 x4 x5 s0 s1 : Int32) (M : Mem) (h : P_M_fitAt_39 post R4 R13 R23 x1 x2 x3 x4 x5 s0 s1 M) : AtX X g layM A 6 0 0 Z 39 [(0, .ref (ad g 0)), (1, .int x1), (2, .int x2), (3, .int x3), (4, .int x4), (5, .int x5)] [.int s1, .int s0] M := by
  refine a_icmp_ge C 86 (tk T_cX12_fitAt 23 rfl) rfl (fun c => ?_) (fun c => ?_)
  · have h := h.1 c
    refine a_iinc C (1 : Int32) (tk T_cX12_fitAt 47 rfl) rfl kI_1 (by decide) rfl ?_
    refine a_goto C 13 (tk T_cX12_fitAt 48 rfl) rfl ?_
    exact a_to (k13 x1 x2 x3 (x4 + (1 : Int32)) M h) rfl
  · have h := h.2 c
    refine a_aload_n C (tk T_cX12_fitAt 24 rfl) rfl ?_
    refine a_iload_n C (tk T_cX12_fitAt 25 rfl) rfl ?_
    refine a_iload C (tk T_cX12_fitAt 26 rfl) rfl ?_
    refine a_iload C (tk T_cX12_fitAt 27 rfl) rfl ?_
    refine a_callI C [.int x3, .int x4, .int x5] me_yX12_isFit lk_RX12_91 (ct_M_isFit h) (by decide) lm0 rfl rfl rfl (Nat.le_of_ble_eq_true rfl) (tk T_cX12_fitAt 28 rfl) hr (fun r1 M1 h => ?_)
    refine a_if_ne C 57 (tk T_cX12_fitAt 29 rfl) rfl (fun c => ?_) (fun c => ?_)
    · have h := h.1 c
      refine a_iload_n C (tk T_cX12_fitAt 31 rfl) rfl ?_
      refine a_iload_n C (tk T_cX12_fitAt 32 rfl) rfl ?_
      refine a_icmp_ne C 77 (tk T_cX12_fitAt 33 rfl) rfl (fun c => ?_) (fun c => ?_)
      · have h := h.1 c
        refine a_iinc C (1 : Int32) (tk T_cX12_fitAt 44 rfl) rfl kI_1 (by decide) rfl ?_
        exact a_to (k_M_fitAt_80 C hr hR k4 k13 k23 x1 (x2 + (1 : Int32)) x3 x4 x5 M1 h) rfl
      · have h := h.2 c
        refine a_sipush C (1000 : Int32) (tk T_cX12_fitAt 34 rfl) kS_1000 ?_
        refine a_iload_n C (tk T_cX12_fitAt 35 rfl) rfl ?_
        refine a_imul C (tk T_cX12_fitAt 36 rfl) ?_
        refine a_bipush C (100 : Int32) (tk T_cX12_fitAt 37 rfl) kB_100 ?_
        refine a_iload C (tk T_cX12_fitAt 38 rfl) rfl ?_
        refine a_imul C (tk T_cX12_fitAt 39 rfl) ?_
        refine a_iadd C (tk T_cX12_fitAt 40 rfl) ?_
        refine a_iload C (tk T_cX12_fitAt 41 rfl) rfl ?_
        refine a_iadd C (tk T_cX12_fitAt 42 rfl) ?_
        exact hR _ _ _ _ (tk T_cX12_fitAt 43 rfl) h
    · have h := h.2 c
      refine a_goto C 80 (tk T_cX12_fitAt 30 rfl) rfl ?_
      exact a_to (k_M_fitAt_80 C hr hR k4 k13 k23 x1 x2 x3 x4 x5 M1 h) rfl
def P_M_fitAt_23 (post : Int32 → Mem → Prop) (R4 : Int32 → Int32 → Int32 → Mem → Prop) (R13 : Int32 → Int32 → Int32 → Int32 → Mem → Prop) : Nat → Int32 → Int32 → Int32 → Int32 → Int32 → Mem → Prop
  | 0, _, _, _, _, _, _ => False
  | n + 1, x1, x2, x3, x4, x5, M =>
    (¬ x3 = 0 → (vp_in (0 : Int32) 5966 ∧ P_M_fitAt_39 post R4 R13 (P_M_fitAt_23 post R4 R13 n) x1 x2 x3 x4 x5 x5 (M 1 (0 : Int32).toNatClampNeg) M)) ∧
  (x3 = 0 → (P_M_fitAt_39 post R4 R13 (P_M_fitAt_23 post R4 R13 n) x1 x2 x3 x4 x5 x5 (1 : Int32) M))
theorem k_M_fitAt_23 {X : FX} {g : GT} {A : Nat → Prop} {Z : State → Prop} {post : Int32 → Mem → Prop} {R4 : Int32 → Int32 → Int32 → Mem → Prop} {R13 : Int32 → Int32 → Int32 → Int32 → Mem → Prop} (C : Cx X g layM A cX12_fitAt 6 RX12 3) (hr : 0 ≤ X.2.2.2.1.cells ∧ 0 ≤ X.2.2.2.1.slots) (hR : RetI X g layM A cX12_fitAt 6 0 0 Z post) (k4 : ∀ (y1 y2 y3 : Int32) (M : Mem), R4 y1 y2 y3 M → AtX X g layM A 6 0 0 Z 4 [(0, .ref (ad g 0)), (1, .int y1), (2, .int y2), (3, .int y3)] [] M) (k13 : ∀ (y1 y2 y3 y4 : Int32) (M : Mem), R13 y1 y2 y3 y4 M → AtX X g layM A 6 0 0 Z 13 [(0, .ref (ad g 0)), (1, .int y1), (2, .int y2), (3, .int y3), (4, .int y4)] [] M) : ∀ (n : Nat) (x1 x2 x3 x4 x5 : Int32) (M : Mem), P_M_fitAt_23 post R4 R13 n x1 x2 x3 x4 x5 M → AtX X g layM A 6 0 0 Z 23 [(0, .ref (ad g 0)), (1, .int x1), (2, .int x2), (3, .int x3), (4, .int x4), (5, .int x5)] [] M := by
  intro n
  induction n with
  | zero =>
    intro x1 x2 x3 x4 x5 M h
    exact h.elim
  | succ n ih =>
    intro x1 x2 x3 x4 x5 M h
    refine a_iload C (tk T_cX12_fitAt 14 rfl) rfl ?_
    refine a_iload_n C (tk T_cX12_fitAt 15 rfl) rfl ?_
    refine a_if_ne C 33 (tk T_cX12_fitAt 16 rfl) rfl (fun c => ?_) (fun c => ?_)
    · have h := h.1 c
      refine a_aload_n C (tk T_cX12_fitAt 19 rfl) rfl ?_
      refine a_getR C f_RX12_13 (tk T_cX12_fitAt 20 rfl) lm0 rfl ?_
      refine a_iconst C (0 : Int32) (tk T_cX12_fitAt 21 rfl) kI_0 ?_
      obtain ⟨hb, h⟩ := h
      refine a_iald C (tk T_cX12_fitAt 22 rfl) lm1 hb ?_
      exact a_to (k_M_fitAt_39 C hr hR k4 k13 ih x1 x2 x3 x4 x5 x5 (M 1 (0 : Int32).toNatClampNeg) M h) rfl
    · have h := h.2 c
      refine a_iconst C (1 : Int32) (tk T_cX12_fitAt 17 rfl) kI_1 ?_
      refine a_goto C 39 (tk T_cX12_fitAt 18 rfl) rfl ?_
      exact a_to (k_M_fitAt_39 C hr hR k4 k13 ih x1 x2 x3 x4 x5 x5 (1 : Int32) M h) rfl
def P_M_fitAt_13 (post : Int32 → Mem → Prop) (R4 : Int32 → Int32 → Int32 → Mem → Prop) : Nat → Int32 → Int32 → Int32 → Int32 → Mem → Prop
  | 0, _, _, _, _, _ => False
  | n + 1, x1, x2, x3, x4, M =>
    ((10 : Int32) ≤ x4 → (R4 x1 x2 (x3 + (1 : Int32)) M)) ∧
  (¬ (10 : Int32) ≤ x4 → (∃ j23, P_M_fitAt_23 post R4 (P_M_fitAt_13 post R4 n) j23 x1 x2 x3 x4 (0 : Int32) M))
theorem k_M_fitAt_13 {X : FX} {g : GT} {A : Nat → Prop} {Z : State → Prop} {post : Int32 → Mem → Prop} {R4 : Int32 → Int32 → Int32 → Mem → Prop} (C : Cx X g layM A cX12_fitAt 6 RX12 3) (hr : 0 ≤ X.2.2.2.1.cells ∧ 0 ≤ X.2.2.2.1.slots) (hR : RetI X g layM A cX12_fitAt 6 0 0 Z post) (k4 : ∀ (y1 y2 y3 : Int32) (M : Mem), R4 y1 y2 y3 M → AtX X g layM A 6 0 0 Z 4 [(0, .ref (ad g 0)), (1, .int y1), (2, .int y2), (3, .int y3)] [] M) : ∀ (n : Nat) (x1 x2 x3 x4 : Int32) (M : Mem), P_M_fitAt_13 post R4 n x1 x2 x3 x4 M → AtX X g layM A 6 0 0 Z 13 [(0, .ref (ad g 0)), (1, .int x1), (2, .int x2), (3, .int x3), (4, .int x4)] [] M := by
  intro n
  induction n with
  | zero =>
    intro x1 x2 x3 x4 M h
    exact h.elim
  | succ n ih =>
    intro x1 x2 x3 x4 M h
    refine a_iload C (tk T_cX12_fitAt 9 rfl) rfl ?_
    refine a_bipush C (10 : Int32) (tk T_cX12_fitAt 10 rfl) kB_10 ?_
    refine a_icmp_ge C 92 (tk T_cX12_fitAt 11 rfl) rfl (fun c => ?_) (fun c => ?_)
    · have h := h.1 c
      refine a_iinc C (1 : Int32) (tk T_cX12_fitAt 49 rfl) rfl kI_1 (by decide) rfl ?_
      refine a_goto C 4 (tk T_cX12_fitAt 50 rfl) rfl ?_
      exact a_to (k4 x1 x2 (x3 + (1 : Int32)) M h) rfl
    · have h := h.2 c
      refine a_iconst C (0 : Int32) (tk T_cX12_fitAt 12 rfl) kI_0 ?_
      refine a_istore C (tk T_cX12_fitAt 13 rfl) (by decide) rfl ?_
      obtain ⟨n1, h⟩ := h
      exact a_to (k_M_fitAt_23 C hr hR k4 ih n1 x1 x2 x3 x4 (0 : Int32) M h) rfl
def P_M_fitAt_4 (post : Int32 → Mem → Prop) : Nat → Int32 → Int32 → Int32 → Mem → Prop
  | 0, _, _, _, _ => False
  | n + 1, x1, x2, x3, M =>
    ((10 : Int32) ≤ x3 → ((0 ≤ x1 → (P_M_fitAt_107 post (-1 : Int32) M)) ∧
  (¬ 0 ≤ x1 → (P_M_fitAt_107 post x2 M)))) ∧
  (¬ (10 : Int32) ≤ x3 → (∃ j13, P_M_fitAt_13 post (P_M_fitAt_4 post n) j13 x1 x2 x3 (0 : Int32) M))
theorem k_M_fitAt_4 {X : FX} {g : GT} {A : Nat → Prop} {Z : State → Prop} {post : Int32 → Mem → Prop} (C : Cx X g layM A cX12_fitAt 6 RX12 3) (hr : 0 ≤ X.2.2.2.1.cells ∧ 0 ≤ X.2.2.2.1.slots) (hR : RetI X g layM A cX12_fitAt 6 0 0 Z post) : ∀ (n : Nat) (x1 x2 x3 : Int32) (M : Mem), P_M_fitAt_4 post n x1 x2 x3 M → AtX X g layM A 6 0 0 Z 4 [(0, .ref (ad g 0)), (1, .int x1), (2, .int x2), (3, .int x3)] [] M := by
  intro n
  induction n with
  | zero =>
    intro x1 x2 x3 M h
    exact h.elim
  | succ n ih =>
    intro x1 x2 x3 M h
    refine a_iload_n C (tk T_cX12_fitAt 4 rfl) rfl ?_
    refine a_bipush C (10 : Int32) (tk T_cX12_fitAt 5 rfl) kB_10 ?_
    refine a_icmp_ge C 98 (tk T_cX12_fitAt 6 rfl) rfl (fun c => ?_) (fun c => ?_)
    · have h := h.1 c
      refine a_iload_n C (tk T_cX12_fitAt 51 rfl) rfl ?_
      refine a_if_ge C 106 (tk T_cX12_fitAt 52 rfl) rfl (fun c => ?_) (fun c => ?_)
      · have h := h.1 c
        refine a_iconst C (-1 : Int32) (tk T_cX12_fitAt 55 rfl) kI_m1 ?_
        exact a_to (k_M_fitAt_107 C hr hR (-1 : Int32) M h) rfl
      · have h := h.2 c
        refine a_iload_n C (tk T_cX12_fitAt 53 rfl) rfl ?_
        refine a_goto C 107 (tk T_cX12_fitAt 54 rfl) rfl ?_
        exact a_to (k_M_fitAt_107 C hr hR x2 M h) rfl
    · have h := h.2 c
      refine a_iconst C (0 : Int32) (tk T_cX12_fitAt 7 rfl) kI_0 ?_
      refine a_istore C (tk T_cX12_fitAt 8 rfl) (by decide) rfl ?_
      obtain ⟨n1, h⟩ := h
      exact a_to (k_M_fitAt_13 C hr hR ih n1 x1 x2 x3 (0 : Int32) M h) rfl
def P_M_fitAt (post : Int32 → Mem → Prop) (x1 : Int32) (M : Mem) : Prop :=
  ∃ j4, P_M_fitAt_4 post j4 x1 (0 : Int32) (0 : Int32) M
theorem k_M_fitAt {X : FX} {g : GT} {A : Nat → Prop} {Z : State → Prop} {post : Int32 → Mem → Prop} (C : Cx X g layM A cX12_fitAt 6 RX12 3) (hr : 0 ≤ X.2.2.2.1.cells ∧ 0 ≤ X.2.2.2.1.slots) (hR : RetI X g layM A cX12_fitAt 6 0 0 Z post) (x1 : Int32) (M : Mem) (h : P_M_fitAt post x1 M) : AtX X g layM A 6 0 0 Z 0 [(0, .ref (ad g 0)), (1, .int x1)] [] M := by
  refine a_iconst C (0 : Int32) (tk T_cX12_fitAt 0 rfl) kI_0 ?_
  refine a_istore_n C (tk T_cX12_fitAt 1 rfl) (by decide) rfl ?_
  refine a_iconst C (0 : Int32) (tk T_cX12_fitAt 2 rfl) kI_0 ?_
  refine a_istore_n C (tk T_cX12_fitAt 3 rfl) (by decide) rfl ?_
  obtain ⟨n1, h⟩ := h
  exact a_to (k_M_fitAt_4 C hr hR n1 x1 (0 : Int32) (0 : Int32) M h) rfl
theorem ct_M_fitAt {l : Launch} {g : GT} {post : Int32 → Mem → Prop} {x1 : Int32} {M : Mem} (h : P_M_fitAt post x1 M) : CI l g layM yX12_fitAt cX12_fitAt 6 (some .int) 3 [.ref (ad g 0), .int x1] M post :=
  ci_of (plainFor_of_name (by decide +kernel)) (Nat.le_of_ble_eq_true rfl) (fun X A Z hl C hr hR => by subst hl; exact k_M_fitAt C hr hR x1 M h)
def T_cX12_fitsL : List (Nat × Instr × Nat) := [(0, .aload_n 0, 1), (1, .iconst 0, 1), (2, .putfield 3, 3), (5, .aload_n 0, 1), (6, .iconst (-1), 1), (7, .invokevirtual 94, 3), (10, .ireturn, 1)]
theorem T_cX12_fits : tabOK cX12_fits T_cX12_fitsL = true := by decide +kernel
def P_M_fits (post : Int32 → Mem → Prop) (M : Mem) : Prop :=
  ∀ M1, M1 = ms M 0 0 (0 : Int32) → P_M_fitAt (fun r2 M2 =>
  post r2 M2) (-1 : Int32) M1
theorem k_M_fits {X : FX} {g : GT} {A : Nat → Prop} {Z : State → Prop} {post : Int32 → Mem → Prop} (C : Cx X g layM A cX12_fits 1 RX12 4) (hr : 0 ≤ X.2.2.2.1.cells ∧ 0 ≤ X.2.2.2.1.slots) (hR : RetI X g layM A cX12_fits 1 0 0 Z post) (M : Mem) (h : P_M_fits post M) : AtX X g layM A 1 0 0 Z 0 [(0, .ref (ad g 0))] [] M := by
  refine a_aload_n C (tk T_cX12_fits 0 rfl) rfl ?_
  refine a_iconst C (0 : Int32) (tk T_cX12_fits 1 rfl) kI_0 ?_
  refine a_put C f_RX12_3 f_RX12_3p rfl rfl (tk T_cX12_fits 2 rfl) lm0 rfl ?_
  refine a_mem (fun M1 e_M1 => ?_)
  have h := h M1 e_M1
  refine a_aload_n C (tk T_cX12_fits 3 rfl) rfl ?_
  refine a_iconst C (-1 : Int32) (tk T_cX12_fits 4 rfl) kI_m1 ?_
  refine a_callI C [.int (-1 : Int32)] me_yX12_fitAt lk_RX12_94 (ct_M_fitAt h) (by decide) lm0 rfl rfl rfl (Nat.le_of_ble_eq_true rfl) (tk T_cX12_fits 5 rfl) hr (fun r2 M2 h => ?_)
  exact hR _ _ _ _ (tk T_cX12_fits 6 rfl) h
theorem ct_M_fits {l : Launch} {g : GT} {post : Int32 → Mem → Prop} {M : Mem} (h : P_M_fits post M) : CI l g layM yX12_fits cX12_fits 1 (some .int) 4 [.ref (ad g 0)] M post :=
  ci_of (plainFor_of_name (by decide +kernel)) (Nat.le_of_ble_eq_true rfl) (fun X A Z hl C hr hR => by subst hl; exact k_M_fits C hr hR  M h)
def T_cX12_fitL : List (Nat × Instr × Nat) := [(0, .aload_n 0, 1), (1, .iconst 0, 1), (2, .putfield 3, 3), (5, .iload_n 1, 1), (6, .ifCond .ge 7, 3), (9, .iconst (-1), 1), (10, .goto 8, 3), (13, .aload_n 0, 1), (14, .iload_n 1, 1), (15, .invokevirtual 94, 3), (18, .ireturn, 1)]
theorem T_cX12_fit : tabOK cX12_fit T_cX12_fitL = true := by decide +kernel
def P_M_fit_18 (post : Int32 → Mem → Prop) (s0 : Int32) (M : Mem) : Prop :=
  post s0 M
theorem k_M_fit_18 {X : FX} {g : GT} {A : Nat → Prop} {Z : State → Prop} {post : Int32 → Mem → Prop} (C : Cx X g layM A cX12_fit 2 RX12 4) (hr : 0 ≤ X.2.2.2.1.cells ∧ 0 ≤ X.2.2.2.1.slots) (hR : RetI X g layM A cX12_fit 2 0 0 Z post) (s0 : Int32) (M : Mem) (h : P_M_fit_18 post s0 M) : AtX X g layM A 2 0 0 Z 18 [] [.int s0] M := by
  exact hR _ _ _ _ (tk T_cX12_fit 10 rfl) h
def P_M_fit (post : Int32 → Mem → Prop) (x1 : Int32) (M : Mem) : Prop :=
  ∀ M1, M1 = ms M 0 0 (0 : Int32) → (0 ≤ x1 → (P_M_fitAt (fun r2 M2 =>
  P_M_fit_18 post r2 M2) x1 M1)) ∧
  (¬ 0 ≤ x1 → (P_M_fit_18 post (-1 : Int32) M1))
theorem k_M_fit {X : FX} {g : GT} {A : Nat → Prop} {Z : State → Prop} {post : Int32 → Mem → Prop} (C : Cx X g layM A cX12_fit 2 RX12 4) (hr : 0 ≤ X.2.2.2.1.cells ∧ 0 ≤ X.2.2.2.1.slots) (hR : RetI X g layM A cX12_fit 2 0 0 Z post) (x1 : Int32) (M : Mem) (h : P_M_fit post x1 M) : AtX X g layM A 2 0 0 Z 0 [(0, .ref (ad g 0)), (1, .int x1)] [] M := by
  refine a_aload_n C (tk T_cX12_fit 0 rfl) rfl ?_
  refine a_iconst C (0 : Int32) (tk T_cX12_fit 1 rfl) kI_0 ?_
  refine a_put C f_RX12_3 f_RX12_3p rfl rfl (tk T_cX12_fit 2 rfl) lm0 rfl ?_
  refine a_mem (fun M1 e_M1 => ?_)
  have h := h M1 e_M1
  refine a_iload_n C (tk T_cX12_fit 3 rfl) rfl ?_
  refine a_if_ge C 13 (tk T_cX12_fit 4 rfl) rfl (fun c => ?_) (fun c => ?_)
  · have h := h.1 c
    refine a_aload_n C (tk T_cX12_fit 7 rfl) rfl ?_
    refine a_iload_n C (tk T_cX12_fit 8 rfl) rfl ?_
    refine a_callI C [.int x1] me_yX12_fitAt lk_RX12_94 (ct_M_fitAt h) (by decide) lm0 rfl rfl rfl (Nat.le_of_ble_eq_true rfl) (tk T_cX12_fit 9 rfl) hr (fun r2 M2 h => ?_)
    exact a_to (k_M_fit_18 C hr hR r2 M2 h) rfl
  · have h := h.2 c
    refine a_iconst C (-1 : Int32) (tk T_cX12_fit 5 rfl) kI_m1 ?_
    refine a_goto C 18 (tk T_cX12_fit 6 rfl) rfl ?_
    exact a_to (k_M_fit_18 C hr hR (-1 : Int32) M1 h) rfl
theorem ct_M_fit {l : Launch} {g : GT} {post : Int32 → Mem → Prop} {x1 : Int32} {M : Mem} (h : P_M_fit post x1 M) : CI l g layM yX12_fit cX12_fit 2 (some .int) 4 [.ref (ad g 0), .int x1] M post :=
  ci_of (plainFor_of_name (by decide +kernel)) (Nat.le_of_ble_eq_true rfl) (fun X A Z hl C hr hR => by subst hl; exact k_M_fit C hr hR x1 M h)
def T_cX12_errorL : List (Nat × Instr × Nat) := [(0, .aload_n 0, 1), (1, .iconst 0, 1), (2, .putfield 3, 3), (5, .aload_n 0, 1), (6, .iload_n 1, 1), (7, .iconst 0, 1), (8, .bipush 50, 2), (10, .invokestatic 58, 3), (13, .ifCond .ne 7, 3), (16, .iconst 1, 1), (17, .goto 4, 3), (20, .iconst 0, 1), (21, .iconst 1, 1), (22, .invokevirtual 72, 3), (25, .ifCond .eq 4, 3), (28, .return_, 1), (29, .aload_n 0, 1), (30, .getfield 13, 3), (33, .iconst 4, 1), (34, .iload_n 1, 1), (35, .iastore, 1), (36, .return_, 1)]
theorem T_cX12_error : tabOK cX12_error T_cX12_errorL = true := by decide +kernel
def P_M_error_21 (post : Mem → Prop) (x1 s1 : Int32) (M : Mem) : Prop :=
  P_M_throwsIf (fun r1 M1 =>
  (r1 = 0 → (vp_in (4 : Int32) 5966 ∧ ∀ M2, M2 = ms M1 1 (4 : Int32).toNatClampNeg x1 → post M2)) ∧
  (¬ r1 = 0 → (post M1))) s1 (1 : Int32) M
theorem k_M_error_21 {X : FX} {g : GT} {A : Nat → Prop} {Z : State → Prop} {post : Mem → Prop} (C : Cx X g layM A cX12_error 2 RX12 1) (hr : 0 ≤ X.2.2.2.1.cells ∧ 0 ≤ X.2.2.2.1.slots) (hR : RetV X g layM A cX12_error 2 0 0 Z post) (x1 s1 : Int32) (M : Mem) (h : P_M_error_21 post x1 s1 M) : AtX X g layM A 2 0 0 Z 21 [(0, .ref (ad g 0)), (1, .int x1)] [.int s1, .ref (ad g 0)] M := by
  refine a_iconst C (1 : Int32) (tk T_cX12_error 12 rfl) kI_1 ?_
  refine a_callI C [.int s1, .int (1 : Int32)] me_yX12_throwsIf lk_RX12_72 (ct_M_throwsIf h) (by decide) lm0 rfl rfl rfl (Nat.le_of_ble_eq_true rfl) (tk T_cX12_error 13 rfl) hr (fun r1 M1 h => ?_)
  refine a_if_eq C 29 (tk T_cX12_error 14 rfl) rfl (fun c => ?_) (fun c => ?_)
  · have h := h.1 c
    refine a_aload_n C (tk T_cX12_error 16 rfl) rfl ?_
    refine a_getR C f_RX12_13 (tk T_cX12_error 17 rfl) lm0 rfl ?_
    refine a_iconst C (4 : Int32) (tk T_cX12_error 18 rfl) kI_4 ?_
    refine a_iload_n C (tk T_cX12_error 19 rfl) rfl ?_
    obtain ⟨hb, h⟩ := h
    refine a_iast C (tk T_cX12_error 20 rfl) lm1 hb ?_
    refine a_mem (fun M2 e_M2 => ?_)
    have h := h M2 e_M2
    exact hR _ _ _ (tk T_cX12_error 21 rfl) h
  · have h := h.2 c
    exact hR _ _ _ (tk T_cX12_error 15 rfl) h
def P_M_error (post : Mem → Prop) (x1 : Int32) (M : Mem) : Prop :=
  ∀ M1, M1 = ms M 0 0 (0 : Int32) → P_M_in (fun r2 M2 =>
  (¬ r2 = 0 → (P_M_error_21 post x1 (0 : Int32) M2)) ∧
  (r2 = 0 → (P_M_error_21 post x1 (1 : Int32) M2))) x1 (0 : Int32) (50 : Int32) M1
theorem k_M_error {X : FX} {g : GT} {A : Nat → Prop} {Z : State → Prop} {post : Mem → Prop} (C : Cx X g layM A cX12_error 2 RX12 1) (hr : 0 ≤ X.2.2.2.1.cells ∧ 0 ≤ X.2.2.2.1.slots) (hR : RetV X g layM A cX12_error 2 0 0 Z post) (x1 : Int32) (M : Mem) (h : P_M_error post x1 M) : AtX X g layM A 2 0 0 Z 0 [(0, .ref (ad g 0)), (1, .int x1)] [] M := by
  refine a_aload_n C (tk T_cX12_error 0 rfl) rfl ?_
  refine a_iconst C (0 : Int32) (tk T_cX12_error 1 rfl) kI_0 ?_
  refine a_put C f_RX12_3 f_RX12_3p rfl rfl (tk T_cX12_error 2 rfl) lm0 rfl ?_
  refine a_mem (fun M1 e_M1 => ?_)
  have h := h M1 e_M1
  refine a_aload_n C (tk T_cX12_error 3 rfl) rfl ?_
  refine a_iload_n C (tk T_cX12_error 4 rfl) rfl ?_
  refine a_iconst C (0 : Int32) (tk T_cX12_error 5 rfl) kI_0 ?_
  refine a_bipush C (50 : Int32) (tk T_cX12_error 6 rfl) kB_50 ?_
  refine a_statI C [.int x1, .int (0 : Int32), .int (50 : Int32)] me_yX12_in lk_RX12_58 (ct_M_in h) (by decide) rfl rfl (Nat.le_of_ble_eq_true rfl) (tk T_cX12_error 7 rfl) hr (fun r2 M2 h => ?_)
  refine a_if_ne C 20 (tk T_cX12_error 8 rfl) rfl (fun c => ?_) (fun c => ?_)
  · have h := h.1 c
    refine a_iconst C (0 : Int32) (tk T_cX12_error 11 rfl) kI_0 ?_
    exact a_to (k_M_error_21 C hr hR x1 (0 : Int32) M2 h) rfl
  · have h := h.2 c
    refine a_iconst C (1 : Int32) (tk T_cX12_error 9 rfl) kI_1 ?_
    refine a_goto C 21 (tk T_cX12_error 10 rfl) rfl ?_
    exact a_to (k_M_error_21 C hr hR x1 (1 : Int32) M2 h) rfl
theorem ct_M_error {l : Launch} {g : GT} {post : Mem → Prop} {x1 : Int32} {M : Mem} (h : P_M_error post x1 M) : CV l g layM yX12_error cX12_error 2 none 1 [.ref (ad g 0), .int x1] M post :=
  cv_of (plainFor_of_name (by decide +kernel)) (Nat.le_of_ble_eq_true rfl) (fun X A Z hl C hr hR => by subst hl; exact k_M_error C hr hR x1 M h)
def T_cX12_noWaveL : List (Nat × Instr × Nat) := [(0, .iload_n 0, 1), (1, .sipush 1000, 3), (4, .sipush 9999, 3), (7, .invokestatic 58, 3), (10, .ifCond .ne 7, 3), (13, .iconst 1, 1), (14, .goto 4, 3), (17, .iconst 0, 1), (18, .ireturn, 1)]
theorem T_cX12_noWave : tabOK cX12_noWave T_cX12_noWaveL = true := by decide +kernel
def P_M_noWave_18 (post : Int32 → Mem → Prop) (s0 : Int32) (M : Mem) : Prop :=
  (s0 = 0 ∨ s0 = 1) ∧ post s0 M
theorem k_M_noWave_18 {X : FX} {g : GT} {A : Nat → Prop} {Z : State → Prop} {post : Int32 → Mem → Prop} (C : Cx X g layM A cX12_noWave 1 RX12 1) (hr : 0 ≤ X.2.2.2.1.cells ∧ 0 ≤ X.2.2.2.1.slots) (hR : RetZ X g layM A cX12_noWave 1 0 0 Z post) (s0 : Int32) (M : Mem) (h : P_M_noWave_18 post s0 M) : AtX X g layM A 1 0 0 Z 18 [] [.int s0] M := by
  exact hR _ _ _ _ (tk T_cX12_noWave 8 rfl) h
def P_M_noWave (post : Int32 → Mem → Prop) (x0 : Int32) (M : Mem) : Prop :=
  P_M_in (fun r1 M1 =>
  (¬ r1 = 0 → (P_M_noWave_18 post (0 : Int32) M1)) ∧
  (r1 = 0 → (P_M_noWave_18 post (1 : Int32) M1))) x0 (1000 : Int32) (9999 : Int32) M
theorem k_M_noWave {X : FX} {g : GT} {A : Nat → Prop} {Z : State → Prop} {post : Int32 → Mem → Prop} (C : Cx X g layM A cX12_noWave 1 RX12 1) (hr : 0 ≤ X.2.2.2.1.cells ∧ 0 ≤ X.2.2.2.1.slots) (hR : RetZ X g layM A cX12_noWave 1 0 0 Z post) (x0 : Int32) (M : Mem) (h : P_M_noWave post x0 M) : AtX X g layM A 1 0 0 Z 0 [(0, .int x0)] [] M := by
  refine a_iload_n C (tk T_cX12_noWave 0 rfl) rfl ?_
  refine a_sipush C (1000 : Int32) (tk T_cX12_noWave 1 rfl) kS_1000 ?_
  refine a_sipush C (9999 : Int32) (tk T_cX12_noWave 2 rfl) kS_9999 ?_
  refine a_statI C [.int x0, .int (1000 : Int32), .int (9999 : Int32)] me_yX12_in lk_RX12_58 (ct_M_in h) (by decide) rfl rfl (Nat.le_of_ble_eq_true rfl) (tk T_cX12_noWave 3 rfl) hr (fun r1 M1 h => ?_)
  refine a_if_ne C 17 (tk T_cX12_noWave 4 rfl) rfl (fun c => ?_) (fun c => ?_)
  · have h := h.1 c
    refine a_iconst C (0 : Int32) (tk T_cX12_noWave 7 rfl) kI_0 ?_
    exact a_to (k_M_noWave_18 C hr hR (0 : Int32) M1 h) rfl
  · have h := h.2 c
    refine a_iconst C (1 : Int32) (tk T_cX12_noWave 5 rfl) kI_1 ?_
    refine a_goto C 18 (tk T_cX12_noWave 6 rfl) rfl ?_
    exact a_to (k_M_noWave_18 C hr hR (1 : Int32) M1 h) rfl
theorem ct_M_noWave {l : Launch} {g : GT} {post : Int32 → Mem → Prop} {x0 : Int32} {M : Mem} (h : P_M_noWave post x0 M) : CI l g layM yX12_noWave cX12_noWave 1 (some .boolean) 1 [.int x0] M post :=
  cz_of (plainFor_of_name (by decide +kernel)) (Nat.le_of_ble_eq_true rfl) (fun X A Z hl C hr hR => by subst hl; exact k_M_noWave C hr hR x0 M h)
def T_cX12_knownL : List (Nat × Instr × Nat) := [(0, .aload_n 0, 1), (1, .iconst 0, 1), (2, .putfield 3, 3), (5, .aload_n 0, 1), (6, .iload_n 1, 1), (7, .invokestatic 76, 3), (10, .ifCond .ne 10, 3), (13, .iload_n 3, 1), (14, .invokestatic 97, 3), (17, .ifCond .eq 7, 3), (20, .iconst 1, 1), (21, .goto 4, 3), (24, .iconst 0, 1), (25, .iconst 1, 1), (26, .invokevirtual 72, 3), (29, .ifCond .ne 28, 3), (32, .aload_n 0, 1), (33, .aload_n 0, 1), (34, .getfield 13, 3), (37, .bipush 6, 2), (39, .iaload, 1), (40, .bipush 10, 2), (42, .if_icmp .ne 7, 3), (45, .iconst 1, 1), (46, .goto 4, 3), (49, .iconst 0, 1), (50, .iconst 2, 1), (51, .invokevirtual 72, 3), (54, .ifCond .eq 5, 3), (57, .iconst 0, 1), (58, .ireturn, 1), (59, .aload_n 0, 1), (60, .bipush 6, 2), (62, .bipush 52, 2), (64, .iconst 4, 1), (65, .iload_n 1, 1), (66, .iload_n 2, 1), (67, .ifCond .eq 7, 3), (70, .iconst 1, 1), (71, .goto 4, 3), (74, .iconst 0, 1), (75, .iload_n 3, 1), (76, .iload 4, 2), (78, .ifCond .eq 7, 3), (81, .iconst 1, 1), (82, .goto 4, 3), (85, .iconst 0, 1), (86, .iconst 0, 1), (87, .invokevirtual 83, 3), (90, .iconst 1, 1), (91, .iadd, 1), (92, .ireturn, 1)]
theorem T_cX12_known : tabOK cX12_known T_cX12_knownL = true := by decide +kernel
def P_M_known_86 (post : Int32 → Mem → Prop) (s1 s2 s3 s4 s5 s6 s7 : Int32) (M : Mem) : Prop :=
  P_M_puts (fun r1 M1 =>
  post (r1 + (1 : Int32)) M1) s1 s2 s3 s4 s5 s6 s7 (0 : Int32) M
theorem k_M_known_86 {X : FX} {g : GT} {A : Nat → Prop} {Z : State → Prop} {post : Int32 → Mem → Prop} (C : Cx X g layM A cX12_known 5 RX12 2) (hr : 0 ≤ X.2.2.2.1.cells ∧ 0 ≤ X.2.2.2.1.slots) (hR : RetI X g layM A cX12_known 5 0 0 Z post) (s1 s2 s3 s4 s5 s6 s7 : Int32) (M : Mem) (h : P_M_known_86 post s1 s2 s3 s4 s5 s6 s7 M) : AtX X g layM A 5 0 0 Z 86 [] [.int s7, .int s6, .int s5, .int s4, .int s3, .int s2, .int s1, .ref (ad g 0)] M := by
  refine a_iconst C (0 : Int32) (tk T_cX12_known 47 rfl) kI_0 ?_
  refine a_callI C [.int s1, .int s2, .int s3, .int s4, .int s5, .int s6, .int s7, .int (0 : Int32)] me_yX12_puts lk_RX12_83 (ct_M_puts h) (by decide) lm0 rfl rfl rfl (Nat.le_of_ble_eq_true rfl) (tk T_cX12_known 48 rfl) hr (fun r1 M1 h => ?_)
  refine a_iconst C (1 : Int32) (tk T_cX12_known 49 rfl) kI_1 ?_
  refine a_iadd C (tk T_cX12_known 50 rfl) ?_
  exact hR _ _ _ _ (tk T_cX12_known 51 rfl) h
def P_M_known_75 (post : Int32 → Mem → Prop) (x3 x4 s1 s2 s3 s4 s5 : Int32) (M : Mem) : Prop :=
  (x4 = 0 → (P_M_known_86 post s1 s2 s3 s4 s5 x3 (0 : Int32) M)) ∧
  (¬ x4 = 0 → (P_M_known_86 post s1 s2 s3 s4 s5 x3 (1 : Int32) M))
theorem k_M_known_75 {X : FX} {g : GT} {A : Nat → Prop} {Z : State → Prop} {post : Int32 → Mem → Prop} (C : Cx X g layM A cX12_known 5 RX12 2) (hr : 0 ≤ X.2.2.2.1.cells ∧ 0 ≤ X.2.2.2.1.slots) (hR : RetI X g layM A cX12_known 5 0 0 Z post) (x3 x4 s1 s2 s3 s4 s5 : Int32) (M : Mem) (h : P_M_known_75 post x3 x4 s1 s2 s3 s4 s5 M) : AtX X g layM A 5 0 0 Z 75 [(3, .int x3), (4, .int x4)] [.int s5, .int s4, .int s3, .int s2, .int s1, .ref (ad g 0)] M := by
  refine a_iload_n C (tk T_cX12_known 41 rfl) rfl ?_
  refine a_iload C (tk T_cX12_known 42 rfl) rfl ?_
  refine a_if_eq C 85 (tk T_cX12_known 43 rfl) rfl (fun c => ?_) (fun c => ?_)
  · have h := h.1 c
    refine a_iconst C (0 : Int32) (tk T_cX12_known 46 rfl) kI_0 ?_
    exact a_to (k_M_known_86 C hr hR s1 s2 s3 s4 s5 x3 (0 : Int32) M h) rfl
  · have h := h.2 c
    refine a_iconst C (1 : Int32) (tk T_cX12_known 44 rfl) kI_1 ?_
    refine a_goto C 86 (tk T_cX12_known 45 rfl) rfl ?_
    exact a_to (k_M_known_86 C hr hR s1 s2 s3 s4 s5 x3 (1 : Int32) M h) rfl
def P_M_known_57 (post : Int32 → Mem → Prop) (M : Mem) : Prop :=
  post (0 : Int32) M
theorem k_M_known_57 {X : FX} {g : GT} {A : Nat → Prop} {Z : State → Prop} {post : Int32 → Mem → Prop} (C : Cx X g layM A cX12_known 5 RX12 2) (hr : 0 ≤ X.2.2.2.1.cells ∧ 0 ≤ X.2.2.2.1.slots) (hR : RetI X g layM A cX12_known 5 0 0 Z post)  (M : Mem) (h : P_M_known_57 post M) : AtX X g layM A 5 0 0 Z 57 [] [] M := by
  refine a_iconst C (0 : Int32) (tk T_cX12_known 29 rfl) kI_0 ?_
  exact hR _ _ _ _ (tk T_cX12_known 30 rfl) h
def P_M_known_50 (post : Int32 → Mem → Prop) (x1 x2 x3 x4 s1 : Int32) (M : Mem) : Prop :=
  P_M_throwsIf (fun r1 M1 =>
  (r1 = 0 → ((x2 = 0 → (P_M_known_75 post x3 x4 (6 : Int32) (52 : Int32) (4 : Int32) x1 (0 : Int32) M1)) ∧
  (¬ x2 = 0 → (P_M_known_75 post x3 x4 (6 : Int32) (52 : Int32) (4 : Int32) x1 (1 : Int32) M1)))) ∧
  (¬ r1 = 0 → (P_M_known_57 post M1))) s1 (2 : Int32) M
theorem k_M_known_50 {X : FX} {g : GT} {A : Nat → Prop} {Z : State → Prop} {post : Int32 → Mem → Prop} (C : Cx X g layM A cX12_known 5 RX12 2) (hr : 0 ≤ X.2.2.2.1.cells ∧ 0 ≤ X.2.2.2.1.slots) (hR : RetI X g layM A cX12_known 5 0 0 Z post) (x1 x2 x3 x4 s1 : Int32) (M : Mem) (h : P_M_known_50 post x1 x2 x3 x4 s1 M) : AtX X g layM A 5 0 0 Z 50 [(0, .ref (ad g 0)), (1, .int x1), (2, .int x2), (3, .int x3), (4, .int x4)] [.int s1, .ref (ad g 0)] M := by
  refine a_iconst C (2 : Int32) (tk T_cX12_known 26 rfl) kI_2 ?_
  refine a_callI C [.int s1, .int (2 : Int32)] me_yX12_throwsIf lk_RX12_72 (ct_M_throwsIf h) (by decide) lm0 rfl rfl rfl (Nat.le_of_ble_eq_true rfl) (tk T_cX12_known 27 rfl) hr (fun r1 M1 h => ?_)
  refine a_if_eq C 59 (tk T_cX12_known 28 rfl) rfl (fun c => ?_) (fun c => ?_)
  · have h := h.1 c
    refine a_aload_n C (tk T_cX12_known 31 rfl) rfl ?_
    refine a_bipush C (6 : Int32) (tk T_cX12_known 32 rfl) kB_6 ?_
    refine a_bipush C (52 : Int32) (tk T_cX12_known 33 rfl) kB_52 ?_
    refine a_iconst C (4 : Int32) (tk T_cX12_known 34 rfl) kI_4 ?_
    refine a_iload_n C (tk T_cX12_known 35 rfl) rfl ?_
    refine a_iload_n C (tk T_cX12_known 36 rfl) rfl ?_
    refine a_if_eq C 74 (tk T_cX12_known 37 rfl) rfl (fun c => ?_) (fun c => ?_)
    · have h := h.1 c
      refine a_iconst C (0 : Int32) (tk T_cX12_known 40 rfl) kI_0 ?_
      exact a_to (k_M_known_75 C hr hR x3 x4 (6 : Int32) (52 : Int32) (4 : Int32) x1 (0 : Int32) M1 h) rfl
    · have h := h.2 c
      refine a_iconst C (1 : Int32) (tk T_cX12_known 38 rfl) kI_1 ?_
      refine a_goto C 75 (tk T_cX12_known 39 rfl) rfl ?_
      exact a_to (k_M_known_75 C hr hR x3 x4 (6 : Int32) (52 : Int32) (4 : Int32) x1 (1 : Int32) M1 h) rfl
  · have h := h.2 c
    exact a_to (k_M_known_57 C hr hR M1 h) rfl
def P_M_known_25 (post : Int32 → Mem → Prop) (x1 x2 x3 x4 s1 : Int32) (M : Mem) : Prop :=
  P_M_throwsIf (fun r1 M1 =>
  (¬ r1 = 0 → (P_M_known_57 post M1)) ∧
  (r1 = 0 → (vp_in (6 : Int32) 5966 ∧ (¬ (M1 1 (6 : Int32).toNatClampNeg) = (10 : Int32) → (P_M_known_50 post x1 x2 x3 x4 (0 : Int32) M1)) ∧
  ((M1 1 (6 : Int32).toNatClampNeg) = (10 : Int32) → (P_M_known_50 post x1 x2 x3 x4 (1 : Int32) M1))))) s1 (1 : Int32) M
theorem k_M_known_25 {X : FX} {g : GT} {A : Nat → Prop} {Z : State → Prop} {post : Int32 → Mem → Prop} (C : Cx X g layM A cX12_known 5 RX12 2) (hr : 0 ≤ X.2.2.2.1.cells ∧ 0 ≤ X.2.2.2.1.slots) (hR : RetI X g layM A cX12_known 5 0 0 Z post) (x1 x2 x3 x4 s1 : Int32) (M : Mem) (h : P_M_known_25 post x1 x2 x3 x4 s1 M) : AtX X g layM A 5 0 0 Z 25 [(0, .ref (ad g 0)), (1, .int x1), (2, .int x2), (3, .int x3), (4, .int x4)] [.int s1, .ref (ad g 0)] M := by
  refine a_iconst C (1 : Int32) (tk T_cX12_known 13 rfl) kI_1 ?_
  refine a_callI C [.int s1, .int (1 : Int32)] me_yX12_throwsIf lk_RX12_72 (ct_M_throwsIf h) (by decide) lm0 rfl rfl rfl (Nat.le_of_ble_eq_true rfl) (tk T_cX12_known 14 rfl) hr (fun r1 M1 h => ?_)
  refine a_if_ne C 57 (tk T_cX12_known 15 rfl) rfl (fun c => ?_) (fun c => ?_)
  · have h := h.1 c
    exact a_to (k_M_known_57 C hr hR M1 h) rfl
  · have h := h.2 c
    refine a_aload_n C (tk T_cX12_known 16 rfl) rfl ?_
    refine a_aload_n C (tk T_cX12_known 17 rfl) rfl ?_
    refine a_getR C f_RX12_13 (tk T_cX12_known 18 rfl) lm0 rfl ?_
    refine a_bipush C (6 : Int32) (tk T_cX12_known 19 rfl) kB_6 ?_
    obtain ⟨hb, h⟩ := h
    refine a_iald C (tk T_cX12_known 20 rfl) lm1 hb ?_
    refine a_bipush C (10 : Int32) (tk T_cX12_known 21 rfl) kB_10 ?_
    refine a_icmp_ne C 49 (tk T_cX12_known 22 rfl) rfl (fun c => ?_) (fun c => ?_)
    · have h := h.1 c
      refine a_iconst C (0 : Int32) (tk T_cX12_known 25 rfl) kI_0 ?_
      exact a_to (k_M_known_50 C hr hR x1 x2 x3 x4 (0 : Int32) M1 h) rfl
    · have h := h.2 c
      refine a_iconst C (1 : Int32) (tk T_cX12_known 23 rfl) kI_1 ?_
      refine a_goto C 50 (tk T_cX12_known 24 rfl) rfl ?_
      exact a_to (k_M_known_50 C hr hR x1 x2 x3 x4 (1 : Int32) M1 h) rfl
def P_M_known_20 (post : Int32 → Mem → Prop) (x1 x2 x3 x4 : Int32) (M : Mem) : Prop :=
  P_M_known_25 post x1 x2 x3 x4 (1 : Int32) M
theorem k_M_known_20 {X : FX} {g : GT} {A : Nat → Prop} {Z : State → Prop} {post : Int32 → Mem → Prop} (C : Cx X g layM A cX12_known 5 RX12 2) (hr : 0 ≤ X.2.2.2.1.cells ∧ 0 ≤ X.2.2.2.1.slots) (hR : RetI X g layM A cX12_known 5 0 0 Z post) (x1 x2 x3 x4 : Int32) (M : Mem) (h : P_M_known_20 post x1 x2 x3 x4 M) : AtX X g layM A 5 0 0 Z 20 [(0, .ref (ad g 0)), (1, .int x1), (2, .int x2), (3, .int x3), (4, .int x4)] [.ref (ad g 0)] M := by
  refine a_iconst C (1 : Int32) (tk T_cX12_known 10 rfl) kI_1 ?_
  refine a_goto C 25 (tk T_cX12_known 11 rfl) rfl ?_
  exact a_to (k_M_known_25 C hr hR x1 x2 x3 x4 (1 : Int32) M h) rfl
def P_M_known (post : Int32 → Mem → Prop) (x1 x2 x3 x4 : Int32) (M : Mem) : Prop :=
  ∀ M1, M1 = ms M 0 0 (0 : Int32) → P_M_noPlace (fun r2 M2 =>
  (¬ r2 = 0 → (P_M_known_20 post x1 x2 x3 x4 M2)) ∧
  (r2 = 0 → (P_M_noWave (fun r3 M3 =>
  (r3 = 0 → (P_M_known_25 post x1 x2 x3 x4 (0 : Int32) M3)) ∧
  (¬ r3 = 0 → (P_M_known_20 post x1 x2 x3 x4 M3))) x3 M2))) x1 M1
theorem k_M_known {X : FX} {g : GT} {A : Nat → Prop} {Z : State → Prop} {post : Int32 → Mem → Prop} (C : Cx X g layM A cX12_known 5 RX12 2) (hr : 0 ≤ X.2.2.2.1.cells ∧ 0 ≤ X.2.2.2.1.slots) (hR : RetI X g layM A cX12_known 5 0 0 Z post) (x1 x2 x3 x4 : Int32) (M : Mem) (h : P_M_known post x1 x2 x3 x4 M) : AtX X g layM A 5 0 0 Z 0 [(0, .ref (ad g 0)), (1, .int x1), (2, .int x2), (3, .int x3), (4, .int x4)] [] M := by
  refine a_aload_n C (tk T_cX12_known 0 rfl) rfl ?_
  refine a_iconst C (0 : Int32) (tk T_cX12_known 1 rfl) kI_0 ?_
  refine a_put C f_RX12_3 f_RX12_3p rfl rfl (tk T_cX12_known 2 rfl) lm0 rfl ?_
  refine a_mem (fun M1 e_M1 => ?_)
  have h := h M1 e_M1
  refine a_aload_n C (tk T_cX12_known 3 rfl) rfl ?_
  refine a_iload_n C (tk T_cX12_known 4 rfl) rfl ?_
  refine a_statI C [.int x1] me_yX12_noPlace lk_RX12_76 (ct_M_noPlace h) (by decide) rfl rfl (Nat.le_of_ble_eq_true rfl) (tk T_cX12_known 5 rfl) hr (fun r2 M2 h => ?_)
  refine a_if_ne C 20 (tk T_cX12_known 6 rfl) rfl (fun c => ?_) (fun c => ?_)
  · have h := h.1 c
    exact a_to (k_M_known_20 C hr hR x1 x2 x3 x4 M2 h) rfl
  · have h := h.2 c
    refine a_iload_n C (tk T_cX12_known 7 rfl) rfl ?_
    refine a_statI C [.int x3] me_yX12_noWave lk_RX12_97 (ct_M_noWave h) (by decide) rfl rfl (Nat.le_of_ble_eq_true rfl) (tk T_cX12_known 8 rfl) hr (fun r3 M3 h => ?_)
    refine a_if_eq C 24 (tk T_cX12_known 9 rfl) rfl (fun c => ?_) (fun c => ?_)
    · have h := h.1 c
      refine a_iconst C (0 : Int32) (tk T_cX12_known 12 rfl) kI_0 ?_
      exact a_to (k_M_known_25 C hr hR x1 x2 x3 x4 (0 : Int32) M3 h) rfl
    · have h := h.2 c
      exact a_to (k_M_known_20 C hr hR x1 x2 x3 x4 M3 h) rfl
theorem ct_M_known {l : Launch} {g : GT} {post : Int32 → Mem → Prop} {x1 x2 x3 x4 : Int32} {M : Mem} (h : P_M_known post x1 x2 x3 x4 M) : CI l g layM yX12_known cX12_known 5 (some .int) 2 [.ref (ad g 0), .int x1, .int x2, .int x3, .int x4] M post :=
  ci_of (plainFor_of_name (by decide +kernel)) (Nat.le_of_ble_eq_true rfl) (fun X A Z hl C hr hR => by subst hl; exact k_M_known C hr hR x1 x2 x3 x4 M h)
def T_cX12_aboveL : List (Nat × Instr × Nat) := [(0, .sipush 1000, 3), (3, .iload_n 0, 1), (4, .bipush 19, 2), (6, .idiv, 1), (7, .iconst 1, 1), (8, .iadd, 1), (9, .imul, 1), (10, .iload_n 1, 1), (11, .imul, 1), (12, .iload_n 0, 1), (13, .bipush 19, 2), (15, .irem, 1), (16, .bipush 9, 2), (18, .isub, 1), (19, .iload_n 1, 1), (20, .imul, 1), (21, .iload_n 1, 1), (22, .imul, 1), (23, .iadd, 1), (24, .sipush 10000, 3), (27, .invokestatic 100, 3), (30, .ireturn, 1)]
theorem T_cX12_above : tabOK cX12_above T_cX12_aboveL = true := by decide +kernel
def P_M_above (post : Int32 → Mem → Prop) (x0 x1 : Int32) (M : Mem) : Prop :=
  ∀ v1, v1 = (((1000 : Int32) * ((x0 / (19 : Int32)) + (1 : Int32))) * x1) → P_Math_floorDiv (fun r2 M2 =>
  post r2 M2) (v1 + ((((irm x0 (19 : Int32)) - (9 : Int32)) * x1) * x1)) (10000 : Int32) M
theorem k_M_above {X : FX} {g : GT} {A : Nat → Prop} {Z : State → Prop} {post : Int32 → Mem → Prop} (C : Cx X g layM A cX12_above 2 RX12 1) (hr : 0 ≤ X.2.2.2.1.cells ∧ 0 ≤ X.2.2.2.1.slots) (hR : RetI X g layM A cX12_above 2 0 0 Z post) (x0 x1 : Int32) (M : Mem) (h : P_M_above post x0 x1 M) : AtX X g layM A 2 0 0 Z 0 [(0, .int x0), (1, .int x1)] [] M := by
  refine a_sipush C (1000 : Int32) (tk T_cX12_above 0 rfl) kS_1000 ?_
  refine a_iload_n C (tk T_cX12_above 1 rfl) rfl ?_
  refine a_bipush C (19 : Int32) (tk T_cX12_above 2 rfl) kB_19 ?_
  refine a_idiv C (tk T_cX12_above 3 rfl) (by decide) ?_
  refine a_iconst C (1 : Int32) (tk T_cX12_above 4 rfl) kI_1 ?_
  refine a_iadd C (tk T_cX12_above 5 rfl) ?_
  refine a_imul C (tk T_cX12_above 6 rfl) ?_
  refine a_iload_n C (tk T_cX12_above 7 rfl) rfl ?_
  refine a_imul C (tk T_cX12_above 8 rfl) ?_
  refine a_top (fun v1 e_v1 => ?_)
  have h := h v1 e_v1
  refine a_iload_n C (tk T_cX12_above 9 rfl) rfl ?_
  refine a_bipush C (19 : Int32) (tk T_cX12_above 10 rfl) kB_19 ?_
  refine a_irem C (tk T_cX12_above 11 rfl) (by decide) ?_
  refine a_bipush C (9 : Int32) (tk T_cX12_above 12 rfl) kB_9 ?_
  refine a_isub C (tk T_cX12_above 13 rfl) ?_
  refine a_iload_n C (tk T_cX12_above 14 rfl) rfl ?_
  refine a_imul C (tk T_cX12_above 15 rfl) ?_
  refine a_iload_n C (tk T_cX12_above 16 rfl) rfl ?_
  refine a_imul C (tk T_cX12_above 17 rfl) ?_
  refine a_iadd C (tk T_cX12_above 18 rfl) ?_
  refine a_sipush C (10000 : Int32) (tk T_cX12_above 19 rfl) kS_10000 ?_
  refine a_statI C [.int (v1 + ((((irm x0 (19 : Int32)) - (9 : Int32)) * x1) * x1)), .int (10000 : Int32)] me_yJ9_floorDiv_7cf53 lk_RX12_100 (ct_Math_floorDiv h) (by decide) rfl rfl (Nat.le_of_ble_eq_true rfl) (tk T_cX12_above 20 rfl) hr (fun r2 M2 h => ?_)
  exact hR _ _ _ _ (tk T_cX12_above 21 rfl) h
theorem ct_M_above {l : Launch} {g : GT} {post : Int32 → Mem → Prop} {x0 x1 : Int32} {M : Mem} (h : P_M_above post x0 x1 M) : CI l g layM yX12_above cX12_above 2 (some .int) 1 [.int x0, .int x1] M post :=
  ci_of (plainFor_of_name (by decide +kernel)) (Nat.le_of_ble_eq_true rfl) (fun X A Z hl C hr hR => by subst hl; exact k_M_above C hr hR x0 x1 M h)
def T_cX12_laysL : List (Nat × Instr × Nat) := [(0, .iconst 0, 1), (1, .istore_n 2, 1), (2, .iconst 0, 1), (3, .istore_n 3, 1), (4, .iload_n 3, 1), (5, .sipush 1710, 3), (8, .if_icmp .ge 164, 3), (11, .iconst 0, 1), (12, .istore 4, 2), (14, .sipush 9999, 3), (17, .istore 5, 2), (19, .iconst 0, 1), (20, .istore 6, 2), (22, .iload 6, 2), (24, .aload_n 0, 1), (25, .getfield 13, 3), (28, .bipush 6, 2), (30, .iaload, 1), (31, .if_icmp .ge 105, 3), (34, .bipush 52, 2), (36, .iconst 4, 1), (37, .iload 6, 2), (39, .imul, 1), (40, .iadd, 1), (41, .istore 7, 2), (43, .aload_n 0, 1), (44, .getfield 13, 3), (47, .iload 7, 2), (49, .iconst 2, 1), (50, .iadd, 1), (51, .iaload, 1), (52, .iload_n 3, 1), (53, .aload_n 0, 1), (54, .aload_n 0, 1), (55, .getfield 13, 3), (58, .iload 7, 2), (60, .iaload, 1), (61, .aload_n 0, 1), (62, .getfield 13, 3), (65, .iload 7, 2), (67, .iconst 1, 1), (68, .iadd, 1), (69, .iaload, 1), (70, .invokevirtual 80, 3), (73, .aload_n 0, 1), (74, .getfield 13, 3), (77, .iload 7, 2), (79, .iconst 3, 1), (80, .iadd, 1), (81, .iaload, 1), (82, .iconst 1, 1), (83, .if_icmp .ne 7, 3), (86, .iload_n 1, 1), (87, .goto 4, 3), (90, .iconst 0, 1), (91, .iadd, 1), (92, .invokestatic 103, 3), (95, .isub, 1), (96, .istore 8, 2), (98, .iload 4, 2), (100, .iload 8, 2), (102, .aload_n 0, 1), (103, .getfield 13, 3), (106, .iconst 4, 1), (107, .iaload, 1), (108, .isub, 1), (109, .invokestatic 106, 3), (112, .istore 4, 2), (114, .iload 5, 2), (116, .iload 8, 2), (118, .aload_n 0, 1), (119, .getfield 13, 3), (122, .iconst 4, 1), (123, .iaload, 1), (124, .iadd, 1), (125, .invokestatic 109, 3), (128, .istore 5, 2), (130, .iinc 6 1, 3), (133, .goto (-111), 3), (136, .aload_n 0, 1), (137, .getfield 20, 3), (140, .iload_n 3, 1), (141, .iload 4, 2), (143, .iastore, 1), (144, .aload_n 0, 1), (145, .getfield 23, 3), (148, .iload_n 3, 1), (149, .iload 5, 2), (151, .iastore, 1), (152, .iload_n 2, 1), (153, .iconst 0, 1), (154, .iload 5, 2), (156, .iload 4, 2), (158, .isub, 1), (159, .iconst 1, 1), (160, .iadd, 1), (161, .invokestatic 106, 3), (164, .iadd, 1), (165, .istore_n 2, 1), (166, .iinc 3 1, 3), (169, .goto (-165), 3), (172, .iload_n 2, 1), (173, .ireturn, 1)]
theorem T_cX12_lays : tabOK cX12_lays T_cX12_laysL = true := by decide +kernel
def P_M_lays_91 (post : Int32 → Mem → Prop) (R4 : Int32 → Int32 → Int32 → Mem → Prop) (R22 : Int32 → Int32 → Int32 → Int32 → Int32 → Int32 → Mem → Prop) (x1 x2 x3 x4 x5 x6 s0 s1 s2 s3 : Int32) (M : Mem) : Prop :=
  P_M_above (fun r1 M1 =>
  ∀ x8_2, x8_2 = (s0 - r1) → vp_in (4 : Int32) 5966 ∧ P_Math_max (fun r3 M3 =>
  vp_in (4 : Int32) 5966 ∧ P_Math_min (fun r4 M4 =>
  R22 x1 x2 x3 r3 r4 (x6 + (1 : Int32)) M4) x5 (x8_2 + (M3 1 (4 : Int32).toNatClampNeg)) M3) x4 (x8_2 - (M1 1 (4 : Int32).toNatClampNeg)) M1) s1 (s2 + s3) M
theorem k_M_lays_91 {X : FX} {g : GT} {A : Nat → Prop} {Z : State → Prop} {post : Int32 → Mem → Prop} {R4 : Int32 → Int32 → Int32 → Mem → Prop} {R22 : Int32 → Int32 → Int32 → Int32 → Int32 → Int32 → Mem → Prop} (C : Cx X g layM A cX12_lays 9 RX12 3) (hr : 0 ≤ X.2.2.2.1.cells ∧ 0 ≤ X.2.2.2.1.slots) (hR : RetI X g layM A cX12_lays 9 0 0 Z post) (k4 : ∀ (y1 y2 y3 : Int32) (M : Mem), R4 y1 y2 y3 M → AtX X g layM A 9 0 0 Z 4 [(0, .ref (ad g 0)), (1, .int y1), (2, .int y2), (3, .int y3)] [] M) (k22 : ∀ (y1 y2 y3 y4 y5 y6 : Int32) (M : Mem), R22 y1 y2 y3 y4 y5 y6 M → AtX X g layM A 9 0 0 Z 22 [(0, .ref (ad g 0)), (1, .int y1), (2, .int y2), (3, .int y3), (4, .int y4), (5, .int y5), (6, .int y6)] [] M) (x1 x2 x3 x4 x5 x6 s0 s1 s2 s3 : Int32) (M : Mem) (h : P_M_lays_91 post R4 R22 x1 x2 x3 x4 x5 x6 s0 s1 s2 s3 M) : AtX X g layM A 9 0 0 Z 91 [(0, .ref (ad g 0)), (1, .int x1), (2, .int x2), (3, .int x3), (4, .int x4), (5, .int x5), (6, .int x6)] [.int s3, .int s2, .int s1, .int s0] M := by
  refine a_iadd C (tk T_cX12_lays 55 rfl) ?_
  refine a_statI C [.int s1, .int (s2 + s3)] me_yX12_above lk_RX12_103 (ct_M_above h) (by decide) rfl rfl (Nat.le_of_ble_eq_true rfl) (tk T_cX12_lays 56 rfl) hr (fun r1 M1 h => ?_)
  refine a_isub C (tk T_cX12_lays 57 rfl) ?_
  refine a_top (fun x8_2 e_x8_2 => ?_)
  have h := h x8_2 e_x8_2
  refine a_istore C (tk T_cX12_lays 58 rfl) (by decide) rfl ?_
  refine a_iload C (tk T_cX12_lays 59 rfl) rfl ?_
  refine a_iload C (tk T_cX12_lays 60 rfl) rfl ?_
  refine a_aload_n C (tk T_cX12_lays 61 rfl) rfl ?_
  refine a_getR C f_RX12_13 (tk T_cX12_lays 62 rfl) lm0 rfl ?_
  refine a_iconst C (4 : Int32) (tk T_cX12_lays 63 rfl) kI_4 ?_
  obtain ⟨hb, h⟩ := h
  refine a_iald C (tk T_cX12_lays 64 rfl) lm1 hb ?_
  refine a_isub C (tk T_cX12_lays 65 rfl) ?_
  refine a_statI C [.int x4, .int (x8_2 - (M1 1 (4 : Int32).toNatClampNeg))] me_yJ9_max_7cf53 lk_RX12_106 (ct_Math_max h) (by decide) rfl rfl (Nat.le_of_ble_eq_true rfl) (tk T_cX12_lays 66 rfl) hr (fun r3 M3 h => ?_)
  refine a_istore C (tk T_cX12_lays 67 rfl) (by decide) rfl ?_
  refine a_iload C (tk T_cX12_lays 68 rfl) rfl ?_
  refine a_iload C (tk T_cX12_lays 69 rfl) rfl ?_
  refine a_aload_n C (tk T_cX12_lays 70 rfl) rfl ?_
  refine a_getR C f_RX12_13 (tk T_cX12_lays 71 rfl) lm0 rfl ?_
  refine a_iconst C (4 : Int32) (tk T_cX12_lays 72 rfl) kI_4 ?_
  obtain ⟨hb, h⟩ := h
  refine a_iald C (tk T_cX12_lays 73 rfl) lm1 hb ?_
  refine a_iadd C (tk T_cX12_lays 74 rfl) ?_
  refine a_statI C [.int x5, .int (x8_2 + (M3 1 (4 : Int32).toNatClampNeg))] me_yJ9_min_7cf53 lk_RX12_109 (ct_Math_min h) (by decide) rfl rfl (Nat.le_of_ble_eq_true rfl) (tk T_cX12_lays 75 rfl) hr (fun r4 M4 h => ?_)
  refine a_istore C (tk T_cX12_lays 76 rfl) (by decide) rfl ?_
  refine a_iinc C (1 : Int32) (tk T_cX12_lays 77 rfl) rfl kI_1 (by decide) rfl ?_
  refine a_goto C 22 (tk T_cX12_lays 78 rfl) rfl ?_
  exact a_to (k22 x1 x2 x3 r3 r4 (x6 + (1 : Int32)) M4 h) rfl
def P_M_lays_22 (post : Int32 → Mem → Prop) (R4 : Int32 → Int32 → Int32 → Mem → Prop) : Nat → Int32 → Int32 → Int32 → Int32 → Int32 → Int32 → Mem → Prop
  | 0, _, _, _, _, _, _, _ => False
  | n + 1, x1, x2, x3, x4, x5, x6, M =>
    vp_in (6 : Int32) 5966 ∧ ((M 1 (6 : Int32).toNatClampNeg) ≤ x6 → (vp_in x3 1710 ∧ ∀ M1, M1 = ms M 3 x3.toNatClampNeg x4 → vp_in x3 1710 ∧ ∀ M2, M2 = ms M1 4 x3.toNatClampNeg x5 → P_Math_max (fun r3 M3 =>
  ∀ x2_4, x2_4 = (x2 + r3) → R4 x1 x2_4 (x3 + (1 : Int32)) M3) (0 : Int32) ((x5 - x4) + (1 : Int32)) M2)) ∧
  (¬ (M 1 (6 : Int32).toNatClampNeg) ≤ x6 → (∀ x7_5, x7_5 = ((52 : Int32) + ((4 : Int32) * x6)) → vp_in (x7_5 + (2 : Int32)) 5966 ∧ vp_in x7_5 5966 ∧ vp_in (x7_5 + (1 : Int32)) 5966 ∧ P_M_truePlace (fun r6 M6 =>
  vp_in (x7_5 + (3 : Int32)) 5966 ∧ (¬ (M6 1 (x7_5 + (3 : Int32)).toNatClampNeg) = (1 : Int32) → (P_M_lays_91 post R4 (P_M_lays_22 post R4 n) x1 x2 x3 x4 x5 x6 (M 1 (x7_5 + (2 : Int32)).toNatClampNeg) x3 r6 (0 : Int32) M6)) ∧
  ((M6 1 (x7_5 + (3 : Int32)).toNatClampNeg) = (1 : Int32) → (P_M_lays_91 post R4 (P_M_lays_22 post R4 n) x1 x2 x3 x4 x5 x6 (M 1 (x7_5 + (2 : Int32)).toNatClampNeg) x3 r6 x1 M6))) (M 1 x7_5.toNatClampNeg) (M 1 (x7_5 + (1 : Int32)).toNatClampNeg) M))
theorem k_M_lays_22 {X : FX} {g : GT} {A : Nat → Prop} {Z : State → Prop} {post : Int32 → Mem → Prop} {R4 : Int32 → Int32 → Int32 → Mem → Prop} (C : Cx X g layM A cX12_lays 9 RX12 3) (hr : 0 ≤ X.2.2.2.1.cells ∧ 0 ≤ X.2.2.2.1.slots) (hR : RetI X g layM A cX12_lays 9 0 0 Z post) (k4 : ∀ (y1 y2 y3 : Int32) (M : Mem), R4 y1 y2 y3 M → AtX X g layM A 9 0 0 Z 4 [(0, .ref (ad g 0)), (1, .int y1), (2, .int y2), (3, .int y3)] [] M) : ∀ (n : Nat) (x1 x2 x3 x4 x5 x6 : Int32) (M : Mem), P_M_lays_22 post R4 n x1 x2 x3 x4 x5 x6 M → AtX X g layM A 9 0 0 Z 22 [(0, .ref (ad g 0)), (1, .int x1), (2, .int x2), (3, .int x3), (4, .int x4), (5, .int x5), (6, .int x6)] [] M := by
  intro n
  induction n with
  | zero =>
    intro x1 x2 x3 x4 x5 x6 M h
    exact h.elim
  | succ n ih =>
    intro x1 x2 x3 x4 x5 x6 M h
    refine a_iload C (tk T_cX12_lays 13 rfl) rfl ?_
    refine a_aload_n C (tk T_cX12_lays 14 rfl) rfl ?_
    refine a_getR C f_RX12_13 (tk T_cX12_lays 15 rfl) lm0 rfl ?_
    refine a_bipush C (6 : Int32) (tk T_cX12_lays 16 rfl) kB_6 ?_
    obtain ⟨hb, h⟩ := h
    refine a_iald C (tk T_cX12_lays 17 rfl) lm1 hb ?_
    refine a_icmp_ge C 136 (tk T_cX12_lays 18 rfl) rfl (fun c => ?_) (fun c => ?_)
    · have h := h.1 c
      refine a_aload_n C (tk T_cX12_lays 79 rfl) rfl ?_
      refine a_getR C f_RX12_20 (tk T_cX12_lays 80 rfl) lm0 rfl ?_
      refine a_iload_n C (tk T_cX12_lays 81 rfl) rfl ?_
      refine a_iload C (tk T_cX12_lays 82 rfl) rfl ?_
      obtain ⟨hb, h⟩ := h
      refine a_iast C (tk T_cX12_lays 83 rfl) lm3 hb ?_
      refine a_mem (fun M1 e_M1 => ?_)
      have h := h M1 e_M1
      refine a_aload_n C (tk T_cX12_lays 84 rfl) rfl ?_
      refine a_getR C f_RX12_23 (tk T_cX12_lays 85 rfl) lm0 rfl ?_
      refine a_iload_n C (tk T_cX12_lays 86 rfl) rfl ?_
      refine a_iload C (tk T_cX12_lays 87 rfl) rfl ?_
      obtain ⟨hb, h⟩ := h
      refine a_iast C (tk T_cX12_lays 88 rfl) lm4 hb ?_
      refine a_mem (fun M2 e_M2 => ?_)
      have h := h M2 e_M2
      refine a_iload_n C (tk T_cX12_lays 89 rfl) rfl ?_
      refine a_iconst C (0 : Int32) (tk T_cX12_lays 90 rfl) kI_0 ?_
      refine a_iload C (tk T_cX12_lays 91 rfl) rfl ?_
      refine a_iload C (tk T_cX12_lays 92 rfl) rfl ?_
      refine a_isub C (tk T_cX12_lays 93 rfl) ?_
      refine a_iconst C (1 : Int32) (tk T_cX12_lays 94 rfl) kI_1 ?_
      refine a_iadd C (tk T_cX12_lays 95 rfl) ?_
      refine a_statI C [.int (0 : Int32), .int ((x5 - x4) + (1 : Int32))] me_yJ9_max_7cf53 lk_RX12_106 (ct_Math_max h) (by decide) rfl rfl (Nat.le_of_ble_eq_true rfl) (tk T_cX12_lays 96 rfl) hr (fun r3 M3 h => ?_)
      refine a_iadd C (tk T_cX12_lays 97 rfl) ?_
      refine a_top (fun x2_4 e_x2_4 => ?_)
      have h := h x2_4 e_x2_4
      refine a_istore_n C (tk T_cX12_lays 98 rfl) (by decide) rfl ?_
      refine a_iinc C (1 : Int32) (tk T_cX12_lays 99 rfl) rfl kI_1 (by decide) rfl ?_
      refine a_goto C 4 (tk T_cX12_lays 100 rfl) rfl ?_
      exact a_to (k4 x1 x2_4 (x3 + (1 : Int32)) M3 h) rfl
    · have h := h.2 c
      refine a_bipush C (52 : Int32) (tk T_cX12_lays 19 rfl) kB_52 ?_
      refine a_iconst C (4 : Int32) (tk T_cX12_lays 20 rfl) kI_4 ?_
      refine a_iload C (tk T_cX12_lays 21 rfl) rfl ?_
      refine a_imul C (tk T_cX12_lays 22 rfl) ?_
      refine a_iadd C (tk T_cX12_lays 23 rfl) ?_
      refine a_top (fun x7_5 e_x7_5 => ?_)
      have h := h x7_5 e_x7_5
      refine a_istore C (tk T_cX12_lays 24 rfl) (by decide) rfl ?_
      refine a_aload_n C (tk T_cX12_lays 25 rfl) rfl ?_
      refine a_getR C f_RX12_13 (tk T_cX12_lays 26 rfl) lm0 rfl ?_
      refine a_iload C (tk T_cX12_lays 27 rfl) rfl ?_
      refine a_iconst C (2 : Int32) (tk T_cX12_lays 28 rfl) kI_2 ?_
      refine a_iadd C (tk T_cX12_lays 29 rfl) ?_
      obtain ⟨hb, h⟩ := h
      refine a_iald C (tk T_cX12_lays 30 rfl) lm1 hb ?_
      refine a_iload_n C (tk T_cX12_lays 31 rfl) rfl ?_
      refine a_aload_n C (tk T_cX12_lays 32 rfl) rfl ?_
      refine a_aload_n C (tk T_cX12_lays 33 rfl) rfl ?_
      refine a_getR C f_RX12_13 (tk T_cX12_lays 34 rfl) lm0 rfl ?_
      refine a_iload C (tk T_cX12_lays 35 rfl) rfl ?_
      obtain ⟨hb, h⟩ := h
      refine a_iald C (tk T_cX12_lays 36 rfl) lm1 hb ?_
      refine a_aload_n C (tk T_cX12_lays 37 rfl) rfl ?_
      refine a_getR C f_RX12_13 (tk T_cX12_lays 38 rfl) lm0 rfl ?_
      refine a_iload C (tk T_cX12_lays 39 rfl) rfl ?_
      refine a_iconst C (1 : Int32) (tk T_cX12_lays 40 rfl) kI_1 ?_
      refine a_iadd C (tk T_cX12_lays 41 rfl) ?_
      obtain ⟨hb, h⟩ := h
      refine a_iald C (tk T_cX12_lays 42 rfl) lm1 hb ?_
      refine a_callI C [.int (M 1 x7_5.toNatClampNeg), .int (M 1 (x7_5 + (1 : Int32)).toNatClampNeg)] me_yX12_truePlace lk_RX12_80 (ct_M_truePlace h) (by decide) lm0 rfl rfl rfl (Nat.le_of_ble_eq_true rfl) (tk T_cX12_lays 43 rfl) hr (fun r6 M6 h => ?_)
      refine a_aload_n C (tk T_cX12_lays 44 rfl) rfl ?_
      refine a_getR C f_RX12_13 (tk T_cX12_lays 45 rfl) lm0 rfl ?_
      refine a_iload C (tk T_cX12_lays 46 rfl) rfl ?_
      refine a_iconst C (3 : Int32) (tk T_cX12_lays 47 rfl) kI_3 ?_
      refine a_iadd C (tk T_cX12_lays 48 rfl) ?_
      obtain ⟨hb, h⟩ := h
      refine a_iald C (tk T_cX12_lays 49 rfl) lm1 hb ?_
      refine a_iconst C (1 : Int32) (tk T_cX12_lays 50 rfl) kI_1 ?_
      refine a_icmp_ne C 90 (tk T_cX12_lays 51 rfl) rfl (fun c => ?_) (fun c => ?_)
      · have h := h.1 c
        refine a_iconst C (0 : Int32) (tk T_cX12_lays 54 rfl) kI_0 ?_
        exact a_to (k_M_lays_91 C hr hR k4 ih x1 x2 x3 x4 x5 x6 (M 1 (x7_5 + (2 : Int32)).toNatClampNeg) x3 r6 (0 : Int32) M6 h) rfl
      · have h := h.2 c
        refine a_iload_n C (tk T_cX12_lays 52 rfl) rfl ?_
        refine a_goto C 91 (tk T_cX12_lays 53 rfl) rfl ?_
        exact a_to (k_M_lays_91 C hr hR k4 ih x1 x2 x3 x4 x5 x6 (M 1 (x7_5 + (2 : Int32)).toNatClampNeg) x3 r6 x1 M6 h) rfl
def P_M_lays_4 (post : Int32 → Mem → Prop) : Nat → Int32 → Int32 → Int32 → Mem → Prop
  | 0, _, _, _, _ => False
  | n + 1, x1, x2, x3, M =>
    ((1710 : Int32) ≤ x3 → (post x2 M)) ∧
  (¬ (1710 : Int32) ≤ x3 → (∃ j22, P_M_lays_22 post (P_M_lays_4 post n) j22 x1 x2 x3 (0 : Int32) (9999 : Int32) (0 : Int32) M))
theorem k_M_lays_4 {X : FX} {g : GT} {A : Nat → Prop} {Z : State → Prop} {post : Int32 → Mem → Prop} (C : Cx X g layM A cX12_lays 9 RX12 3) (hr : 0 ≤ X.2.2.2.1.cells ∧ 0 ≤ X.2.2.2.1.slots) (hR : RetI X g layM A cX12_lays 9 0 0 Z post) : ∀ (n : Nat) (x1 x2 x3 : Int32) (M : Mem), P_M_lays_4 post n x1 x2 x3 M → AtX X g layM A 9 0 0 Z 4 [(0, .ref (ad g 0)), (1, .int x1), (2, .int x2), (3, .int x3)] [] M := by
  intro n
  induction n with
  | zero =>
    intro x1 x2 x3 M h
    exact h.elim
  | succ n ih =>
    intro x1 x2 x3 M h
    refine a_iload_n C (tk T_cX12_lays 4 rfl) rfl ?_
    refine a_sipush C (1710 : Int32) (tk T_cX12_lays 5 rfl) kS_1710 ?_
    refine a_icmp_ge C 172 (tk T_cX12_lays 6 rfl) rfl (fun c => ?_) (fun c => ?_)
    · have h := h.1 c
      refine a_iload_n C (tk T_cX12_lays 101 rfl) rfl ?_
      exact hR _ _ _ _ (tk T_cX12_lays 102 rfl) h
    · have h := h.2 c
      refine a_iconst C (0 : Int32) (tk T_cX12_lays 7 rfl) kI_0 ?_
      refine a_istore C (tk T_cX12_lays 8 rfl) (by decide) rfl ?_
      refine a_sipush C (9999 : Int32) (tk T_cX12_lays 9 rfl) kS_9999 ?_
      refine a_istore C (tk T_cX12_lays 10 rfl) (by decide) rfl ?_
      refine a_iconst C (0 : Int32) (tk T_cX12_lays 11 rfl) kI_0 ?_
      refine a_istore C (tk T_cX12_lays 12 rfl) (by decide) rfl ?_
      obtain ⟨n1, h⟩ := h
      exact a_to (k_M_lays_22 C hr hR ih n1 x1 x2 x3 (0 : Int32) (9999 : Int32) (0 : Int32) M h) rfl
def P_M_lays (post : Int32 → Mem → Prop) (x1 : Int32) (M : Mem) : Prop :=
  ∃ j4, P_M_lays_4 post j4 x1 (0 : Int32) (0 : Int32) M
theorem k_M_lays {X : FX} {g : GT} {A : Nat → Prop} {Z : State → Prop} {post : Int32 → Mem → Prop} (C : Cx X g layM A cX12_lays 9 RX12 3) (hr : 0 ≤ X.2.2.2.1.cells ∧ 0 ≤ X.2.2.2.1.slots) (hR : RetI X g layM A cX12_lays 9 0 0 Z post) (x1 : Int32) (M : Mem) (h : P_M_lays post x1 M) : AtX X g layM A 9 0 0 Z 0 [(0, .ref (ad g 0)), (1, .int x1)] [] M := by
  refine a_iconst C (0 : Int32) (tk T_cX12_lays 0 rfl) kI_0 ?_
  refine a_istore_n C (tk T_cX12_lays 1 rfl) (by decide) rfl ?_
  refine a_iconst C (0 : Int32) (tk T_cX12_lays 2 rfl) kI_0 ?_
  refine a_istore_n C (tk T_cX12_lays 3 rfl) (by decide) rfl ?_
  obtain ⟨n1, h⟩ := h
  exact a_to (k_M_lays_4 C hr hR n1 x1 (0 : Int32) (0 : Int32) M h) rfl
theorem ct_M_lays {l : Launch} {g : GT} {post : Int32 → Mem → Prop} {x1 : Int32} {M : Mem} (h : P_M_lays post x1 M) : CI l g layM yX12_lays cX12_lays 9 (some .int) 3 [.ref (ad g 0), .int x1] M post :=
  ci_of (plainFor_of_name (by decide +kernel)) (Nat.le_of_ble_eq_true rfl) (fun X A Z hl C hr hR => by subst hl; exact k_M_lays C hr hR x1 M h)
def T_cX12_lawsL : List (Nat × Instr × Nat) := [(0, .aload_n 0, 1), (1, .iconst 0, 1), (2, .putfield 3, 3), (5, .aload_n 0, 1), (6, .iconst 0, 1), (7, .invokevirtual 112, 3), (10, .ireturn, 1)]
theorem T_cX12_laws : tabOK cX12_laws T_cX12_lawsL = true := by decide +kernel
def P_M_laws (post : Int32 → Mem → Prop) (M : Mem) : Prop :=
  ∀ M1, M1 = ms M 0 0 (0 : Int32) → P_M_lays (fun r2 M2 =>
  post r2 M2) (0 : Int32) M1
theorem k_M_laws {X : FX} {g : GT} {A : Nat → Prop} {Z : State → Prop} {post : Int32 → Mem → Prop} (C : Cx X g layM A cX12_laws 1 RX12 4) (hr : 0 ≤ X.2.2.2.1.cells ∧ 0 ≤ X.2.2.2.1.slots) (hR : RetI X g layM A cX12_laws 1 0 0 Z post) (M : Mem) (h : P_M_laws post M) : AtX X g layM A 1 0 0 Z 0 [(0, .ref (ad g 0))] [] M := by
  refine a_aload_n C (tk T_cX12_laws 0 rfl) rfl ?_
  refine a_iconst C (0 : Int32) (tk T_cX12_laws 1 rfl) kI_0 ?_
  refine a_put C f_RX12_3 f_RX12_3p rfl rfl (tk T_cX12_laws 2 rfl) lm0 rfl ?_
  refine a_mem (fun M1 e_M1 => ?_)
  have h := h M1 e_M1
  refine a_aload_n C (tk T_cX12_laws 3 rfl) rfl ?_
  refine a_iconst C (0 : Int32) (tk T_cX12_laws 4 rfl) kI_0 ?_
  refine a_callI C [.int (0 : Int32)] me_yX12_lays lk_RX12_112 (ct_M_lays h) (by decide) lm0 rfl rfl rfl (Nat.le_of_ble_eq_true rfl) (tk T_cX12_laws 5 rfl) hr (fun r2 M2 h => ?_)
  exact hR _ _ _ _ (tk T_cX12_laws 6 rfl) h
theorem ct_M_laws {l : Launch} {g : GT} {post : Int32 → Mem → Prop} {M : Mem} (h : P_M_laws post M) : CI l g layM yX12_laws cX12_laws 1 (some .int) 4 [.ref (ad g 0)] M post :=
  ci_of (plainFor_of_name (by decide +kernel)) (Nat.le_of_ble_eq_true rfl) (fun X A Z hl C hr hR => by subst hl; exact k_M_laws C hr hR  M h)
def T_cX12_lawL : List (Nat × Instr × Nat) := [(0, .aload_n 0, 1), (1, .iconst 0, 1), (2, .putfield 3, 3), (5, .aload_n 0, 1), (6, .iload_n 1, 1), (7, .iconst 0, 1), (8, .iconst 2, 1), (9, .invokestatic 58, 3), (12, .ifCond .ne 7, 3), (15, .iconst 1, 1), (16, .goto 4, 3), (19, .iconst 0, 1), (20, .iconst 1, 1), (21, .invokevirtual 72, 3), (24, .ifCond .eq 5, 3), (27, .iconst 0, 1), (28, .ireturn, 1), (29, .aload_n 0, 1), (30, .iconst 0, 1), (31, .invokevirtual 112, 3), (34, .pop, 1), (35, .iconst 0, 1), (36, .istore_n 2, 1), (37, .iload_n 2, 1), (38, .sipush 1710, 3), (41, .if_icmp .ge 59, 3), (44, .aload_n 0, 1), (45, .getfield 20, 3), (48, .iload_n 2, 1), (49, .iaload, 1), (50, .aload_n 0, 1), (51, .getfield 23, 3), (54, .iload_n 2, 1), (55, .iaload, 1), (56, .if_icmp .gt 38, 3), (59, .iload_n 1, 1), (60, .ifCond .ne 12, 3), (63, .aload_n 0, 1), (64, .getfield 20, 3), (67, .iload_n 2, 1), (68, .iaload, 1), (69, .goto 24, 3), (72, .iload_n 1, 1), (73, .iconst 1, 1), (74, .if_icmp .ne 12, 3), (77, .iload_n 2, 1), (78, .bipush 19, 2), (80, .idiv, 1), (81, .iconst 1, 1), (82, .iadd, 1), (83, .goto 10, 3), (86, .iload_n 2, 1), (87, .bipush 19, 2), (89, .irem, 1), (90, .bipush 9, 2), (92, .isub, 1), (93, .ireturn, 1), (94, .iinc 2 1, 3), (97, .goto (-60), 3), (100, .ldc 115, 2), (102, .ireturn, 1)]
theorem T_cX12_law : tabOK cX12_law T_cX12_lawL = true := by decide +kernel
def P_M_law_93 (post : Int32 → Mem → Prop) (R37 : Int32 → Int32 → Mem → Prop) (s0 : Int32) (M : Mem) : Prop :=
  post s0 M
theorem k_M_law_93 {X : FX} {g : GT} {A : Nat → Prop} {Z : State → Prop} {post : Int32 → Mem → Prop} {R37 : Int32 → Int32 → Mem → Prop} (C : Cx X g layM A cX12_law 3 RX12 4) (hr : 0 ≤ X.2.2.2.1.cells ∧ 0 ≤ X.2.2.2.1.slots) (hR : RetI X g layM A cX12_law 3 0 0 Z post) (k37 : ∀ (y1 y2 : Int32) (M : Mem), R37 y1 y2 M → AtX X g layM A 3 0 0 Z 37 [(0, .ref (ad g 0)), (1, .int y1), (2, .int y2)] [] M) (s0 : Int32) (M : Mem) (h : P_M_law_93 post R37 s0 M) : AtX X g layM A 3 0 0 Z 93 [] [.int s0] M := by
  exact hR _ _ _ _ (tk T_cX12_law 56 rfl) h
def P_M_law_37 (post : Int32 → Mem → Prop) : Nat → Int32 → Int32 → Mem → Prop
  | 0, _, _, _ => False
  | n + 1, x1, x2, M =>
    ((1710 : Int32) ≤ x2 → (post (99999 : Int32) M)) ∧
  (¬ (1710 : Int32) ≤ x2 → (vp_in x2 1710 ∧ vp_in x2 1710 ∧ ((M 4 x2.toNatClampNeg) < (M 3 x2.toNatClampNeg) → (P_M_law_37 post n x1 (x2 + (1 : Int32)) M)) ∧
  (¬ (M 4 x2.toNatClampNeg) < (M 3 x2.toNatClampNeg) → ((¬ x1 = 0 → ((¬ x1 = (1 : Int32) → (P_M_law_93 post (P_M_law_37 post n) ((irm x2 (19 : Int32)) - (9 : Int32)) M)) ∧
  (x1 = (1 : Int32) → (P_M_law_93 post (P_M_law_37 post n) ((x2 / (19 : Int32)) + (1 : Int32)) M)))) ∧
  (x1 = 0 → (vp_in x2 1710 ∧ P_M_law_93 post (P_M_law_37 post n) (M 3 x2.toNatClampNeg) M))))))
theorem k_M_law_37 {X : FX} {g : GT} {A : Nat → Prop} {Z : State → Prop} {post : Int32 → Mem → Prop} (C : Cx X g layM A cX12_law 3 RX12 4) (hr : 0 ≤ X.2.2.2.1.cells ∧ 0 ≤ X.2.2.2.1.slots) (hR : RetI X g layM A cX12_law 3 0 0 Z post) : ∀ (n : Nat) (x1 x2 : Int32) (M : Mem), P_M_law_37 post n x1 x2 M → AtX X g layM A 3 0 0 Z 37 [(0, .ref (ad g 0)), (1, .int x1), (2, .int x2)] [] M := by
  intro n
  induction n with
  | zero =>
    intro x1 x2 M h
    exact h.elim
  | succ n ih =>
    intro x1 x2 M h
    refine a_iload_n C (tk T_cX12_law 23 rfl) rfl ?_
    refine a_sipush C (1710 : Int32) (tk T_cX12_law 24 rfl) kS_1710 ?_
    refine a_icmp_ge C 100 (tk T_cX12_law 25 rfl) rfl (fun c => ?_) (fun c => ?_)
    · have h := h.1 c
      refine a_ldc C c_RX12_115 (tk T_cX12_law 59 rfl) ?_
      exact hR _ _ _ _ (tk T_cX12_law 60 rfl) h
    · have h := h.2 c
      refine a_aload_n C (tk T_cX12_law 26 rfl) rfl ?_
      refine a_getR C f_RX12_20 (tk T_cX12_law 27 rfl) lm0 rfl ?_
      refine a_iload_n C (tk T_cX12_law 28 rfl) rfl ?_
      obtain ⟨hb, h⟩ := h
      refine a_iald C (tk T_cX12_law 29 rfl) lm3 hb ?_
      refine a_aload_n C (tk T_cX12_law 30 rfl) rfl ?_
      refine a_getR C f_RX12_23 (tk T_cX12_law 31 rfl) lm0 rfl ?_
      refine a_iload_n C (tk T_cX12_law 32 rfl) rfl ?_
      obtain ⟨hb, h⟩ := h
      refine a_iald C (tk T_cX12_law 33 rfl) lm4 hb ?_
      refine a_icmp_gt C 94 (tk T_cX12_law 34 rfl) rfl (fun c => ?_) (fun c => ?_)
      · have h := h.1 c
        refine a_iinc C (1 : Int32) (tk T_cX12_law 57 rfl) rfl kI_1 (by decide) rfl ?_
        refine a_goto C 37 (tk T_cX12_law 58 rfl) rfl ?_
        exact a_to (ih x1 (x2 + (1 : Int32)) M h) rfl
      · have h := h.2 c
        refine a_iload_n C (tk T_cX12_law 35 rfl) rfl ?_
        refine a_if_ne C 72 (tk T_cX12_law 36 rfl) rfl (fun c => ?_) (fun c => ?_)
        · have h := h.1 c
          refine a_iload_n C (tk T_cX12_law 42 rfl) rfl ?_
          refine a_iconst C (1 : Int32) (tk T_cX12_law 43 rfl) kI_1 ?_
          refine a_icmp_ne C 86 (tk T_cX12_law 44 rfl) rfl (fun c => ?_) (fun c => ?_)
          · have h := h.1 c
            refine a_iload_n C (tk T_cX12_law 51 rfl) rfl ?_
            refine a_bipush C (19 : Int32) (tk T_cX12_law 52 rfl) kB_19 ?_
            refine a_irem C (tk T_cX12_law 53 rfl) (by decide) ?_
            refine a_bipush C (9 : Int32) (tk T_cX12_law 54 rfl) kB_9 ?_
            refine a_isub C (tk T_cX12_law 55 rfl) ?_
            exact a_to (k_M_law_93 C hr hR ih ((irm x2 (19 : Int32)) - (9 : Int32)) M h) rfl
          · have h := h.2 c
            refine a_iload_n C (tk T_cX12_law 45 rfl) rfl ?_
            refine a_bipush C (19 : Int32) (tk T_cX12_law 46 rfl) kB_19 ?_
            refine a_idiv C (tk T_cX12_law 47 rfl) (by decide) ?_
            refine a_iconst C (1 : Int32) (tk T_cX12_law 48 rfl) kI_1 ?_
            refine a_iadd C (tk T_cX12_law 49 rfl) ?_
            refine a_goto C 93 (tk T_cX12_law 50 rfl) rfl ?_
            exact a_to (k_M_law_93 C hr hR ih ((x2 / (19 : Int32)) + (1 : Int32)) M h) rfl
        · have h := h.2 c
          refine a_aload_n C (tk T_cX12_law 37 rfl) rfl ?_
          refine a_getR C f_RX12_20 (tk T_cX12_law 38 rfl) lm0 rfl ?_
          refine a_iload_n C (tk T_cX12_law 39 rfl) rfl ?_
          obtain ⟨hb, h⟩ := h
          refine a_iald C (tk T_cX12_law 40 rfl) lm3 hb ?_
          refine a_goto C 93 (tk T_cX12_law 41 rfl) rfl ?_
          exact a_to (k_M_law_93 C hr hR ih (M 3 x2.toNatClampNeg) M h) rfl
def P_M_law_20 (post : Int32 → Mem → Prop) (x1 s1 : Int32) (M : Mem) : Prop :=
  P_M_throwsIf (fun r1 M1 =>
  (r1 = 0 → (P_M_lays (fun r2 M2 =>
  ∃ j37, P_M_law_37 post j37 x1 (0 : Int32) M2) (0 : Int32) M1)) ∧
  (¬ r1 = 0 → (post (0 : Int32) M1))) s1 (1 : Int32) M
theorem k_M_law_20 {X : FX} {g : GT} {A : Nat → Prop} {Z : State → Prop} {post : Int32 → Mem → Prop} (C : Cx X g layM A cX12_law 3 RX12 4) (hr : 0 ≤ X.2.2.2.1.cells ∧ 0 ≤ X.2.2.2.1.slots) (hR : RetI X g layM A cX12_law 3 0 0 Z post) (x1 s1 : Int32) (M : Mem) (h : P_M_law_20 post x1 s1 M) : AtX X g layM A 3 0 0 Z 20 [(0, .ref (ad g 0)), (1, .int x1)] [.int s1, .ref (ad g 0)] M := by
  refine a_iconst C (1 : Int32) (tk T_cX12_law 12 rfl) kI_1 ?_
  refine a_callI C [.int s1, .int (1 : Int32)] me_yX12_throwsIf lk_RX12_72 (ct_M_throwsIf h) (by decide) lm0 rfl rfl rfl (Nat.le_of_ble_eq_true rfl) (tk T_cX12_law 13 rfl) hr (fun r1 M1 h => ?_)
  refine a_if_eq C 29 (tk T_cX12_law 14 rfl) rfl (fun c => ?_) (fun c => ?_)
  · have h := h.1 c
    refine a_aload_n C (tk T_cX12_law 17 rfl) rfl ?_
    refine a_iconst C (0 : Int32) (tk T_cX12_law 18 rfl) kI_0 ?_
    refine a_callI C [.int (0 : Int32)] me_yX12_lays lk_RX12_112 (ct_M_lays h) (by decide) lm0 rfl rfl rfl (Nat.le_of_ble_eq_true rfl) (tk T_cX12_law 19 rfl) hr (fun r2 M2 h => ?_)
    refine a_popi C (tk T_cX12_law 20 rfl) ?_
    refine a_iconst C (0 : Int32) (tk T_cX12_law 21 rfl) kI_0 ?_
    refine a_istore_n C (tk T_cX12_law 22 rfl) (by decide) rfl ?_
    obtain ⟨n1, h⟩ := h
    exact a_to (k_M_law_37 C hr hR n1 x1 (0 : Int32) M2 h) rfl
  · have h := h.2 c
    refine a_iconst C (0 : Int32) (tk T_cX12_law 15 rfl) kI_0 ?_
    exact hR _ _ _ _ (tk T_cX12_law 16 rfl) h
def P_M_law (post : Int32 → Mem → Prop) (x1 : Int32) (M : Mem) : Prop :=
  ∀ M1, M1 = ms M 0 0 (0 : Int32) → P_M_in (fun r2 M2 =>
  (¬ r2 = 0 → (P_M_law_20 post x1 (0 : Int32) M2)) ∧
  (r2 = 0 → (P_M_law_20 post x1 (1 : Int32) M2))) x1 (0 : Int32) (2 : Int32) M1
theorem k_M_law {X : FX} {g : GT} {A : Nat → Prop} {Z : State → Prop} {post : Int32 → Mem → Prop} (C : Cx X g layM A cX12_law 3 RX12 4) (hr : 0 ≤ X.2.2.2.1.cells ∧ 0 ≤ X.2.2.2.1.slots) (hR : RetI X g layM A cX12_law 3 0 0 Z post) (x1 : Int32) (M : Mem) (h : P_M_law post x1 M) : AtX X g layM A 3 0 0 Z 0 [(0, .ref (ad g 0)), (1, .int x1)] [] M := by
  refine a_aload_n C (tk T_cX12_law 0 rfl) rfl ?_
  refine a_iconst C (0 : Int32) (tk T_cX12_law 1 rfl) kI_0 ?_
  refine a_put C f_RX12_3 f_RX12_3p rfl rfl (tk T_cX12_law 2 rfl) lm0 rfl ?_
  refine a_mem (fun M1 e_M1 => ?_)
  have h := h M1 e_M1
  refine a_aload_n C (tk T_cX12_law 3 rfl) rfl ?_
  refine a_iload_n C (tk T_cX12_law 4 rfl) rfl ?_
  refine a_iconst C (0 : Int32) (tk T_cX12_law 5 rfl) kI_0 ?_
  refine a_iconst C (2 : Int32) (tk T_cX12_law 6 rfl) kI_2 ?_
  refine a_statI C [.int x1, .int (0 : Int32), .int (2 : Int32)] me_yX12_in lk_RX12_58 (ct_M_in h) (by decide) rfl rfl (Nat.le_of_ble_eq_true rfl) (tk T_cX12_law 7 rfl) hr (fun r2 M2 h => ?_)
  refine a_if_ne C 19 (tk T_cX12_law 8 rfl) rfl (fun c => ?_) (fun c => ?_)
  · have h := h.1 c
    refine a_iconst C (0 : Int32) (tk T_cX12_law 11 rfl) kI_0 ?_
    exact a_to (k_M_law_20 C hr hR x1 (0 : Int32) M2 h) rfl
  · have h := h.2 c
    refine a_iconst C (1 : Int32) (tk T_cX12_law 9 rfl) kI_1 ?_
    refine a_goto C 20 (tk T_cX12_law 10 rfl) rfl ?_
    exact a_to (k_M_law_20 C hr hR x1 (1 : Int32) M2 h) rfl
theorem ct_M_law {l : Launch} {g : GT} {post : Int32 → Mem → Prop} {x1 : Int32} {M : Mem} (h : P_M_law post x1 M) : CI l g layM yX12_law cX12_law 3 (some .int) 4 [.ref (ad g 0), .int x1] M post :=
  ci_of (plainFor_of_name (by decide +kernel)) (Nat.le_of_ble_eq_true rfl) (fun X A Z hl C hr hR => by subst hl; exact k_M_law C hr hR x1 M h)
def T_cX12_endOfL : List (Nat × Instr × Nat) := [(0, .ldc 116, 2), (2, .istore_n 3, 1), (3, .iconst 0, 1), (4, .istore 4, 2), (6, .iload 4, 2), (8, .sipush 1710, 3), (11, .if_icmp .ge 104, 3), (14, .aload_n 0, 1), (15, .getfield 20, 3), (18, .iload 4, 2), (20, .iaload, 1), (21, .aload_n 0, 1), (22, .getfield 23, 3), (25, .iload 4, 2), (27, .iaload, 1), (28, .if_icmp .le 6, 3), (31, .goto 78, 3), (34, .iload_n 2, 1), (35, .ifCond .eq 20, 3), (38, .aload_n 0, 1), (39, .getfield 23, 3), (42, .iload 4, 2), (44, .iaload, 1), (45, .aload_n 0, 1), (46, .getfield 13, 3), (49, .iconst 4, 1), (50, .iaload, 1), (51, .iadd, 1), (52, .goto 17, 3), (55, .aload_n 0, 1), (56, .getfield 20, 3), (59, .iload 4, 2), (61, .iaload, 1), (62, .aload_n 0, 1), (63, .getfield 13, 3), (66, .iconst 4, 1), (67, .iaload, 1), (68, .isub, 1), (69, .iload 4, 2), (71, .iload_n 1, 1), (72, .invokestatic 103, 3), (75, .iadd, 1), (76, .istore 5, 2), (78, .iload_n 3, 1), (79, .ldc 116, 2), (81, .if_icmp .ne 8, 3), (84, .iload 5, 2), (86, .goto 22, 3), (89, .iload_n 2, 1), (90, .ifCond .eq 12, 3), (93, .iload_n 3, 1), (94, .iload 5, 2), (96, .invokestatic 106, 3), (99, .goto 9, 3), (102, .iload_n 3, 1), (103, .iload 5, 2), (105, .invokestatic 109, 3), (108, .istore_n 3, 1), (109, .iinc 4 1, 3), (112, .goto (-106), 3), (115, .iload_n 3, 1), (116, .ireturn, 1)]
theorem T_cX12_endOf : tabOK cX12_endOf T_cX12_endOfL = true := by decide +kernel
def P_M_endOf_109 (post : Int32 → Mem → Prop) (R6 : Int32 → Int32 → Int32 → Int32 → Mem → Prop) (x1 x2 x3 x4 : Int32) (M : Mem) : Prop :=
  R6 x1 x2 x3 (x4 + (1 : Int32)) M
theorem k_M_endOf_109 {X : FX} {g : GT} {A : Nat → Prop} {Z : State → Prop} {post : Int32 → Mem → Prop} {R6 : Int32 → Int32 → Int32 → Int32 → Mem → Prop} (C : Cx X g layM A cX12_endOf 6 RX12 2) (hr : 0 ≤ X.2.2.2.1.cells ∧ 0 ≤ X.2.2.2.1.slots) (hR : RetI X g layM A cX12_endOf 6 0 0 Z post) (k6 : ∀ (y1 y2 y3 y4 : Int32) (M : Mem), R6 y1 y2 y3 y4 M → AtX X g layM A 6 0 0 Z 6 [(0, .ref (ad g 0)), (1, .int y1), (2, .int y2), (3, .int y3), (4, .int y4)] [] M) (x1 x2 x3 x4 : Int32) (M : Mem) (h : P_M_endOf_109 post R6 x1 x2 x3 x4 M) : AtX X g layM A 6 0 0 Z 109 [(0, .ref (ad g 0)), (1, .int x1), (2, .int x2), (3, .int x3), (4, .int x4)] [] M := by
  refine a_iinc C (1 : Int32) (tk T_cX12_endOf 58 rfl) rfl kI_1 (by decide) rfl ?_
  refine a_goto C 6 (tk T_cX12_endOf 59 rfl) rfl ?_
  exact a_to (k6 x1 x2 x3 (x4 + (1 : Int32)) M h) rfl
def P_M_endOf_108 (post : Int32 → Mem → Prop) (R6 : Int32 → Int32 → Int32 → Int32 → Mem → Prop) (x1 x2 x4 s0 : Int32) (M : Mem) : Prop :=
  P_M_endOf_109 post R6 x1 x2 s0 x4 M
theorem k_M_endOf_108 {X : FX} {g : GT} {A : Nat → Prop} {Z : State → Prop} {post : Int32 → Mem → Prop} {R6 : Int32 → Int32 → Int32 → Int32 → Mem → Prop} (C : Cx X g layM A cX12_endOf 6 RX12 2) (hr : 0 ≤ X.2.2.2.1.cells ∧ 0 ≤ X.2.2.2.1.slots) (hR : RetI X g layM A cX12_endOf 6 0 0 Z post) (k6 : ∀ (y1 y2 y3 y4 : Int32) (M : Mem), R6 y1 y2 y3 y4 M → AtX X g layM A 6 0 0 Z 6 [(0, .ref (ad g 0)), (1, .int y1), (2, .int y2), (3, .int y3), (4, .int y4)] [] M) (x1 x2 x4 s0 : Int32) (M : Mem) (h : P_M_endOf_108 post R6 x1 x2 x4 s0 M) : AtX X g layM A 6 0 0 Z 108 [(0, .ref (ad g 0)), (1, .int x1), (2, .int x2), (4, .int x4)] [.int s0] M := by
  refine a_istore_n C (tk T_cX12_endOf 57 rfl) (by decide) rfl ?_
  exact a_to (k_M_endOf_109 C hr hR k6 x1 x2 s0 x4 M h) rfl
def P_M_endOf_69 (post : Int32 → Mem → Prop) (R6 : Int32 → Int32 → Int32 → Int32 → Mem → Prop) (x1 x2 x3 x4 s0 : Int32) (M : Mem) : Prop :=
  P_M_above (fun r1 M1 =>
  ∀ x5_2, x5_2 = (s0 + r1) → (¬ x3 = (-99999 : Int32) → ((x2 = 0 → (P_Math_min (fun r3 M3 =>
  P_M_endOf_108 post R6 x1 x2 x4 r3 M3) x3 x5_2 M1)) ∧
  (¬ x2 = 0 → (P_Math_max (fun r4 M4 =>
  P_M_endOf_108 post R6 x1 x2 x4 r4 M4) x3 x5_2 M1)))) ∧
  (x3 = (-99999 : Int32) → (P_M_endOf_108 post R6 x1 x2 x4 x5_2 M1))) x4 x1 M
theorem k_M_endOf_69 {X : FX} {g : GT} {A : Nat → Prop} {Z : State → Prop} {post : Int32 → Mem → Prop} {R6 : Int32 → Int32 → Int32 → Int32 → Mem → Prop} (C : Cx X g layM A cX12_endOf 6 RX12 2) (hr : 0 ≤ X.2.2.2.1.cells ∧ 0 ≤ X.2.2.2.1.slots) (hR : RetI X g layM A cX12_endOf 6 0 0 Z post) (k6 : ∀ (y1 y2 y3 y4 : Int32) (M : Mem), R6 y1 y2 y3 y4 M → AtX X g layM A 6 0 0 Z 6 [(0, .ref (ad g 0)), (1, .int y1), (2, .int y2), (3, .int y3), (4, .int y4)] [] M) (x1 x2 x3 x4 s0 : Int32) (M : Mem) (h : P_M_endOf_69 post R6 x1 x2 x3 x4 s0 M) : AtX X g layM A 6 0 0 Z 69 [(0, .ref (ad g 0)), (1, .int x1), (2, .int x2), (3, .int x3), (4, .int x4)] [.int s0] M := by
  refine a_iload C (tk T_cX12_endOf 38 rfl) rfl ?_
  refine a_iload_n C (tk T_cX12_endOf 39 rfl) rfl ?_
  refine a_statI C [.int x4, .int x1] me_yX12_above lk_RX12_103 (ct_M_above h) (by decide) rfl rfl (Nat.le_of_ble_eq_true rfl) (tk T_cX12_endOf 40 rfl) hr (fun r1 M1 h => ?_)
  refine a_iadd C (tk T_cX12_endOf 41 rfl) ?_
  refine a_top (fun x5_2 e_x5_2 => ?_)
  have h := h x5_2 e_x5_2
  refine a_istore C (tk T_cX12_endOf 42 rfl) (by decide) rfl ?_
  refine a_iload_n C (tk T_cX12_endOf 43 rfl) rfl ?_
  refine a_ldc C c_RX12_116 (tk T_cX12_endOf 44 rfl) ?_
  refine a_icmp_ne C 89 (tk T_cX12_endOf 45 rfl) rfl (fun c => ?_) (fun c => ?_)
  · have h := h.1 c
    refine a_iload_n C (tk T_cX12_endOf 48 rfl) rfl ?_
    refine a_if_eq C 102 (tk T_cX12_endOf 49 rfl) rfl (fun c => ?_) (fun c => ?_)
    · have h := h.1 c
      refine a_iload_n C (tk T_cX12_endOf 54 rfl) rfl ?_
      refine a_iload C (tk T_cX12_endOf 55 rfl) rfl ?_
      refine a_statI C [.int x3, .int x5_2] me_yJ9_min_7cf53 lk_RX12_109 (ct_Math_min h) (by decide) rfl rfl (Nat.le_of_ble_eq_true rfl) (tk T_cX12_endOf 56 rfl) hr (fun r3 M3 h => ?_)
      exact a_to (k_M_endOf_108 C hr hR k6 x1 x2 x4 r3 M3 h) rfl
    · have h := h.2 c
      refine a_iload_n C (tk T_cX12_endOf 50 rfl) rfl ?_
      refine a_iload C (tk T_cX12_endOf 51 rfl) rfl ?_
      refine a_statI C [.int x3, .int x5_2] me_yJ9_max_7cf53 lk_RX12_106 (ct_Math_max h) (by decide) rfl rfl (Nat.le_of_ble_eq_true rfl) (tk T_cX12_endOf 52 rfl) hr (fun r4 M4 h => ?_)
      refine a_goto C 108 (tk T_cX12_endOf 53 rfl) rfl ?_
      exact a_to (k_M_endOf_108 C hr hR k6 x1 x2 x4 r4 M4 h) rfl
  · have h := h.2 c
    refine a_iload C (tk T_cX12_endOf 46 rfl) rfl ?_
    refine a_goto C 108 (tk T_cX12_endOf 47 rfl) rfl ?_
    exact a_to (k_M_endOf_108 C hr hR k6 x1 x2 x4 x5_2 M1 h) rfl
def P_M_endOf_6 (post : Int32 → Mem → Prop) : Nat → Int32 → Int32 → Int32 → Int32 → Mem → Prop
  | 0, _, _, _, _, _ => False
  | n + 1, x1, x2, x3, x4, M =>
    ((1710 : Int32) ≤ x4 → (post x3 M)) ∧
  (¬ (1710 : Int32) ≤ x4 → (vp_in x4 1710 ∧ vp_in x4 1710 ∧ ((M 3 x4.toNatClampNeg) ≤ (M 4 x4.toNatClampNeg) → ((x2 = 0 → (vp_in x4 1710 ∧ vp_in (4 : Int32) 5966 ∧ P_M_endOf_69 post (P_M_endOf_6 post n) x1 x2 x3 x4 ((M 3 x4.toNatClampNeg) - (M 1 (4 : Int32).toNatClampNeg)) M)) ∧
  (¬ x2 = 0 → (vp_in x4 1710 ∧ vp_in (4 : Int32) 5966 ∧ P_M_endOf_69 post (P_M_endOf_6 post n) x1 x2 x3 x4 ((M 4 x4.toNatClampNeg) + (M 1 (4 : Int32).toNatClampNeg)) M)))) ∧
  (¬ (M 3 x4.toNatClampNeg) ≤ (M 4 x4.toNatClampNeg) → (P_M_endOf_109 post (P_M_endOf_6 post n) x1 x2 x3 x4 M))))
theorem k_M_endOf_6 {X : FX} {g : GT} {A : Nat → Prop} {Z : State → Prop} {post : Int32 → Mem → Prop} (C : Cx X g layM A cX12_endOf 6 RX12 2) (hr : 0 ≤ X.2.2.2.1.cells ∧ 0 ≤ X.2.2.2.1.slots) (hR : RetI X g layM A cX12_endOf 6 0 0 Z post) : ∀ (n : Nat) (x1 x2 x3 x4 : Int32) (M : Mem), P_M_endOf_6 post n x1 x2 x3 x4 M → AtX X g layM A 6 0 0 Z 6 [(0, .ref (ad g 0)), (1, .int x1), (2, .int x2), (3, .int x3), (4, .int x4)] [] M := by
  intro n
  induction n with
  | zero =>
    intro x1 x2 x3 x4 M h
    exact h.elim
  | succ n ih =>
    intro x1 x2 x3 x4 M h
    refine a_iload C (tk T_cX12_endOf 4 rfl) rfl ?_
    refine a_sipush C (1710 : Int32) (tk T_cX12_endOf 5 rfl) kS_1710 ?_
    refine a_icmp_ge C 115 (tk T_cX12_endOf 6 rfl) rfl (fun c => ?_) (fun c => ?_)
    · have h := h.1 c
      refine a_iload_n C (tk T_cX12_endOf 60 rfl) rfl ?_
      exact hR _ _ _ _ (tk T_cX12_endOf 61 rfl) h
    · have h := h.2 c
      refine a_aload_n C (tk T_cX12_endOf 7 rfl) rfl ?_
      refine a_getR C f_RX12_20 (tk T_cX12_endOf 8 rfl) lm0 rfl ?_
      refine a_iload C (tk T_cX12_endOf 9 rfl) rfl ?_
      obtain ⟨hb, h⟩ := h
      refine a_iald C (tk T_cX12_endOf 10 rfl) lm3 hb ?_
      refine a_aload_n C (tk T_cX12_endOf 11 rfl) rfl ?_
      refine a_getR C f_RX12_23 (tk T_cX12_endOf 12 rfl) lm0 rfl ?_
      refine a_iload C (tk T_cX12_endOf 13 rfl) rfl ?_
      obtain ⟨hb, h⟩ := h
      refine a_iald C (tk T_cX12_endOf 14 rfl) lm4 hb ?_
      refine a_icmp_le C 34 (tk T_cX12_endOf 15 rfl) rfl (fun c => ?_) (fun c => ?_)
      · have h := h.1 c
        refine a_iload_n C (tk T_cX12_endOf 17 rfl) rfl ?_
        refine a_if_eq C 55 (tk T_cX12_endOf 18 rfl) rfl (fun c => ?_) (fun c => ?_)
        · have h := h.1 c
          refine a_aload_n C (tk T_cX12_endOf 29 rfl) rfl ?_
          refine a_getR C f_RX12_20 (tk T_cX12_endOf 30 rfl) lm0 rfl ?_
          refine a_iload C (tk T_cX12_endOf 31 rfl) rfl ?_
          obtain ⟨hb, h⟩ := h
          refine a_iald C (tk T_cX12_endOf 32 rfl) lm3 hb ?_
          refine a_aload_n C (tk T_cX12_endOf 33 rfl) rfl ?_
          refine a_getR C f_RX12_13 (tk T_cX12_endOf 34 rfl) lm0 rfl ?_
          refine a_iconst C (4 : Int32) (tk T_cX12_endOf 35 rfl) kI_4 ?_
          obtain ⟨hb, h⟩ := h
          refine a_iald C (tk T_cX12_endOf 36 rfl) lm1 hb ?_
          refine a_isub C (tk T_cX12_endOf 37 rfl) ?_
          exact a_to (k_M_endOf_69 C hr hR ih x1 x2 x3 x4 ((M 3 x4.toNatClampNeg) - (M 1 (4 : Int32).toNatClampNeg)) M h) rfl
        · have h := h.2 c
          refine a_aload_n C (tk T_cX12_endOf 19 rfl) rfl ?_
          refine a_getR C f_RX12_23 (tk T_cX12_endOf 20 rfl) lm0 rfl ?_
          refine a_iload C (tk T_cX12_endOf 21 rfl) rfl ?_
          obtain ⟨hb, h⟩ := h
          refine a_iald C (tk T_cX12_endOf 22 rfl) lm4 hb ?_
          refine a_aload_n C (tk T_cX12_endOf 23 rfl) rfl ?_
          refine a_getR C f_RX12_13 (tk T_cX12_endOf 24 rfl) lm0 rfl ?_
          refine a_iconst C (4 : Int32) (tk T_cX12_endOf 25 rfl) kI_4 ?_
          obtain ⟨hb, h⟩ := h
          refine a_iald C (tk T_cX12_endOf 26 rfl) lm1 hb ?_
          refine a_iadd C (tk T_cX12_endOf 27 rfl) ?_
          refine a_goto C 69 (tk T_cX12_endOf 28 rfl) rfl ?_
          exact a_to (k_M_endOf_69 C hr hR ih x1 x2 x3 x4 ((M 4 x4.toNatClampNeg) + (M 1 (4 : Int32).toNatClampNeg)) M h) rfl
      · have h := h.2 c
        refine a_goto C 109 (tk T_cX12_endOf 16 rfl) rfl ?_
        exact a_to (k_M_endOf_109 C hr hR ih x1 x2 x3 x4 M h) rfl
def P_M_endOf (post : Int32 → Mem → Prop) (x1 x2 : Int32) (M : Mem) : Prop :=
  ∃ j6, P_M_endOf_6 post j6 x1 x2 (-99999 : Int32) (0 : Int32) M
theorem k_M_endOf {X : FX} {g : GT} {A : Nat → Prop} {Z : State → Prop} {post : Int32 → Mem → Prop} (C : Cx X g layM A cX12_endOf 6 RX12 2) (hr : 0 ≤ X.2.2.2.1.cells ∧ 0 ≤ X.2.2.2.1.slots) (hR : RetI X g layM A cX12_endOf 6 0 0 Z post) (x1 x2 : Int32) (M : Mem) (h : P_M_endOf post x1 x2 M) : AtX X g layM A 6 0 0 Z 0 [(0, .ref (ad g 0)), (1, .int x1), (2, .int x2)] [] M := by
  refine a_ldc C c_RX12_116 (tk T_cX12_endOf 0 rfl) ?_
  refine a_istore_n C (tk T_cX12_endOf 1 rfl) (by decide) rfl ?_
  refine a_iconst C (0 : Int32) (tk T_cX12_endOf 2 rfl) kI_0 ?_
  refine a_istore C (tk T_cX12_endOf 3 rfl) (by decide) rfl ?_
  obtain ⟨n1, h⟩ := h
  exact a_to (k_M_endOf_6 C hr hR n1 x1 x2 (-99999 : Int32) (0 : Int32) M h) rfl
theorem ct_M_endOf {l : Launch} {g : GT} {post : Int32 → Mem → Prop} {x1 x2 : Int32} {M : Mem} (h : P_M_endOf post x1 x2 M) : CI l g layM yX12_endOf cX12_endOf 6 (some .int) 2 [.ref (ad g 0), .int x1, .int x2] M post :=
  ci_of (plainFor_of_name (by decide +kernel)) (Nat.le_of_ble_eq_true rfl) (fun X A Z hl C hr hR => by subst hl; exact k_M_endOf C hr hR x1 x2 M h)
