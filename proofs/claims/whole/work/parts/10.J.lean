def T_cJ9_floorMod_7cf53L : List (Nat × Instr × Nat) := [(0, .iload_n 0, 1), (1, .iload_n 1, 1), (2, .irem, 1), (3, .istore_n 2, 1), (4, .iload_n 0, 1), (5, .iload_n 1, 1), (6, .ixor, 1), (7, .ifCond .ge 11, 3), (10, .iload_n 2, 1), (11, .ifCond .eq 7, 3), (14, .iload_n 2, 1), (15, .iload_n 1, 1), (16, .iadd, 1), (17, .ireturn, 1), (18, .iload_n 2, 1), (19, .ireturn, 1)]
theorem T_cJ9_floorMod_7cf53 : tabOK cJ9_floorMod_7cf53 T_cJ9_floorMod_7cf53L = true := by decide +kernel
def P_Math_floorMod_18 (post : Int32 → Mem → Prop) (x2 : Int32) (M : Mem) : Prop :=
  post x2 M
theorem k_Math_floorMod_18 {X : FX} {g : GT} {lay : List CD} {A : Nat → Prop} {Z : State → Prop} {post : Int32 → Mem → Prop} (C : Cx X g lay A cJ9_floorMod_7cf53 3 RJ9 0) (hr : 0 ≤ X.2.2.2.1.cells ∧ 0 ≤ X.2.2.2.1.slots) (hR : RetI X g lay A cJ9_floorMod_7cf53 3 0 0 Z post) (x2 : Int32) (M : Mem) (h : P_Math_floorMod_18 post x2 M) : AtX X g lay A 3 0 0 Z 18 [(2, .int x2)] [] M := by
  refine a_iload_n C (tk T_cJ9_floorMod_7cf53 14 rfl) rfl ?_
  exact hR _ _ _ _ (tk T_cJ9_floorMod_7cf53 15 rfl) h
def P_Math_floorMod (post : Int32 → Mem → Prop) (x0 x1 : Int32) (M : Mem) : Prop :=
  (¬ x1 = 0) ∧ ∀ x2_1, x2_1 = (irm x0 x1) → (0 ≤ (x0 ^^^ x1) → (P_Math_floorMod_18 post x2_1 M)) ∧
  (¬ 0 ≤ (x0 ^^^ x1) → ((x2_1 = 0 → (P_Math_floorMod_18 post x2_1 M)) ∧
  (¬ x2_1 = 0 → (post (x2_1 + x1) M))))
theorem k_Math_floorMod {X : FX} {g : GT} {lay : List CD} {A : Nat → Prop} {Z : State → Prop} {post : Int32 → Mem → Prop} (C : Cx X g lay A cJ9_floorMod_7cf53 3 RJ9 0) (hr : 0 ≤ X.2.2.2.1.cells ∧ 0 ≤ X.2.2.2.1.slots) (hR : RetI X g lay A cJ9_floorMod_7cf53 3 0 0 Z post) (x0 x1 : Int32) (M : Mem) (h : P_Math_floorMod post x0 x1 M) : AtX X g lay A 3 0 0 Z 0 [(0, .int x0), (1, .int x1)] [] M := by
  refine a_iload_n C (tk T_cJ9_floorMod_7cf53 0 rfl) rfl ?_
  refine a_iload_n C (tk T_cJ9_floorMod_7cf53 1 rfl) rfl ?_
  obtain ⟨hy, h⟩ := h
  refine a_irem C (tk T_cJ9_floorMod_7cf53 2 rfl) hy ?_
  refine a_top (fun x2_1 e_x2_1 => ?_)
  have h := h x2_1 e_x2_1
  refine a_istore_n C (tk T_cJ9_floorMod_7cf53 3 rfl) (by decide) rfl ?_
  refine a_iload_n C (tk T_cJ9_floorMod_7cf53 4 rfl) rfl ?_
  refine a_iload_n C (tk T_cJ9_floorMod_7cf53 5 rfl) rfl ?_
  refine a_ixor C (tk T_cJ9_floorMod_7cf53 6 rfl) ?_
  refine a_if_ge C 18 (tk T_cJ9_floorMod_7cf53 7 rfl) rfl (fun c => ?_) (fun c => ?_)
  · have h := h.1 c
    exact a_to (k_Math_floorMod_18 C hr hR x2_1 M h) rfl
  · have h := h.2 c
    refine a_iload_n C (tk T_cJ9_floorMod_7cf53 8 rfl) rfl ?_
    refine a_if_eq C 18 (tk T_cJ9_floorMod_7cf53 9 rfl) rfl (fun c => ?_) (fun c => ?_)
    · have h := h.1 c
      exact a_to (k_Math_floorMod_18 C hr hR x2_1 M h) rfl
    · have h := h.2 c
      refine a_iload_n C (tk T_cJ9_floorMod_7cf53 10 rfl) rfl ?_
      refine a_iload_n C (tk T_cJ9_floorMod_7cf53 11 rfl) rfl ?_
      refine a_iadd C (tk T_cJ9_floorMod_7cf53 12 rfl) ?_
      exact hR _ _ _ _ (tk T_cJ9_floorMod_7cf53 13 rfl) h
theorem ct_Math_floorMod {l : Launch} {g : GT} {lay : List CD} {post : Int32 → Mem → Prop} {x0 x1 : Int32} {M : Mem} (h : P_Math_floorMod post x0 x1 M) : CI l g lay yJ9_floorMod_7cf53 cJ9_floorMod_7cf53 3 (some .int) 0 [.int x0, .int x1] M post :=
  ci_of (by decide +kernel) (Nat.le_of_ble_eq_true rfl) (fun X A Z hl C hr hR => by subst hl; exact k_Math_floorMod C hr hR x0 x1 M h)
def T_cJ9_abs_0f7a4L : List (Nat × Instr × Nat) := [(0, .iload_n 0, 1), (1, .ifCond .ge 8, 3), (4, .iload_n 0, 1), (5, .ineg, 1), (6, .goto 4, 3), (9, .iload_n 0, 1), (10, .ireturn, 1)]
theorem T_cJ9_abs_0f7a4 : tabOK cJ9_abs_0f7a4 T_cJ9_abs_0f7a4L = true := by decide +kernel
def P_Math_abs_10 (post : Int32 → Mem → Prop) (s0 : Int32) (M : Mem) : Prop :=
  post s0 M
theorem k_Math_abs_10 {X : FX} {g : GT} {lay : List CD} {A : Nat → Prop} {Z : State → Prop} {post : Int32 → Mem → Prop} (C : Cx X g lay A cJ9_abs_0f7a4 1 RJ9 0) (hr : 0 ≤ X.2.2.2.1.cells ∧ 0 ≤ X.2.2.2.1.slots) (hR : RetI X g lay A cJ9_abs_0f7a4 1 0 0 Z post) (s0 : Int32) (M : Mem) (h : P_Math_abs_10 post s0 M) : AtX X g lay A 1 0 0 Z 10 [] [.int s0] M := by
  exact hR _ _ _ _ (tk T_cJ9_abs_0f7a4 6 rfl) h
def P_Math_abs (post : Int32 → Mem → Prop) (x0 : Int32) (M : Mem) : Prop :=
  (0 ≤ x0 → (P_Math_abs_10 post x0 M)) ∧
  (¬ 0 ≤ x0 → (P_Math_abs_10 post (-x0) M))
theorem k_Math_abs {X : FX} {g : GT} {lay : List CD} {A : Nat → Prop} {Z : State → Prop} {post : Int32 → Mem → Prop} (C : Cx X g lay A cJ9_abs_0f7a4 1 RJ9 0) (hr : 0 ≤ X.2.2.2.1.cells ∧ 0 ≤ X.2.2.2.1.slots) (hR : RetI X g lay A cJ9_abs_0f7a4 1 0 0 Z post) (x0 : Int32) (M : Mem) (h : P_Math_abs post x0 M) : AtX X g lay A 1 0 0 Z 0 [(0, .int x0)] [] M := by
  refine a_iload_n C (tk T_cJ9_abs_0f7a4 0 rfl) rfl ?_
  refine a_if_ge C 9 (tk T_cJ9_abs_0f7a4 1 rfl) rfl (fun c => ?_) (fun c => ?_)
  · have h := h.1 c
    refine a_iload_n C (tk T_cJ9_abs_0f7a4 5 rfl) rfl ?_
    exact a_to (k_Math_abs_10 C hr hR x0 M h) rfl
  · have h := h.2 c
    refine a_iload_n C (tk T_cJ9_abs_0f7a4 2 rfl) rfl ?_
    refine a_ineg C (tk T_cJ9_abs_0f7a4 3 rfl) ?_
    refine a_goto C 10 (tk T_cJ9_abs_0f7a4 4 rfl) rfl ?_
    exact a_to (k_Math_abs_10 C hr hR (-x0) M h) rfl
theorem ct_Math_abs {l : Launch} {g : GT} {lay : List CD} {post : Int32 → Mem → Prop} {x0 : Int32} {M : Mem} (h : P_Math_abs post x0 M) : CI l g lay yJ9_abs_0f7a4 cJ9_abs_0f7a4 1 (some .int) 0 [.int x0] M post :=
  ci_of (by decide +kernel) (Nat.le_of_ble_eq_true rfl) (fun X A Z hl C hr hR => by subst hl; exact k_Math_abs C hr hR x0 M h)
def T_cJ9_floorDiv_7cf53L : List (Nat × Instr × Nat) := [(0, .iload_n 0, 1), (1, .iload_n 1, 1), (2, .idiv, 1), (3, .istore_n 2, 1), (4, .iload_n 0, 1), (5, .iload_n 1, 1), (6, .ixor, 1), (7, .ifCond .ge 14, 3), (10, .iload_n 2, 1), (11, .iload_n 1, 1), (12, .imul, 1), (13, .iload_n 0, 1), (14, .if_icmp .eq 7, 3), (17, .iload_n 2, 1), (18, .iconst 1, 1), (19, .isub, 1), (20, .ireturn, 1), (21, .iload_n 2, 1), (22, .ireturn, 1)]
theorem T_cJ9_floorDiv_7cf53 : tabOK cJ9_floorDiv_7cf53 T_cJ9_floorDiv_7cf53L = true := by decide +kernel
def P_Math_floorDiv_21 (post : Int32 → Mem → Prop) (x2 : Int32) (M : Mem) : Prop :=
  post x2 M
theorem k_Math_floorDiv_21 {X : FX} {g : GT} {lay : List CD} {A : Nat → Prop} {Z : State → Prop} {post : Int32 → Mem → Prop} (C : Cx X g lay A cJ9_floorDiv_7cf53 3 RJ9 0) (hr : 0 ≤ X.2.2.2.1.cells ∧ 0 ≤ X.2.2.2.1.slots) (hR : RetI X g lay A cJ9_floorDiv_7cf53 3 0 0 Z post) (x2 : Int32) (M : Mem) (h : P_Math_floorDiv_21 post x2 M) : AtX X g lay A 3 0 0 Z 21 [(2, .int x2)] [] M := by
  refine a_iload_n C (tk T_cJ9_floorDiv_7cf53 17 rfl) rfl ?_
  exact hR _ _ _ _ (tk T_cJ9_floorDiv_7cf53 18 rfl) h
def P_Math_floorDiv (post : Int32 → Mem → Prop) (x0 x1 : Int32) (M : Mem) : Prop :=
  (¬ x1 = 0) ∧ ∀ x2_1, x2_1 = (x0 / x1) → (0 ≤ (x0 ^^^ x1) → (P_Math_floorDiv_21 post x2_1 M)) ∧
  (¬ 0 ≤ (x0 ^^^ x1) → (((x2_1 * x1) = x0 → (P_Math_floorDiv_21 post x2_1 M)) ∧
  (¬ (x2_1 * x1) = x0 → (post (x2_1 - (1 : Int32)) M))))
theorem k_Math_floorDiv {X : FX} {g : GT} {lay : List CD} {A : Nat → Prop} {Z : State → Prop} {post : Int32 → Mem → Prop} (C : Cx X g lay A cJ9_floorDiv_7cf53 3 RJ9 0) (hr : 0 ≤ X.2.2.2.1.cells ∧ 0 ≤ X.2.2.2.1.slots) (hR : RetI X g lay A cJ9_floorDiv_7cf53 3 0 0 Z post) (x0 x1 : Int32) (M : Mem) (h : P_Math_floorDiv post x0 x1 M) : AtX X g lay A 3 0 0 Z 0 [(0, .int x0), (1, .int x1)] [] M := by
  refine a_iload_n C (tk T_cJ9_floorDiv_7cf53 0 rfl) rfl ?_
  refine a_iload_n C (tk T_cJ9_floorDiv_7cf53 1 rfl) rfl ?_
  obtain ⟨hy, h⟩ := h
  refine a_idiv C (tk T_cJ9_floorDiv_7cf53 2 rfl) hy ?_
  refine a_top (fun x2_1 e_x2_1 => ?_)
  have h := h x2_1 e_x2_1
  refine a_istore_n C (tk T_cJ9_floorDiv_7cf53 3 rfl) (by decide) rfl ?_
  refine a_iload_n C (tk T_cJ9_floorDiv_7cf53 4 rfl) rfl ?_
  refine a_iload_n C (tk T_cJ9_floorDiv_7cf53 5 rfl) rfl ?_
  refine a_ixor C (tk T_cJ9_floorDiv_7cf53 6 rfl) ?_
  refine a_if_ge C 21 (tk T_cJ9_floorDiv_7cf53 7 rfl) rfl (fun c => ?_) (fun c => ?_)
  · have h := h.1 c
    exact a_to (k_Math_floorDiv_21 C hr hR x2_1 M h) rfl
  · have h := h.2 c
    refine a_iload_n C (tk T_cJ9_floorDiv_7cf53 8 rfl) rfl ?_
    refine a_iload_n C (tk T_cJ9_floorDiv_7cf53 9 rfl) rfl ?_
    refine a_imul C (tk T_cJ9_floorDiv_7cf53 10 rfl) ?_
    refine a_iload_n C (tk T_cJ9_floorDiv_7cf53 11 rfl) rfl ?_
    refine a_icmp_eq C 21 (tk T_cJ9_floorDiv_7cf53 12 rfl) rfl (fun c => ?_) (fun c => ?_)
    · have h := h.1 c
      exact a_to (k_Math_floorDiv_21 C hr hR x2_1 M h) rfl
    · have h := h.2 c
      refine a_iload_n C (tk T_cJ9_floorDiv_7cf53 13 rfl) rfl ?_
      refine a_iconst C (1 : Int32) (tk T_cJ9_floorDiv_7cf53 14 rfl) kI_1 ?_
      refine a_isub C (tk T_cJ9_floorDiv_7cf53 15 rfl) ?_
      exact hR _ _ _ _ (tk T_cJ9_floorDiv_7cf53 16 rfl) h
theorem ct_Math_floorDiv {l : Launch} {g : GT} {lay : List CD} {post : Int32 → Mem → Prop} {x0 x1 : Int32} {M : Mem} (h : P_Math_floorDiv post x0 x1 M) : CI l g lay yJ9_floorDiv_7cf53 cJ9_floorDiv_7cf53 3 (some .int) 0 [.int x0, .int x1] M post :=
  ci_of (by decide +kernel) (Nat.le_of_ble_eq_true rfl) (fun X A Z hl C hr hR => by subst hl; exact k_Math_floorDiv C hr hR x0 x1 M h)
def T_cJ9_max_7cf53L : List (Nat × Instr × Nat) := [(0, .iload_n 0, 1), (1, .iload_n 1, 1), (2, .if_icmp .lt 7, 3), (5, .iload_n 0, 1), (6, .goto 4, 3), (9, .iload_n 1, 1), (10, .ireturn, 1)]
theorem T_cJ9_max_7cf53 : tabOK cJ9_max_7cf53 T_cJ9_max_7cf53L = true := by decide +kernel
def P_Math_max_10 (post : Int32 → Mem → Prop) (s0 : Int32) (M : Mem) : Prop :=
  post s0 M
theorem k_Math_max_10 {X : FX} {g : GT} {lay : List CD} {A : Nat → Prop} {Z : State → Prop} {post : Int32 → Mem → Prop} (C : Cx X g lay A cJ9_max_7cf53 2 RJ9 0) (hr : 0 ≤ X.2.2.2.1.cells ∧ 0 ≤ X.2.2.2.1.slots) (hR : RetI X g lay A cJ9_max_7cf53 2 0 0 Z post) (s0 : Int32) (M : Mem) (h : P_Math_max_10 post s0 M) : AtX X g lay A 2 0 0 Z 10 [] [.int s0] M := by
  exact hR _ _ _ _ (tk T_cJ9_max_7cf53 6 rfl) h
def P_Math_max (post : Int32 → Mem → Prop) (x0 x1 : Int32) (M : Mem) : Prop :=
  (x0 < x1 → (P_Math_max_10 post x1 M)) ∧
  (¬ x0 < x1 → (P_Math_max_10 post x0 M))
theorem k_Math_max {X : FX} {g : GT} {lay : List CD} {A : Nat → Prop} {Z : State → Prop} {post : Int32 → Mem → Prop} (C : Cx X g lay A cJ9_max_7cf53 2 RJ9 0) (hr : 0 ≤ X.2.2.2.1.cells ∧ 0 ≤ X.2.2.2.1.slots) (hR : RetI X g lay A cJ9_max_7cf53 2 0 0 Z post) (x0 x1 : Int32) (M : Mem) (h : P_Math_max post x0 x1 M) : AtX X g lay A 2 0 0 Z 0 [(0, .int x0), (1, .int x1)] [] M := by
  refine a_iload_n C (tk T_cJ9_max_7cf53 0 rfl) rfl ?_
  refine a_iload_n C (tk T_cJ9_max_7cf53 1 rfl) rfl ?_
  refine a_icmp_lt C 9 (tk T_cJ9_max_7cf53 2 rfl) rfl (fun c => ?_) (fun c => ?_)
  · have h := h.1 c
    refine a_iload_n C (tk T_cJ9_max_7cf53 5 rfl) rfl ?_
    exact a_to (k_Math_max_10 C hr hR x1 M h) rfl
  · have h := h.2 c
    refine a_iload_n C (tk T_cJ9_max_7cf53 3 rfl) rfl ?_
    refine a_goto C 10 (tk T_cJ9_max_7cf53 4 rfl) rfl ?_
    exact a_to (k_Math_max_10 C hr hR x0 M h) rfl
theorem ct_Math_max {l : Launch} {g : GT} {lay : List CD} {post : Int32 → Mem → Prop} {x0 x1 : Int32} {M : Mem} (h : P_Math_max post x0 x1 M) : CI l g lay yJ9_max_7cf53 cJ9_max_7cf53 2 (some .int) 0 [.int x0, .int x1] M post :=
  ci_of (by decide +kernel) (Nat.le_of_ble_eq_true rfl) (fun X A Z hl C hr hR => by subst hl; exact k_Math_max C hr hR x0 x1 M h)
def T_cJ9_min_7cf53L : List (Nat × Instr × Nat) := [(0, .iload_n 0, 1), (1, .iload_n 1, 1), (2, .if_icmp .gt 7, 3), (5, .iload_n 0, 1), (6, .goto 4, 3), (9, .iload_n 1, 1), (10, .ireturn, 1)]
theorem T_cJ9_min_7cf53 : tabOK cJ9_min_7cf53 T_cJ9_min_7cf53L = true := by decide +kernel
def P_Math_min_10 (post : Int32 → Mem → Prop) (s0 : Int32) (M : Mem) : Prop :=
  post s0 M
theorem k_Math_min_10 {X : FX} {g : GT} {lay : List CD} {A : Nat → Prop} {Z : State → Prop} {post : Int32 → Mem → Prop} (C : Cx X g lay A cJ9_min_7cf53 2 RJ9 0) (hr : 0 ≤ X.2.2.2.1.cells ∧ 0 ≤ X.2.2.2.1.slots) (hR : RetI X g lay A cJ9_min_7cf53 2 0 0 Z post) (s0 : Int32) (M : Mem) (h : P_Math_min_10 post s0 M) : AtX X g lay A 2 0 0 Z 10 [] [.int s0] M := by
  exact hR _ _ _ _ (tk T_cJ9_min_7cf53 6 rfl) h
def P_Math_min (post : Int32 → Mem → Prop) (x0 x1 : Int32) (M : Mem) : Prop :=
  (x1 < x0 → (P_Math_min_10 post x1 M)) ∧
  (¬ x1 < x0 → (P_Math_min_10 post x0 M))
theorem k_Math_min {X : FX} {g : GT} {lay : List CD} {A : Nat → Prop} {Z : State → Prop} {post : Int32 → Mem → Prop} (C : Cx X g lay A cJ9_min_7cf53 2 RJ9 0) (hr : 0 ≤ X.2.2.2.1.cells ∧ 0 ≤ X.2.2.2.1.slots) (hR : RetI X g lay A cJ9_min_7cf53 2 0 0 Z post) (x0 x1 : Int32) (M : Mem) (h : P_Math_min post x0 x1 M) : AtX X g lay A 2 0 0 Z 0 [(0, .int x0), (1, .int x1)] [] M := by
  refine a_iload_n C (tk T_cJ9_min_7cf53 0 rfl) rfl ?_
  refine a_iload_n C (tk T_cJ9_min_7cf53 1 rfl) rfl ?_
  refine a_icmp_gt C 9 (tk T_cJ9_min_7cf53 2 rfl) rfl (fun c => ?_) (fun c => ?_)
  · have h := h.1 c
    refine a_iload_n C (tk T_cJ9_min_7cf53 5 rfl) rfl ?_
    exact a_to (k_Math_min_10 C hr hR x1 M h) rfl
  · have h := h.2 c
    refine a_iload_n C (tk T_cJ9_min_7cf53 3 rfl) rfl ?_
    refine a_goto C 10 (tk T_cJ9_min_7cf53 4 rfl) rfl ?_
    exact a_to (k_Math_min_10 C hr hR x0 M h) rfl
theorem ct_Math_min {l : Launch} {g : GT} {lay : List CD} {post : Int32 → Mem → Prop} {x0 x1 : Int32} {M : Mem} (h : P_Math_min post x0 x1 M) : CI l g lay yJ9_min_7cf53 cJ9_min_7cf53 2 (some .int) 0 [.int x0, .int x1] M post :=
  ci_of (by decide +kernel) (Nat.le_of_ble_eq_true rfl) (fun X A Z hl C hr hR => by subst hl; exact k_Math_min C hr hR x0 x1 M h)
def T_cJ6_bitCount_0f7a4L : List (Nat × Instr × Nat) := [(0, .iload_n 0, 1), (1, .iload_n 0, 1), (2, .iconst 1, 1), (3, .iushr, 1), (4, .ldc_w 265, 3), (7, .iand, 1), (8, .isub, 1), (9, .istore_n 0, 1), (10, .iload_n 0, 1), (11, .ldc_w 266, 3), (14, .iand, 1), (15, .iload_n 0, 1), (16, .iconst 2, 1), (17, .iushr, 1), (18, .ldc_w 266, 3), (21, .iand, 1), (22, .iadd, 1), (23, .istore_n 0, 1), (24, .iload_n 0, 1), (25, .iload_n 0, 1), (26, .iconst 4, 1), (27, .iushr, 1), (28, .iadd, 1), (29, .ldc_w 267, 3), (32, .iand, 1), (33, .istore_n 0, 1), (34, .iload_n 0, 1), (35, .iload_n 0, 1), (36, .bipush 8, 2), (38, .iushr, 1), (39, .iadd, 1), (40, .istore_n 0, 1), (41, .iload_n 0, 1), (42, .iload_n 0, 1), (43, .bipush 16, 2), (45, .iushr, 1), (46, .iadd, 1), (47, .istore_n 0, 1), (48, .iload_n 0, 1), (49, .bipush 63, 2), (51, .iand, 1), (52, .ireturn, 1)]
theorem T_cJ6_bitCount_0f7a4 : tabOK cJ6_bitCount_0f7a4 T_cJ6_bitCount_0f7a4L = true := by decide +kernel
def P_Integer_bitCount (post : Int32 → Mem → Prop) (x0 : Int32) (M : Mem) : Prop :=
  ∀ x0_1, x0_1 = (x0 - ((ush x0 (1 : Int32)) &&& (1431655765 : Int32))) → ∀ v2, v2 = ((x0_1 &&& (858993459 : Int32)) + ((ush x0_1 (2 : Int32)) &&& (858993459 : Int32))) → ∀ x0_3, x0_3 = ((v2 + (ush v2 (4 : Int32))) &&& (252645135 : Int32)) → ∀ x0_4, x0_4 = (x0_3 + (ush x0_3 (8 : Int32))) → ∀ x0_5, x0_5 = (x0_4 + (ush x0_4 (16 : Int32))) → post (x0_5 &&& (63 : Int32)) M
theorem k_Integer_bitCount {X : FX} {g : GT} {lay : List CD} {A : Nat → Prop} {Z : State → Prop} {post : Int32 → Mem → Prop} (C : Cx X g lay A cJ6_bitCount_0f7a4 1 RJ6 0) (hr : 0 ≤ X.2.2.2.1.cells ∧ 0 ≤ X.2.2.2.1.slots) (hR : RetI X g lay A cJ6_bitCount_0f7a4 1 0 0 Z post) (x0 : Int32) (M : Mem) (h : P_Integer_bitCount post x0 M) : AtX X g lay A 1 0 0 Z 0 [(0, .int x0)] [] M := by
  refine a_iload_n C (tk T_cJ6_bitCount_0f7a4 0 rfl) rfl ?_
  refine a_iload_n C (tk T_cJ6_bitCount_0f7a4 1 rfl) rfl ?_
  refine a_iconst C (1 : Int32) (tk T_cJ6_bitCount_0f7a4 2 rfl) kI_1 ?_
  refine a_iushr C (tk T_cJ6_bitCount_0f7a4 3 rfl) ?_
  refine a_ldc_w C c_RJ6_265 (tk T_cJ6_bitCount_0f7a4 4 rfl) ?_
  refine a_iand C (tk T_cJ6_bitCount_0f7a4 5 rfl) ?_
  refine a_isub C (tk T_cJ6_bitCount_0f7a4 6 rfl) ?_
  refine a_top (fun x0_1 e_x0_1 => ?_)
  have h := h x0_1 e_x0_1
  refine a_istore_n C (tk T_cJ6_bitCount_0f7a4 7 rfl) (by decide) rfl ?_
  refine a_iload_n C (tk T_cJ6_bitCount_0f7a4 8 rfl) rfl ?_
  refine a_ldc_w C c_RJ6_266 (tk T_cJ6_bitCount_0f7a4 9 rfl) ?_
  refine a_iand C (tk T_cJ6_bitCount_0f7a4 10 rfl) ?_
  refine a_iload_n C (tk T_cJ6_bitCount_0f7a4 11 rfl) rfl ?_
  refine a_iconst C (2 : Int32) (tk T_cJ6_bitCount_0f7a4 12 rfl) kI_2 ?_
  refine a_iushr C (tk T_cJ6_bitCount_0f7a4 13 rfl) ?_
  refine a_ldc_w C c_RJ6_266 (tk T_cJ6_bitCount_0f7a4 14 rfl) ?_
  refine a_iand C (tk T_cJ6_bitCount_0f7a4 15 rfl) ?_
  refine a_iadd C (tk T_cJ6_bitCount_0f7a4 16 rfl) ?_
  refine a_top (fun v2 e_v2 => ?_)
  have h := h v2 e_v2
  refine a_istore_n C (tk T_cJ6_bitCount_0f7a4 17 rfl) (by decide) rfl ?_
  refine a_iload_n C (tk T_cJ6_bitCount_0f7a4 18 rfl) rfl ?_
  refine a_iload_n C (tk T_cJ6_bitCount_0f7a4 19 rfl) rfl ?_
  refine a_iconst C (4 : Int32) (tk T_cJ6_bitCount_0f7a4 20 rfl) kI_4 ?_
  refine a_iushr C (tk T_cJ6_bitCount_0f7a4 21 rfl) ?_
  refine a_iadd C (tk T_cJ6_bitCount_0f7a4 22 rfl) ?_
  refine a_ldc_w C c_RJ6_267 (tk T_cJ6_bitCount_0f7a4 23 rfl) ?_
  refine a_iand C (tk T_cJ6_bitCount_0f7a4 24 rfl) ?_
  refine a_top (fun x0_3 e_x0_3 => ?_)
  have h := h x0_3 e_x0_3
  refine a_istore_n C (tk T_cJ6_bitCount_0f7a4 25 rfl) (by decide) rfl ?_
  refine a_iload_n C (tk T_cJ6_bitCount_0f7a4 26 rfl) rfl ?_
  refine a_iload_n C (tk T_cJ6_bitCount_0f7a4 27 rfl) rfl ?_
  refine a_bipush C (8 : Int32) (tk T_cJ6_bitCount_0f7a4 28 rfl) kB_8 ?_
  refine a_iushr C (tk T_cJ6_bitCount_0f7a4 29 rfl) ?_
  refine a_iadd C (tk T_cJ6_bitCount_0f7a4 30 rfl) ?_
  refine a_top (fun x0_4 e_x0_4 => ?_)
  have h := h x0_4 e_x0_4
  refine a_istore_n C (tk T_cJ6_bitCount_0f7a4 31 rfl) (by decide) rfl ?_
  refine a_iload_n C (tk T_cJ6_bitCount_0f7a4 32 rfl) rfl ?_
  refine a_iload_n C (tk T_cJ6_bitCount_0f7a4 33 rfl) rfl ?_
  refine a_bipush C (16 : Int32) (tk T_cJ6_bitCount_0f7a4 34 rfl) kB_16 ?_
  refine a_iushr C (tk T_cJ6_bitCount_0f7a4 35 rfl) ?_
  refine a_iadd C (tk T_cJ6_bitCount_0f7a4 36 rfl) ?_
  refine a_top (fun x0_5 e_x0_5 => ?_)
  have h := h x0_5 e_x0_5
  refine a_istore_n C (tk T_cJ6_bitCount_0f7a4 37 rfl) (by decide) rfl ?_
  refine a_iload_n C (tk T_cJ6_bitCount_0f7a4 38 rfl) rfl ?_
  refine a_bipush C (63 : Int32) (tk T_cJ6_bitCount_0f7a4 39 rfl) kB_63 ?_
  refine a_iand C (tk T_cJ6_bitCount_0f7a4 40 rfl) ?_
  exact hR _ _ _ _ (tk T_cJ6_bitCount_0f7a4 41 rfl) h
theorem ct_Integer_bitCount {l : Launch} {g : GT} {lay : List CD} {post : Int32 → Mem → Prop} {x0 : Int32} {M : Mem} (h : P_Integer_bitCount post x0 M) : CI l g lay yJ6_bitCount_0f7a4 cJ6_bitCount_0f7a4 1 (some .int) 0 [.int x0] M post :=
  ci_of (plainFor_of_name (by decide +kernel)) (Nat.le_of_ble_eq_true rfl) (fun X A Z hl C hr hR => by subst hl; exact k_Integer_bitCount C hr hR x0 M h)
def T_cJ6_numberOfTrailingZeros_0f7a4L : List (Nat × Instr × Nat) := [(0, .iload_n 0, 1), (1, .iconst (-1), 1), (2, .ixor, 1), (3, .iload_n 0, 1), (4, .iconst 1, 1), (5, .isub, 1), (6, .iand, 1), (7, .istore_n 0, 1), (8, .iload_n 0, 1), (9, .ifCond .gt 8, 3), (12, .iload_n 0, 1), (13, .bipush 32, 2), (15, .iand, 1), (16, .ireturn, 1), (17, .iconst 1, 1), (18, .istore_n 1, 1), (19, .iload_n 0, 1), (20, .ldc_w 264, 3), (23, .if_icmp .le 11, 3), (26, .iinc 1 16, 3), (29, .iload_n 0, 1), (30, .bipush 16, 2), (32, .iushr, 1), (33, .istore_n 0, 1), (34, .iload_n 0, 1), (35, .sipush 256, 3), (38, .if_icmp .le 11, 3), (41, .iinc 1 8, 3), (44, .iload_n 0, 1), (45, .bipush 8, 2), (47, .iushr, 1), (48, .istore_n 0, 1), (49, .iload_n 0, 1), (50, .bipush 16, 2), (52, .if_icmp .le 10, 3), (55, .iinc 1 4, 3), (58, .iload_n 0, 1), (59, .iconst 4, 1), (60, .iushr, 1), (61, .istore_n 0, 1), (62, .iload_n 0, 1), (63, .iconst 4, 1), (64, .if_icmp .le 10, 3), (67, .iinc 1 2, 3), (70, .iload_n 0, 1), (71, .iconst 2, 1), (72, .iushr, 1), (73, .istore_n 0, 1), (74, .iload_n 1, 1), (75, .iload_n 0, 1), (76, .iconst 1, 1), (77, .iushr, 1), (78, .iadd, 1), (79, .ireturn, 1)]
theorem T_cJ6_numberOfTrailingZeros_0f7a4 : tabOK cJ6_numberOfTrailingZeros_0f7a4 T_cJ6_numberOfTrailingZeros_0f7a4L = true := by decide +kernel
def P_Integer_numberOfTrailingZeros_74 (post : Int32 → Mem → Prop) (x0 x1 : Int32) (M : Mem) : Prop :=
  post (x1 + (ush x0 (1 : Int32))) M
theorem k_Integer_numberOfTrailingZeros_74 {X : FX} {g : GT} {lay : List CD} {A : Nat → Prop} {Z : State → Prop} {post : Int32 → Mem → Prop} (C : Cx X g lay A cJ6_numberOfTrailingZeros_0f7a4 2 RJ6 0) (hr : 0 ≤ X.2.2.2.1.cells ∧ 0 ≤ X.2.2.2.1.slots) (hR : RetI X g lay A cJ6_numberOfTrailingZeros_0f7a4 2 0 0 Z post) (x0 x1 : Int32) (M : Mem) (h : P_Integer_numberOfTrailingZeros_74 post x0 x1 M) : AtX X g lay A 2 0 0 Z 74 [(0, .int x0), (1, .int x1)] [] M := by
  refine a_iload_n C (tk T_cJ6_numberOfTrailingZeros_0f7a4 48 rfl) rfl ?_
  refine a_iload_n C (tk T_cJ6_numberOfTrailingZeros_0f7a4 49 rfl) rfl ?_
  refine a_iconst C (1 : Int32) (tk T_cJ6_numberOfTrailingZeros_0f7a4 50 rfl) kI_1 ?_
  refine a_iushr C (tk T_cJ6_numberOfTrailingZeros_0f7a4 51 rfl) ?_
  refine a_iadd C (tk T_cJ6_numberOfTrailingZeros_0f7a4 52 rfl) ?_
  exact hR _ _ _ _ (tk T_cJ6_numberOfTrailingZeros_0f7a4 53 rfl) h
def P_Integer_numberOfTrailingZeros_62 (post : Int32 → Mem → Prop) (x0 x1 : Int32) (M : Mem) : Prop :=
  (x0 ≤ (4 : Int32) → (P_Integer_numberOfTrailingZeros_74 post x0 x1 M)) ∧
  (¬ x0 ≤ (4 : Int32) → (∀ x0_1, x0_1 = (ush x0 (2 : Int32)) → P_Integer_numberOfTrailingZeros_74 post x0_1 (x1 + (2 : Int32)) M))
theorem k_Integer_numberOfTrailingZeros_62 {X : FX} {g : GT} {lay : List CD} {A : Nat → Prop} {Z : State → Prop} {post : Int32 → Mem → Prop} (C : Cx X g lay A cJ6_numberOfTrailingZeros_0f7a4 2 RJ6 0) (hr : 0 ≤ X.2.2.2.1.cells ∧ 0 ≤ X.2.2.2.1.slots) (hR : RetI X g lay A cJ6_numberOfTrailingZeros_0f7a4 2 0 0 Z post) (x0 x1 : Int32) (M : Mem) (h : P_Integer_numberOfTrailingZeros_62 post x0 x1 M) : AtX X g lay A 2 0 0 Z 62 [(0, .int x0), (1, .int x1)] [] M := by
  refine a_iload_n C (tk T_cJ6_numberOfTrailingZeros_0f7a4 40 rfl) rfl ?_
  refine a_iconst C (4 : Int32) (tk T_cJ6_numberOfTrailingZeros_0f7a4 41 rfl) kI_4 ?_
  refine a_icmp_le C 74 (tk T_cJ6_numberOfTrailingZeros_0f7a4 42 rfl) rfl (fun c => ?_) (fun c => ?_)
  · have h := h.1 c
    exact a_to (k_Integer_numberOfTrailingZeros_74 C hr hR x0 x1 M h) rfl
  · have h := h.2 c
    refine a_iinc C (2 : Int32) (tk T_cJ6_numberOfTrailingZeros_0f7a4 43 rfl) rfl kI_2 (by decide) rfl ?_
    refine a_iload_n C (tk T_cJ6_numberOfTrailingZeros_0f7a4 44 rfl) rfl ?_
    refine a_iconst C (2 : Int32) (tk T_cJ6_numberOfTrailingZeros_0f7a4 45 rfl) kI_2 ?_
    refine a_iushr C (tk T_cJ6_numberOfTrailingZeros_0f7a4 46 rfl) ?_
    refine a_top (fun x0_1 e_x0_1 => ?_)
    have h := h x0_1 e_x0_1
    refine a_istore_n C (tk T_cJ6_numberOfTrailingZeros_0f7a4 47 rfl) (by decide) rfl ?_
    exact a_to (k_Integer_numberOfTrailingZeros_74 C hr hR x0_1 (x1 + (2 : Int32)) M h) rfl
def P_Integer_numberOfTrailingZeros_49 (post : Int32 → Mem → Prop) (x0 x1 : Int32) (M : Mem) : Prop :=
  (x0 ≤ (16 : Int32) → (P_Integer_numberOfTrailingZeros_62 post x0 x1 M)) ∧
  (¬ x0 ≤ (16 : Int32) → (∀ x0_1, x0_1 = (ush x0 (4 : Int32)) → P_Integer_numberOfTrailingZeros_62 post x0_1 (x1 + (4 : Int32)) M))
theorem k_Integer_numberOfTrailingZeros_49 {X : FX} {g : GT} {lay : List CD} {A : Nat → Prop} {Z : State → Prop} {post : Int32 → Mem → Prop} (C : Cx X g lay A cJ6_numberOfTrailingZeros_0f7a4 2 RJ6 0) (hr : 0 ≤ X.2.2.2.1.cells ∧ 0 ≤ X.2.2.2.1.slots) (hR : RetI X g lay A cJ6_numberOfTrailingZeros_0f7a4 2 0 0 Z post) (x0 x1 : Int32) (M : Mem) (h : P_Integer_numberOfTrailingZeros_49 post x0 x1 M) : AtX X g lay A 2 0 0 Z 49 [(0, .int x0), (1, .int x1)] [] M := by
  refine a_iload_n C (tk T_cJ6_numberOfTrailingZeros_0f7a4 32 rfl) rfl ?_
  refine a_bipush C (16 : Int32) (tk T_cJ6_numberOfTrailingZeros_0f7a4 33 rfl) kB_16 ?_
  refine a_icmp_le C 62 (tk T_cJ6_numberOfTrailingZeros_0f7a4 34 rfl) rfl (fun c => ?_) (fun c => ?_)
  · have h := h.1 c
    exact a_to (k_Integer_numberOfTrailingZeros_62 C hr hR x0 x1 M h) rfl
  · have h := h.2 c
    refine a_iinc C (4 : Int32) (tk T_cJ6_numberOfTrailingZeros_0f7a4 35 rfl) rfl kI_4 (by decide) rfl ?_
    refine a_iload_n C (tk T_cJ6_numberOfTrailingZeros_0f7a4 36 rfl) rfl ?_
    refine a_iconst C (4 : Int32) (tk T_cJ6_numberOfTrailingZeros_0f7a4 37 rfl) kI_4 ?_
    refine a_iushr C (tk T_cJ6_numberOfTrailingZeros_0f7a4 38 rfl) ?_
    refine a_top (fun x0_1 e_x0_1 => ?_)
    have h := h x0_1 e_x0_1
    refine a_istore_n C (tk T_cJ6_numberOfTrailingZeros_0f7a4 39 rfl) (by decide) rfl ?_
    exact a_to (k_Integer_numberOfTrailingZeros_62 C hr hR x0_1 (x1 + (4 : Int32)) M h) rfl
def P_Integer_numberOfTrailingZeros_34 (post : Int32 → Mem → Prop) (x0 x1 : Int32) (M : Mem) : Prop :=
  (x0 ≤ (256 : Int32) → (P_Integer_numberOfTrailingZeros_49 post x0 x1 M)) ∧
  (¬ x0 ≤ (256 : Int32) → (∀ x0_1, x0_1 = (ush x0 (8 : Int32)) → P_Integer_numberOfTrailingZeros_49 post x0_1 (x1 + (8 : Int32)) M))
theorem k_Integer_numberOfTrailingZeros_34 {X : FX} {g : GT} {lay : List CD} {A : Nat → Prop} {Z : State → Prop} {post : Int32 → Mem → Prop} (C : Cx X g lay A cJ6_numberOfTrailingZeros_0f7a4 2 RJ6 0) (hr : 0 ≤ X.2.2.2.1.cells ∧ 0 ≤ X.2.2.2.1.slots) (hR : RetI X g lay A cJ6_numberOfTrailingZeros_0f7a4 2 0 0 Z post) (x0 x1 : Int32) (M : Mem) (h : P_Integer_numberOfTrailingZeros_34 post x0 x1 M) : AtX X g lay A 2 0 0 Z 34 [(0, .int x0), (1, .int x1)] [] M := by
  refine a_iload_n C (tk T_cJ6_numberOfTrailingZeros_0f7a4 24 rfl) rfl ?_
  refine a_sipush C (256 : Int32) (tk T_cJ6_numberOfTrailingZeros_0f7a4 25 rfl) kS_256 ?_
  refine a_icmp_le C 49 (tk T_cJ6_numberOfTrailingZeros_0f7a4 26 rfl) rfl (fun c => ?_) (fun c => ?_)
  · have h := h.1 c
    exact a_to (k_Integer_numberOfTrailingZeros_49 C hr hR x0 x1 M h) rfl
  · have h := h.2 c
    refine a_iinc C (8 : Int32) (tk T_cJ6_numberOfTrailingZeros_0f7a4 27 rfl) rfl kI_8 (by decide) rfl ?_
    refine a_iload_n C (tk T_cJ6_numberOfTrailingZeros_0f7a4 28 rfl) rfl ?_
    refine a_bipush C (8 : Int32) (tk T_cJ6_numberOfTrailingZeros_0f7a4 29 rfl) kB_8 ?_
    refine a_iushr C (tk T_cJ6_numberOfTrailingZeros_0f7a4 30 rfl) ?_
    refine a_top (fun x0_1 e_x0_1 => ?_)
    have h := h x0_1 e_x0_1
    refine a_istore_n C (tk T_cJ6_numberOfTrailingZeros_0f7a4 31 rfl) (by decide) rfl ?_
    exact a_to (k_Integer_numberOfTrailingZeros_49 C hr hR x0_1 (x1 + (8 : Int32)) M h) rfl
def P_Integer_numberOfTrailingZeros (post : Int32 → Mem → Prop) (x0 : Int32) (M : Mem) : Prop :=
  ∀ x0_1, x0_1 = ((x0 ^^^ (-1 : Int32)) &&& (x0 - (1 : Int32))) → (0 < x0_1 → ((x0_1 ≤ (65536 : Int32) → (P_Integer_numberOfTrailingZeros_34 post x0_1 (1 : Int32) M)) ∧
  (¬ x0_1 ≤ (65536 : Int32) → (∀ x0_2, x0_2 = (ush x0_1 (16 : Int32)) → P_Integer_numberOfTrailingZeros_34 post x0_2 ((1 : Int32) + (16 : Int32)) M)))) ∧
  (¬ 0 < x0_1 → (post (x0_1 &&& (32 : Int32)) M))
theorem k_Integer_numberOfTrailingZeros {X : FX} {g : GT} {lay : List CD} {A : Nat → Prop} {Z : State → Prop} {post : Int32 → Mem → Prop} (C : Cx X g lay A cJ6_numberOfTrailingZeros_0f7a4 2 RJ6 0) (hr : 0 ≤ X.2.2.2.1.cells ∧ 0 ≤ X.2.2.2.1.slots) (hR : RetI X g lay A cJ6_numberOfTrailingZeros_0f7a4 2 0 0 Z post) (x0 : Int32) (M : Mem) (h : P_Integer_numberOfTrailingZeros post x0 M) : AtX X g lay A 2 0 0 Z 0 [(0, .int x0)] [] M := by
  refine a_iload_n C (tk T_cJ6_numberOfTrailingZeros_0f7a4 0 rfl) rfl ?_
  refine a_iconst C (-1 : Int32) (tk T_cJ6_numberOfTrailingZeros_0f7a4 1 rfl) kI_m1 ?_
  refine a_ixor C (tk T_cJ6_numberOfTrailingZeros_0f7a4 2 rfl) ?_
  refine a_iload_n C (tk T_cJ6_numberOfTrailingZeros_0f7a4 3 rfl) rfl ?_
  refine a_iconst C (1 : Int32) (tk T_cJ6_numberOfTrailingZeros_0f7a4 4 rfl) kI_1 ?_
  refine a_isub C (tk T_cJ6_numberOfTrailingZeros_0f7a4 5 rfl) ?_
  refine a_iand C (tk T_cJ6_numberOfTrailingZeros_0f7a4 6 rfl) ?_
  refine a_top (fun x0_1 e_x0_1 => ?_)
  have h := h x0_1 e_x0_1
  refine a_istore_n C (tk T_cJ6_numberOfTrailingZeros_0f7a4 7 rfl) (by decide) rfl ?_
  refine a_iload_n C (tk T_cJ6_numberOfTrailingZeros_0f7a4 8 rfl) rfl ?_
  refine a_if_gt C 17 (tk T_cJ6_numberOfTrailingZeros_0f7a4 9 rfl) rfl (fun c => ?_) (fun c => ?_)
  · have h := h.1 c
    refine a_iconst C (1 : Int32) (tk T_cJ6_numberOfTrailingZeros_0f7a4 14 rfl) kI_1 ?_
    refine a_istore_n C (tk T_cJ6_numberOfTrailingZeros_0f7a4 15 rfl) (by decide) rfl ?_
    refine a_iload_n C (tk T_cJ6_numberOfTrailingZeros_0f7a4 16 rfl) rfl ?_
    refine a_ldc_w C c_RJ6_264 (tk T_cJ6_numberOfTrailingZeros_0f7a4 17 rfl) ?_
    refine a_icmp_le C 34 (tk T_cJ6_numberOfTrailingZeros_0f7a4 18 rfl) rfl (fun c => ?_) (fun c => ?_)
    · have h := h.1 c
      exact a_to (k_Integer_numberOfTrailingZeros_34 C hr hR x0_1 (1 : Int32) M h) rfl
    · have h := h.2 c
      refine a_iinc C (16 : Int32) (tk T_cJ6_numberOfTrailingZeros_0f7a4 19 rfl) rfl kI_16 (by decide) rfl ?_
      refine a_iload_n C (tk T_cJ6_numberOfTrailingZeros_0f7a4 20 rfl) rfl ?_
      refine a_bipush C (16 : Int32) (tk T_cJ6_numberOfTrailingZeros_0f7a4 21 rfl) kB_16 ?_
      refine a_iushr C (tk T_cJ6_numberOfTrailingZeros_0f7a4 22 rfl) ?_
      refine a_top (fun x0_2 e_x0_2 => ?_)
      have h := h x0_2 e_x0_2
      refine a_istore_n C (tk T_cJ6_numberOfTrailingZeros_0f7a4 23 rfl) (by decide) rfl ?_
      exact a_to (k_Integer_numberOfTrailingZeros_34 C hr hR x0_2 ((1 : Int32) + (16 : Int32)) M h) rfl
  · have h := h.2 c
    refine a_iload_n C (tk T_cJ6_numberOfTrailingZeros_0f7a4 10 rfl) rfl ?_
    refine a_bipush C (32 : Int32) (tk T_cJ6_numberOfTrailingZeros_0f7a4 11 rfl) kB_32 ?_
    refine a_iand C (tk T_cJ6_numberOfTrailingZeros_0f7a4 12 rfl) ?_
    exact hR _ _ _ _ (tk T_cJ6_numberOfTrailingZeros_0f7a4 13 rfl) h
theorem ct_Integer_numberOfTrailingZeros {l : Launch} {g : GT} {lay : List CD} {post : Int32 → Mem → Prop} {x0 : Int32} {M : Mem} (h : P_Integer_numberOfTrailingZeros post x0 M) : CI l g lay yJ6_numberOfTrailingZeros_0f7a4 cJ6_numberOfTrailingZeros_0f7a4 2 (some .int) 0 [.int x0] M post :=
  ci_of (plainFor_of_name (by decide +kernel)) (Nat.le_of_ble_eq_true rfl) (fun X A Z hl C hr hR => by subst hl; exact k_Integer_numberOfTrailingZeros C hr hR x0 M h)
