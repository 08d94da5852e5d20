def T_cX12_spanL : List (Nat × Instr × Nat) := [(0, .aload_n 0, 1), (1, .iconst 0, 1), (2, .putfield 3, 3), (5, .aload_n 0, 1), (6, .iload_n 1, 1), (7, .invokestatic 76, 3), (10, .iconst 1, 1), (11, .invokevirtual 72, 3), (14, .ifCond .eq 5, 3), (17, .iconst 0, 1), (18, .ireturn, 1), (19, .aload_n 0, 1), (20, .iconst 0, 1), (21, .invokevirtual 112, 3), (24, .pop, 1), (25, .aload_n 0, 1), (26, .aload_n 0, 1), (27, .iload_n 1, 1), (28, .iload_n 2, 1), (29, .ifCond .eq 7, 3), (32, .iconst 1, 1), (33, .goto 4, 3), (36, .iconst 0, 1), (37, .invokevirtual 80, 3), (40, .iload_n 3, 1), (41, .invokevirtual 117, 3), (44, .ireturn, 1)]
theorem T_cX12_span : tabOK cX12_span T_cX12_spanL = true := by decide +kernel
def P_M_span_37 (post : Int32 → Mem → Prop) (x3 s2 s3 : Int32) (M : Mem) : Prop :=
  P_M_truePlace (fun r1 M1 =>
  P_M_endOf (fun r2 M2 =>
  post r2 M2) r1 x3 M1) s2 s3 M
theorem k_M_span_37 {X : FX} {g : GT} {A : Nat → Prop} {Z : State → Prop} {post : Int32 → Mem → Prop} (C : Cx X g layM A cX12_span 4 RX12 4) (hr : 0 ≤ X.2.2.2.1.cells ∧ 0 ≤ X.2.2.2.1.slots) (hR : RetI X g layM A cX12_span 4 0 0 Z post) (x3 s2 s3 : Int32) (M : Mem) (h : P_M_span_37 post x3 s2 s3 M) : AtX X g layM A 4 0 0 Z 37 [(3, .int x3)] [.int s3, .int s2, .ref (ad g 0), .ref (ad g 0)] M := by
  refine a_callI C [.int s2, .int s3] me_yX12_truePlace lk_RX12_80 (ct_M_truePlace h) (by decide) lm0 rfl rfl rfl (Nat.le_of_ble_eq_true rfl) (tk T_cX12_span 23 rfl) hr (fun r1 M1 h => ?_)
  refine a_iload_n C (tk T_cX12_span 24 rfl) rfl ?_
  refine a_callI C [.int r1, .int x3] me_yX12_endOf lk_RX12_117 (ct_M_endOf h) (by decide) lm0 rfl rfl rfl (Nat.le_of_ble_eq_true rfl) (tk T_cX12_span 25 rfl) hr (fun r2 M2 h => ?_)
  exact hR _ _ _ _ (tk T_cX12_span 26 rfl) h
def P_M_span (post : Int32 → Mem → Prop) (x1 x2 x3 : Int32) (M : Mem) : Prop :=
  ∀ M1, M1 = ms M 0 0 (0 : Int32) → P_M_noPlace (fun r2 M2 =>
  P_M_throwsIf (fun r3 M3 =>
  (r3 = 0 → (P_M_lays (fun r4 M4 =>
  (x2 = 0 → (P_M_span_37 post x3 x1 (0 : Int32) M4)) ∧
  (¬ x2 = 0 → (P_M_span_37 post x3 x1 (1 : Int32) M4))) (0 : Int32) M3)) ∧
  (¬ r3 = 0 → (post (0 : Int32) M3))) r2 (1 : Int32) M2) x1 M1
theorem k_M_span {X : FX} {g : GT} {A : Nat → Prop} {Z : State → Prop} {post : Int32 → Mem → Prop} (C : Cx X g layM A cX12_span 4 RX12 4) (hr : 0 ≤ X.2.2.2.1.cells ∧ 0 ≤ X.2.2.2.1.slots) (hR : RetI X g layM A cX12_span 4 0 0 Z post) (x1 x2 x3 : Int32) (M : Mem) (h : P_M_span post x1 x2 x3 M) : AtX X g layM A 4 0 0 Z 0 [(0, .ref (ad g 0)), (1, .int x1), (2, .int x2), (3, .int x3)] [] M := by
  refine a_aload_n C (tk T_cX12_span 0 rfl) rfl ?_
  refine a_iconst C (0 : Int32) (tk T_cX12_span 1 rfl) kI_0 ?_
  refine a_put C f_RX12_3 f_RX12_3p rfl rfl (tk T_cX12_span 2 rfl) lm0 rfl ?_
  refine a_mem (fun M1 e_M1 => ?_)
  have h := h M1 e_M1
  refine a_aload_n C (tk T_cX12_span 3 rfl) rfl ?_
  refine a_iload_n C (tk T_cX12_span 4 rfl) rfl ?_
  refine a_statI C [.int x1] me_yX12_noPlace lk_RX12_76 (ct_M_noPlace h) (by decide) rfl rfl (Nat.le_of_ble_eq_true rfl) (tk T_cX12_span 5 rfl) hr (fun r2 M2 h => ?_)
  refine a_iconst C (1 : Int32) (tk T_cX12_span 6 rfl) kI_1 ?_
  refine a_callI C [.int r2, .int (1 : Int32)] me_yX12_throwsIf lk_RX12_72 (ct_M_throwsIf h) (by decide) lm0 rfl rfl rfl (Nat.le_of_ble_eq_true rfl) (tk T_cX12_span 7 rfl) hr (fun r3 M3 h => ?_)
  refine a_if_eq C 19 (tk T_cX12_span 8 rfl) rfl (fun c => ?_) (fun c => ?_)
  · have h := h.1 c
    refine a_aload_n C (tk T_cX12_span 11 rfl) rfl ?_
    refine a_iconst C (0 : Int32) (tk T_cX12_span 12 rfl) kI_0 ?_
    refine a_callI C [.int (0 : Int32)] me_yX12_lays lk_RX12_112 (ct_M_lays h) (by decide) lm0 rfl rfl rfl (Nat.le_of_ble_eq_true rfl) (tk T_cX12_span 13 rfl) hr (fun r4 M4 h => ?_)
    refine a_popi C (tk T_cX12_span 14 rfl) ?_
    refine a_aload_n C (tk T_cX12_span 15 rfl) rfl ?_
    refine a_aload_n C (tk T_cX12_span 16 rfl) rfl ?_
    refine a_iload_n C (tk T_cX12_span 17 rfl) rfl ?_
    refine a_iload_n C (tk T_cX12_span 18 rfl) rfl ?_
    refine a_if_eq C 36 (tk T_cX12_span 19 rfl) rfl (fun c => ?_) (fun c => ?_)
    · have h := h.1 c
      refine a_iconst C (0 : Int32) (tk T_cX12_span 22 rfl) kI_0 ?_
      exact a_to (k_M_span_37 C hr hR x3 x1 (0 : Int32) M4 h) rfl
    · have h := h.2 c
      refine a_iconst C (1 : Int32) (tk T_cX12_span 20 rfl) kI_1 ?_
      refine a_goto C 37 (tk T_cX12_span 21 rfl) rfl ?_
      exact a_to (k_M_span_37 C hr hR x3 x1 (1 : Int32) M4 h) rfl
  · have h := h.2 c
    refine a_iconst C (0 : Int32) (tk T_cX12_span 9 rfl) kI_0 ?_
    exact hR _ _ _ _ (tk T_cX12_span 10 rfl) h
theorem ct_M_span {l : Launch} {g : GT} {post : Int32 → Mem → Prop} {x1 x2 x3 : Int32} {M : Mem} (h : P_M_span post x1 x2 x3 M) : CI l g layM yX12_span cX12_span 4 (some .int) 4 [.ref (ad g 0), .int x1, .int x2, .int x3] M post :=
  ci_of (plainFor_of_name (by decide +kernel)) (Nat.le_of_ble_eq_true rfl) (fun X A Z hl C hr hR => by subst hl; exact k_M_span C hr hR x1 x2 x3 M h)
def T_cX12_slippedL : List (Nat × Instr × Nat) := [(0, .aload_n 0, 1), (1, .iconst 0, 1), (2, .putfield 3, 3), (5, .iconst 0, 1), (6, .istore_n 1, 1), (7, .iload_n 1, 1), (8, .bipush 30, 2), (10, .if_icmp .gt 31, 3), (13, .aload_n 0, 1), (14, .iload_n 1, 1), (15, .ineg, 1), (16, .invokevirtual 112, 3), (19, .ifCond .le 6, 3), (22, .iload_n 1, 1), (23, .ineg, 1), (24, .ireturn, 1), (25, .aload_n 0, 1), (26, .iload_n 1, 1), (27, .invokevirtual 112, 3), (30, .ifCond .le 5, 3), (33, .iload_n 1, 1), (34, .ireturn, 1), (35, .iinc 1 1, 3), (38, .goto (-31), 3), (41, .bipush 99, 2), (43, .ireturn, 1)]
theorem T_cX12_slipped : tabOK cX12_slipped T_cX12_slippedL = true := by decide +kernel
def P_M_slipped_7 (post : Int32 → Mem → Prop) : Nat → Int32 → Mem → Prop
  | 0, _, _ => False
  | n + 1, x1, M =>
    ((30 : Int32) < x1 → (post (99 : Int32) M)) ∧
  (¬ (30 : Int32) < x1 → (P_M_lays (fun r1 M1 =>
  (r1 ≤ 0 → (P_M_lays (fun r2 M2 =>
  (r2 ≤ 0 → (P_M_slipped_7 post n (x1 + (1 : Int32)) M2)) ∧
  (¬ r2 ≤ 0 → (post x1 M2))) x1 M1)) ∧
  (¬ r1 ≤ 0 → (post (-x1) M1))) (-x1) M))
theorem k_M_slipped_7 {X : FX} {g : GT} {A : Nat → Prop} {Z : State → Prop} {post : Int32 → Mem → Prop} (C : Cx X g layM A cX12_slipped 2 RX12 4) (hr : 0 ≤ X.2.2.2.1.cells ∧ 0 ≤ X.2.2.2.1.slots) (hR : RetI X g layM A cX12_slipped 2 0 0 Z post) : ∀ (n : Nat) (x1 : Int32) (M : Mem), P_M_slipped_7 post n x1 M → AtX X g layM A 2 0 0 Z 7 [(0, .ref (ad g 0)), (1, .int x1)] [] M := by
  intro n
  induction n with
  | zero =>
    intro x1 M h
    exact h.elim
  | succ n ih =>
    intro x1 M h
    refine a_iload_n C (tk T_cX12_slipped 5 rfl) rfl ?_
    refine a_bipush C (30 : Int32) (tk T_cX12_slipped 6 rfl) kB_30 ?_
    refine a_icmp_gt C 41 (tk T_cX12_slipped 7 rfl) rfl (fun c => ?_) (fun c => ?_)
    · have h := h.1 c
      refine a_bipush C (99 : Int32) (tk T_cX12_slipped 24 rfl) kB_99 ?_
      exact hR _ _ _ _ (tk T_cX12_slipped 25 rfl) h
    · have h := h.2 c
      refine a_aload_n C (tk T_cX12_slipped 8 rfl) rfl ?_
      refine a_iload_n C (tk T_cX12_slipped 9 rfl) rfl ?_
      refine a_ineg C (tk T_cX12_slipped 10 rfl) ?_
      refine a_callI C [.int (-x1)] me_yX12_lays lk_RX12_112 (ct_M_lays h) (by decide) lm0 rfl rfl rfl (Nat.le_of_ble_eq_true rfl) (tk T_cX12_slipped 11 rfl) hr (fun r1 M1 h => ?_)
      refine a_if_le C 25 (tk T_cX12_slipped 12 rfl) rfl (fun c => ?_) (fun c => ?_)
      · have h := h.1 c
        refine a_aload_n C (tk T_cX12_slipped 16 rfl) rfl ?_
        refine a_iload_n C (tk T_cX12_slipped 17 rfl) rfl ?_
        refine a_callI C [.int x1] me_yX12_lays lk_RX12_112 (ct_M_lays h) (by decide) lm0 rfl rfl rfl (Nat.le_of_ble_eq_true rfl) (tk T_cX12_slipped 18 rfl) hr (fun r2 M2 h => ?_)
        refine a_if_le C 35 (tk T_cX12_slipped 19 rfl) rfl (fun c => ?_) (fun c => ?_)
        · have h := h.1 c
          refine a_iinc C (1 : Int32) (tk T_cX12_slipped 22 rfl) rfl kI_1 (by decide) rfl ?_
          refine a_goto C 7 (tk T_cX12_slipped 23 rfl) rfl ?_
          exact a_to (ih (x1 + (1 : Int32)) M2 h) rfl
        · have h := h.2 c
          refine a_iload_n C (tk T_cX12_slipped 20 rfl) rfl ?_
          exact hR _ _ _ _ (tk T_cX12_slipped 21 rfl) h
      · have h := h.2 c
        refine a_iload_n C (tk T_cX12_slipped 13 rfl) rfl ?_
        refine a_ineg C (tk T_cX12_slipped 14 rfl) ?_
        exact hR _ _ _ _ (tk T_cX12_slipped 15 rfl) h
def P_M_slipped (post : Int32 → Mem → Prop) (M : Mem) : Prop :=
  ∀ M1, M1 = ms M 0 0 (0 : Int32) → ∃ j7, P_M_slipped_7 post j7 (0 : Int32) M1
theorem k_M_slipped {X : FX} {g : GT} {A : Nat → Prop} {Z : State → Prop} {post : Int32 → Mem → Prop} (C : Cx X g layM A cX12_slipped 2 RX12 4) (hr : 0 ≤ X.2.2.2.1.cells ∧ 0 ≤ X.2.2.2.1.slots) (hR : RetI X g layM A cX12_slipped 2 0 0 Z post) (M : Mem) (h : P_M_slipped post M) : AtX X g layM A 2 0 0 Z 0 [(0, .ref (ad g 0))] [] M := by
  refine a_aload_n C (tk T_cX12_slipped 0 rfl) rfl ?_
  refine a_iconst C (0 : Int32) (tk T_cX12_slipped 1 rfl) kI_0 ?_
  refine a_put C f_RX12_3 f_RX12_3p rfl rfl (tk T_cX12_slipped 2 rfl) lm0 rfl ?_
  refine a_mem (fun M1 e_M1 => ?_)
  have h := h M1 e_M1
  refine a_iconst C (0 : Int32) (tk T_cX12_slipped 3 rfl) kI_0 ?_
  refine a_istore_n C (tk T_cX12_slipped 4 rfl) (by decide) rfl ?_
  obtain ⟨n1, h⟩ := h
  exact a_to (k_M_slipped_7 C hr hR n1 (0 : Int32) M1 h) rfl
theorem ct_M_slipped {l : Launch} {g : GT} {post : Int32 → Mem → Prop} {M : Mem} (h : P_M_slipped post M) : CI l g layM yX12_slipped cX12_slipped 2 (some .int) 4 [.ref (ad g 0)] M post :=
  ci_of (plainFor_of_name (by decide +kernel)) (Nat.le_of_ble_eq_true rfl) (fun X A Z hl C hr hR => by subst hl; exact k_M_slipped C hr hR  M h)
def T_cX12_linesL : List (Nat × Instr × Nat) := [(0, .aload_n 0, 1), (1, .getfield 13, 3), (4, .bipush 92, 2), (6, .bipush 14, 2), (8, .iload_n 1, 1), (9, .imul, 1), (10, .iadd, 1), (11, .iconst 1, 1), (12, .iadd, 1), (13, .iaload, 1), (14, .ireturn, 1)]
theorem T_cX12_lines : tabOK cX12_lines T_cX12_linesL = true := by decide +kernel
def P_M_lines (post : Int32 → Mem → Prop) (x1 : Int32) (M : Mem) : Prop :=
  ∀ i1, i1 = (((92 : Int32) + ((14 : Int32) * x1)) + (1 : Int32)) → vp_in i1 5966 ∧ post (M 1 i1.toNatClampNeg) M
theorem k_M_lines {X : FX} {g : GT} {A : Nat → Prop} {Z : State → Prop} {post : Int32 → Mem → Prop} (C : Cx X g layM A cX12_lines 2 RX12 0) (hr : 0 ≤ X.2.2.2.1.cells ∧ 0 ≤ X.2.2.2.1.slots) (hR : RetI X g layM A cX12_lines 2 0 0 Z post) (x1 : Int32) (M : Mem) (h : P_M_lines post x1 M) : AtX X g layM A 2 0 0 Z 0 [(0, .ref (ad g 0)), (1, .int x1)] [] M := by
  refine a_aload_n C (tk T_cX12_lines 0 rfl) rfl ?_
  refine a_getR C f_RX12_13 (tk T_cX12_lines 1 rfl) lm0 rfl ?_
  refine a_bipush C (92 : Int32) (tk T_cX12_lines 2 rfl) kB_92 ?_
  refine a_bipush C (14 : Int32) (tk T_cX12_lines 3 rfl) kB_14 ?_
  refine a_iload_n C (tk T_cX12_lines 4 rfl) rfl ?_
  refine a_imul C (tk T_cX12_lines 5 rfl) ?_
  refine a_iadd C (tk T_cX12_lines 6 rfl) ?_
  refine a_iconst C (1 : Int32) (tk T_cX12_lines 7 rfl) kI_1 ?_
  refine a_iadd C (tk T_cX12_lines 8 rfl) ?_
  refine a_top (fun i1 e_i1 => ?_)
  have h := h i1 e_i1
  obtain ⟨hb, h⟩ := h
  refine a_iald C (tk T_cX12_lines 9 rfl) lm1 hb ?_
  exact hR _ _ _ _ (tk T_cX12_lines 10 rfl) h
theorem ct_M_lines {l : Launch} {g : GT} {post : Int32 → Mem → Prop} {x1 : Int32} {M : Mem} (h : P_M_lines post x1 M) : CI l g layM yX12_lines cX12_lines 2 (some .int) 0 [.ref (ad g 0), .int x1] M post :=
  ci_of (plainFor_of_name (by decide +kernel)) (Nat.le_of_ble_eq_true rfl) (fun X A Z hl C hr hR => by subst hl; exact k_M_lines C hr hR x1 M h)
def T_cX12_waveOfL : List (Nat × Instr × Nat) := [(0, .aload_n 0, 1), (1, .getfield 13, 3), (4, .bipush 92, 2), (6, .bipush 14, 2), (8, .iload_n 1, 1), (9, .imul, 1), (10, .iadd, 1), (11, .iconst 2, 1), (12, .iadd, 1), (13, .iconst 2, 1), (14, .iload_n 2, 1), (15, .imul, 1), (16, .iadd, 1), (17, .iaload, 1), (18, .ireturn, 1)]
theorem T_cX12_waveOf : tabOK cX12_waveOf T_cX12_waveOfL = true := by decide +kernel
def P_M_waveOf (post : Int32 → Mem → Prop) (x1 x2 : Int32) (M : Mem) : Prop :=
  ∀ v1, v1 = ((((92 : Int32) + ((14 : Int32) * x1)) + (2 : Int32)) + ((2 : Int32) * x2)) → vp_in v1 5966 ∧ post (M 1 v1.toNatClampNeg) M
theorem k_M_waveOf {X : FX} {g : GT} {A : Nat → Prop} {Z : State → Prop} {post : Int32 → Mem → Prop} (C : Cx X g layM A cX12_waveOf 3 RX12 0) (hr : 0 ≤ X.2.2.2.1.cells ∧ 0 ≤ X.2.2.2.1.slots) (hR : RetI X g layM A cX12_waveOf 3 0 0 Z post) (x1 x2 : Int32) (M : Mem) (h : P_M_waveOf post x1 x2 M) : AtX X g layM A 3 0 0 Z 0 [(0, .ref (ad g 0)), (1, .int x1), (2, .int x2)] [] M := by
  refine a_aload_n C (tk T_cX12_waveOf 0 rfl) rfl ?_
  refine a_getR C f_RX12_13 (tk T_cX12_waveOf 1 rfl) lm0 rfl ?_
  refine a_bipush C (92 : Int32) (tk T_cX12_waveOf 2 rfl) kB_92 ?_
  refine a_bipush C (14 : Int32) (tk T_cX12_waveOf 3 rfl) kB_14 ?_
  refine a_iload_n C (tk T_cX12_waveOf 4 rfl) rfl ?_
  refine a_imul C (tk T_cX12_waveOf 5 rfl) ?_
  refine a_iadd C (tk T_cX12_waveOf 6 rfl) ?_
  refine a_iconst C (2 : Int32) (tk T_cX12_waveOf 7 rfl) kI_2 ?_
  refine a_iadd C (tk T_cX12_waveOf 8 rfl) ?_
  refine a_iconst C (2 : Int32) (tk T_cX12_waveOf 9 rfl) kI_2 ?_
  refine a_iload_n C (tk T_cX12_waveOf 10 rfl) rfl ?_
  refine a_imul C (tk T_cX12_waveOf 11 rfl) ?_
  refine a_iadd C (tk T_cX12_waveOf 12 rfl) ?_
  refine a_top (fun v1 e_v1 => ?_)
  have h := h v1 e_v1
  obtain ⟨hb, h⟩ := h
  refine a_iald C (tk T_cX12_waveOf 13 rfl) lm1 hb ?_
  exact hR _ _ _ _ (tk T_cX12_waveOf 14 rfl) h
theorem ct_M_waveOf {l : Launch} {g : GT} {post : Int32 → Mem → Prop} {x1 x2 : Int32} {M : Mem} (h : P_M_waveOf post x1 x2 M) : CI l g layM yX12_waveOf cX12_waveOf 3 (some .int) 0 [.ref (ad g 0), .int x1, .int x2] M post :=
  ci_of (plainFor_of_name (by decide +kernel)) (Nat.le_of_ble_eq_true rfl) (fun X A Z hl C hr hR => by subst hl; exact k_M_waveOf C hr hR x1 x2 M h)
def T_cX12_strengthOfL : List (Nat × Instr × Nat) := [(0, .aload_n 0, 1), (1, .getfield 13, 3), (4, .bipush 92, 2), (6, .bipush 14, 2), (8, .iload_n 1, 1), (9, .imul, 1), (10, .iadd, 1), (11, .iconst 3, 1), (12, .iadd, 1), (13, .iconst 2, 1), (14, .iload_n 2, 1), (15, .imul, 1), (16, .iadd, 1), (17, .iaload, 1), (18, .ireturn, 1)]
theorem T_cX12_strengthOf : tabOK cX12_strengthOf T_cX12_strengthOfL = true := by decide +kernel
def P_M_strengthOf (post : Int32 → Mem → Prop) (x1 x2 : Int32) (M : Mem) : Prop :=
  ∀ v1, v1 = ((((92 : Int32) + ((14 : Int32) * x1)) + (3 : Int32)) + ((2 : Int32) * x2)) → vp_in v1 5966 ∧ post (M 1 v1.toNatClampNeg) M
theorem k_M_strengthOf {X : FX} {g : GT} {A : Nat → Prop} {Z : State → Prop} {post : Int32 → Mem → Prop} (C : Cx X g layM A cX12_strengthOf 3 RX12 0) (hr : 0 ≤ X.2.2.2.1.cells ∧ 0 ≤ X.2.2.2.1.slots) (hR : RetI X g layM A cX12_strengthOf 3 0 0 Z post) (x1 x2 : Int32) (M : Mem) (h : P_M_strengthOf post x1 x2 M) : AtX X g layM A 3 0 0 Z 0 [(0, .ref (ad g 0)), (1, .int x1), (2, .int x2)] [] M := by
  refine a_aload_n C (tk T_cX12_strengthOf 0 rfl) rfl ?_
  refine a_getR C f_RX12_13 (tk T_cX12_strengthOf 1 rfl) lm0 rfl ?_
  refine a_bipush C (92 : Int32) (tk T_cX12_strengthOf 2 rfl) kB_92 ?_
  refine a_bipush C (14 : Int32) (tk T_cX12_strengthOf 3 rfl) kB_14 ?_
  refine a_iload_n C (tk T_cX12_strengthOf 4 rfl) rfl ?_
  refine a_imul C (tk T_cX12_strengthOf 5 rfl) ?_
  refine a_iadd C (tk T_cX12_strengthOf 6 rfl) ?_
  refine a_iconst C (3 : Int32) (tk T_cX12_strengthOf 7 rfl) kI_3 ?_
  refine a_iadd C (tk T_cX12_strengthOf 8 rfl) ?_
  refine a_iconst C (2 : Int32) (tk T_cX12_strengthOf 9 rfl) kI_2 ?_
  refine a_iload_n C (tk T_cX12_strengthOf 10 rfl) rfl ?_
  refine a_imul C (tk T_cX12_strengthOf 11 rfl) ?_
  refine a_iadd C (tk T_cX12_strengthOf 12 rfl) ?_
  refine a_top (fun v1 e_v1 => ?_)
  have h := h v1 e_v1
  obtain ⟨hb, h⟩ := h
  refine a_iald C (tk T_cX12_strengthOf 13 rfl) lm1 hb ?_
  exact hR _ _ _ _ (tk T_cX12_strengthOf 14 rfl) h
theorem ct_M_strengthOf {l : Launch} {g : GT} {post : Int32 → Mem → Prop} {x1 x2 : Int32} {M : Mem} (h : P_M_strengthOf post x1 x2 M) : CI l g layM yX12_strengthOf cX12_strengthOf 3 (some .int) 0 [.ref (ad g 0), .int x1, .int x2] M post :=
  ci_of (plainFor_of_name (by decide +kernel)) (Nat.le_of_ble_eq_true rfl) (fun X A Z hl C hr hR => by subst hl; exact k_M_strengthOf C hr hR x1 x2 M h)
def T_cX12_isAirL : List (Nat × Instr × Nat) := [(0, .aload_n 0, 1), (1, .getfield 13, 3), (4, .bipush 92, 2), (6, .bipush 14, 2), (8, .iload_n 1, 1), (9, .imul, 1), (10, .iadd, 1), (11, .iaload, 1), (12, .iconst 1, 1), (13, .if_icmp .ne 7, 3), (16, .iconst 1, 1), (17, .goto 4, 3), (20, .iconst 0, 1), (21, .ireturn, 1)]
theorem T_cX12_isAir : tabOK cX12_isAir T_cX12_isAirL = true := by decide +kernel
def P_M_isAir_21 (post : Int32 → Mem → Prop) (s0 : Int32) (M : Mem) : Prop :=
  (s0 = 0 ∨ s0 = 1) ∧ post s0 M
theorem k_M_isAir_21 {X : FX} {g : GT} {A : Nat → Prop} {Z : State → Prop} {post : Int32 → Mem → Prop} (C : Cx X g layM A cX12_isAir 2 RX12 0) (hr : 0 ≤ X.2.2.2.1.cells ∧ 0 ≤ X.2.2.2.1.slots) (hR : RetZ X g layM A cX12_isAir 2 0 0 Z post) (s0 : Int32) (M : Mem) (h : P_M_isAir_21 post s0 M) : AtX X g layM A 2 0 0 Z 21 [] [.int s0] M := by
  exact hR _ _ _ _ (tk T_cX12_isAir 13 rfl) h
def P_M_isAir (post : Int32 → Mem → Prop) (x1 : Int32) (M : Mem) : Prop :=
  ∀ i1, i1 = ((92 : Int32) + ((14 : Int32) * x1)) → vp_in i1 5966 ∧ (¬ (M 1 i1.toNatClampNeg) = (1 : Int32) → (P_M_isAir_21 post (0 : Int32) M)) ∧
  ((M 1 i1.toNatClampNeg) = (1 : Int32) → (P_M_isAir_21 post (1 : Int32) M))
theorem k_M_isAir {X : FX} {g : GT} {A : Nat → Prop} {Z : State → Prop} {post : Int32 → Mem → Prop} (C : Cx X g layM A cX12_isAir 2 RX12 0) (hr : 0 ≤ X.2.2.2.1.cells ∧ 0 ≤ X.2.2.2.1.slots) (hR : RetZ X g layM A cX12_isAir 2 0 0 Z post) (x1 : Int32) (M : Mem) (h : P_M_isAir post x1 M) : AtX X g layM A 2 0 0 Z 0 [(0, .ref (ad g 0)), (1, .int x1)] [] M := by
  refine a_aload_n C (tk T_cX12_isAir 0 rfl) rfl ?_
  refine a_getR C f_RX12_13 (tk T_cX12_isAir 1 rfl) lm0 rfl ?_
  refine a_bipush C (92 : Int32) (tk T_cX12_isAir 2 rfl) kB_92 ?_
  refine a_bipush C (14 : Int32) (tk T_cX12_isAir 3 rfl) kB_14 ?_
  refine a_iload_n C (tk T_cX12_isAir 4 rfl) rfl ?_
  refine a_imul C (tk T_cX12_isAir 5 rfl) ?_
  refine a_iadd C (tk T_cX12_isAir 6 rfl) ?_
  refine a_top (fun i1 e_i1 => ?_)
  have h := h i1 e_i1
  obtain ⟨hb, h⟩ := h
  refine a_iald C (tk T_cX12_isAir 7 rfl) lm1 hb ?_
  refine a_iconst C (1 : Int32) (tk T_cX12_isAir 8 rfl) kI_1 ?_
  refine a_icmp_ne C 20 (tk T_cX12_isAir 9 rfl) rfl (fun c => ?_) (fun c => ?_)
  · have h := h.1 c
    refine a_iconst C (0 : Int32) (tk T_cX12_isAir 12 rfl) kI_0 ?_
    exact a_to (k_M_isAir_21 C hr hR (0 : Int32) M h) rfl
  · have h := h.2 c
    refine a_iconst C (1 : Int32) (tk T_cX12_isAir 10 rfl) kI_1 ?_
    refine a_goto C 21 (tk T_cX12_isAir 11 rfl) rfl ?_
    exact a_to (k_M_isAir_21 C hr hR (1 : Int32) M h) rfl
theorem ct_M_isAir {l : Launch} {g : GT} {post : Int32 → Mem → Prop} {x1 : Int32} {M : Mem} (h : P_M_isAir post x1 M) : CI l g layM yX12_isAir cX12_isAir 2 (some .boolean) 0 [.ref (ad g 0), .int x1] M post :=
  cz_of (plainFor_of_name (by decide +kernel)) (Nat.le_of_ble_eq_true rfl) (fun X A Z hl C hr hR => by subst hl; exact k_M_isAir C hr hR x1 M h)
def T_cX12_ofPlateL : List (Nat × Instr × Nat) := [(0, .aload_n 0, 1), (1, .getfield 13, 3), (4, .sipush 176, 3), (7, .iconst 5, 1), (8, .iload_n 1, 1), (9, .imul, 1), (10, .iadd, 1), (11, .iload_n 2, 1), (12, .iadd, 1), (13, .iaload, 1), (14, .ireturn, 1)]
theorem T_cX12_ofPlate : tabOK cX12_ofPlate T_cX12_ofPlateL = true := by decide +kernel
def P_M_ofPlate (post : Int32 → Mem → Prop) (x1 x2 : Int32) (M : Mem) : Prop :=
  ∀ i1, i1 = (((176 : Int32) + ((5 : Int32) * x1)) + x2) → vp_in i1 5966 ∧ post (M 1 i1.toNatClampNeg) M
theorem k_M_ofPlate {X : FX} {g : GT} {A : Nat → Prop} {Z : State → Prop} {post : Int32 → Mem → Prop} (C : Cx X g layM A cX12_ofPlate 3 RX12 0) (hr : 0 ≤ X.2.2.2.1.cells ∧ 0 ≤ X.2.2.2.1.slots) (hR : RetI X g layM A cX12_ofPlate 3 0 0 Z post) (x1 x2 : Int32) (M : Mem) (h : P_M_ofPlate post x1 x2 M) : AtX X g layM A 3 0 0 Z 0 [(0, .ref (ad g 0)), (1, .int x1), (2, .int x2)] [] M := by
  refine a_aload_n C (tk T_cX12_ofPlate 0 rfl) rfl ?_
  refine a_getR C f_RX12_13 (tk T_cX12_ofPlate 1 rfl) lm0 rfl ?_
  refine a_sipush C (176 : Int32) (tk T_cX12_ofPlate 2 rfl) kS_176 ?_
  refine a_iconst C (5 : Int32) (tk T_cX12_ofPlate 3 rfl) kI_5 ?_
  refine a_iload_n C (tk T_cX12_ofPlate 4 rfl) rfl ?_
  refine a_imul C (tk T_cX12_ofPlate 5 rfl) ?_
  refine a_iadd C (tk T_cX12_ofPlate 6 rfl) ?_
  refine a_iload_n C (tk T_cX12_ofPlate 7 rfl) rfl ?_
  refine a_iadd C (tk T_cX12_ofPlate 8 rfl) ?_
  refine a_top (fun i1 e_i1 => ?_)
  have h := h i1 e_i1
  obtain ⟨hb, h⟩ := h
  refine a_iald C (tk T_cX12_ofPlate 9 rfl) lm1 hb ?_
  exact hR _ _ _ _ (tk T_cX12_ofPlate 10 rfl) h
theorem ct_M_ofPlate {l : Launch} {g : GT} {post : Int32 → Mem → Prop} {x1 x2 : Int32} {M : Mem} (h : P_M_ofPlate post x1 x2 M) : CI l g layM yX12_ofPlate cX12_ofPlate 3 (some .int) 0 [.ref (ad g 0), .int x1, .int x2] M post :=
  ci_of (plainFor_of_name (by decide +kernel)) (Nat.le_of_ble_eq_true rfl) (fun X A Z hl C hr hR => by subst hl; exact k_M_ofPlate C hr hR x1 x2 M h)
def T_cX12_ofL : List (Nat × Instr × Nat) := [(0, .aload_n 0, 1), (1, .getfield 13, 3), (4, .sipush 191, 3), (7, .iconst 5, 1), (8, .iload_n 1, 1), (9, .imul, 1), (10, .iadd, 1), (11, .iload_n 2, 1), (12, .iadd, 1), (13, .iaload, 1), (14, .ireturn, 1)]
theorem T_cX12_of : tabOK cX12_of T_cX12_ofL = true := by decide +kernel
def P_M_of (post : Int32 → Mem → Prop) (x1 x2 : Int32) (M : Mem) : Prop :=
  ∀ i1, i1 = (((191 : Int32) + ((5 : Int32) * x1)) + x2) → vp_in i1 5966 ∧ post (M 1 i1.toNatClampNeg) M
theorem k_M_of {X : FX} {g : GT} {A : Nat → Prop} {Z : State → Prop} {post : Int32 → Mem → Prop} (C : Cx X g layM A cX12_of 3 RX12 0) (hr : 0 ≤ X.2.2.2.1.cells ∧ 0 ≤ X.2.2.2.1.slots) (hR : RetI X g layM A cX12_of 3 0 0 Z post) (x1 x2 : Int32) (M : Mem) (h : P_M_of post x1 x2 M) : AtX X g layM A 3 0 0 Z 0 [(0, .ref (ad g 0)), (1, .int x1), (2, .int x2)] [] M := by
  refine a_aload_n C (tk T_cX12_of 0 rfl) rfl ?_
  refine a_getR C f_RX12_13 (tk T_cX12_of 1 rfl) lm0 rfl ?_
  refine a_sipush C (191 : Int32) (tk T_cX12_of 2 rfl) kS_191 ?_
  refine a_iconst C (5 : Int32) (tk T_cX12_of 3 rfl) kI_5 ?_
  refine a_iload_n C (tk T_cX12_of 4 rfl) rfl ?_
  refine a_imul C (tk T_cX12_of 5 rfl) ?_
  refine a_iadd C (tk T_cX12_of 6 rfl) ?_
  refine a_iload_n C (tk T_cX12_of 7 rfl) rfl ?_
  refine a_iadd C (tk T_cX12_of 8 rfl) ?_
  refine a_top (fun i1 e_i1 => ?_)
  have h := h i1 e_i1
  obtain ⟨hb, h⟩ := h
  refine a_iald C (tk T_cX12_of 9 rfl) lm1 hb ?_
  exact hR _ _ _ _ (tk T_cX12_of 10 rfl) h
theorem ct_M_of {l : Launch} {g : GT} {post : Int32 → Mem → Prop} {x1 x2 : Int32} {M : Mem} (h : P_M_of post x1 x2 M) : CI l g layM yX12_of cX12_of 3 (some .int) 0 [.ref (ad g 0), .int x1, .int x2] M post :=
  ci_of (plainFor_of_name (by decide +kernel)) (Nat.le_of_ble_eq_true rfl) (fun X A Z hl C hr hR => by subst hl; exact k_M_of C hr hR x1 x2 M h)
def T_cX12_readingsL : List (Nat × Instr × Nat) := [(0, .aload_n 0, 1), (1, .getfield 13, 3), (4, .bipush 9, 2), (6, .iaload, 1), (7, .ireturn, 1)]
theorem T_cX12_readings : tabOK cX12_readings T_cX12_readingsL = true := by decide +kernel
def P_M_readings (post : Int32 → Mem → Prop) (M : Mem) : Prop :=
  vp_in (9 : Int32) 5966 ∧ post (M 1 (9 : Int32).toNatClampNeg) M
theorem k_M_readings {X : FX} {g : GT} {A : Nat → Prop} {Z : State → Prop} {post : Int32 → Mem → Prop} (C : Cx X g layM A cX12_readings 1 RX12 0) (hr : 0 ≤ X.2.2.2.1.cells ∧ 0 ≤ X.2.2.2.1.slots) (hR : RetI X g layM A cX12_readings 1 0 0 Z post) (M : Mem) (h : P_M_readings post M) : AtX X g layM A 1 0 0 Z 0 [(0, .ref (ad g 0))] [] M := by
  refine a_aload_n C (tk T_cX12_readings 0 rfl) rfl ?_
  refine a_getR C f_RX12_13 (tk T_cX12_readings 1 rfl) lm0 rfl ?_
  refine a_bipush C (9 : Int32) (tk T_cX12_readings 2 rfl) kB_9 ?_
  obtain ⟨hb, h⟩ := h
  refine a_iald C (tk T_cX12_readings 3 rfl) lm1 hb ?_
  exact hR _ _ _ _ (tk T_cX12_readings 4 rfl) h
theorem ct_M_readings {l : Launch} {g : GT} {post : Int32 → Mem → Prop} {M : Mem} (h : P_M_readings post M) : CI l g layM yX12_readings cX12_readings 1 (some .int) 0 [.ref (ad g 0)] M post :=
  ci_of (plainFor_of_name (by decide +kernel)) (Nat.le_of_ble_eq_true rfl) (fun X A Z hl C hr hR => by subst hl; exact k_M_readings C hr hR  M h)
def T_cX12_elementL : List (Nat × Instr × Nat) := [(0, .aload_n 0, 1), (1, .iconst 0, 1), (2, .putfield 3, 3), (5, .aload_n 0, 1), (6, .aload_n 0, 1), (7, .getfield 13, 3), (10, .bipush 7, 2), (12, .iaload, 1), (13, .bipush 6, 2), (15, .if_icmp .ne 7, 3), (18, .iconst 1, 1), (19, .goto 4, 3), (22, .iconst 0, 1), (23, .iconst 1, 1), (24, .invokevirtual 72, 3), (27, .ifCond .eq 5, 3), (30, .iconst 0, 1), (31, .ireturn, 1), (32, .aload_n 0, 1), (33, .getfield 13, 3), (36, .bipush 7, 2), (38, .iaload, 1), (39, .istore_n 2, 1), (40, .aload_n 0, 1), (41, .getfield 13, 3), (44, .bipush 92, 2), (46, .bipush 14, 2), (48, .iload_n 2, 1), (49, .imul, 1), (50, .iadd, 1), (51, .iload_n 1, 1), (52, .ifCond .eq 7, 3), (55, .iconst 1, 1), (56, .goto 4, 3), (59, .iconst 0, 1), (60, .iastore, 1), (61, .aload_n 0, 1), (62, .getfield 13, 3), (65, .bipush 92, 2), (67, .bipush 14, 2), (69, .iload_n 2, 1), (70, .imul, 1), (71, .iadd, 1), (72, .iconst 1, 1), (73, .iadd, 1), (74, .iconst 0, 1), (75, .iastore, 1), (76, .aload_n 0, 1), (77, .getfield 13, 3), (80, .bipush 7, 2), (82, .dup2, 1), (83, .iaload, 1), (84, .iconst 1, 1), (85, .iadd, 1), (86, .iastore, 1), (87, .iload_n 2, 1), (88, .ireturn, 1)]
theorem T_cX12_element : tabOK cX12_element T_cX12_elementL = true := by decide +kernel
def P_M_element_60 (post : Int32 → Mem → Prop) (x2 s1 s2 : Int32) (M : Mem) : Prop :=
  vp_in s1 5966 ∧ ∀ M1, M1 = ms M 1 s1.toNatClampNeg s2 → vp_in (((92 : Int32) + ((14 : Int32) * x2)) + (1 : Int32)) 5966 ∧ ∀ M2, M2 = ms M1 1 (((92 : Int32) + ((14 : Int32) * x2)) + (1 : Int32)).toNatClampNeg (0 : Int32) → vp_in (7 : Int32) 5966 ∧ vp_in (7 : Int32) 5966 ∧ ∀ M3, M3 = ms M2 1 (7 : Int32).toNatClampNeg ((M2 1 (7 : Int32).toNatClampNeg) + (1 : Int32)) → post x2 M3
theorem k_M_element_60 {X : FX} {g : GT} {A : Nat → Prop} {Z : State → Prop} {post : Int32 → Mem → Prop} (C : Cx X g layM A cX12_element 3 RX12 1) (hr : 0 ≤ X.2.2.2.1.cells ∧ 0 ≤ X.2.2.2.1.slots) (hR : RetI X g layM A cX12_element 3 0 0 Z post) (x2 s1 s2 : Int32) (M : Mem) (h : P_M_element_60 post x2 s1 s2 M) : AtX X g layM A 3 0 0 Z 60 [(0, .ref (ad g 0)), (2, .int x2)] [.int s2, .int s1, .ref (ad g 1)] M := by
  obtain ⟨hb, h⟩ := h
  refine a_iast C (tk T_cX12_element 35 rfl) lm1 hb ?_
  refine a_mem (fun M1 e_M1 => ?_)
  have h := h M1 e_M1
  refine a_aload_n C (tk T_cX12_element 36 rfl) rfl ?_
  refine a_getR C f_RX12_13 (tk T_cX12_element 37 rfl) lm0 rfl ?_
  refine a_bipush C (92 : Int32) (tk T_cX12_element 38 rfl) kB_92 ?_
  refine a_bipush C (14 : Int32) (tk T_cX12_element 39 rfl) kB_14 ?_
  refine a_iload_n C (tk T_cX12_element 40 rfl) rfl ?_
  refine a_imul C (tk T_cX12_element 41 rfl) ?_
  refine a_iadd C (tk T_cX12_element 42 rfl) ?_
  refine a_iconst C (1 : Int32) (tk T_cX12_element 43 rfl) kI_1 ?_
  refine a_iadd C (tk T_cX12_element 44 rfl) ?_
  refine a_iconst C (0 : Int32) (tk T_cX12_element 45 rfl) kI_0 ?_
  obtain ⟨hb, h⟩ := h
  refine a_iast C (tk T_cX12_element 46 rfl) lm1 hb ?_
  refine a_mem (fun M2 e_M2 => ?_)
  have h := h M2 e_M2
  refine a_aload_n C (tk T_cX12_element 47 rfl) rfl ?_
  refine a_getR C f_RX12_13 (tk T_cX12_element 48 rfl) lm0 rfl ?_
  refine a_bipush C (7 : Int32) (tk T_cX12_element 49 rfl) kB_7 ?_
  refine a_dup2ir C (tk T_cX12_element 50 rfl) ?_
  obtain ⟨hb, h⟩ := h
  refine a_iald C (tk T_cX12_element 51 rfl) lm1 hb ?_
  refine a_iconst C (1 : Int32) (tk T_cX12_element 52 rfl) kI_1 ?_
  refine a_iadd C (tk T_cX12_element 53 rfl) ?_
  obtain ⟨hb, h⟩ := h
  refine a_iast C (tk T_cX12_element 54 rfl) lm1 hb ?_
  refine a_mem (fun M3 e_M3 => ?_)
  have h := h M3 e_M3
  refine a_iload_n C (tk T_cX12_element 55 rfl) rfl ?_
  exact hR _ _ _ _ (tk T_cX12_element 56 rfl) h
def P_M_element_23 (post : Int32 → Mem → Prop) (x1 s1 : Int32) (M : Mem) : Prop :=
  P_M_throwsIf (fun r1 M1 =>
  (r1 = 0 → (vp_in (7 : Int32) 5966 ∧ ∀ x2_2, x2_2 = (M1 1 (7 : Int32).toNatClampNeg) → (x1 = 0 → (P_M_element_60 post x2_2 ((92 : Int32) + ((14 : Int32) * x2_2)) (0 : Int32) M1)) ∧
  (¬ x1 = 0 → (P_M_element_60 post x2_2 ((92 : Int32) + ((14 : Int32) * x2_2)) (1 : Int32) M1)))) ∧
  (¬ r1 = 0 → (post (0 : Int32) M1))) s1 (1 : Int32) M
theorem k_M_element_23 {X : FX} {g : GT} {A : Nat → Prop} {Z : State → Prop} {post : Int32 → Mem → Prop} (C : Cx X g layM A cX12_element 3 RX12 1) (hr : 0 ≤ X.2.2.2.1.cells ∧ 0 ≤ X.2.2.2.1.slots) (hR : RetI X g layM A cX12_element 3 0 0 Z post) (x1 s1 : Int32) (M : Mem) (h : P_M_element_23 post x1 s1 M) : AtX X g layM A 3 0 0 Z 23 [(0, .ref (ad g 0)), (1, .int x1)] [.int s1, .ref (ad g 0)] M := by
  refine a_iconst C (1 : Int32) (tk T_cX12_element 13 rfl) kI_1 ?_
  refine a_callI C [.int s1, .int (1 : Int32)] me_yX12_throwsIf lk_RX12_72 (ct_M_throwsIf h) (by decide) lm0 rfl rfl rfl (Nat.le_of_ble_eq_true rfl) (tk T_cX12_element 14 rfl) hr (fun r1 M1 h => ?_)
  refine a_if_eq C 32 (tk T_cX12_element 15 rfl) rfl (fun c => ?_) (fun c => ?_)
  · have h := h.1 c
    refine a_aload_n C (tk T_cX12_element 18 rfl) rfl ?_
    refine a_getR C f_RX12_13 (tk T_cX12_element 19 rfl) lm0 rfl ?_
    refine a_bipush C (7 : Int32) (tk T_cX12_element 20 rfl) kB_7 ?_
    obtain ⟨hb, h⟩ := h
    refine a_iald C (tk T_cX12_element 21 rfl) lm1 hb ?_
    refine a_top (fun x2_2 e_x2_2 => ?_)
    have h := h x2_2 e_x2_2
    refine a_istore_n C (tk T_cX12_element 22 rfl) (by decide) rfl ?_
    refine a_aload_n C (tk T_cX12_element 23 rfl) rfl ?_
    refine a_getR C f_RX12_13 (tk T_cX12_element 24 rfl) lm0 rfl ?_
    refine a_bipush C (92 : Int32) (tk T_cX12_element 25 rfl) kB_92 ?_
    refine a_bipush C (14 : Int32) (tk T_cX12_element 26 rfl) kB_14 ?_
    refine a_iload_n C (tk T_cX12_element 27 rfl) rfl ?_
    refine a_imul C (tk T_cX12_element 28 rfl) ?_
    refine a_iadd C (tk T_cX12_element 29 rfl) ?_
    refine a_iload_n C (tk T_cX12_element 30 rfl) rfl ?_
    refine a_if_eq C 59 (tk T_cX12_element 31 rfl) rfl (fun c => ?_) (fun c => ?_)
    · have h := h.1 c
      refine a_iconst C (0 : Int32) (tk T_cX12_element 34 rfl) kI_0 ?_
      exact a_to (k_M_element_60 C hr hR x2_2 ((92 : Int32) + ((14 : Int32) * x2_2)) (0 : Int32) M1 h) rfl
    · have h := h.2 c
      refine a_iconst C (1 : Int32) (tk T_cX12_element 32 rfl) kI_1 ?_
      refine a_goto C 60 (tk T_cX12_element 33 rfl) rfl ?_
      exact a_to (k_M_element_60 C hr hR x2_2 ((92 : Int32) + ((14 : Int32) * x2_2)) (1 : Int32) M1 h) rfl
  · have h := h.2 c
    refine a_iconst C (0 : Int32) (tk T_cX12_element 16 rfl) kI_0 ?_
    exact hR _ _ _ _ (tk T_cX12_element 17 rfl) h
def P_M_element (post : Int32 → Mem → Prop) (x1 : Int32) (M : Mem) : Prop :=
  ∀ M1, M1 = ms M 0 0 (0 : Int32) → vp_in (7 : Int32) 5966 ∧ (¬ (M1 1 (7 : Int32).toNatClampNeg) = (6 : Int32) → (P_M_element_23 post x1 (0 : Int32) M1)) ∧
  ((M1 1 (7 : Int32).toNatClampNeg) = (6 : Int32) → (P_M_element_23 post x1 (1 : Int32) M1))
theorem k_M_element {X : FX} {g : GT} {A : Nat → Prop} {Z : State → Prop} {post : Int32 → Mem → Prop} (C : Cx X g layM A cX12_element 3 RX12 1) (hr : 0 ≤ X.2.2.2.1.cells ∧ 0 ≤ X.2.2.2.1.slots) (hR : RetI X g layM A cX12_element 3 0 0 Z post) (x1 : Int32) (M : Mem) (h : P_M_element post x1 M) : AtX X g layM A 3 0 0 Z 0 [(0, .ref (ad g 0)), (1, .int x1)] [] M := by
  refine a_aload_n C (tk T_cX12_element 0 rfl) rfl ?_
  refine a_iconst C (0 : Int32) (tk T_cX12_element 1 rfl) kI_0 ?_
  refine a_put C f_RX12_3 f_RX12_3p rfl rfl (tk T_cX12_element 2 rfl) lm0 rfl ?_
  refine a_mem (fun M1 e_M1 => ?_)
  have h := h M1 e_M1
  refine a_aload_n C (tk T_cX12_element 3 rfl) rfl ?_
  refine a_aload_n C (tk T_cX12_element 4 rfl) rfl ?_
  refine a_getR C f_RX12_13 (tk T_cX12_element 5 rfl) lm0 rfl ?_
  refine a_bipush C (7 : Int32) (tk T_cX12_element 6 rfl) kB_7 ?_
  obtain ⟨hb, h⟩ := h
  refine a_iald C (tk T_cX12_element 7 rfl) lm1 hb ?_
  refine a_bipush C (6 : Int32) (tk T_cX12_element 8 rfl) kB_6 ?_
  refine a_icmp_ne C 22 (tk T_cX12_element 9 rfl) rfl (fun c => ?_) (fun c => ?_)
  · have h := h.1 c
    refine a_iconst C (0 : Int32) (tk T_cX12_element 12 rfl) kI_0 ?_
    exact a_to (k_M_element_23 C hr hR x1 (0 : Int32) M1 h) rfl
  · have h := h.2 c
    refine a_iconst C (1 : Int32) (tk T_cX12_element 10 rfl) kI_1 ?_
    refine a_goto C 23 (tk T_cX12_element 11 rfl) rfl ?_
    exact a_to (k_M_element_23 C hr hR x1 (1 : Int32) M1 h) rfl
theorem ct_M_element {l : Launch} {g : GT} {post : Int32 → Mem → Prop} {x1 : Int32} {M : Mem} (h : P_M_element post x1 M) : CI l g layM yX12_element cX12_element 3 (some .int) 1 [.ref (ad g 0), .int x1] M post :=
  ci_of (plainFor_of_name (by decide +kernel)) (Nat.le_of_ble_eq_true rfl) (fun X A Z hl C hr hR => by subst hl; exact k_M_element C hr hR x1 M h)
def T_cX12_lineL : List (Nat × Instr × Nat) := [(0, .aload_n 0, 1), (1, .iconst 0, 1), (2, .putfield 3, 3), (5, .aload_n 0, 1), (6, .aload_n 0, 1), (7, .iload_n 1, 1), (8, .bipush 7, 2), (10, .invokevirtual 121, 3), (13, .iconst 1, 1), (14, .invokevirtual 72, 3), (17, .ifCond .ne 56, 3), (20, .aload_n 0, 1), (21, .iload_n 2, 1), (22, .invokestatic 97, 3), (25, .ifCond .ne 13, 3), (28, .iload_n 3, 1), (29, .iconst 1, 1), (30, .bipush 9, 2), (32, .invokestatic 58, 3), (35, .ifCond .ne 7, 3), (38, .iconst 1, 1), (39, .goto 4, 3), (42, .iconst 0, 1), (43, .iconst 2, 1), (44, .invokevirtual 72, 3), (47, .ifCond .ne 26, 3), (50, .aload_n 0, 1), (51, .aload_n 0, 1), (52, .iload_n 1, 1), (53, .invokevirtual 125, 3), (56, .bipush 6, 2), (58, .if_icmp .ne 7, 3), (61, .iconst 1, 1), (62, .goto 4, 3), (65, .iconst 0, 1), (66, .iconst 3, 1), (67, .invokevirtual 72, 3), (70, .ifCond .eq 5, 3), (73, .iconst 0, 1), (74, .ireturn, 1), (75, .bipush 92, 2), (77, .bipush 14, 2), (79, .iload_n 1, 1), (80, .imul, 1), (81, .iadd, 1), (82, .istore 4, 2), (84, .aload_n 0, 1), (85, .iload_n 1, 1), (86, .invokevirtual 125, 3), (89, .istore 5, 2), (91, .aload_n 0, 1), (92, .getfield 13, 3), (95, .iload 4, 2), (97, .iconst 2, 1), (98, .iadd, 1), (99, .iconst 2, 1), (100, .iload 5, 2), (102, .imul, 1), (103, .iadd, 1), (104, .iload_n 2, 1), (105, .iastore, 1), (106, .aload_n 0, 1), (107, .getfield 13, 3), (110, .iload 4, 2), (112, .iconst 3, 1), (113, .iadd, 1), (114, .iconst 2, 1), (115, .iload 5, 2), (117, .imul, 1), (118, .iadd, 1), (119, .iload_n 3, 1), (120, .iastore, 1), (121, .aload_n 0, 1), (122, .getfield 13, 3), (125, .iload 4, 2), (127, .iconst 1, 1), (128, .iadd, 1), (129, .dup2, 1), (130, .iaload, 1), (131, .iconst 1, 1), (132, .iadd, 1), (133, .iastore, 1), (134, .iload 5, 2), (136, .ireturn, 1)]
theorem T_cX12_line : tabOK cX12_line T_cX12_lineL = true := by decide +kernel
def P_M_line_73 (post : Int32 → Mem → Prop) (M : Mem) : Prop :=
  post (0 : Int32) M
theorem k_M_line_73 {X : FX} {g : GT} {A : Nat → Prop} {Z : State → Prop} {post : Int32 → Mem → Prop} (C : Cx X g layM A cX12_line 6 RX12 2) (hr : 0 ≤ X.2.2.2.1.cells ∧ 0 ≤ X.2.2.2.1.slots) (hR : RetI X g layM A cX12_line 6 0 0 Z post)  (M : Mem) (h : P_M_line_73 post M) : AtX X g layM A 6 0 0 Z 73 [] [] M := by
  refine a_iconst C (0 : Int32) (tk T_cX12_line 38 rfl) kI_0 ?_
  exact hR _ _ _ _ (tk T_cX12_line 39 rfl) h
def P_M_line_66 (post : Int32 → Mem → Prop) (x1 x2 x3 s1 : Int32) (M : Mem) : Prop :=
  P_M_throwsIf (fun r1 M1 =>
  (r1 = 0 → (∀ x4_2, x4_2 = ((92 : Int32) + ((14 : Int32) * x1)) → P_M_lines (fun r3 M3 =>
  vp_in ((x4_2 + (2 : Int32)) + ((2 : Int32) * r3)) 5966 ∧ ∀ M4, M4 = ms M3 1 ((x4_2 + (2 : Int32)) + ((2 : Int32) * r3)).toNatClampNeg x2 → vp_in ((x4_2 + (3 : Int32)) + ((2 : Int32) * r3)) 5966 ∧ ∀ M5, M5 = ms M4 1 ((x4_2 + (3 : Int32)) + ((2 : Int32) * r3)).toNatClampNeg x3 → vp_in (x4_2 + (1 : Int32)) 5966 ∧ vp_in (x4_2 + (1 : Int32)) 5966 ∧ ∀ M6, M6 = ms M5 1 (x4_2 + (1 : Int32)).toNatClampNeg ((M5 1 (x4_2 + (1 : Int32)).toNatClampNeg) + (1 : Int32)) → post r3 M6) x1 M1)) ∧
  (¬ r1 = 0 → (P_M_line_73 post M1))) s1 (3 : Int32) M
theorem k_M_line_66 {X : FX} {g : GT} {A : Nat → Prop} {Z : State → Prop} {post : Int32 → Mem → Prop} (C : Cx X g layM A cX12_line 6 RX12 2) (hr : 0 ≤ X.2.2.2.1.cells ∧ 0 ≤ X.2.2.2.1.slots) (hR : RetI X g layM A cX12_line 6 0 0 Z post) (x1 x2 x3 s1 : Int32) (M : Mem) (h : P_M_line_66 post x1 x2 x3 s1 M) : AtX X g layM A 6 0 0 Z 66 [(0, .ref (ad g 0)), (1, .int x1), (2, .int x2), (3, .int x3)] [.int s1, .ref (ad g 0)] M := by
  refine a_iconst C (3 : Int32) (tk T_cX12_line 35 rfl) kI_3 ?_
  refine a_callI C [.int s1, .int (3 : Int32)] me_yX12_throwsIf lk_RX12_72 (ct_M_throwsIf h) (by decide) lm0 rfl rfl rfl (Nat.le_of_ble_eq_true rfl) (tk T_cX12_line 36 rfl) hr (fun r1 M1 h => ?_)
  refine a_if_eq C 75 (tk T_cX12_line 37 rfl) rfl (fun c => ?_) (fun c => ?_)
  · have h := h.1 c
    refine a_bipush C (92 : Int32) (tk T_cX12_line 40 rfl) kB_92 ?_
    refine a_bipush C (14 : Int32) (tk T_cX12_line 41 rfl) kB_14 ?_
    refine a_iload_n C (tk T_cX12_line 42 rfl) rfl ?_
    refine a_imul C (tk T_cX12_line 43 rfl) ?_
    refine a_iadd C (tk T_cX12_line 44 rfl) ?_
    refine a_top (fun x4_2 e_x4_2 => ?_)
    have h := h x4_2 e_x4_2
    refine a_istore C (tk T_cX12_line 45 rfl) (by decide) rfl ?_
    refine a_aload_n C (tk T_cX12_line 46 rfl) rfl ?_
    refine a_iload_n C (tk T_cX12_line 47 rfl) rfl ?_
    refine a_callI C [.int x1] me_yX12_lines lk_RX12_125 (ct_M_lines h) (by decide) lm0 rfl rfl rfl (Nat.le_of_ble_eq_true rfl) (tk T_cX12_line 48 rfl) hr (fun r3 M3 h => ?_)
    refine a_istore C (tk T_cX12_line 49 rfl) (by decide) rfl ?_
    refine a_aload_n C (tk T_cX12_line 50 rfl) rfl ?_
    refine a_getR C f_RX12_13 (tk T_cX12_line 51 rfl) lm0 rfl ?_
    refine a_iload C (tk T_cX12_line 52 rfl) rfl ?_
    refine a_iconst C (2 : Int32) (tk T_cX12_line 53 rfl) kI_2 ?_
    refine a_iadd C (tk T_cX12_line 54 rfl) ?_
    refine a_iconst C (2 : Int32) (tk T_cX12_line 55 rfl) kI_2 ?_
    refine a_iload C (tk T_cX12_line 56 rfl) rfl ?_
    refine a_imul C (tk T_cX12_line 57 rfl) ?_
    refine a_iadd C (tk T_cX12_line 58 rfl) ?_
    refine a_iload_n C (tk T_cX12_line 59 rfl) rfl ?_
    obtain ⟨hb, h⟩ := h
    refine a_iast C (tk T_cX12_line 60 rfl) lm1 hb ?_
    refine a_mem (fun M4 e_M4 => ?_)
    have h := h M4 e_M4
    refine a_aload_n C (tk T_cX12_line 61 rfl) rfl ?_
    refine a_getR C f_RX12_13 (tk T_cX12_line 62 rfl) lm0 rfl ?_
    refine a_iload C (tk T_cX12_line 63 rfl) rfl ?_
    refine a_iconst C (3 : Int32) (tk T_cX12_line 64 rfl) kI_3 ?_
    refine a_iadd C (tk T_cX12_line 65 rfl) ?_
    refine a_iconst C (2 : Int32) (tk T_cX12_line 66 rfl) kI_2 ?_
    refine a_iload C (tk T_cX12_line 67 rfl) rfl ?_
    refine a_imul C (tk T_cX12_line 68 rfl) ?_
    refine a_iadd C (tk T_cX12_line 69 rfl) ?_
    refine a_iload_n C (tk T_cX12_line 70 rfl) rfl ?_
    obtain ⟨hb, h⟩ := h
    refine a_iast C (tk T_cX12_line 71 rfl) lm1 hb ?_
    refine a_mem (fun M5 e_M5 => ?_)
    have h := h M5 e_M5
    refine a_aload_n C (tk T_cX12_line 72 rfl) rfl ?_
    refine a_getR C f_RX12_13 (tk T_cX12_line 73 rfl) lm0 rfl ?_
    refine a_iload C (tk T_cX12_line 74 rfl) rfl ?_
    refine a_iconst C (1 : Int32) (tk T_cX12_line 75 rfl) kI_1 ?_
    refine a_iadd C (tk T_cX12_line 76 rfl) ?_
    refine a_dup2ir C (tk T_cX12_line 77 rfl) ?_
    obtain ⟨hb, h⟩ := h
    refine a_iald C (tk T_cX12_line 78 rfl) lm1 hb ?_
    refine a_iconst C (1 : Int32) (tk T_cX12_line 79 rfl) kI_1 ?_
    refine a_iadd C (tk T_cX12_line 80 rfl) ?_
    obtain ⟨hb, h⟩ := h
    refine a_iast C (tk T_cX12_line 81 rfl) lm1 hb ?_
    refine a_mem (fun M6 e_M6 => ?_)
    have h := h M6 e_M6
    refine a_iload C (tk T_cX12_line 82 rfl) rfl ?_
    exact hR _ _ _ _ (tk T_cX12_line 83 rfl) h
  · have h := h.2 c
    exact a_to (k_M_line_73 C hr hR M1 h) rfl
def P_M_line_43 (post : Int32 → Mem → Prop) (x1 x2 x3 s1 : Int32) (M : Mem) : Prop :=
  P_M_throwsIf (fun r1 M1 =>
  (¬ r1 = 0 → (P_M_line_73 post M1)) ∧
  (r1 = 0 → (P_M_lines (fun r2 M2 =>
  (¬ r2 = (6 : Int32) → (P_M_line_66 post x1 x2 x3 (0 : Int32) M2)) ∧
  (r2 = (6 : Int32) → (P_M_line_66 post x1 x2 x3 (1 : Int32) M2))) x1 M1))) s1 (2 : Int32) M
theorem k_M_line_43 {X : FX} {g : GT} {A : Nat → Prop} {Z : State → Prop} {post : Int32 → Mem → Prop} (C : Cx X g layM A cX12_line 6 RX12 2) (hr : 0 ≤ X.2.2.2.1.cells ∧ 0 ≤ X.2.2.2.1.slots) (hR : RetI X g layM A cX12_line 6 0 0 Z post) (x1 x2 x3 s1 : Int32) (M : Mem) (h : P_M_line_43 post x1 x2 x3 s1 M) : AtX X g layM A 6 0 0 Z 43 [(0, .ref (ad g 0)), (1, .int x1), (2, .int x2), (3, .int x3)] [.int s1, .ref (ad g 0)] M := by
  refine a_iconst C (2 : Int32) (tk T_cX12_line 23 rfl) kI_2 ?_
  refine a_callI C [.int s1, .int (2 : Int32)] me_yX12_throwsIf lk_RX12_72 (ct_M_throwsIf h) (by decide) lm0 rfl rfl rfl (Nat.le_of_ble_eq_true rfl) (tk T_cX12_line 24 rfl) hr (fun r1 M1 h => ?_)
  refine a_if_ne C 73 (tk T_cX12_line 25 rfl) rfl (fun c => ?_) (fun c => ?_)
  · have h := h.1 c
    exact a_to (k_M_line_73 C hr hR M1 h) rfl
  · have h := h.2 c
    refine a_aload_n C (tk T_cX12_line 26 rfl) rfl ?_
    refine a_aload_n C (tk T_cX12_line 27 rfl) rfl ?_
    refine a_iload_n C (tk T_cX12_line 28 rfl) rfl ?_
    refine a_callI C [.int x1] me_yX12_lines lk_RX12_125 (ct_M_lines h) (by decide) lm0 rfl rfl rfl (Nat.le_of_ble_eq_true rfl) (tk T_cX12_line 29 rfl) hr (fun r2 M2 h => ?_)
    refine a_bipush C (6 : Int32) (tk T_cX12_line 30 rfl) kB_6 ?_
    refine a_icmp_ne C 65 (tk T_cX12_line 31 rfl) rfl (fun c => ?_) (fun c => ?_)
    · have h := h.1 c
      refine a_iconst C (0 : Int32) (tk T_cX12_line 34 rfl) kI_0 ?_
      exact a_to (k_M_line_66 C hr hR x1 x2 x3 (0 : Int32) M2 h) rfl
    · have h := h.2 c
      refine a_iconst C (1 : Int32) (tk T_cX12_line 32 rfl) kI_1 ?_
      refine a_goto C 66 (tk T_cX12_line 33 rfl) rfl ?_
      exact a_to (k_M_line_66 C hr hR x1 x2 x3 (1 : Int32) M2 h) rfl
def P_M_line_38 (post : Int32 → Mem → Prop) (x1 x2 x3 : Int32) (M : Mem) : Prop :=
  P_M_line_43 post x1 x2 x3 (1 : Int32) M
theorem k_M_line_38 {X : FX} {g : GT} {A : Nat → Prop} {Z : State → Prop} {post : Int32 → Mem → Prop} (C : Cx X g layM A cX12_line 6 RX12 2) (hr : 0 ≤ X.2.2.2.1.cells ∧ 0 ≤ X.2.2.2.1.slots) (hR : RetI X g layM A cX12_line 6 0 0 Z post) (x1 x2 x3 : Int32) (M : Mem) (h : P_M_line_38 post x1 x2 x3 M) : AtX X g layM A 6 0 0 Z 38 [(0, .ref (ad g 0)), (1, .int x1), (2, .int x2), (3, .int x3)] [.ref (ad g 0)] M := by
  refine a_iconst C (1 : Int32) (tk T_cX12_line 20 rfl) kI_1 ?_
  refine a_goto C 43 (tk T_cX12_line 21 rfl) rfl ?_
  exact a_to (k_M_line_43 C hr hR x1 x2 x3 (1 : Int32) M h) rfl
def P_M_line (post : Int32 → Mem → Prop) (x1 x2 x3 : Int32) (M : Mem) : Prop :=
  ∀ M1, M1 = ms M 0 0 (0 : Int32) → P_M_none (fun r2 M2 =>
  P_M_throwsIf (fun r3 M3 =>
  (¬ r3 = 0 → (P_M_line_73 post M3)) ∧
  (r3 = 0 → (P_M_noWave (fun r4 M4 =>
  (¬ r4 = 0 → (P_M_line_38 post x1 x2 x3 M4)) ∧
  (r4 = 0 → (P_M_in (fun r5 M5 =>
  (¬ r5 = 0 → (P_M_line_43 post x1 x2 x3 (0 : Int32) M5)) ∧
  (r5 = 0 → (P_M_line_38 post x1 x2 x3 M5))) x3 (1 : Int32) (9 : Int32) M4))) x2 M3))) r2 (1 : Int32) M2) x1 (7 : Int32) M1
theorem k_M_line {X : FX} {g : GT} {A : Nat → Prop} {Z : State → Prop} {post : Int32 → Mem → Prop} (C : Cx X g layM A cX12_line 6 RX12 2) (hr : 0 ≤ X.2.2.2.1.cells ∧ 0 ≤ X.2.2.2.1.slots) (hR : RetI X g layM A cX12_line 6 0 0 Z post) (x1 x2 x3 : Int32) (M : Mem) (h : P_M_line post x1 x2 x3 M) : AtX X g layM A 6 0 0 Z 0 [(0, .ref (ad g 0)), (1, .int x1), (2, .int x2), (3, .int x3)] [] M := by
  refine a_aload_n C (tk T_cX12_line 0 rfl) rfl ?_
  refine a_iconst C (0 : Int32) (tk T_cX12_line 1 rfl) kI_0 ?_
  refine a_put C f_RX12_3 f_RX12_3p rfl rfl (tk T_cX12_line 2 rfl) lm0 rfl ?_
  refine a_mem (fun M1 e_M1 => ?_)
  have h := h M1 e_M1
  refine a_aload_n C (tk T_cX12_line 3 rfl) rfl ?_
  refine a_aload_n C (tk T_cX12_line 4 rfl) rfl ?_
  refine a_iload_n C (tk T_cX12_line 5 rfl) rfl ?_
  refine a_bipush C (7 : Int32) (tk T_cX12_line 6 rfl) kB_7 ?_
  refine a_callI C [.int x1, .int (7 : Int32)] me_yX12_none lk_RX12_121 (ct_M_none h) (by decide) lm0 rfl rfl rfl (Nat.le_of_ble_eq_true rfl) (tk T_cX12_line 7 rfl) hr (fun r2 M2 h => ?_)
  refine a_iconst C (1 : Int32) (tk T_cX12_line 8 rfl) kI_1 ?_
  refine a_callI C [.int r2, .int (1 : Int32)] me_yX12_throwsIf lk_RX12_72 (ct_M_throwsIf h) (by decide) lm0 rfl rfl rfl (Nat.le_of_ble_eq_true rfl) (tk T_cX12_line 9 rfl) hr (fun r3 M3 h => ?_)
  refine a_if_ne C 73 (tk T_cX12_line 10 rfl) rfl (fun c => ?_) (fun c => ?_)
  · have h := h.1 c
    exact a_to (k_M_line_73 C hr hR M3 h) rfl
  · have h := h.2 c
    refine a_aload_n C (tk T_cX12_line 11 rfl) rfl ?_
    refine a_iload_n C (tk T_cX12_line 12 rfl) rfl ?_
    refine a_statI C [.int x2] me_yX12_noWave lk_RX12_97 (ct_M_noWave h) (by decide) rfl rfl (Nat.le_of_ble_eq_true rfl) (tk T_cX12_line 13 rfl) hr (fun r4 M4 h => ?_)
    refine a_if_ne C 38 (tk T_cX12_line 14 rfl) rfl (fun c => ?_) (fun c => ?_)
    · have h := h.1 c
      exact a_to (k_M_line_38 C hr hR x1 x2 x3 M4 h) rfl
    · have h := h.2 c
      refine a_iload_n C (tk T_cX12_line 15 rfl) rfl ?_
      refine a_iconst C (1 : Int32) (tk T_cX12_line 16 rfl) kI_1 ?_
      refine a_bipush C (9 : Int32) (tk T_cX12_line 17 rfl) kB_9 ?_
      refine a_statI C [.int x3, .int (1 : Int32), .int (9 : Int32)] me_yX12_in lk_RX12_58 (ct_M_in h) (by decide) rfl rfl (Nat.le_of_ble_eq_true rfl) (tk T_cX12_line 18 rfl) hr (fun r5 M5 h => ?_)
      refine a_if_ne C 42 (tk T_cX12_line 19 rfl) rfl (fun c => ?_) (fun c => ?_)
      · have h := h.1 c
        refine a_iconst C (0 : Int32) (tk T_cX12_line 22 rfl) kI_0 ?_
        exact a_to (k_M_line_43 C hr hR x1 x2 x3 (0 : Int32) M5 h) rfl
      · have h := h.2 c
        exact a_to (k_M_line_38 C hr hR x1 x2 x3 M5 h) rfl
theorem ct_M_line {l : Launch} {g : GT} {post : Int32 → Mem → Prop} {x1 x2 x3 : Int32} {M : Mem} (h : P_M_line post x1 x2 x3 M) : CI l g layM yX12_line cX12_line 6 (some .int) 2 [.ref (ad g 0), .int x1, .int x2, .int x3] M post :=
  ci_of (plainFor_of_name (by decide +kernel)) (Nat.le_of_ble_eq_true rfl) (fun X A Z hl C hr hR => by subst hl; exact k_M_line C hr hR x1 x2 x3 M h)
def T_cX12_plateL : List (Nat × Instr × Nat) := [(0, .aload_n 0, 1), (1, .iconst 0, 1), (2, .putfield 3, 3), (5, .aload_n 0, 1), (6, .iload_n 1, 1), (7, .iconst 1, 1), (8, .bipush 9, 2), (10, .invokestatic 58, 3), (13, .ifCond .eq 45, 3), (16, .iload_n 2, 1), (17, .iconst 1, 1), (18, .iconst 5, 1), (19, .invokestatic 58, 3), (22, .ifCond .eq 36, 3), (25, .iload_n 3, 1), (26, .invokestatic 97, 3), (29, .ifCond .ne 29, 3), (32, .iload 4, 2), (34, .invokestatic 97, 3), (37, .ifCond .ne 21, 3), (40, .iload_n 3, 1), (41, .iload 4, 2), (43, .if_icmp .gt 15, 3), (46, .iload 5, 2), (48, .iconst 0, 1), (49, .sipush 500, 3), (52, .invokestatic 58, 3), (55, .ifCond .ne 7, 3), (58, .iconst 1, 1), (59, .goto 4, 3), (62, .iconst 0, 1), (63, .iconst 1, 1), (64, .invokevirtual 72, 3), (67, .ifCond .ne 27, 3), (70, .aload_n 0, 1), (71, .aload_n 0, 1), (72, .getfield 13, 3), (75, .bipush 8, 2), (77, .iaload, 1), (78, .iconst 3, 1), (79, .if_icmp .ne 7, 3), (82, .iconst 1, 1), (83, .goto 4, 3), (86, .iconst 0, 1), (87, .iconst 2, 1), (88, .invokevirtual 72, 3), (91, .ifCond .eq 5, 3), (94, .iconst 0, 1), (95, .ireturn, 1), (96, .aload_n 0, 1), (97, .bipush 8, 2), (99, .sipush 176, 3), (102, .iconst 5, 1), (103, .iload_n 1, 1), (104, .iload_n 2, 1), (105, .iload_n 3, 1), (106, .iload 4, 2), (108, .iload 5, 2), (110, .invokevirtual 83, 3), (113, .ireturn, 1)]
theorem T_cX12_plate : tabOK cX12_plate T_cX12_plateL = true := by decide +kernel
def P_M_plate_94 (post : Int32 → Mem → Prop) (M : Mem) : Prop :=
  post (0 : Int32) M
theorem k_M_plate_94 {X : FX} {g : GT} {A : Nat → Prop} {Z : State → Prop} {post : Int32 → Mem → Prop} (C : Cx X g layM A cX12_plate 6 RX12 2) (hr : 0 ≤ X.2.2.2.1.cells ∧ 0 ≤ X.2.2.2.1.slots) (hR : RetI X g layM A cX12_plate 6 0 0 Z post)  (M : Mem) (h : P_M_plate_94 post M) : AtX X g layM A 6 0 0 Z 94 [] [] M := by
  refine a_iconst C (0 : Int32) (tk T_cX12_plate 47 rfl) kI_0 ?_
  exact hR _ _ _ _ (tk T_cX12_plate 48 rfl) h
def P_M_plate_87 (post : Int32 → Mem → Prop) (x1 x2 x3 x4 x5 s1 : Int32) (M : Mem) : Prop :=
  P_M_throwsIf (fun r1 M1 =>
  (r1 = 0 → (P_M_puts (fun r2 M2 =>
  post r2 M2) (8 : Int32) (176 : Int32) (5 : Int32) x1 x2 x3 x4 x5 M1)) ∧
  (¬ r1 = 0 → (P_M_plate_94 post M1))) s1 (2 : Int32) M
theorem k_M_plate_87 {X : FX} {g : GT} {A : Nat → Prop} {Z : State → Prop} {post : Int32 → Mem → Prop} (C : Cx X g layM A cX12_plate 6 RX12 2) (hr : 0 ≤ X.2.2.2.1.cells ∧ 0 ≤ X.2.2.2.1.slots) (hR : RetI X g layM A cX12_plate 6 0 0 Z post) (x1 x2 x3 x4 x5 s1 : Int32) (M : Mem) (h : P_M_plate_87 post x1 x2 x3 x4 x5 s1 M) : AtX X g layM A 6 0 0 Z 87 [(0, .ref (ad g 0)), (1, .int x1), (2, .int x2), (3, .int x3), (4, .int x4), (5, .int x5)] [.int s1, .ref (ad g 0)] M := by
  refine a_iconst C (2 : Int32) (tk T_cX12_plate 44 rfl) kI_2 ?_
  refine a_callI C [.int s1, .int (2 : Int32)] me_yX12_throwsIf lk_RX12_72 (ct_M_throwsIf h) (by decide) lm0 rfl rfl rfl (Nat.le_of_ble_eq_true rfl) (tk T_cX12_plate 45 rfl) hr (fun r1 M1 h => ?_)
  refine a_if_eq C 96 (tk T_cX12_plate 46 rfl) rfl (fun c => ?_) (fun c => ?_)
  · have h := h.1 c
    refine a_aload_n C (tk T_cX12_plate 49 rfl) rfl ?_
    refine a_bipush C (8 : Int32) (tk T_cX12_plate 50 rfl) kB_8 ?_
    refine a_sipush C (176 : Int32) (tk T_cX12_plate 51 rfl) kS_176 ?_
    refine a_iconst C (5 : Int32) (tk T_cX12_plate 52 rfl) kI_5 ?_
    refine a_iload_n C (tk T_cX12_plate 53 rfl) rfl ?_
    refine a_iload_n C (tk T_cX12_plate 54 rfl) rfl ?_
    refine a_iload_n C (tk T_cX12_plate 55 rfl) rfl ?_
    refine a_iload C (tk T_cX12_plate 56 rfl) rfl ?_
    refine a_iload C (tk T_cX12_plate 57 rfl) rfl ?_
    refine a_callI C [.int (8 : Int32), .int (176 : Int32), .int (5 : Int32), .int x1, .int x2, .int x3, .int x4, .int x5] me_yX12_puts lk_RX12_83 (ct_M_puts h) (by decide) lm0 rfl rfl rfl (Nat.le_of_ble_eq_true rfl) (tk T_cX12_plate 58 rfl) hr (fun r2 M2 h => ?_)
    exact hR _ _ _ _ (tk T_cX12_plate 59 rfl) h
  · have h := h.2 c
    exact a_to (k_M_plate_94 C hr hR M1 h) rfl
def P_M_plate_63 (post : Int32 → Mem → Prop) (x1 x2 x3 x4 x5 s1 : Int32) (M : Mem) : Prop :=
  P_M_throwsIf (fun r1 M1 =>
  (¬ r1 = 0 → (P_M_plate_94 post M1)) ∧
  (r1 = 0 → (vp_in (8 : Int32) 5966 ∧ (¬ (M1 1 (8 : Int32).toNatClampNeg) = (3 : Int32) → (P_M_plate_87 post x1 x2 x3 x4 x5 (0 : Int32) M1)) ∧
  ((M1 1 (8 : Int32).toNatClampNeg) = (3 : Int32) → (P_M_plate_87 post x1 x2 x3 x4 x5 (1 : Int32) M1))))) s1 (1 : Int32) M
theorem k_M_plate_63 {X : FX} {g : GT} {A : Nat → Prop} {Z : State → Prop} {post : Int32 → Mem → Prop} (C : Cx X g layM A cX12_plate 6 RX12 2) (hr : 0 ≤ X.2.2.2.1.cells ∧ 0 ≤ X.2.2.2.1.slots) (hR : RetI X g layM A cX12_plate 6 0 0 Z post) (x1 x2 x3 x4 x5 s1 : Int32) (M : Mem) (h : P_M_plate_63 post x1 x2 x3 x4 x5 s1 M) : AtX X g layM A 6 0 0 Z 63 [(0, .ref (ad g 0)), (1, .int x1), (2, .int x2), (3, .int x3), (4, .int x4), (5, .int x5)] [.int s1, .ref (ad g 0)] M := by
  refine a_iconst C (1 : Int32) (tk T_cX12_plate 31 rfl) kI_1 ?_
  refine a_callI C [.int s1, .int (1 : Int32)] me_yX12_throwsIf lk_RX12_72 (ct_M_throwsIf h) (by decide) lm0 rfl rfl rfl (Nat.le_of_ble_eq_true rfl) (tk T_cX12_plate 32 rfl) hr (fun r1 M1 h => ?_)
  refine a_if_ne C 94 (tk T_cX12_plate 33 rfl) rfl (fun c => ?_) (fun c => ?_)
  · have h := h.1 c
    exact a_to (k_M_plate_94 C hr hR M1 h) rfl
  · have h := h.2 c
    refine a_aload_n C (tk T_cX12_plate 34 rfl) rfl ?_
    refine a_aload_n C (tk T_cX12_plate 35 rfl) rfl ?_
    refine a_getR C f_RX12_13 (tk T_cX12_plate 36 rfl) lm0 rfl ?_
    refine a_bipush C (8 : Int32) (tk T_cX12_plate 37 rfl) kB_8 ?_
    obtain ⟨hb, h⟩ := h
    refine a_iald C (tk T_cX12_plate 38 rfl) lm1 hb ?_
    refine a_iconst C (3 : Int32) (tk T_cX12_plate 39 rfl) kI_3 ?_
    refine a_icmp_ne C 86 (tk T_cX12_plate 40 rfl) rfl (fun c => ?_) (fun c => ?_)
    · have h := h.1 c
      refine a_iconst C (0 : Int32) (tk T_cX12_plate 43 rfl) kI_0 ?_
      exact a_to (k_M_plate_87 C hr hR x1 x2 x3 x4 x5 (0 : Int32) M1 h) rfl
    · have h := h.2 c
      refine a_iconst C (1 : Int32) (tk T_cX12_plate 41 rfl) kI_1 ?_
      refine a_goto C 87 (tk T_cX12_plate 42 rfl) rfl ?_
      exact a_to (k_M_plate_87 C hr hR x1 x2 x3 x4 x5 (1 : Int32) M1 h) rfl
def P_M_plate_58 (post : Int32 → Mem → Prop) (x1 x2 x3 x4 x5 : Int32) (M : Mem) : Prop :=
  P_M_plate_63 post x1 x2 x3 x4 x5 (1 : Int32) M
theorem k_M_plate_58 {X : FX} {g : GT} {A : Nat → Prop} {Z : State → Prop} {post : Int32 → Mem → Prop} (C : Cx X g layM A cX12_plate 6 RX12 2) (hr : 0 ≤ X.2.2.2.1.cells ∧ 0 ≤ X.2.2.2.1.slots) (hR : RetI X g layM A cX12_plate 6 0 0 Z post) (x1 x2 x3 x4 x5 : Int32) (M : Mem) (h : P_M_plate_58 post x1 x2 x3 x4 x5 M) : AtX X g layM A 6 0 0 Z 58 [(0, .ref (ad g 0)), (1, .int x1), (2, .int x2), (3, .int x3), (4, .int x4), (5, .int x5)] [.ref (ad g 0)] M := by
  refine a_iconst C (1 : Int32) (tk T_cX12_plate 28 rfl) kI_1 ?_
  refine a_goto C 63 (tk T_cX12_plate 29 rfl) rfl ?_
  exact a_to (k_M_plate_63 C hr hR x1 x2 x3 x4 x5 (1 : Int32) M h) rfl
def P_M_plate (post : Int32 → Mem → Prop) (x1 x2 x3 x4 x5 : Int32) (M : Mem) : Prop :=
  ∀ M1, M1 = ms M 0 0 (0 : Int32) → P_M_in (fun r2 M2 =>
  (r2 = 0 → (P_M_plate_58 post x1 x2 x3 x4 x5 M2)) ∧
  (¬ r2 = 0 → (P_M_in (fun r3 M3 =>
  (r3 = 0 → (P_M_plate_58 post x1 x2 x3 x4 x5 M3)) ∧
  (¬ r3 = 0 → (P_M_noWave (fun r4 M4 =>
  (¬ r4 = 0 → (P_M_plate_58 post x1 x2 x3 x4 x5 M4)) ∧
  (r4 = 0 → (P_M_noWave (fun r5 M5 =>
  (¬ r5 = 0 → (P_M_plate_58 post x1 x2 x3 x4 x5 M5)) ∧
  (r5 = 0 → ((x4 < x3 → (P_M_plate_58 post x1 x2 x3 x4 x5 M5)) ∧
  (¬ x4 < x3 → (P_M_in (fun r6 M6 =>
  (¬ r6 = 0 → (P_M_plate_63 post x1 x2 x3 x4 x5 (0 : Int32) M6)) ∧
  (r6 = 0 → (P_M_plate_58 post x1 x2 x3 x4 x5 M6))) x5 (0 : Int32) (500 : Int32) M5))))) x4 M4))) x3 M3))) x2 (1 : Int32) (5 : Int32) M2))) x1 (1 : Int32) (9 : Int32) M1
theorem k_M_plate {X : FX} {g : GT} {A : Nat → Prop} {Z : State → Prop} {post : Int32 → Mem → Prop} (C : Cx X g layM A cX12_plate 6 RX12 2) (hr : 0 ≤ X.2.2.2.1.cells ∧ 0 ≤ X.2.2.2.1.slots) (hR : RetI X g layM A cX12_plate 6 0 0 Z post) (x1 x2 x3 x4 x5 : Int32) (M : Mem) (h : P_M_plate post x1 x2 x3 x4 x5 M) : AtX X g layM A 6 0 0 Z 0 [(0, .ref (ad g 0)), (1, .int x1), (2, .int x2), (3, .int x3), (4, .int x4), (5, .int x5)] [] M := by
  refine a_aload_n C (tk T_cX12_plate 0 rfl) rfl ?_
  refine a_iconst C (0 : Int32) (tk T_cX12_plate 1 rfl) kI_0 ?_
  refine a_put C f_RX12_3 f_RX12_3p rfl rfl (tk T_cX12_plate 2 rfl) lm0 rfl ?_
  refine a_mem (fun M1 e_M1 => ?_)
  have h := h M1 e_M1
  refine a_aload_n C (tk T_cX12_plate 3 rfl) rfl ?_
  refine a_iload_n C (tk T_cX12_plate 4 rfl) rfl ?_
  refine a_iconst C (1 : Int32) (tk T_cX12_plate 5 rfl) kI_1 ?_
  refine a_bipush C (9 : Int32) (tk T_cX12_plate 6 rfl) kB_9 ?_
  refine a_statI C [.int x1, .int (1 : Int32), .int (9 : Int32)] me_yX12_in lk_RX12_58 (ct_M_in h) (by decide) rfl rfl (Nat.le_of_ble_eq_true rfl) (tk T_cX12_plate 7 rfl) hr (fun r2 M2 h => ?_)
  refine a_if_eq C 58 (tk T_cX12_plate 8 rfl) rfl (fun c => ?_) (fun c => ?_)
  · have h := h.1 c
    exact a_to (k_M_plate_58 C hr hR x1 x2 x3 x4 x5 M2 h) rfl
  · have h := h.2 c
    refine a_iload_n C (tk T_cX12_plate 9 rfl) rfl ?_
    refine a_iconst C (1 : Int32) (tk T_cX12_plate 10 rfl) kI_1 ?_
    refine a_iconst C (5 : Int32) (tk T_cX12_plate 11 rfl) kI_5 ?_
    refine a_statI C [.int x2, .int (1 : Int32), .int (5 : Int32)] me_yX12_in lk_RX12_58 (ct_M_in h) (by decide) rfl rfl (Nat.le_of_ble_eq_true rfl) (tk T_cX12_plate 12 rfl) hr (fun r3 M3 h => ?_)
    refine a_if_eq C 58 (tk T_cX12_plate 13 rfl) rfl (fun c => ?_) (fun c => ?_)
    · have h := h.1 c
      exact a_to (k_M_plate_58 C hr hR x1 x2 x3 x4 x5 M3 h) rfl
    · have h := h.2 c
      refine a_iload_n C (tk T_cX12_plate 14 rfl) rfl ?_
      refine a_statI C [.int x3] me_yX12_noWave lk_RX12_97 (ct_M_noWave h) (by decide) rfl rfl (Nat.le_of_ble_eq_true rfl) (tk T_cX12_plate 15 rfl) hr (fun r4 M4 h => ?_)
      refine a_if_ne C 58 (tk T_cX12_plate 16 rfl) rfl (fun c => ?_) (fun c => ?_)
      · have h := h.1 c
        exact a_to (k_M_plate_58 C hr hR x1 x2 x3 x4 x5 M4 h) rfl
      · have h := h.2 c
        refine a_iload C (tk T_cX12_plate 17 rfl) rfl ?_
        refine a_statI C [.int x4] me_yX12_noWave lk_RX12_97 (ct_M_noWave h) (by decide) rfl rfl (Nat.le_of_ble_eq_true rfl) (tk T_cX12_plate 18 rfl) hr (fun r5 M5 h => ?_)
        refine a_if_ne C 58 (tk T_cX12_plate 19 rfl) rfl (fun c => ?_) (fun c => ?_)
        · have h := h.1 c
          exact a_to (k_M_plate_58 C hr hR x1 x2 x3 x4 x5 M5 h) rfl
        · have h := h.2 c
          refine a_iload_n C (tk T_cX12_plate 20 rfl) rfl ?_
          refine a_iload C (tk T_cX12_plate 21 rfl) rfl ?_
          refine a_icmp_gt C 58 (tk T_cX12_plate 22 rfl) rfl (fun c => ?_) (fun c => ?_)
          · have h := h.1 c
            exact a_to (k_M_plate_58 C hr hR x1 x2 x3 x4 x5 M5 h) rfl
          · have h := h.2 c
            refine a_iload C (tk T_cX12_plate 23 rfl) rfl ?_
            refine a_iconst C (0 : Int32) (tk T_cX12_plate 24 rfl) kI_0 ?_
            refine a_sipush C (500 : Int32) (tk T_cX12_plate 25 rfl) kS_500 ?_
            refine a_statI C [.int x5, .int (0 : Int32), .int (500 : Int32)] me_yX12_in lk_RX12_58 (ct_M_in h) (by decide) rfl rfl (Nat.le_of_ble_eq_true rfl) (tk T_cX12_plate 26 rfl) hr (fun r6 M6 h => ?_)
            refine a_if_ne C 62 (tk T_cX12_plate 27 rfl) rfl (fun c => ?_) (fun c => ?_)
            · have h := h.1 c
              refine a_iconst C (0 : Int32) (tk T_cX12_plate 30 rfl) kI_0 ?_
              exact a_to (k_M_plate_63 C hr hR x1 x2 x3 x4 x5 (0 : Int32) M6 h) rfl
            · have h := h.2 c
              exact a_to (k_M_plate_58 C hr hR x1 x2 x3 x4 x5 M6 h) rfl
theorem ct_M_plate {l : Launch} {g : GT} {post : Int32 → Mem → Prop} {x1 x2 x3 x4 x5 : Int32} {M : Mem} (h : P_M_plate post x1 x2 x3 x4 x5 M) : CI l g layM yX12_plate cX12_plate 6 (some .int) 2 [.ref (ad g 0), .int x1, .int x2, .int x3, .int x4, .int x5] M post :=
  ci_of (plainFor_of_name (by decide +kernel)) (Nat.le_of_ble_eq_true rfl) (fun X A Z hl C hr hR => by subst hl; exact k_M_plate C hr hR x1 x2 x3 x4 x5 M h)
def T_cX12_readingL : List (Nat × Instr × Nat) := [(0, .aload_n 0, 1), (1, .iconst 0, 1), (2, .putfield 3, 3), (5, .aload_n 0, 1), (6, .aload_n 0, 1), (7, .iload_n 1, 1), (8, .bipush 8, 2), (10, .invokevirtual 121, 3), (13, .iconst 1, 1), (14, .invokevirtual 72, 3), (17, .ifCond .ne 67, 3), (20, .aload_n 0, 1), (21, .iload_n 2, 1), (22, .invokestatic 76, 3), (25, .ifCond .ne 25, 3), (28, .iload 4, 2), (30, .iconst 1, 1), (31, .bipush 9, 2), (33, .invokestatic 58, 3), (36, .ifCond .eq 14, 3), (39, .iload 5, 2), (41, .iconst 1, 1), (42, .bipush 9, 2), (44, .invokestatic 58, 3), (47, .ifCond .ne 7, 3), (50, .iconst 1, 1), (51, .goto 4, 3), (54, .iconst 0, 1), (55, .iconst 2, 1), (56, .invokevirtual 72, 3), (59, .ifCond .ne 25, 3), (62, .aload_n 0, 1), (63, .aload_n 0, 1), (64, .invokevirtual 128, 3), (67, .bipush 24, 2), (69, .if_icmp .ne 7, 3), (72, .iconst 1, 1), (73, .goto 4, 3), (76, .iconst 0, 1), (77, .iconst 3, 1), (78, .invokevirtual 72, 3), (81, .ifCond .eq 5, 3), (84, .iconst 0, 1), (85, .ireturn, 1), (86, .aload_n 0, 1), (87, .bipush 9, 2), (89, .sipush 191, 3), (92, .iconst 5, 1), (93, .iload_n 1, 1), (94, .iload_n 2, 1), (95, .iload_n 3, 1), (96, .ifCond .eq 7, 3), (99, .iconst 1, 1), (100, .goto 4, 3), (103, .iconst 0, 1), (104, .iload 4, 2), (106, .iload 5, 2), (108, .invokevirtual 83, 3), (111, .ireturn, 1)]
theorem T_cX12_reading : tabOK cX12_reading T_cX12_readingL = true := by decide +kernel
def P_M_reading_104 (post : Int32 → Mem → Prop) (x4 x5 s1 s2 s3 s4 s5 s6 : Int32) (M : Mem) : Prop :=
  P_M_puts (fun r1 M1 =>
  post r1 M1) s1 s2 s3 s4 s5 s6 x4 x5 M
theorem k_M_reading_104 {X : FX} {g : GT} {A : Nat → Prop} {Z : State → Prop} {post : Int32 → Mem → Prop} (C : Cx X g layM A cX12_reading 6 RX12 2) (hr : 0 ≤ X.2.2.2.1.cells ∧ 0 ≤ X.2.2.2.1.slots) (hR : RetI X g layM A cX12_reading 6 0 0 Z post) (x4 x5 s1 s2 s3 s4 s5 s6 : Int32) (M : Mem) (h : P_M_reading_104 post x4 x5 s1 s2 s3 s4 s5 s6 M) : AtX X g layM A 6 0 0 Z 104 [(4, .int x4), (5, .int x5)] [.int s6, .int s5, .int s4, .int s3, .int s2, .int s1, .ref (ad g 0)] M := by
  refine a_iload C (tk T_cX12_reading 55 rfl) rfl ?_
  refine a_iload C (tk T_cX12_reading 56 rfl) rfl ?_
  refine a_callI C [.int s1, .int s2, .int s3, .int s4, .int s5, .int s6, .int x4, .int x5] me_yX12_puts lk_RX12_83 (ct_M_puts h) (by decide) lm0 rfl rfl rfl (Nat.le_of_ble_eq_true rfl) (tk T_cX12_reading 57 rfl) hr (fun r1 M1 h => ?_)
  exact hR _ _ _ _ (tk T_cX12_reading 58 rfl) h
def P_M_reading_84 (post : Int32 → Mem → Prop) (M : Mem) : Prop :=
  post (0 : Int32) M
theorem k_M_reading_84 {X : FX} {g : GT} {A : Nat → Prop} {Z : State → Prop} {post : Int32 → Mem → Prop} (C : Cx X g layM A cX12_reading 6 RX12 2) (hr : 0 ≤ X.2.2.2.1.cells ∧ 0 ≤ X.2.2.2.1.slots) (hR : RetI X g layM A cX12_reading 6 0 0 Z post)  (M : Mem) (h : P_M_reading_84 post M) : AtX X g layM A 6 0 0 Z 84 [] [] M := by
  refine a_iconst C (0 : Int32) (tk T_cX12_reading 42 rfl) kI_0 ?_
  exact hR _ _ _ _ (tk T_cX12_reading 43 rfl) h
def P_M_reading_77 (post : Int32 → Mem → Prop) (x1 x2 x3 x4 x5 s1 : Int32) (M : Mem) : Prop :=
  P_M_throwsIf (fun r1 M1 =>
  (r1 = 0 → ((x3 = 0 → (P_M_reading_104 post x4 x5 (9 : Int32) (191 : Int32) (5 : Int32) x1 x2 (0 : Int32) M1)) ∧
  (¬ x3 = 0 → (P_M_reading_104 post x4 x5 (9 : Int32) (191 : Int32) (5 : Int32) x1 x2 (1 : Int32) M1)))) ∧
  (¬ r1 = 0 → (P_M_reading_84 post M1))) s1 (3 : Int32) M
theorem k_M_reading_77 {X : FX} {g : GT} {A : Nat → Prop} {Z : State → Prop} {post : Int32 → Mem → Prop} (C : Cx X g layM A cX12_reading 6 RX12 2) (hr : 0 ≤ X.2.2.2.1.cells ∧ 0 ≤ X.2.2.2.1.slots) (hR : RetI X g layM A cX12_reading 6 0 0 Z post) (x1 x2 x3 x4 x5 s1 : Int32) (M : Mem) (h : P_M_reading_77 post x1 x2 x3 x4 x5 s1 M) : AtX X g layM A 6 0 0 Z 77 [(0, .ref (ad g 0)), (1, .int x1), (2, .int x2), (3, .int x3), (4, .int x4), (5, .int x5)] [.int s1, .ref (ad g 0)] M := by
  refine a_iconst C (3 : Int32) (tk T_cX12_reading 39 rfl) kI_3 ?_
  refine a_callI C [.int s1, .int (3 : Int32)] me_yX12_throwsIf lk_RX12_72 (ct_M_throwsIf h) (by decide) lm0 rfl rfl rfl (Nat.le_of_ble_eq_true rfl) (tk T_cX12_reading 40 rfl) hr (fun r1 M1 h => ?_)
  refine a_if_eq C 86 (tk T_cX12_reading 41 rfl) rfl (fun c => ?_) (fun c => ?_)
  · have h := h.1 c
    refine a_aload_n C (tk T_cX12_reading 44 rfl) rfl ?_
    refine a_bipush C (9 : Int32) (tk T_cX12_reading 45 rfl) kB_9 ?_
    refine a_sipush C (191 : Int32) (tk T_cX12_reading 46 rfl) kS_191 ?_
    refine a_iconst C (5 : Int32) (tk T_cX12_reading 47 rfl) kI_5 ?_
    refine a_iload_n C (tk T_cX12_reading 48 rfl) rfl ?_
    refine a_iload_n C (tk T_cX12_reading 49 rfl) rfl ?_
    refine a_iload_n C (tk T_cX12_reading 50 rfl) rfl ?_
    refine a_if_eq C 103 (tk T_cX12_reading 51 rfl) rfl (fun c => ?_) (fun c => ?_)
    · have h := h.1 c
      refine a_iconst C (0 : Int32) (tk T_cX12_reading 54 rfl) kI_0 ?_
      exact a_to (k_M_reading_104 C hr hR x4 x5 (9 : Int32) (191 : Int32) (5 : Int32) x1 x2 (0 : Int32) M1 h) rfl
    · have h := h.2 c
      refine a_iconst C (1 : Int32) (tk T_cX12_reading 52 rfl) kI_1 ?_
      refine a_goto C 104 (tk T_cX12_reading 53 rfl) rfl ?_
      exact a_to (k_M_reading_104 C hr hR x4 x5 (9 : Int32) (191 : Int32) (5 : Int32) x1 x2 (1 : Int32) M1 h) rfl
  · have h := h.2 c
    exact a_to (k_M_reading_84 C hr hR M1 h) rfl
def P_M_reading_55 (post : Int32 → Mem → Prop) (x1 x2 x3 x4 x5 s1 : Int32) (M : Mem) : Prop :=
  P_M_throwsIf (fun r1 M1 =>
  (¬ r1 = 0 → (P_M_reading_84 post M1)) ∧
  (r1 = 0 → (P_M_readings (fun r2 M2 =>
  (¬ r2 = (24 : Int32) → (P_M_reading_77 post x1 x2 x3 x4 x5 (0 : Int32) M2)) ∧
  (r2 = (24 : Int32) → (P_M_reading_77 post x1 x2 x3 x4 x5 (1 : Int32) M2))) M1))) s1 (2 : Int32) M
theorem k_M_reading_55 {X : FX} {g : GT} {A : Nat → Prop} {Z : State → Prop} {post : Int32 → Mem → Prop} (C : Cx X g layM A cX12_reading 6 RX12 2) (hr : 0 ≤ X.2.2.2.1.cells ∧ 0 ≤ X.2.2.2.1.slots) (hR : RetI X g layM A cX12_reading 6 0 0 Z post) (x1 x2 x3 x4 x5 s1 : Int32) (M : Mem) (h : P_M_reading_55 post x1 x2 x3 x4 x5 s1 M) : AtX X g layM A 6 0 0 Z 55 [(0, .ref (ad g 0)), (1, .int x1), (2, .int x2), (3, .int x3), (4, .int x4), (5, .int x5)] [.int s1, .ref (ad g 0)] M := by
  refine a_iconst C (2 : Int32) (tk T_cX12_reading 28 rfl) kI_2 ?_
  refine a_callI C [.int s1, .int (2 : Int32)] me_yX12_throwsIf lk_RX12_72 (ct_M_throwsIf h) (by decide) lm0 rfl rfl rfl (Nat.le_of_ble_eq_true rfl) (tk T_cX12_reading 29 rfl) hr (fun r1 M1 h => ?_)
  refine a_if_ne C 84 (tk T_cX12_reading 30 rfl) rfl (fun c => ?_) (fun c => ?_)
  · have h := h.1 c
    exact a_to (k_M_reading_84 C hr hR M1 h) rfl
  · have h := h.2 c
    refine a_aload_n C (tk T_cX12_reading 31 rfl) rfl ?_
    refine a_aload_n C (tk T_cX12_reading 32 rfl) rfl ?_
    refine a_callI C [] me_yX12_readings lk_RX12_128 (ct_M_readings h) (by decide) lm0 rfl rfl rfl (Nat.le_of_ble_eq_true rfl) (tk T_cX12_reading 33 rfl) hr (fun r2 M2 h => ?_)
    refine a_bipush C (24 : Int32) (tk T_cX12_reading 34 rfl) kB_24 ?_
    refine a_icmp_ne C 76 (tk T_cX12_reading 35 rfl) rfl (fun c => ?_) (fun c => ?_)
    · have h := h.1 c
      refine a_iconst C (0 : Int32) (tk T_cX12_reading 38 rfl) kI_0 ?_
      exact a_to (k_M_reading_77 C hr hR x1 x2 x3 x4 x5 (0 : Int32) M2 h) rfl
    · have h := h.2 c
      refine a_iconst C (1 : Int32) (tk T_cX12_reading 36 rfl) kI_1 ?_
      refine a_goto C 77 (tk T_cX12_reading 37 rfl) rfl ?_
      exact a_to (k_M_reading_77 C hr hR x1 x2 x3 x4 x5 (1 : Int32) M2 h) rfl
def P_M_reading_50 (post : Int32 → Mem → Prop) (x1 x2 x3 x4 x5 : Int32) (M : Mem) : Prop :=
  P_M_reading_55 post x1 x2 x3 x4 x5 (1 : Int32) M
theorem k_M_reading_50 {X : FX} {g : GT} {A : Nat → Prop} {Z : State → Prop} {post : Int32 → Mem → Prop} (C : Cx X g layM A cX12_reading 6 RX12 2) (hr : 0 ≤ X.2.2.2.1.cells ∧ 0 ≤ X.2.2.2.1.slots) (hR : RetI X g layM A cX12_reading 6 0 0 Z post) (x1 x2 x3 x4 x5 : Int32) (M : Mem) (h : P_M_reading_50 post x1 x2 x3 x4 x5 M) : AtX X g layM A 6 0 0 Z 50 [(0, .ref (ad g 0)), (1, .int x1), (2, .int x2), (3, .int x3), (4, .int x4), (5, .int x5)] [.ref (ad g 0)] M := by
  refine a_iconst C (1 : Int32) (tk T_cX12_reading 25 rfl) kI_1 ?_
  refine a_goto C 55 (tk T_cX12_reading 26 rfl) rfl ?_
  exact a_to (k_M_reading_55 C hr hR x1 x2 x3 x4 x5 (1 : Int32) M h) rfl
def P_M_reading (post : Int32 → Mem → Prop) (x1 x2 x3 x4 x5 : Int32) (M : Mem) : Prop :=
  ∀ M1, M1 = ms M 0 0 (0 : Int32) → P_M_none (fun r2 M2 =>
  P_M_throwsIf (fun r3 M3 =>
  (¬ r3 = 0 → (P_M_reading_84 post M3)) ∧
  (r3 = 0 → (P_M_noPlace (fun r4 M4 =>
  (¬ r4 = 0 → (P_M_reading_50 post x1 x2 x3 x4 x5 M4)) ∧
  (r4 = 0 → (P_M_in (fun r5 M5 =>
  (r5 = 0 → (P_M_reading_50 post x1 x2 x3 x4 x5 M5)) ∧
  (¬ r5 = 0 → (P_M_in (fun r6 M6 =>
  (¬ r6 = 0 → (P_M_reading_55 post x1 x2 x3 x4 x5 (0 : Int32) M6)) ∧
  (r6 = 0 → (P_M_reading_50 post x1 x2 x3 x4 x5 M6))) x5 (1 : Int32) (9 : Int32) M5))) x4 (1 : Int32) (9 : Int32) M4))) x2 M3))) r2 (1 : Int32) M2) x1 (8 : Int32) M1
theorem k_M_reading {X : FX} {g : GT} {A : Nat → Prop} {Z : State → Prop} {post : Int32 → Mem → Prop} (C : Cx X g layM A cX12_reading 6 RX12 2) (hr : 0 ≤ X.2.2.2.1.cells ∧ 0 ≤ X.2.2.2.1.slots) (hR : RetI X g layM A cX12_reading 6 0 0 Z post) (x1 x2 x3 x4 x5 : Int32) (M : Mem) (h : P_M_reading post x1 x2 x3 x4 x5 M) : AtX X g layM A 6 0 0 Z 0 [(0, .ref (ad g 0)), (1, .int x1), (2, .int x2), (3, .int x3), (4, .int x4), (5, .int x5)] [] M := by
  refine a_aload_n C (tk T_cX12_reading 0 rfl) rfl ?_
  refine a_iconst C (0 : Int32) (tk T_cX12_reading 1 rfl) kI_0 ?_
  refine a_put C f_RX12_3 f_RX12_3p rfl rfl (tk T_cX12_reading 2 rfl) lm0 rfl ?_
  refine a_mem (fun M1 e_M1 => ?_)
  have h := h M1 e_M1
  refine a_aload_n C (tk T_cX12_reading 3 rfl) rfl ?_
  refine a_aload_n C (tk T_cX12_reading 4 rfl) rfl ?_
  refine a_iload_n C (tk T_cX12_reading 5 rfl) rfl ?_
  refine a_bipush C (8 : Int32) (tk T_cX12_reading 6 rfl) kB_8 ?_
  refine a_callI C [.int x1, .int (8 : Int32)] me_yX12_none lk_RX12_121 (ct_M_none h) (by decide) lm0 rfl rfl rfl (Nat.le_of_ble_eq_true rfl) (tk T_cX12_reading 7 rfl) hr (fun r2 M2 h => ?_)
  refine a_iconst C (1 : Int32) (tk T_cX12_reading 8 rfl) kI_1 ?_
  refine a_callI C [.int r2, .int (1 : Int32)] me_yX12_throwsIf lk_RX12_72 (ct_M_throwsIf h) (by decide) lm0 rfl rfl rfl (Nat.le_of_ble_eq_true rfl) (tk T_cX12_reading 9 rfl) hr (fun r3 M3 h => ?_)
  refine a_if_ne C 84 (tk T_cX12_reading 10 rfl) rfl (fun c => ?_) (fun c => ?_)
  · have h := h.1 c
    exact a_to (k_M_reading_84 C hr hR M3 h) rfl
  · have h := h.2 c
    refine a_aload_n C (tk T_cX12_reading 11 rfl) rfl ?_
    refine a_iload_n C (tk T_cX12_reading 12 rfl) rfl ?_
    refine a_statI C [.int x2] me_yX12_noPlace lk_RX12_76 (ct_M_noPlace h) (by decide) rfl rfl (Nat.le_of_ble_eq_true rfl) (tk T_cX12_reading 13 rfl) hr (fun r4 M4 h => ?_)
    refine a_if_ne C 50 (tk T_cX12_reading 14 rfl) rfl (fun c => ?_) (fun c => ?_)
    · have h := h.1 c
      exact a_to (k_M_reading_50 C hr hR x1 x2 x3 x4 x5 M4 h) rfl
    · have h := h.2 c
      refine a_iload C (tk T_cX12_reading 15 rfl) rfl ?_
      refine a_iconst C (1 : Int32) (tk T_cX12_reading 16 rfl) kI_1 ?_
      refine a_bipush C (9 : Int32) (tk T_cX12_reading 17 rfl) kB_9 ?_
      refine a_statI C [.int x4, .int (1 : Int32), .int (9 : Int32)] me_yX12_in lk_RX12_58 (ct_M_in h) (by decide) rfl rfl (Nat.le_of_ble_eq_true rfl) (tk T_cX12_reading 18 rfl) hr (fun r5 M5 h => ?_)
      refine a_if_eq C 50 (tk T_cX12_reading 19 rfl) rfl (fun c => ?_) (fun c => ?_)
      · have h := h.1 c
        exact a_to (k_M_reading_50 C hr hR x1 x2 x3 x4 x5 M5 h) rfl
      · have h := h.2 c
        refine a_iload C (tk T_cX12_reading 20 rfl) rfl ?_
        refine a_iconst C (1 : Int32) (tk T_cX12_reading 21 rfl) kI_1 ?_
        refine a_bipush C (9 : Int32) (tk T_cX12_reading 22 rfl) kB_9 ?_
        refine a_statI C [.int x5, .int (1 : Int32), .int (9 : Int32)] me_yX12_in lk_RX12_58 (ct_M_in h) (by decide) rfl rfl (Nat.le_of_ble_eq_true rfl) (tk T_cX12_reading 23 rfl) hr (fun r6 M6 h => ?_)
        refine a_if_ne C 54 (tk T_cX12_reading 24 rfl) rfl (fun c => ?_) (fun c => ?_)
        · have h := h.1 c
          refine a_iconst C (0 : Int32) (tk T_cX12_reading 27 rfl) kI_0 ?_
          exact a_to (k_M_reading_55 C hr hR x1 x2 x3 x4 x5 (0 : Int32) M6 h) rfl
        · have h := h.2 c
          exact a_to (k_M_reading_50 C hr hR x1 x2 x3 x4 x5 M6 h) rfl
theorem ct_M_reading {l : Launch} {g : GT} {post : Int32 → Mem → Prop} {x1 x2 x3 x4 x5 : Int32} {M : Mem} (h : P_M_reading post x1 x2 x3 x4 x5 M) : CI l g layM yX12_reading cX12_reading 6 (some .int) 2 [.ref (ad g 0), .int x1, .int x2, .int x3, .int x4, .int x5] M post :=
  ci_of (plainFor_of_name (by decide +kernel)) (Nat.le_of_ble_eq_true rfl) (fun X A Z hl C hr hR => by subst hl; exact k_M_reading C hr hR x1 x2 x3 x4 x5 M h)
def T_cX12_awayL : List (Nat × Instr × Nat) := [(0, .aload_n 0, 1), (1, .iconst 0, 1), (2, .putfield 3, 3), (5, .aload_n 0, 1), (6, .invokevirtual 128, 3), (9, .ifCond .ne 5, 3), (12, .iconst (-1), 1), (13, .ireturn, 1), (14, .aload_n 0, 1), (15, .getfield 13, 3), (18, .bipush 9, 2), (20, .dup2, 1), (21, .iaload, 1), (22, .iconst 1, 1), (23, .isub, 1), (24, .iastore, 1), (25, .aload_n 0, 1), (26, .invokevirtual 128, 3), (29, .ireturn, 1)]
theorem T_cX12_away : tabOK cX12_away T_cX12_awayL = true := by decide +kernel
def P_M_away (post : Int32 → Mem → Prop) (M : Mem) : Prop :=
  ∀ M1, M1 = ms M 0 0 (0 : Int32) → P_M_readings (fun r2 M2 =>
  (¬ r2 = 0 → (vp_in (9 : Int32) 5966 ∧ vp_in (9 : Int32) 5966 ∧ ∀ M3, M3 = ms M2 1 (9 : Int32).toNatClampNeg ((M2 1 (9 : Int32).toNatClampNeg) - (1 : Int32)) → P_M_readings (fun r4 M4 =>
  post r4 M4) M3)) ∧
  (r2 = 0 → (post (-1 : Int32) M2))) M1
theorem k_M_away {X : FX} {g : GT} {A : Nat → Prop} {Z : State → Prop} {post : Int32 → Mem → Prop} (C : Cx X g layM A cX12_away 1 RX12 1) (hr : 0 ≤ X.2.2.2.1.cells ∧ 0 ≤ X.2.2.2.1.slots) (hR : RetI X g layM A cX12_away 1 0 0 Z post) (M : Mem) (h : P_M_away post M) : AtX X g layM A 1 0 0 Z 0 [(0, .ref (ad g 0))] [] M := by
  refine a_aload_n C (tk T_cX12_away 0 rfl) rfl ?_
  refine a_iconst C (0 : Int32) (tk T_cX12_away 1 rfl) kI_0 ?_
  refine a_put C f_RX12_3 f_RX12_3p rfl rfl (tk T_cX12_away 2 rfl) lm0 rfl ?_
  refine a_mem (fun M1 e_M1 => ?_)
  have h := h M1 e_M1
  refine a_aload_n C (tk T_cX12_away 3 rfl) rfl ?_
  refine a_callI C [] me_yX12_readings lk_RX12_128 (ct_M_readings h) (by decide) lm0 rfl rfl rfl (Nat.le_of_ble_eq_true rfl) (tk T_cX12_away 4 rfl) hr (fun r2 M2 h => ?_)
  refine a_if_ne C 14 (tk T_cX12_away 5 rfl) rfl (fun c => ?_) (fun c => ?_)
  · have h := h.1 c
    refine a_aload_n C (tk T_cX12_away 8 rfl) rfl ?_
    refine a_getR C f_RX12_13 (tk T_cX12_away 9 rfl) lm0 rfl ?_
    refine a_bipush C (9 : Int32) (tk T_cX12_away 10 rfl) kB_9 ?_
    refine a_dup2ir C (tk T_cX12_away 11 rfl) ?_
    obtain ⟨hb, h⟩ := h
    refine a_iald C (tk T_cX12_away 12 rfl) lm1 hb ?_
    refine a_iconst C (1 : Int32) (tk T_cX12_away 13 rfl) kI_1 ?_
    refine a_isub C (tk T_cX12_away 14 rfl) ?_
    obtain ⟨hb, h⟩ := h
    refine a_iast C (tk T_cX12_away 15 rfl) lm1 hb ?_
    refine a_mem (fun M3 e_M3 => ?_)
    have h := h M3 e_M3
    refine a_aload_n C (tk T_cX12_away 16 rfl) rfl ?_
    refine a_callI C [] me_yX12_readings lk_RX12_128 (ct_M_readings h) (by decide) lm0 rfl rfl rfl (Nat.le_of_ble_eq_true rfl) (tk T_cX12_away 17 rfl) hr (fun r4 M4 h => ?_)
    exact hR _ _ _ _ (tk T_cX12_away 18 rfl) h
  · have h := h.2 c
    refine a_iconst C (-1 : Int32) (tk T_cX12_away 6 rfl) kI_m1 ?_
    exact hR _ _ _ _ (tk T_cX12_away 7 rfl) h
theorem ct_M_away {l : Launch} {g : GT} {post : Int32 → Mem → Prop} {M : Mem} (h : P_M_away post M) : CI l g layM yX12_away cX12_away 1 (some .int) 1 [.ref (ad g 0)] M post :=
  ci_of (plainFor_of_name (by decide +kernel)) (Nat.le_of_ble_eq_true rfl) (fun X A Z hl C hr hR => by subst hl; exact k_M_away C hr hR  M h)
def T_cX12_isGhostL : List (Nat × Instr × Nat) := [(0, .aload_n 0, 1), (1, .aload_n 0, 1), (2, .iload_n 1, 1), (3, .iconst 0, 1), (4, .invokevirtual 132, 3), (7, .iconst 4, 1), (8, .invokevirtual 135, 3), (11, .istore_n 2, 1), (12, .iconst 0, 1), (13, .istore_n 3, 1), (14, .iconst 0, 1), (15, .istore 4, 2), (17, .iload 4, 2), (19, .aload_n 0, 1), (20, .invokevirtual 128, 3), (23, .if_icmp .ge 83, 3), (26, .iload_n 2, 1), (27, .ifCond .le 79, 3), (30, .iload_n 3, 1), (31, .ifCond .ne 63, 3), (34, .iload 4, 2), (36, .iload_n 1, 1), (37, .if_icmp .eq 61, 3), (40, .aload_n 0, 1), (41, .iload 4, 2), (43, .iconst 0, 1), (44, .invokevirtual 132, 3), (47, .aload_n 0, 1), (48, .iload_n 1, 1), (49, .iconst 0, 1), (50, .invokevirtual 132, 3), (53, .if_icmp .ne 45, 3), (56, .aload_n 0, 1), (57, .iload 4, 2), (59, .iconst 3, 1), (60, .invokevirtual 132, 3), (63, .bipush 7, 2), (65, .if_icmp .lt 33, 3), (68, .aload_n 0, 1), (69, .iload 4, 2), (71, .iconst 1, 1), (72, .invokevirtual 132, 3), (75, .aload_n 0, 1), (76, .iload_n 1, 1), (77, .iconst 1, 1), (78, .invokevirtual 132, 3), (81, .isub, 1), (82, .invokestatic 87, 3), (85, .iload_n 2, 1), (86, .isub, 1), (87, .invokestatic 87, 3), (90, .iconst 1, 1), (91, .if_icmp .gt 7, 3), (94, .iconst 1, 1), (95, .goto 4, 3), (98, .iconst 0, 1), (99, .istore_n 3, 1), (100, .iinc 4 1, 3), (103, .goto (-86), 3), (106, .iload_n 3, 1), (107, .ireturn, 1)]
theorem T_cX12_isGhost : tabOK cX12_isGhost T_cX12_isGhostL = true := by decide +kernel
def P_M_isGhost_106 (post : Int32 → Mem → Prop) (x3 : Int32) (M : Mem) : Prop :=
  (x3 = 0 ∨ x3 = 1) ∧ post x3 M
theorem k_M_isGhost_106 {X : FX} {g : GT} {A : Nat → Prop} {Z : State → Prop} {post : Int32 → Mem → Prop} (C : Cx X g layM A cX12_isGhost 5 RX12 1) (hr : 0 ≤ X.2.2.2.1.cells ∧ 0 ≤ X.2.2.2.1.slots) (hR : RetZ X g layM A cX12_isGhost 5 0 0 Z post) (x3 : Int32) (M : Mem) (h : P_M_isGhost_106 post x3 M) : AtX X g layM A 5 0 0 Z 106 [(3, .int x3)] [] M := by
  refine a_iload_n C (tk T_cX12_isGhost 59 rfl) rfl ?_
  exact hR _ _ _ _ (tk T_cX12_isGhost 60 rfl) h
def P_M_isGhost_99 (post : Int32 → Mem → Prop) (R17 : Int32 → Int32 → Int32 → Int32 → Mem → Prop) (x1 x2 x4 s0 : Int32) (M : Mem) : Prop :=
  R17 x1 x2 s0 (x4 + (1 : Int32)) M
theorem k_M_isGhost_99 {X : FX} {g : GT} {A : Nat → Prop} {Z : State → Prop} {post : Int32 → Mem → Prop} {R17 : Int32 → Int32 → Int32 → Int32 → Mem → Prop} (C : Cx X g layM A cX12_isGhost 5 RX12 1) (hr : 0 ≤ X.2.2.2.1.cells ∧ 0 ≤ X.2.2.2.1.slots) (hR : RetZ X g layM A cX12_isGhost 5 0 0 Z post) (k17 : ∀ (y1 y2 y3 y4 : Int32) (M : Mem), R17 y1 y2 y3 y4 M → AtX X g layM A 5 0 0 Z 17 [(0, .ref (ad g 0)), (1, .int y1), (2, .int y2), (3, .int y3), (4, .int y4)] [] M) (x1 x2 x4 s0 : Int32) (M : Mem) (h : P_M_isGhost_99 post R17 x1 x2 x4 s0 M) : AtX X g layM A 5 0 0 Z 99 [(0, .ref (ad g 0)), (1, .int x1), (2, .int x2), (4, .int x4)] [.int s0] M := by
  refine a_istore_n C (tk T_cX12_isGhost 56 rfl) (by decide) rfl ?_
  refine a_iinc C (1 : Int32) (tk T_cX12_isGhost 57 rfl) rfl kI_1 (by decide) rfl ?_
  refine a_goto C 17 (tk T_cX12_isGhost 58 rfl) rfl ?_
  exact a_to (k17 x1 x2 s0 (x4 + (1 : Int32)) M h) rfl
def P_M_isGhost_98 (post : Int32 → Mem → Prop) (R17 : Int32 → Int32 → Int32 → Int32 → Mem → Prop) (x1 x2 x4 : Int32) (M : Mem) : Prop :=
  P_M_isGhost_99 post R17 x1 x2 x4 (0 : Int32) M
theorem k_M_isGhost_98 {X : FX} {g : GT} {A : Nat → Prop} {Z : State → Prop} {post : Int32 → Mem → Prop} {R17 : Int32 → Int32 → Int32 → Int32 → Mem → Prop} (C : Cx X g layM A cX12_isGhost 5 RX12 1) (hr : 0 ≤ X.2.2.2.1.cells ∧ 0 ≤ X.2.2.2.1.slots) (hR : RetZ X g layM A cX12_isGhost 5 0 0 Z post) (k17 : ∀ (y1 y2 y3 y4 : Int32) (M : Mem), R17 y1 y2 y3 y4 M → AtX X g layM A 5 0 0 Z 17 [(0, .ref (ad g 0)), (1, .int y1), (2, .int y2), (3, .int y3), (4, .int y4)] [] M) (x1 x2 x4 : Int32) (M : Mem) (h : P_M_isGhost_98 post R17 x1 x2 x4 M) : AtX X g layM A 5 0 0 Z 98 [(0, .ref (ad g 0)), (1, .int x1), (2, .int x2), (4, .int x4)] [] M := by
  refine a_iconst C (0 : Int32) (tk T_cX12_isGhost 55 rfl) kI_0 ?_
  exact a_to (k_M_isGhost_99 C hr hR k17 x1 x2 x4 (0 : Int32) M h) rfl
def P_M_isGhost_94 (post : Int32 → Mem → Prop) (R17 : Int32 → Int32 → Int32 → Int32 → Mem → Prop) (x1 x2 x4 : Int32) (M : Mem) : Prop :=
  P_M_isGhost_99 post R17 x1 x2 x4 (1 : Int32) M
theorem k_M_isGhost_94 {X : FX} {g : GT} {A : Nat → Prop} {Z : State → Prop} {post : Int32 → Mem → Prop} {R17 : Int32 → Int32 → Int32 → Int32 → Mem → Prop} (C : Cx X g layM A cX12_isGhost 5 RX12 1) (hr : 0 ≤ X.2.2.2.1.cells ∧ 0 ≤ X.2.2.2.1.slots) (hR : RetZ X g layM A cX12_isGhost 5 0 0 Z post) (k17 : ∀ (y1 y2 y3 y4 : Int32) (M : Mem), R17 y1 y2 y3 y4 M → AtX X g layM A 5 0 0 Z 17 [(0, .ref (ad g 0)), (1, .int y1), (2, .int y2), (3, .int y3), (4, .int y4)] [] M) (x1 x2 x4 : Int32) (M : Mem) (h : P_M_isGhost_94 post R17 x1 x2 x4 M) : AtX X g layM A 5 0 0 Z 94 [(0, .ref (ad g 0)), (1, .int x1), (2, .int x2), (4, .int x4)] [] M := by
  refine a_iconst C (1 : Int32) (tk T_cX12_isGhost 53 rfl) kI_1 ?_
  refine a_goto C 99 (tk T_cX12_isGhost 54 rfl) rfl ?_
  exact a_to (k_M_isGhost_99 C hr hR k17 x1 x2 x4 (1 : Int32) M h) rfl
def P_M_isGhost_17 (post : Int32 → Mem → Prop) : Nat → Int32 → Int32 → Int32 → Int32 → Mem → Prop
  | 0, _, _, _, _, _ => False
  | n + 1, x1, x2, x3, x4, M =>
    P_M_readings (fun r1 M1 =>
  (r1 ≤ x4 → (P_M_isGhost_106 post x3 M1)) ∧
  (¬ r1 ≤ x4 → ((x2 ≤ 0 → (P_M_isGhost_106 post x3 M1)) ∧
  (¬ x2 ≤ 0 → ((¬ x3 = 0 → (P_M_isGhost_94 post (P_M_isGhost_17 post n) x1 x2 x4 M1)) ∧
  (x3 = 0 → ((x4 = x1 → (P_M_isGhost_98 post (P_M_isGhost_17 post n) x1 x2 x4 M1)) ∧
  (¬ x4 = x1 → (P_M_of (fun r2 M2 =>
  P_M_of (fun r3 M3 =>
  (¬ r2 = r3 → (P_M_isGhost_98 post (P_M_isGhost_17 post n) x1 x2 x4 M3)) ∧
  (r2 = r3 → (P_M_of (fun r4 M4 =>
  (r4 < (7 : Int32) → (P_M_isGhost_98 post (P_M_isGhost_17 post n) x1 x2 x4 M4)) ∧
  (¬ r4 < (7 : Int32) → (P_M_of (fun r5 M5 =>
  P_M_of (fun r6 M6 =>
  P_Math_abs (fun r7 M7 =>
  P_Math_abs (fun r8 M8 =>
  ((1 : Int32) < r8 → (P_M_isGhost_98 post (P_M_isGhost_17 post n) x1 x2 x4 M8)) ∧
  (¬ (1 : Int32) < r8 → (P_M_isGhost_94 post (P_M_isGhost_17 post n) x1 x2 x4 M8))) (r7 - x2) M7) (r5 - r6) M6) x1 (1 : Int32) M5) x4 (1 : Int32) M4))) x4 (3 : Int32) M3))) x1 (0 : Int32) M2) x4 (0 : Int32) M1))))))))) M
theorem k_M_isGhost_17 {X : FX} {g : GT} {A : Nat → Prop} {Z : State → Prop} {post : Int32 → Mem → Prop} (C : Cx X g layM A cX12_isGhost 5 RX12 1) (hr : 0 ≤ X.2.2.2.1.cells ∧ 0 ≤ X.2.2.2.1.slots) (hR : RetZ X g layM A cX12_isGhost 5 0 0 Z post) : ∀ (n : Nat) (x1 x2 x3 x4 : Int32) (M : Mem), P_M_isGhost_17 post n x1 x2 x3 x4 M → AtX X g layM A 5 0 0 Z 17 [(0, .ref (ad g 0)), (1, .int x1), (2, .int x2), (3, .int x3), (4, .int x4)] [] M := by
  intro n
  induction n with
  | zero =>
    intro x1 x2 x3 x4 M h
    exact h.elim
  | succ n ih =>
    intro x1 x2 x3 x4 M h
    refine a_iload C (tk T_cX12_isGhost 12 rfl) rfl ?_
    refine a_aload_n C (tk T_cX12_isGhost 13 rfl) rfl ?_
    refine a_callI C [] me_yX12_readings lk_RX12_128 (ct_M_readings h) (by decide) lm0 rfl rfl rfl (Nat.le_of_ble_eq_true rfl) (tk T_cX12_isGhost 14 rfl) hr (fun r1 M1 h => ?_)
    refine a_icmp_ge C 106 (tk T_cX12_isGhost 15 rfl) rfl (fun c => ?_) (fun c => ?_)
    · have h := h.1 c
      exact a_to (k_M_isGhost_106 C hr hR x3 M1 h) rfl
    · have h := h.2 c
      refine a_iload_n C (tk T_cX12_isGhost 16 rfl) rfl ?_
      refine a_if_le C 106 (tk T_cX12_isGhost 17 rfl) rfl (fun c => ?_) (fun c => ?_)
      · have h := h.1 c
        exact a_to (k_M_isGhost_106 C hr hR x3 M1 h) rfl
      · have h := h.2 c
        refine a_iload_n C (tk T_cX12_isGhost 18 rfl) rfl ?_
        refine a_if_ne C 94 (tk T_cX12_isGhost 19 rfl) rfl (fun c => ?_) (fun c => ?_)
        · have h := h.1 c
          exact a_to (k_M_isGhost_94 C hr hR ih x1 x2 x4 M1 h) rfl
        · have h := h.2 c
          refine a_iload C (tk T_cX12_isGhost 20 rfl) rfl ?_
          refine a_iload_n C (tk T_cX12_isGhost 21 rfl) rfl ?_
          refine a_icmp_eq C 98 (tk T_cX12_isGhost 22 rfl) rfl (fun c => ?_) (fun c => ?_)
          · have h := h.1 c
            exact a_to (k_M_isGhost_98 C hr hR ih x1 x2 x4 M1 h) rfl
          · have h := h.2 c
            refine a_aload_n C (tk T_cX12_isGhost 23 rfl) rfl ?_
            refine a_iload C (tk T_cX12_isGhost 24 rfl) rfl ?_
            refine a_iconst C (0 : Int32) (tk T_cX12_isGhost 25 rfl) kI_0 ?_
            refine a_callI C [.int x4, .int (0 : Int32)] me_yX12_of lk_RX12_132 (ct_M_of h) (by decide) lm0 rfl rfl rfl (Nat.le_of_ble_eq_true rfl) (tk T_cX12_isGhost 26 rfl) hr (fun r2 M2 h => ?_)
            refine a_aload_n C (tk T_cX12_isGhost 27 rfl) rfl ?_
            refine a_iload_n C (tk T_cX12_isGhost 28 rfl) rfl ?_
            refine a_iconst C (0 : Int32) (tk T_cX12_isGhost 29 rfl) kI_0 ?_
            refine a_callI C [.int x1, .int (0 : Int32)] me_yX12_of lk_RX12_132 (ct_M_of h) (by decide) lm0 rfl rfl rfl (Nat.le_of_ble_eq_true rfl) (tk T_cX12_isGhost 30 rfl) hr (fun r3 M3 h => ?_)
            refine a_icmp_ne C 98 (tk T_cX12_isGhost 31 rfl) rfl (fun c => ?_) (fun c => ?_)
            · have h := h.1 c
              exact a_to (k_M_isGhost_98 C hr hR ih x1 x2 x4 M3 h) rfl
            · have h := h.2 c
              refine a_aload_n C (tk T_cX12_isGhost 32 rfl) rfl ?_
              refine a_iload C (tk T_cX12_isGhost 33 rfl) rfl ?_
              refine a_iconst C (3 : Int32) (tk T_cX12_isGhost 34 rfl) kI_3 ?_
              refine a_callI C [.int x4, .int (3 : Int32)] me_yX12_of lk_RX12_132 (ct_M_of h) (by decide) lm0 rfl rfl rfl (Nat.le_of_ble_eq_true rfl) (tk T_cX12_isGhost 35 rfl) hr (fun r4 M4 h => ?_)
              refine a_bipush C (7 : Int32) (tk T_cX12_isGhost 36 rfl) kB_7 ?_
              refine a_icmp_lt C 98 (tk T_cX12_isGhost 37 rfl) rfl (fun c => ?_) (fun c => ?_)
              · have h := h.1 c
                exact a_to (k_M_isGhost_98 C hr hR ih x1 x2 x4 M4 h) rfl
              · have h := h.2 c
                refine a_aload_n C (tk T_cX12_isGhost 38 rfl) rfl ?_
                refine a_iload C (tk T_cX12_isGhost 39 rfl) rfl ?_
                refine a_iconst C (1 : Int32) (tk T_cX12_isGhost 40 rfl) kI_1 ?_
                refine a_callI C [.int x4, .int (1 : Int32)] me_yX12_of lk_RX12_132 (ct_M_of h) (by decide) lm0 rfl rfl rfl (Nat.le_of_ble_eq_true rfl) (tk T_cX12_isGhost 41 rfl) hr (fun r5 M5 h => ?_)
                refine a_aload_n C (tk T_cX12_isGhost 42 rfl) rfl ?_
                refine a_iload_n C (tk T_cX12_isGhost 43 rfl) rfl ?_
                refine a_iconst C (1 : Int32) (tk T_cX12_isGhost 44 rfl) kI_1 ?_
                refine a_callI C [.int x1, .int (1 : Int32)] me_yX12_of lk_RX12_132 (ct_M_of h) (by decide) lm0 rfl rfl rfl (Nat.le_of_ble_eq_true rfl) (tk T_cX12_isGhost 45 rfl) hr (fun r6 M6 h => ?_)
                refine a_isub C (tk T_cX12_isGhost 46 rfl) ?_
                refine a_statI C [.int (r5 - r6)] me_yJ9_abs_0f7a4 lk_RX12_87 (ct_Math_abs h) (by decide) rfl rfl (Nat.le_of_ble_eq_true rfl) (tk T_cX12_isGhost 47 rfl) hr (fun r7 M7 h => ?_)
                refine a_iload_n C (tk T_cX12_isGhost 48 rfl) rfl ?_
                refine a_isub C (tk T_cX12_isGhost 49 rfl) ?_
                refine a_statI C [.int (r7 - x2)] me_yJ9_abs_0f7a4 lk_RX12_87 (ct_Math_abs h) (by decide) rfl rfl (Nat.le_of_ble_eq_true rfl) (tk T_cX12_isGhost 50 rfl) hr (fun r8 M8 h => ?_)
                refine a_iconst C (1 : Int32) (tk T_cX12_isGhost 51 rfl) kI_1 ?_
                refine a_icmp_gt C 98 (tk T_cX12_isGhost 52 rfl) rfl (fun c => ?_) (fun c => ?_)
                · have h := h.1 c
                  exact a_to (k_M_isGhost_98 C hr hR ih x1 x2 x4 M8 h) rfl
                · have h := h.2 c
                  exact a_to (k_M_isGhost_94 C hr hR ih x1 x2 x4 M8 h) rfl
def P_M_isGhost (post : Int32 → Mem → Prop) (x1 : Int32) (M : Mem) : Prop :=
  P_M_of (fun r1 M1 =>
  P_M_ofPlate (fun r2 M2 =>
  ∃ j17, P_M_isGhost_17 post j17 x1 r2 (0 : Int32) (0 : Int32) M2) r1 (4 : Int32) M1) x1 (0 : Int32) M
theorem k_M_isGhost {X : FX} {g : GT} {A : Nat → Prop} {Z : State → Prop} {post : Int32 → Mem → Prop} (C : Cx X g layM A cX12_isGhost 5 RX12 1) (hr : 0 ≤ X.2.2.2.1.cells ∧ 0 ≤ X.2.2.2.1.slots) (hR : RetZ X g layM A cX12_isGhost 5 0 0 Z post) (x1 : Int32) (M : Mem) (h : P_M_isGhost post x1 M) : AtX X g layM A 5 0 0 Z 0 [(0, .ref (ad g 0)), (1, .int x1)] [] M := by
  refine a_aload_n C (tk T_cX12_isGhost 0 rfl) rfl ?_
  refine a_aload_n C (tk T_cX12_isGhost 1 rfl) rfl ?_
  refine a_iload_n C (tk T_cX12_isGhost 2 rfl) rfl ?_
  refine a_iconst C (0 : Int32) (tk T_cX12_isGhost 3 rfl) kI_0 ?_
  refine a_callI C [.int x1, .int (0 : Int32)] me_yX12_of lk_RX12_132 (ct_M_of h) (by decide) lm0 rfl rfl rfl (Nat.le_of_ble_eq_true rfl) (tk T_cX12_isGhost 4 rfl) hr (fun r1 M1 h => ?_)
  refine a_iconst C (4 : Int32) (tk T_cX12_isGhost 5 rfl) kI_4 ?_
  refine a_callI C [.int r1, .int (4 : Int32)] me_yX12_ofPlate lk_RX12_135 (ct_M_ofPlate h) (by decide) lm0 rfl rfl rfl (Nat.le_of_ble_eq_true rfl) (tk T_cX12_isGhost 6 rfl) hr (fun r2 M2 h => ?_)
  refine a_istore_n C (tk T_cX12_isGhost 7 rfl) (by decide) rfl ?_
  refine a_iconst C (0 : Int32) (tk T_cX12_isGhost 8 rfl) kI_0 ?_
  refine a_istore_n C (tk T_cX12_isGhost 9 rfl) (by decide) rfl ?_
  refine a_iconst C (0 : Int32) (tk T_cX12_isGhost 10 rfl) kI_0 ?_
  refine a_istore C (tk T_cX12_isGhost 11 rfl) (by decide) rfl ?_
  obtain ⟨n1, h⟩ := h
  exact a_to (k_M_isGhost_17 C hr hR n1 x1 r2 (0 : Int32) (0 : Int32) M2 h) rfl
theorem ct_M_isGhost {l : Launch} {g : GT} {post : Int32 → Mem → Prop} {x1 : Int32} {M : Mem} (h : P_M_isGhost post x1 M) : CI l g layM yX12_isGhost cX12_isGhost 5 (some .boolean) 1 [.ref (ad g 0), .int x1] M post :=
  cz_of (plainFor_of_name (by decide +kernel)) (Nat.le_of_ble_eq_true rfl) (fun X A Z hl C hr hR => by subst hl; exact k_M_isGhost C hr hR x1 M h)
def T_cX12_driftsL : List (Nat × Instr × Nat) := [(0, .iconst 0, 1), (1, .istore_n 3, 1), (2, .iload_n 3, 1), (3, .aload_n 0, 1), (4, .invokevirtual 128, 3), (7, .if_icmp .ge 69, 3), (10, .aload_n 0, 1), (11, .aload_n 0, 1), (12, .iload_n 3, 1), (13, .iconst 1, 1), (14, .invokevirtual 132, 3), (17, .aload_n 0, 1), (18, .iload_n 3, 1), (19, .iconst 2, 1), (20, .invokevirtual 132, 3), (23, .invokevirtual 80, 3), (26, .aload_n 0, 1), (27, .iload_n 3, 1), (28, .iconst 0, 1), (29, .invokevirtual 132, 3), (32, .iload_n 1, 1), (33, .if_icmp .ne 7, 3), (36, .iload_n 2, 1), (37, .goto 4, 3), (40, .iconst 0, 1), (41, .iadd, 1), (42, .istore 4, 2), (44, .aload_n 0, 1), (45, .getfield 26, 3), (48, .iload_n 3, 1), (49, .aload_n 0, 1), (50, .iload 4, 2), (52, .iconst 0, 1), (53, .invokevirtual 117, 3), (56, .iastore, 1), (57, .aload_n 0, 1), (58, .getfield 29, 3), (61, .iload_n 3, 1), (62, .aload_n 0, 1), (63, .iload 4, 2), (65, .iconst 1, 1), (66, .invokevirtual 117, 3), (69, .iastore, 1), (70, .iinc 3 1, 3), (73, .goto (-71), 3), (76, .return_, 1)]
theorem T_cX12_drifts : tabOK cX12_drifts T_cX12_driftsL = true := by decide +kernel
def P_M_drifts_41 (post : Mem → Prop) (R2 : Int32 → Int32 → Int32 → Mem → Prop) (x1 x2 x3 s0 s1 : Int32) (M : Mem) : Prop :=
  ∀ x4_1, x4_1 = (s0 + s1) → P_M_endOf (fun r2 M2 =>
  vp_in x3 24 ∧ ∀ M3, M3 = ms M2 5 x3.toNatClampNeg r2 → P_M_endOf (fun r4 M4 =>
  vp_in x3 24 ∧ ∀ M5, M5 = ms M4 6 x3.toNatClampNeg r4 → R2 x1 x2 (x3 + (1 : Int32)) M5) x4_1 (1 : Int32) M3) x4_1 (0 : Int32) M
theorem k_M_drifts_41 {X : FX} {g : GT} {A : Nat → Prop} {Z : State → Prop} {post : Mem → Prop} {R2 : Int32 → Int32 → Int32 → Mem → Prop} (C : Cx X g layM A cX12_drifts 5 RX12 3) (hr : 0 ≤ X.2.2.2.1.cells ∧ 0 ≤ X.2.2.2.1.slots) (hR : RetV X g layM A cX12_drifts 5 0 0 Z post) (k2 : ∀ (y1 y2 y3 : Int32) (M : Mem), R2 y1 y2 y3 M → AtX X g layM A 5 0 0 Z 2 [(0, .ref (ad g 0)), (1, .int y1), (2, .int y2), (3, .int y3)] [] M) (x1 x2 x3 s0 s1 : Int32) (M : Mem) (h : P_M_drifts_41 post R2 x1 x2 x3 s0 s1 M) : AtX X g layM A 5 0 0 Z 41 [(0, .ref (ad g 0)), (1, .int x1), (2, .int x2), (3, .int x3)] [.int s1, .int s0] M := by
  refine a_iadd C (tk T_cX12_drifts 25 rfl) ?_
  refine a_top (fun x4_1 e_x4_1 => ?_)
  have h := h x4_1 e_x4_1
  refine a_istore C (tk T_cX12_drifts 26 rfl) (by decide) rfl ?_
  refine a_aload_n C (tk T_cX12_drifts 27 rfl) rfl ?_
  refine a_getR C f_RX12_26 (tk T_cX12_drifts 28 rfl) lm0 rfl ?_
  refine a_iload_n C (tk T_cX12_drifts 29 rfl) rfl ?_
  refine a_aload_n C (tk T_cX12_drifts 30 rfl) rfl ?_
  refine a_iload C (tk T_cX12_drifts 31 rfl) rfl ?_
  refine a_iconst C (0 : Int32) (tk T_cX12_drifts 32 rfl) kI_0 ?_
  refine a_callI C [.int x4_1, .int (0 : Int32)] me_yX12_endOf lk_RX12_117 (ct_M_endOf h) (by decide) lm0 rfl rfl rfl (Nat.le_of_ble_eq_true rfl) (tk T_cX12_drifts 33 rfl) hr (fun r2 M2 h => ?_)
  obtain ⟨hb, h⟩ := h
  refine a_iast C (tk T_cX12_drifts 34 rfl) lm5 hb ?_
  refine a_mem (fun M3 e_M3 => ?_)
  have h := h M3 e_M3
  refine a_aload_n C (tk T_cX12_drifts 35 rfl) rfl ?_
  refine a_getR C f_RX12_29 (tk T_cX12_drifts 36 rfl) lm0 rfl ?_
  refine a_iload_n C (tk T_cX12_drifts 37 rfl) rfl ?_
  refine a_aload_n C (tk T_cX12_drifts 38 rfl) rfl ?_
  refine a_iload C (tk T_cX12_drifts 39 rfl) rfl ?_
  refine a_iconst C (1 : Int32) (tk T_cX12_drifts 40 rfl) kI_1 ?_
  refine a_callI C [.int x4_1, .int (1 : Int32)] me_yX12_endOf lk_RX12_117 (ct_M_endOf h) (by decide) lm0 rfl rfl rfl (Nat.le_of_ble_eq_true rfl) (tk T_cX12_drifts 41 rfl) hr (fun r4 M4 h => ?_)
  obtain ⟨hb, h⟩ := h
  refine a_iast C (tk T_cX12_drifts 42 rfl) lm6 hb ?_
  refine a_mem (fun M5 e_M5 => ?_)
  have h := h M5 e_M5
  refine a_iinc C (1 : Int32) (tk T_cX12_drifts 43 rfl) rfl kI_1 (by decide) rfl ?_
  refine a_goto C 2 (tk T_cX12_drifts 44 rfl) rfl ?_
  exact a_to (k2 x1 x2 (x3 + (1 : Int32)) M5 h) rfl
def P_M_drifts_2 (post : Mem → Prop) : Nat → Int32 → Int32 → Int32 → Mem → Prop
  | 0, _, _, _, _ => False
  | n + 1, x1, x2, x3, M =>
    P_M_readings (fun r1 M1 =>
  (r1 ≤ x3 → (post M1)) ∧
  (¬ r1 ≤ x3 → (P_M_of (fun r2 M2 =>
  P_M_of (fun r3 M3 =>
  P_M_truePlace (fun r4 M4 =>
  P_M_of (fun r5 M5 =>
  (¬ r5 = x1 → (P_M_drifts_41 post (P_M_drifts_2 post n) x1 x2 x3 r4 (0 : Int32) M5)) ∧
  (r5 = x1 → (P_M_drifts_41 post (P_M_drifts_2 post n) x1 x2 x3 r4 x2 M5))) x3 (0 : Int32) M4) r2 r3 M3) x3 (2 : Int32) M2) x3 (1 : Int32) M1))) M
theorem k_M_drifts_2 {X : FX} {g : GT} {A : Nat → Prop} {Z : State → Prop} {post : Mem → Prop} (C : Cx X g layM A cX12_drifts 5 RX12 3) (hr : 0 ≤ X.2.2.2.1.cells ∧ 0 ≤ X.2.2.2.1.slots) (hR : RetV X g layM A cX12_drifts 5 0 0 Z post) : ∀ (n : Nat) (x1 x2 x3 : Int32) (M : Mem), P_M_drifts_2 post n x1 x2 x3 M → AtX X g layM A 5 0 0 Z 2 [(0, .ref (ad g 0)), (1, .int x1), (2, .int x2), (3, .int x3)] [] M := by
  intro n
  induction n with
  | zero =>
    intro x1 x2 x3 M h
    exact h.elim
  | succ n ih =>
    intro x1 x2 x3 M h
    refine a_iload_n C (tk T_cX12_drifts 2 rfl) rfl ?_
    refine a_aload_n C (tk T_cX12_drifts 3 rfl) rfl ?_
    refine a_callI C [] me_yX12_readings lk_RX12_128 (ct_M_readings h) (by decide) lm0 rfl rfl rfl (Nat.le_of_ble_eq_true rfl) (tk T_cX12_drifts 4 rfl) hr (fun r1 M1 h => ?_)
    refine a_icmp_ge C 76 (tk T_cX12_drifts 5 rfl) rfl (fun c => ?_) (fun c => ?_)
    · have h := h.1 c
      exact hR _ _ _ (tk T_cX12_drifts 45 rfl) h
    · have h := h.2 c
      refine a_aload_n C (tk T_cX12_drifts 6 rfl) rfl ?_
      refine a_aload_n C (tk T_cX12_drifts 7 rfl) rfl ?_
      refine a_iload_n C (tk T_cX12_drifts 8 rfl) rfl ?_
      refine a_iconst C (1 : Int32) (tk T_cX12_drifts 9 rfl) kI_1 ?_
      refine a_callI C [.int x3, .int (1 : Int32)] me_yX12_of lk_RX12_132 (ct_M_of h) (by decide) lm0 rfl rfl rfl (Nat.le_of_ble_eq_true rfl) (tk T_cX12_drifts 10 rfl) hr (fun r2 M2 h => ?_)
      refine a_aload_n C (tk T_cX12_drifts 11 rfl) rfl ?_
      refine a_iload_n C (tk T_cX12_drifts 12 rfl) rfl ?_
      refine a_iconst C (2 : Int32) (tk T_cX12_drifts 13 rfl) kI_2 ?_
      refine a_callI C [.int x3, .int (2 : Int32)] me_yX12_of lk_RX12_132 (ct_M_of h) (by decide) lm0 rfl rfl rfl (Nat.le_of_ble_eq_true rfl) (tk T_cX12_drifts 14 rfl) hr (fun r3 M3 h => ?_)
      refine a_callI C [.int r2, .int r3] me_yX12_truePlace lk_RX12_80 (ct_M_truePlace h) (by decide) lm0 rfl rfl rfl (Nat.le_of_ble_eq_true rfl) (tk T_cX12_drifts 15 rfl) hr (fun r4 M4 h => ?_)
      refine a_aload_n C (tk T_cX12_drifts 16 rfl) rfl ?_
      refine a_iload_n C (tk T_cX12_drifts 17 rfl) rfl ?_
      refine a_iconst C (0 : Int32) (tk T_cX12_drifts 18 rfl) kI_0 ?_
      refine a_callI C [.int x3, .int (0 : Int32)] me_yX12_of lk_RX12_132 (ct_M_of h) (by decide) lm0 rfl rfl rfl (Nat.le_of_ble_eq_true rfl) (tk T_cX12_drifts 19 rfl) hr (fun r5 M5 h => ?_)
      refine a_iload_n C (tk T_cX12_drifts 20 rfl) rfl ?_
      refine a_icmp_ne C 40 (tk T_cX12_drifts 21 rfl) rfl (fun c => ?_) (fun c => ?_)
      · have h := h.1 c
        refine a_iconst C (0 : Int32) (tk T_cX12_drifts 24 rfl) kI_0 ?_
        exact a_to (k_M_drifts_41 C hr hR ih x1 x2 x3 r4 (0 : Int32) M5 h) rfl
      · have h := h.2 c
        refine a_iload_n C (tk T_cX12_drifts 22 rfl) rfl ?_
        refine a_goto C 41 (tk T_cX12_drifts 23 rfl) rfl ?_
        exact a_to (k_M_drifts_41 C hr hR ih x1 x2 x3 r4 x2 M5 h) rfl
def P_M_drifts (post : Mem → Prop) (x1 x2 : Int32) (M : Mem) : Prop :=
  ∃ j2, P_M_drifts_2 post j2 x1 x2 (0 : Int32) M
theorem k_M_drifts {X : FX} {g : GT} {A : Nat → Prop} {Z : State → Prop} {post : Mem → Prop} (C : Cx X g layM A cX12_drifts 5 RX12 3) (hr : 0 ≤ X.2.2.2.1.cells ∧ 0 ≤ X.2.2.2.1.slots) (hR : RetV X g layM A cX12_drifts 5 0 0 Z post) (x1 x2 : Int32) (M : Mem) (h : P_M_drifts post x1 x2 M) : AtX X g layM A 5 0 0 Z 0 [(0, .ref (ad g 0)), (1, .int x1), (2, .int x2)] [] M := by
  refine a_iconst C (0 : Int32) (tk T_cX12_drifts 0 rfl) kI_0 ?_
  refine a_istore_n C (tk T_cX12_drifts 1 rfl) (by decide) rfl ?_
  obtain ⟨n1, h⟩ := h
  exact a_to (k_M_drifts_2 C hr hR n1 x1 x2 (0 : Int32) M h) rfl
theorem ct_M_drifts {l : Launch} {g : GT} {post : Mem → Prop} {x1 x2 : Int32} {M : Mem} (h : P_M_drifts post x1 x2 M) : CV l g layM yX12_drifts cX12_drifts 5 none 3 [.ref (ad g 0), .int x1, .int x2] M post :=
  cv_of (plainFor_of_name (by decide +kernel)) (Nat.le_of_ble_eq_true rfl) (fun X A Z hl C hr hR => by subst hl; exact k_M_drifts C hr hR x1 x2 M h)
def T_cX12_spansL : List (Nat × Instr × Nat) := [(0, .aload_n 0, 1), (1, .iconst 0, 1), (2, .invokevirtual 112, 3), (5, .pop, 1), (6, .aload_n 0, 1), (7, .iconst (-1), 1), (8, .iconst 0, 1), (9, .invokevirtual 138, 3), (12, .return_, 1)]
theorem T_cX12_spans : tabOK cX12_spans T_cX12_spansL = true := by decide +kernel
def P_M_spans (post : Mem → Prop) (M : Mem) : Prop :=
  P_M_lays (fun r1 M1 =>
  P_M_drifts (fun M2 =>
  post M2) (-1 : Int32) (0 : Int32) M1) (0 : Int32) M
theorem k_M_spans {X : FX} {g : GT} {A : Nat → Prop} {Z : State → Prop} {post : Mem → Prop} (C : Cx X g layM A cX12_spans 1 RX12 4) (hr : 0 ≤ X.2.2.2.1.cells ∧ 0 ≤ X.2.2.2.1.slots) (hR : RetV X g layM A cX12_spans 1 0 0 Z post) (M : Mem) (h : P_M_spans post M) : AtX X g layM A 1 0 0 Z 0 [(0, .ref (ad g 0))] [] M := by
  refine a_aload_n C (tk T_cX12_spans 0 rfl) rfl ?_
  refine a_iconst C (0 : Int32) (tk T_cX12_spans 1 rfl) kI_0 ?_
  refine a_callI C [.int (0 : Int32)] me_yX12_lays lk_RX12_112 (ct_M_lays h) (by decide) lm0 rfl rfl rfl (Nat.le_of_ble_eq_true rfl) (tk T_cX12_spans 2 rfl) hr (fun r1 M1 h => ?_)
  refine a_popi C (tk T_cX12_spans 3 rfl) ?_
  refine a_aload_n C (tk T_cX12_spans 4 rfl) rfl ?_
  refine a_iconst C (-1 : Int32) (tk T_cX12_spans 5 rfl) kI_m1 ?_
  refine a_iconst C (0 : Int32) (tk T_cX12_spans 6 rfl) kI_0 ?_
  refine a_callV C [.int (-1 : Int32), .int (0 : Int32)] me_yX12_drifts lk_RX12_138 (ct_M_drifts h) (by decide) lm0 rfl rfl rfl (Nat.le_of_ble_eq_true rfl) (tk T_cX12_spans 7 rfl) hr (fun M2 h => ?_)
  exact hR _ _ _ (tk T_cX12_spans 8 rfl) h
theorem ct_M_spans {l : Launch} {g : GT} {post : Mem → Prop} {M : Mem} (h : P_M_spans post M) : CV l g layM yX12_spans cX12_spans 1 none 4 [.ref (ad g 0)] M post :=
  cv_of (plainFor_of_name (by decide +kernel)) (Nat.le_of_ble_eq_true rfl) (fun X A Z hl C hr hR => by subst hl; exact k_M_spans C hr hR  M h)
def T_cX12_hasSpanL : List (Nat × Instr × Nat) := [(0, .aload_n 0, 1), (1, .getfield 26, 3), (4, .iload_n 1, 1), (5, .iaload, 1), (6, .ldc 116, 2), (8, .if_icmp .ne 14, 3), (11, .aload_n 0, 1), (12, .getfield 29, 3), (15, .iload_n 1, 1), (16, .iaload, 1), (17, .ldc 116, 2), (19, .if_icmp .eq 7, 3), (22, .iconst 1, 1), (23, .goto 4, 3), (26, .iconst 0, 1), (27, .ireturn, 1)]
theorem T_cX12_hasSpan : tabOK cX12_hasSpan T_cX12_hasSpanL = true := by decide +kernel
def P_M_hasSpan_27 (post : Int32 → Mem → Prop) (s0 : Int32) (M : Mem) : Prop :=
  (s0 = 0 ∨ s0 = 1) ∧ post s0 M
theorem k_M_hasSpan_27 {X : FX} {g : GT} {A : Nat → Prop} {Z : State → Prop} {post : Int32 → Mem → Prop} (C : Cx X g layM A cX12_hasSpan 2 RX12 0) (hr : 0 ≤ X.2.2.2.1.cells ∧ 0 ≤ X.2.2.2.1.slots) (hR : RetZ X g layM A cX12_hasSpan 2 0 0 Z post) (s0 : Int32) (M : Mem) (h : P_M_hasSpan_27 post s0 M) : AtX X g layM A 2 0 0 Z 27 [] [.int s0] M := by
  exact hR _ _ _ _ (tk T_cX12_hasSpan 15 rfl) h
def P_M_hasSpan_22 (post : Int32 → Mem → Prop) (M : Mem) : Prop :=
  P_M_hasSpan_27 post (1 : Int32) M
theorem k_M_hasSpan_22 {X : FX} {g : GT} {A : Nat → Prop} {Z : State → Prop} {post : Int32 → Mem → Prop} (C : Cx X g layM A cX12_hasSpan 2 RX12 0) (hr : 0 ≤ X.2.2.2.1.cells ∧ 0 ≤ X.2.2.2.1.slots) (hR : RetZ X g layM A cX12_hasSpan 2 0 0 Z post)  (M : Mem) (h : P_M_hasSpan_22 post M) : AtX X g layM A 2 0 0 Z 22 [] [] M := by
  refine a_iconst C (1 : Int32) (tk T_cX12_hasSpan 12 rfl) kI_1 ?_
  refine a_goto C 27 (tk T_cX12_hasSpan 13 rfl) rfl ?_
  exact a_to (k_M_hasSpan_27 C hr hR (1 : Int32) M h) rfl
def P_M_hasSpan (post : Int32 → Mem → Prop) (x1 : Int32) (M : Mem) : Prop :=
  vp_in x1 24 ∧ (¬ (M 5 x1.toNatClampNeg) = (-99999 : Int32) → (P_M_hasSpan_22 post M)) ∧
  ((M 5 x1.toNatClampNeg) = (-99999 : Int32) → (vp_in x1 24 ∧ ((M 6 x1.toNatClampNeg) = (-99999 : Int32) → (P_M_hasSpan_27 post (0 : Int32) M)) ∧
  (¬ (M 6 x1.toNatClampNeg) = (-99999 : Int32) → (P_M_hasSpan_22 post M))))
theorem k_M_hasSpan {X : FX} {g : GT} {A : Nat → Prop} {Z : State → Prop} {post : Int32 → Mem → Prop} (C : Cx X g layM A cX12_hasSpan 2 RX12 0) (hr : 0 ≤ X.2.2.2.1.cells ∧ 0 ≤ X.2.2.2.1.slots) (hR : RetZ X g layM A cX12_hasSpan 2 0 0 Z post) (x1 : Int32) (M : Mem) (h : P_M_hasSpan post x1 M) : AtX X g layM A 2 0 0 Z 0 [(0, .ref (ad g 0)), (1, .int x1)] [] M := by
  refine a_aload_n C (tk T_cX12_hasSpan 0 rfl) rfl ?_
  refine a_getR C f_RX12_26 (tk T_cX12_hasSpan 1 rfl) lm0 rfl ?_
  refine a_iload_n C (tk T_cX12_hasSpan 2 rfl) rfl ?_
  obtain ⟨hb, h⟩ := h
  refine a_iald C (tk T_cX12_hasSpan 3 rfl) lm5 hb ?_
  refine a_ldc C c_RX12_116 (tk T_cX12_hasSpan 4 rfl) ?_
  refine a_icmp_ne C 22 (tk T_cX12_hasSpan 5 rfl) rfl (fun c => ?_) (fun c => ?_)
  · have h := h.1 c
    exact a_to (k_M_hasSpan_22 C hr hR M h) rfl
  · have h := h.2 c
    refine a_aload_n C (tk T_cX12_hasSpan 6 rfl) rfl ?_
    refine a_getR C f_RX12_29 (tk T_cX12_hasSpan 7 rfl) lm0 rfl ?_
    refine a_iload_n C (tk T_cX12_hasSpan 8 rfl) rfl ?_
    obtain ⟨hb, h⟩ := h
    refine a_iald C (tk T_cX12_hasSpan 9 rfl) lm6 hb ?_
    refine a_ldc C c_RX12_116 (tk T_cX12_hasSpan 10 rfl) ?_
    refine a_icmp_eq C 26 (tk T_cX12_hasSpan 11 rfl) rfl (fun c => ?_) (fun c => ?_)
    · have h := h.1 c
      refine a_iconst C (0 : Int32) (tk T_cX12_hasSpan 14 rfl) kI_0 ?_
      exact a_to (k_M_hasSpan_27 C hr hR (0 : Int32) M h) rfl
    · have h := h.2 c
      exact a_to (k_M_hasSpan_22 C hr hR M h) rfl
theorem ct_M_hasSpan {l : Launch} {g : GT} {post : Int32 → Mem → Prop} {x1 : Int32} {M : Mem} (h : P_M_hasSpan post x1 M) : CI l g layM yX12_hasSpan cX12_hasSpan 2 (some .boolean) 0 [.ref (ad g 0), .int x1] M post :=
  cz_of (plainFor_of_name (by decide +kernel)) (Nat.le_of_ble_eq_true rfl) (fun X A Z hl C hr hR => by subst hl; exact k_M_hasSpan C hr hR x1 M h)
def T_cX12_isInL : List (Nat × Instr × Nat) := [(0, .aload_n 0, 1), (1, .iload_n 1, 1), (2, .invokevirtual 142, 3), (5, .ifCond .eq 26, 3), (8, .iload_n 2, 1), (9, .aload_n 0, 1), (10, .getfield 26, 3), (13, .iload_n 1, 1), (14, .iaload, 1), (15, .aload_n 0, 1), (16, .getfield 29, 3), (19, .iload_n 1, 1), (20, .iaload, 1), (21, .invokestatic 58, 3), (24, .ifCond .eq 7, 3), (27, .iconst 1, 1), (28, .goto 4, 3), (31, .iconst 0, 1), (32, .ireturn, 1)]
theorem T_cX12_isIn : tabOK cX12_isIn T_cX12_isInL = true := by decide +kernel
def P_M_isIn_32 (post : Int32 → Mem → Prop) (s0 : Int32) (M : Mem) : Prop :=
  (s0 = 0 ∨ s0 = 1) ∧ post s0 M
theorem k_M_isIn_32 {X : FX} {g : GT} {A : Nat → Prop} {Z : State → Prop} {post : Int32 → Mem → Prop} (C : Cx X g layM A cX12_isIn 3 RX12 1) (hr : 0 ≤ X.2.2.2.1.cells ∧ 0 ≤ X.2.2.2.1.slots) (hR : RetZ X g layM A cX12_isIn 3 0 0 Z post) (s0 : Int32) (M : Mem) (h : P_M_isIn_32 post s0 M) : AtX X g layM A 3 0 0 Z 32 [] [.int s0] M := by
  exact hR _ _ _ _ (tk T_cX12_isIn 18 rfl) h
def P_M_isIn_31 (post : Int32 → Mem → Prop) (M : Mem) : Prop :=
  P_M_isIn_32 post (0 : Int32) M
theorem k_M_isIn_31 {X : FX} {g : GT} {A : Nat → Prop} {Z : State → Prop} {post : Int32 → Mem → Prop} (C : Cx X g layM A cX12_isIn 3 RX12 1) (hr : 0 ≤ X.2.2.2.1.cells ∧ 0 ≤ X.2.2.2.1.slots) (hR : RetZ X g layM A cX12_isIn 3 0 0 Z post)  (M : Mem) (h : P_M_isIn_31 post M) : AtX X g layM A 3 0 0 Z 31 [] [] M := by
  refine a_iconst C (0 : Int32) (tk T_cX12_isIn 17 rfl) kI_0 ?_
  exact a_to (k_M_isIn_32 C hr hR (0 : Int32) M h) rfl
def P_M_isIn (post : Int32 → Mem → Prop) (x1 x2 : Int32) (M : Mem) : Prop :=
  P_M_hasSpan (fun r1 M1 =>
  (r1 = 0 → (P_M_isIn_31 post M1)) ∧
  (¬ r1 = 0 → (vp_in x1 24 ∧ vp_in x1 24 ∧ P_M_in (fun r2 M2 =>
  (r2 = 0 → (P_M_isIn_31 post M2)) ∧
  (¬ r2 = 0 → (P_M_isIn_32 post (1 : Int32) M2))) x2 (M1 5 x1.toNatClampNeg) (M1 6 x1.toNatClampNeg) M1))) x1 M
theorem k_M_isIn {X : FX} {g : GT} {A : Nat → Prop} {Z : State → Prop} {post : Int32 → Mem → Prop} (C : Cx X g layM A cX12_isIn 3 RX12 1) (hr : 0 ≤ X.2.2.2.1.cells ∧ 0 ≤ X.2.2.2.1.slots) (hR : RetZ X g layM A cX12_isIn 3 0 0 Z post) (x1 x2 : Int32) (M : Mem) (h : P_M_isIn post x1 x2 M) : AtX X g layM A 3 0 0 Z 0 [(0, .ref (ad g 0)), (1, .int x1), (2, .int x2)] [] M := by
  refine a_aload_n C (tk T_cX12_isIn 0 rfl) rfl ?_
  refine a_iload_n C (tk T_cX12_isIn 1 rfl) rfl ?_
  refine a_callI C [.int x1] me_yX12_hasSpan lk_RX12_142 (ct_M_hasSpan h) (by decide) lm0 rfl rfl rfl (Nat.le_of_ble_eq_true rfl) (tk T_cX12_isIn 2 rfl) hr (fun r1 M1 h => ?_)
  refine a_if_eq C 31 (tk T_cX12_isIn 3 rfl) rfl (fun c => ?_) (fun c => ?_)
  · have h := h.1 c
    exact a_to (k_M_isIn_31 C hr hR M1 h) rfl
  · have h := h.2 c
    refine a_iload_n C (tk T_cX12_isIn 4 rfl) rfl ?_
    refine a_aload_n C (tk T_cX12_isIn 5 rfl) rfl ?_
    refine a_getR C f_RX12_26 (tk T_cX12_isIn 6 rfl) lm0 rfl ?_
    refine a_iload_n C (tk T_cX12_isIn 7 rfl) rfl ?_
    obtain ⟨hb, h⟩ := h
    refine a_iald C (tk T_cX12_isIn 8 rfl) lm5 hb ?_
    refine a_aload_n C (tk T_cX12_isIn 9 rfl) rfl ?_
    refine a_getR C f_RX12_29 (tk T_cX12_isIn 10 rfl) lm0 rfl ?_
    refine a_iload_n C (tk T_cX12_isIn 11 rfl) rfl ?_
    obtain ⟨hb, h⟩ := h
    refine a_iald C (tk T_cX12_isIn 12 rfl) lm6 hb ?_
    refine a_statI C [.int x2, .int (M1 5 x1.toNatClampNeg), .int (M1 6 x1.toNatClampNeg)] me_yX12_in lk_RX12_58 (ct_M_in h) (by decide) rfl rfl (Nat.le_of_ble_eq_true rfl) (tk T_cX12_isIn 13 rfl) hr (fun r2 M2 h => ?_)
    refine a_if_eq C 31 (tk T_cX12_isIn 14 rfl) rfl (fun c => ?_) (fun c => ?_)
    · have h := h.1 c
      exact a_to (k_M_isIn_31 C hr hR M2 h) rfl
    · have h := h.2 c
      refine a_iconst C (1 : Int32) (tk T_cX12_isIn 15 rfl) kI_1 ?_
      refine a_goto C 32 (tk T_cX12_isIn 16 rfl) rfl ?_
      exact a_to (k_M_isIn_32 C hr hR (1 : Int32) M2 h) rfl
theorem ct_M_isIn {l : Launch} {g : GT} {post : Int32 → Mem → Prop} {x1 x2 : Int32} {M : Mem} (h : P_M_isIn post x1 x2 M) : CI l g layM yX12_isIn cX12_isIn 3 (some .boolean) 1 [.ref (ad g 0), .int x1, .int x2] M post :=
  cz_of (plainFor_of_name (by decide +kernel)) (Nat.le_of_ble_eq_true rfl) (fun X A Z hl C hr hR => by subst hl; exact k_M_isIn C hr hR x1 x2 M h)
def T_cX12_lookL : List (Nat × Instr × Nat) := [(0, .aload_n 0, 1), (1, .iconst 0, 1), (2, .putfield 3, 3), (5, .aload_n 0, 1), (6, .aload_n 0, 1), (7, .iload_n 1, 1), (8, .bipush 9, 2), (10, .invokevirtual 121, 3), (13, .iconst 1, 1), (14, .invokevirtual 72, 3), (17, .ifCond .ne 26, 3), (20, .aload_n 0, 1), (21, .iload_n 2, 1), (22, .iconst 0, 1), (23, .bipush 8, 2), (25, .invokestatic 58, 3), (28, .ifCond .ne 7, 3), (31, .iconst 1, 1), (32, .goto 4, 3), (35, .iconst 0, 1), (36, .iconst 2, 1), (37, .invokevirtual 72, 3), (40, .ifCond .eq 5, 3), (43, .iconst 0, 1), (44, .ireturn, 1), (45, .iload_n 2, 1), (46, .iconst 5, 1), (47, .if_icmp .ge 10, 3), (50, .aload_n 0, 1), (51, .iload_n 1, 1), (52, .iload_n 2, 1), (53, .invokevirtual 132, 3), (56, .ireturn, 1), (57, .iload_n 2, 1), (58, .bipush 8, 2), (60, .if_icmp .ne 17, 3), (63, .aload_n 0, 1), (64, .iload_n 1, 1), (65, .invokevirtual 145, 3), (68, .ifCond .eq 7, 3), (71, .iconst 1, 1), (72, .goto 4, 3), (75, .iconst 0, 1), (76, .ireturn, 1), (77, .aload_n 0, 1), (78, .aload_n 0, 1), (79, .iload_n 1, 1), (80, .iconst 1, 1), (81, .invokevirtual 132, 3), (84, .aload_n 0, 1), (85, .iload_n 1, 1), (86, .iconst 2, 1), (87, .invokevirtual 132, 3), (90, .invokevirtual 80, 3), (93, .istore_n 3, 1), (94, .iload_n 2, 1), (95, .iconst 5, 1), (96, .if_icmp .ne 5, 3), (99, .iload_n 3, 1), (100, .ireturn, 1), (101, .aload_n 0, 1), (102, .iconst 0, 1), (103, .invokevirtual 112, 3), (106, .pop, 1), (107, .aload_n 0, 1), (108, .iload_n 3, 1), (109, .iload_n 2, 1), (110, .bipush 7, 2), (112, .if_icmp .ne 7, 3), (115, .iconst 1, 1), (116, .goto 4, 3), (119, .iconst 0, 1), (120, .invokevirtual 117, 3), (123, .ireturn, 1)]
theorem T_cX12_look : tabOK cX12_look T_cX12_lookL = true := by decide +kernel
def P_M_look_120 (post : Int32 → Mem → Prop) (s1 s2 : Int32) (M : Mem) : Prop :=
  P_M_endOf (fun r1 M1 =>
  post r1 M1) s1 s2 M
theorem k_M_look_120 {X : FX} {g : GT} {A : Nat → Prop} {Z : State → Prop} {post : Int32 → Mem → Prop} (C : Cx X g layM A cX12_look 4 RX12 4) (hr : 0 ≤ X.2.2.2.1.cells ∧ 0 ≤ X.2.2.2.1.slots) (hR : RetI X g layM A cX12_look 4 0 0 Z post) (s1 s2 : Int32) (M : Mem) (h : P_M_look_120 post s1 s2 M) : AtX X g layM A 4 0 0 Z 120 [] [.int s2, .int s1, .ref (ad g 0)] M := by
  refine a_callI C [.int s1, .int s2] me_yX12_endOf lk_RX12_117 (ct_M_endOf h) (by decide) lm0 rfl rfl rfl (Nat.le_of_ble_eq_true rfl) (tk T_cX12_look 72 rfl) hr (fun r1 M1 h => ?_)
  exact hR _ _ _ _ (tk T_cX12_look 73 rfl) h
def P_M_look_76 (post : Int32 → Mem → Prop) (s0 : Int32) (M : Mem) : Prop :=
  post s0 M
theorem k_M_look_76 {X : FX} {g : GT} {A : Nat → Prop} {Z : State → Prop} {post : Int32 → Mem → Prop} (C : Cx X g layM A cX12_look 4 RX12 4) (hr : 0 ≤ X.2.2.2.1.cells ∧ 0 ≤ X.2.2.2.1.slots) (hR : RetI X g layM A cX12_look 4 0 0 Z post) (s0 : Int32) (M : Mem) (h : P_M_look_76 post s0 M) : AtX X g layM A 4 0 0 Z 76 [] [.int s0] M := by
  exact hR _ _ _ _ (tk T_cX12_look 43 rfl) h
def P_M_look_43 (post : Int32 → Mem → Prop) (M : Mem) : Prop :=
  post (0 : Int32) M
theorem k_M_look_43 {X : FX} {g : GT} {A : Nat → Prop} {Z : State → Prop} {post : Int32 → Mem → Prop} (C : Cx X g layM A cX12_look 4 RX12 4) (hr : 0 ≤ X.2.2.2.1.cells ∧ 0 ≤ X.2.2.2.1.slots) (hR : RetI X g layM A cX12_look 4 0 0 Z post)  (M : Mem) (h : P_M_look_43 post M) : AtX X g layM A 4 0 0 Z 43 [] [] M := by
  refine a_iconst C (0 : Int32) (tk T_cX12_look 23 rfl) kI_0 ?_
  exact hR _ _ _ _ (tk T_cX12_look 24 rfl) h
def P_M_look_36 (post : Int32 → Mem → Prop) (x1 x2 s1 : Int32) (M : Mem) : Prop :=
  P_M_throwsIf (fun r1 M1 =>
  (r1 = 0 → (((5 : Int32) ≤ x2 → ((¬ x2 = (8 : Int32) → (P_M_of (fun r2 M2 =>
  P_M_of (fun r3 M3 =>
  P_M_truePlace (fun r4 M4 =>
  (¬ x2 = (5 : Int32) → (P_M_lays (fun r5 M5 =>
  (¬ x2 = (7 : Int32) → (P_M_look_120 post r4 (0 : Int32) M5)) ∧
  (x2 = (7 : Int32) → (P_M_look_120 post r4 (1 : Int32) M5))) (0 : Int32) M4)) ∧
  (x2 = (5 : Int32) → (post r4 M4))) r2 r3 M3) x1 (2 : Int32) M2) x1 (1 : Int32) M1)) ∧
  (x2 = (8 : Int32) → (P_M_isGhost (fun r6 M6 =>
  (r6 = 0 → (P_M_look_76 post (0 : Int32) M6)) ∧
  (¬ r6 = 0 → (P_M_look_76 post (1 : Int32) M6))) x1 M1)))) ∧
  (¬ (5 : Int32) ≤ x2 → (P_M_of (fun r7 M7 =>
  post r7 M7) x1 x2 M1)))) ∧
  (¬ r1 = 0 → (P_M_look_43 post M1))) s1 (2 : Int32) M
theorem k_M_look_36 {X : FX} {g : GT} {A : Nat → Prop} {Z : State → Prop} {post : Int32 → Mem → Prop} (C : Cx X g layM A cX12_look 4 RX12 4) (hr : 0 ≤ X.2.2.2.1.cells ∧ 0 ≤ X.2.2.2.1.slots) (hR : RetI X g layM A cX12_look 4 0 0 Z post) (x1 x2 s1 : Int32) (M : Mem) (h : P_M_look_36 post x1 x2 s1 M) : AtX X g layM A 4 0 0 Z 36 [(0, .ref (ad g 0)), (1, .int x1), (2, .int x2)] [.int s1, .ref (ad g 0)] M := by
  refine a_iconst C (2 : Int32) (tk T_cX12_look 20 rfl) kI_2 ?_
  refine a_callI C [.int s1, .int (2 : Int32)] me_yX12_throwsIf lk_RX12_72 (ct_M_throwsIf h) (by decide) lm0 rfl rfl rfl (Nat.le_of_ble_eq_true rfl) (tk T_cX12_look 21 rfl) hr (fun r1 M1 h => ?_)
  refine a_if_eq C 45 (tk T_cX12_look 22 rfl) rfl (fun c => ?_) (fun c => ?_)
  · have h := h.1 c
    refine a_iload_n C (tk T_cX12_look 25 rfl) rfl ?_
    refine a_iconst C (5 : Int32) (tk T_cX12_look 26 rfl) kI_5 ?_
    refine a_icmp_ge C 57 (tk T_cX12_look 27 rfl) rfl (fun c => ?_) (fun c => ?_)
    · have h := h.1 c
      refine a_iload_n C (tk T_cX12_look 33 rfl) rfl ?_
      refine a_bipush C (8 : Int32) (tk T_cX12_look 34 rfl) kB_8 ?_
      refine a_icmp_ne C 77 (tk T_cX12_look 35 rfl) rfl (fun c => ?_) (fun c => ?_)
      · have h := h.1 c
        refine a_aload_n C (tk T_cX12_look 44 rfl) rfl ?_
        refine a_aload_n C (tk T_cX12_look 45 rfl) rfl ?_
        refine a_iload_n C (tk T_cX12_look 46 rfl) rfl ?_
        refine a_iconst C (1 : Int32) (tk T_cX12_look 47 rfl) kI_1 ?_
        refine a_callI C [.int x1, .int (1 : Int32)] me_yX12_of lk_RX12_132 (ct_M_of h) (by decide) lm0 rfl rfl rfl (Nat.le_of_ble_eq_true rfl) (tk T_cX12_look 48 rfl) hr (fun r2 M2 h => ?_)
        refine a_aload_n C (tk T_cX12_look 49 rfl) rfl ?_
        refine a_iload_n C (tk T_cX12_look 50 rfl) rfl ?_
        refine a_iconst C (2 : Int32) (tk T_cX12_look 51 rfl) kI_2 ?_
        refine a_callI C [.int x1, .int (2 : Int32)] me_yX12_of lk_RX12_132 (ct_M_of h) (by decide) lm0 rfl rfl rfl (Nat.le_of_ble_eq_true rfl) (tk T_cX12_look 52 rfl) hr (fun r3 M3 h => ?_)
        refine a_callI C [.int r2, .int r3] me_yX12_truePlace lk_RX12_80 (ct_M_truePlace h) (by decide) lm0 rfl rfl rfl (Nat.le_of_ble_eq_true rfl) (tk T_cX12_look 53 rfl) hr (fun r4 M4 h => ?_)
        refine a_istore_n C (tk T_cX12_look 54 rfl) (by decide) rfl ?_
        refine a_iload_n C (tk T_cX12_look 55 rfl) rfl ?_
        refine a_iconst C (5 : Int32) (tk T_cX12_look 56 rfl) kI_5 ?_
        refine a_icmp_ne C 101 (tk T_cX12_look 57 rfl) rfl (fun c => ?_) (fun c => ?_)
        · have h := h.1 c
          refine a_aload_n C (tk T_cX12_look 60 rfl) rfl ?_
          refine a_iconst C (0 : Int32) (tk T_cX12_look 61 rfl) kI_0 ?_
          refine a_callI C [.int (0 : Int32)] me_yX12_lays lk_RX12_112 (ct_M_lays h) (by decide) lm0 rfl rfl rfl (Nat.le_of_ble_eq_true rfl) (tk T_cX12_look 62 rfl) hr (fun r5 M5 h => ?_)
          refine a_popi C (tk T_cX12_look 63 rfl) ?_
          refine a_aload_n C (tk T_cX12_look 64 rfl) rfl ?_
          refine a_iload_n C (tk T_cX12_look 65 rfl) rfl ?_
          refine a_iload_n C (tk T_cX12_look 66 rfl) rfl ?_
          refine a_bipush C (7 : Int32) (tk T_cX12_look 67 rfl) kB_7 ?_
          refine a_icmp_ne C 119 (tk T_cX12_look 68 rfl) rfl (fun c => ?_) (fun c => ?_)
          · have h := h.1 c
            refine a_iconst C (0 : Int32) (tk T_cX12_look 71 rfl) kI_0 ?_
            exact a_to (k_M_look_120 C hr hR r4 (0 : Int32) M5 h) rfl
          · have h := h.2 c
            refine a_iconst C (1 : Int32) (tk T_cX12_look 69 rfl) kI_1 ?_
            refine a_goto C 120 (tk T_cX12_look 70 rfl) rfl ?_
            exact a_to (k_M_look_120 C hr hR r4 (1 : Int32) M5 h) rfl
        · have h := h.2 c
          refine a_iload_n C (tk T_cX12_look 58 rfl) rfl ?_
          exact hR _ _ _ _ (tk T_cX12_look 59 rfl) h
      · have h := h.2 c
        refine a_aload_n C (tk T_cX12_look 36 rfl) rfl ?_
        refine a_iload_n C (tk T_cX12_look 37 rfl) rfl ?_
        refine a_callI C [.int x1] me_yX12_isGhost lk_RX12_145 (ct_M_isGhost h) (by decide) lm0 rfl rfl rfl (Nat.le_of_ble_eq_true rfl) (tk T_cX12_look 38 rfl) hr (fun r6 M6 h => ?_)
        refine a_if_eq C 75 (tk T_cX12_look 39 rfl) rfl (fun c => ?_) (fun c => ?_)
        · have h := h.1 c
          refine a_iconst C (0 : Int32) (tk T_cX12_look 42 rfl) kI_0 ?_
          exact a_to (k_M_look_76 C hr hR (0 : Int32) M6 h) rfl
        · have h := h.2 c
          refine a_iconst C (1 : Int32) (tk T_cX12_look 40 rfl) kI_1 ?_
          refine a_goto C 76 (tk T_cX12_look 41 rfl) rfl ?_
          exact a_to (k_M_look_76 C hr hR (1 : Int32) M6 h) rfl
    · have h := h.2 c
      refine a_aload_n C (tk T_cX12_look 28 rfl) rfl ?_
      refine a_iload_n C (tk T_cX12_look 29 rfl) rfl ?_
      refine a_iload_n C (tk T_cX12_look 30 rfl) rfl ?_
      refine a_callI C [.int x1, .int x2] me_yX12_of lk_RX12_132 (ct_M_of h) (by decide) lm0 rfl rfl rfl (Nat.le_of_ble_eq_true rfl) (tk T_cX12_look 31 rfl) hr (fun r7 M7 h => ?_)
      exact hR _ _ _ _ (tk T_cX12_look 32 rfl) h
  · have h := h.2 c
    exact a_to (k_M_look_43 C hr hR M1 h) rfl
def P_M_look (post : Int32 → Mem → Prop) (x1 x2 : Int32) (M : Mem) : Prop :=
  ∀ M1, M1 = ms M 0 0 (0 : Int32) → P_M_none (fun r2 M2 =>
  P_M_throwsIf (fun r3 M3 =>
  (¬ r3 = 0 → (P_M_look_43 post M3)) ∧
  (r3 = 0 → (P_M_in (fun r4 M4 =>
  (¬ r4 = 0 → (P_M_look_36 post x1 x2 (0 : Int32) M4)) ∧
  (r4 = 0 → (P_M_look_36 post x1 x2 (1 : Int32) M4))) x2 (0 : Int32) (8 : Int32) M3))) r2 (1 : Int32) M2) x1 (9 : Int32) M1
theorem k_M_look {X : FX} {g : GT} {A : Nat → Prop} {Z : State → Prop} {post : Int32 → Mem → Prop} (C : Cx X g layM A cX12_look 4 RX12 4) (hr : 0 ≤ X.2.2.2.1.cells ∧ 0 ≤ X.2.2.2.1.slots) (hR : RetI X g layM A cX12_look 4 0 0 Z post) (x1 x2 : Int32) (M : Mem) (h : P_M_look post x1 x2 M) : AtX X g layM A 4 0 0 Z 0 [(0, .ref (ad g 0)), (1, .int x1), (2, .int x2)] [] M := by
  refine a_aload_n C (tk T_cX12_look 0 rfl) rfl ?_
  refine a_iconst C (0 : Int32) (tk T_cX12_look 1 rfl) kI_0 ?_
  refine a_put C f_RX12_3 f_RX12_3p rfl rfl (tk T_cX12_look 2 rfl) lm0 rfl ?_
  refine a_mem (fun M1 e_M1 => ?_)
  have h := h M1 e_M1
  refine a_aload_n C (tk T_cX12_look 3 rfl) rfl ?_
  refine a_aload_n C (tk T_cX12_look 4 rfl) rfl ?_
  refine a_iload_n C (tk T_cX12_look 5 rfl) rfl ?_
  refine a_bipush C (9 : Int32) (tk T_cX12_look 6 rfl) kB_9 ?_
  refine a_callI C [.int x1, .int (9 : Int32)] me_yX12_none lk_RX12_121 (ct_M_none h) (by decide) lm0 rfl rfl rfl (Nat.le_of_ble_eq_true rfl) (tk T_cX12_look 7 rfl) hr (fun r2 M2 h => ?_)
  refine a_iconst C (1 : Int32) (tk T_cX12_look 8 rfl) kI_1 ?_
  refine a_callI C [.int r2, .int (1 : Int32)] me_yX12_throwsIf lk_RX12_72 (ct_M_throwsIf h) (by decide) lm0 rfl rfl rfl (Nat.le_of_ble_eq_true rfl) (tk T_cX12_look 9 rfl) hr (fun r3 M3 h => ?_)
  refine a_if_ne C 43 (tk T_cX12_look 10 rfl) rfl (fun c => ?_) (fun c => ?_)
  · have h := h.1 c
    exact a_to (k_M_look_43 C hr hR M3 h) rfl
  · have h := h.2 c
    refine a_aload_n C (tk T_cX12_look 11 rfl) rfl ?_
    refine a_iload_n C (tk T_cX12_look 12 rfl) rfl ?_
    refine a_iconst C (0 : Int32) (tk T_cX12_look 13 rfl) kI_0 ?_
    refine a_bipush C (8 : Int32) (tk T_cX12_look 14 rfl) kB_8 ?_
    refine a_statI C [.int x2, .int (0 : Int32), .int (8 : Int32)] me_yX12_in lk_RX12_58 (ct_M_in h) (by decide) rfl rfl (Nat.le_of_ble_eq_true rfl) (tk T_cX12_look 15 rfl) hr (fun r4 M4 h => ?_)
    refine a_if_ne C 35 (tk T_cX12_look 16 rfl) rfl (fun c => ?_) (fun c => ?_)
    · have h := h.1 c
      refine a_iconst C (0 : Int32) (tk T_cX12_look 19 rfl) kI_0 ?_
      exact a_to (k_M_look_36 C hr hR x1 x2 (0 : Int32) M4 h) rfl
    · have h := h.2 c
      refine a_iconst C (1 : Int32) (tk T_cX12_look 17 rfl) kI_1 ?_
      refine a_goto C 36 (tk T_cX12_look 18 rfl) rfl ?_
      exact a_to (k_M_look_36 C hr hR x1 x2 (1 : Int32) M4 h) rfl
theorem ct_M_look {l : Launch} {g : GT} {post : Int32 → Mem → Prop} {x1 x2 : Int32} {M : Mem} (h : P_M_look post x1 x2 M) : CI l g layM yX12_look cX12_look 4 (some .int) 4 [.ref (ad g 0), .int x1, .int x2] M post :=
  ci_of (plainFor_of_name (by decide +kernel)) (Nat.le_of_ble_eq_true rfl) (fun X A Z hl C hr hR => by subst hl; exact k_M_look C hr hR x1 x2 M h)
def T_cX12_noSpeedL : List (Nat × Instr × Nat) := [(0, .iload_n 0, 1), (1, .bipush (-50), 2), (3, .bipush 50, 2), (5, .invokestatic 58, 3), (8, .ifCond .ne 7, 3), (11, .iconst 1, 1), (12, .goto 4, 3), (15, .iconst 0, 1), (16, .ireturn, 1)]
theorem T_cX12_noSpeed : tabOK cX12_noSpeed T_cX12_noSpeedL = true := by decide +kernel
def P_M_noSpeed_16 (post : Int32 → Mem → Prop) (s0 : Int32) (M : Mem) : Prop :=
  (s0 = 0 ∨ s0 = 1) ∧ post s0 M
theorem k_M_noSpeed_16 {X : FX} {g : GT} {A : Nat → Prop} {Z : State → Prop} {post : Int32 → Mem → Prop} (C : Cx X g layM A cX12_noSpeed 1 RX12 1) (hr : 0 ≤ X.2.2.2.1.cells ∧ 0 ≤ X.2.2.2.1.slots) (hR : RetZ X g layM A cX12_noSpeed 1 0 0 Z post) (s0 : Int32) (M : Mem) (h : P_M_noSpeed_16 post s0 M) : AtX X g layM A 1 0 0 Z 16 [] [.int s0] M := by
  exact hR _ _ _ _ (tk T_cX12_noSpeed 8 rfl) h
def P_M_noSpeed (post : Int32 → Mem → Prop) (x0 : Int32) (M : Mem) : Prop :=
  P_M_in (fun r1 M1 =>
  (¬ r1 = 0 → (P_M_noSpeed_16 post (0 : Int32) M1)) ∧
  (r1 = 0 → (P_M_noSpeed_16 post (1 : Int32) M1))) x0 (-50 : Int32) (50 : Int32) M
theorem k_M_noSpeed {X : FX} {g : GT} {A : Nat → Prop} {Z : State → Prop} {post : Int32 → Mem → Prop} (C : Cx X g layM A cX12_noSpeed 1 RX12 1) (hr : 0 ≤ X.2.2.2.1.cells ∧ 0 ≤ X.2.2.2.1.slots) (hR : RetZ X g layM A cX12_noSpeed 1 0 0 Z post) (x0 : Int32) (M : Mem) (h : P_M_noSpeed post x0 M) : AtX X g layM A 1 0 0 Z 0 [(0, .int x0)] [] M := by
  refine a_iload_n C (tk T_cX12_noSpeed 0 rfl) rfl ?_
  refine a_bipush C (-50 : Int32) (tk T_cX12_noSpeed 1 rfl) kB_m50 ?_
  refine a_bipush C (50 : Int32) (tk T_cX12_noSpeed 2 rfl) kB_50 ?_
  refine a_statI C [.int x0, .int (-50 : Int32), .int (50 : Int32)] me_yX12_in lk_RX12_58 (ct_M_in h) (by decide) rfl rfl (Nat.le_of_ble_eq_true rfl) (tk T_cX12_noSpeed 3 rfl) hr (fun r1 M1 h => ?_)
  refine a_if_ne C 15 (tk T_cX12_noSpeed 4 rfl) rfl (fun c => ?_) (fun c => ?_)
  · have h := h.1 c
    refine a_iconst C (0 : Int32) (tk T_cX12_noSpeed 7 rfl) kI_0 ?_
    exact a_to (k_M_noSpeed_16 C hr hR (0 : Int32) M1 h) rfl
  · have h := h.2 c
    refine a_iconst C (1 : Int32) (tk T_cX12_noSpeed 5 rfl) kI_1 ?_
    refine a_goto C 16 (tk T_cX12_noSpeed 6 rfl) rfl ?_
    exact a_to (k_M_noSpeed_16 C hr hR (1 : Int32) M1 h) rfl
theorem ct_M_noSpeed {l : Launch} {g : GT} {post : Int32 → Mem → Prop} {x0 : Int32} {M : Mem} (h : P_M_noSpeed post x0 M) : CI l g layM yX12_noSpeed cX12_noSpeed 1 (some .boolean) 1 [.int x0] M post :=
  cz_of (plainFor_of_name (by decide +kernel)) (Nat.le_of_ble_eq_true rfl) (fun X A Z hl C hr hR => by subst hl; exact k_M_noSpeed C hr hR x0 M h)
def T_cX12_shiftedL : List (Nat × Instr × Nat) := [(0, .aload_n 0, 1), (1, .iload_n 1, 1), (2, .invokevirtual 148, 3), (5, .ifCond .eq 12, 3), (8, .aload_n 0, 1), (9, .iload_n 1, 1), (10, .iload_n 2, 1), (11, .invokevirtual 151, 3), (14, .goto 19, 3), (17, .aload_n 0, 1), (18, .iload_n 1, 1), (19, .iload_n 2, 1), (20, .invokevirtual 151, 3), (23, .sipush 1000, 3), (26, .iload_n 3, 1), (27, .iadd, 1), (28, .imul, 1), (29, .sipush 1000, 3), (32, .idiv, 1), (33, .ireturn, 1)]
theorem T_cX12_shifted : tabOK cX12_shifted T_cX12_shiftedL = true := by decide +kernel
def P_M_shifted_33 (post : Int32 → Mem → Prop) (s0 : Int32) (M : Mem) : Prop :=
  post s0 M
theorem k_M_shifted_33 {X : FX} {g : GT} {A : Nat → Prop} {Z : State → Prop} {post : Int32 → Mem → Prop} (C : Cx X g layM A cX12_shifted 4 RX12 1) (hr : 0 ≤ X.2.2.2.1.cells ∧ 0 ≤ X.2.2.2.1.slots) (hR : RetI X g layM A cX12_shifted 4 0 0 Z post) (s0 : Int32) (M : Mem) (h : P_M_shifted_33 post s0 M) : AtX X g layM A 4 0 0 Z 33 [] [.int s0] M := by
  exact hR _ _ _ _ (tk T_cX12_shifted 19 rfl) h
def P_M_shifted (post : Int32 → Mem → Prop) (x1 x2 x3 : Int32) (M : Mem) : Prop :=
  P_M_isAir (fun r1 M1 =>
  (r1 = 0 → (P_M_waveOf (fun r2 M2 =>
  P_M_shifted_33 post ((r2 * ((1000 : Int32) + x3)) / (1000 : Int32)) M2) x1 x2 M1)) ∧
  (¬ r1 = 0 → (P_M_waveOf (fun r3 M3 =>
  P_M_shifted_33 post r3 M3) x1 x2 M1))) x1 M
theorem k_M_shifted {X : FX} {g : GT} {A : Nat → Prop} {Z : State → Prop} {post : Int32 → Mem → Prop} (C : Cx X g layM A cX12_shifted 4 RX12 1) (hr : 0 ≤ X.2.2.2.1.cells ∧ 0 ≤ X.2.2.2.1.slots) (hR : RetI X g layM A cX12_shifted 4 0 0 Z post) (x1 x2 x3 : Int32) (M : Mem) (h : P_M_shifted post x1 x2 x3 M) : AtX X g layM A 4 0 0 Z 0 [(0, .ref (ad g 0)), (1, .int x1), (2, .int x2), (3, .int x3)] [] M := by
  refine a_aload_n C (tk T_cX12_shifted 0 rfl) rfl ?_
  refine a_iload_n C (tk T_cX12_shifted 1 rfl) rfl ?_
  refine a_callI C [.int x1] me_yX12_isAir lk_RX12_148 (ct_M_isAir h) (by decide) lm0 rfl rfl rfl (Nat.le_of_ble_eq_true rfl) (tk T_cX12_shifted 2 rfl) hr (fun r1 M1 h => ?_)
  refine a_if_eq C 17 (tk T_cX12_shifted 3 rfl) rfl (fun c => ?_) (fun c => ?_)
  · have h := h.1 c
    refine a_aload_n C (tk T_cX12_shifted 9 rfl) rfl ?_
    refine a_iload_n C (tk T_cX12_shifted 10 rfl) rfl ?_
    refine a_iload_n C (tk T_cX12_shifted 11 rfl) rfl ?_
    refine a_callI C [.int x1, .int x2] me_yX12_waveOf lk_RX12_151 (ct_M_waveOf h) (by decide) lm0 rfl rfl rfl (Nat.le_of_ble_eq_true rfl) (tk T_cX12_shifted 12 rfl) hr (fun r2 M2 h => ?_)
    refine a_sipush C (1000 : Int32) (tk T_cX12_shifted 13 rfl) kS_1000 ?_
    refine a_iload_n C (tk T_cX12_shifted 14 rfl) rfl ?_
    refine a_iadd C (tk T_cX12_shifted 15 rfl) ?_
    refine a_imul C (tk T_cX12_shifted 16 rfl) ?_
    refine a_sipush C (1000 : Int32) (tk T_cX12_shifted 17 rfl) kS_1000 ?_
    refine a_idiv C (tk T_cX12_shifted 18 rfl) (by decide) ?_
    exact a_to (k_M_shifted_33 C hr hR ((r2 * ((1000 : Int32) + x3)) / (1000 : Int32)) M2 h) rfl
  · have h := h.2 c
    refine a_aload_n C (tk T_cX12_shifted 4 rfl) rfl ?_
    refine a_iload_n C (tk T_cX12_shifted 5 rfl) rfl ?_
    refine a_iload_n C (tk T_cX12_shifted 6 rfl) rfl ?_
    refine a_callI C [.int x1, .int x2] me_yX12_waveOf lk_RX12_151 (ct_M_waveOf h) (by decide) lm0 rfl rfl rfl (Nat.le_of_ble_eq_true rfl) (tk T_cX12_shifted 7 rfl) hr (fun r3 M3 h => ?_)
    refine a_goto C 33 (tk T_cX12_shifted 8 rfl) rfl ?_
    exact a_to (k_M_shifted_33 C hr hR r3 M3 h) rfl
theorem ct_M_shifted {l : Launch} {g : GT} {post : Int32 → Mem → Prop} {x1 x2 x3 : Int32} {M : Mem} (h : P_M_shifted post x1 x2 x3 M) : CI l g layM yX12_shifted cX12_shifted 4 (some .int) 1 [.ref (ad g 0), .int x1, .int x2, .int x3] M post :=
  ci_of (plainFor_of_name (by decide +kernel)) (Nat.le_of_ble_eq_true rfl) (fun X A Z hl C hr hR => by subst hl; exact k_M_shifted C hr hR x1 x2 x3 M h)
def T_cX12_noLineL : List (Nat × Instr × Nat) := [(0, .aload_n 0, 1), (1, .iload_n 1, 1), (2, .bipush 7, 2), (4, .invokevirtual 121, 3), (7, .ifCond .ne 18, 3), (10, .iload_n 2, 1), (11, .iconst 0, 1), (12, .aload_n 0, 1), (13, .iload_n 1, 1), (14, .invokevirtual 125, 3), (17, .iconst 1, 1), (18, .isub, 1), (19, .invokestatic 58, 3), (22, .ifCond .ne 7, 3), (25, .iconst 1, 1), (26, .goto 4, 3), (29, .iconst 0, 1), (30, .ireturn, 1)]
theorem T_cX12_noLine : tabOK cX12_noLine T_cX12_noLineL = true := by decide +kernel
def P_M_noLine_30 (post : Int32 → Mem → Prop) (s0 : Int32) (M : Mem) : Prop :=
  (s0 = 0 ∨ s0 = 1) ∧ post s0 M
theorem k_M_noLine_30 {X : FX} {g : GT} {A : Nat → Prop} {Z : State → Prop} {post : Int32 → Mem → Prop} (C : Cx X g layM A cX12_noLine 3 RX12 2) (hr : 0 ≤ X.2.2.2.1.cells ∧ 0 ≤ X.2.2.2.1.slots) (hR : RetZ X g layM A cX12_noLine 3 0 0 Z post) (s0 : Int32) (M : Mem) (h : P_M_noLine_30 post s0 M) : AtX X g layM A 3 0 0 Z 30 [] [.int s0] M := by
  exact hR _ _ _ _ (tk T_cX12_noLine 17 rfl) h
def P_M_noLine_25 (post : Int32 → Mem → Prop) (M : Mem) : Prop :=
  P_M_noLine_30 post (1 : Int32) M
theorem k_M_noLine_25 {X : FX} {g : GT} {A : Nat → Prop} {Z : State → Prop} {post : Int32 → Mem → Prop} (C : Cx X g layM A cX12_noLine 3 RX12 2) (hr : 0 ≤ X.2.2.2.1.cells ∧ 0 ≤ X.2.2.2.1.slots) (hR : RetZ X g layM A cX12_noLine 3 0 0 Z post)  (M : Mem) (h : P_M_noLine_25 post M) : AtX X g layM A 3 0 0 Z 25 [] [] M := by
  refine a_iconst C (1 : Int32) (tk T_cX12_noLine 14 rfl) kI_1 ?_
  refine a_goto C 30 (tk T_cX12_noLine 15 rfl) rfl ?_
  exact a_to (k_M_noLine_30 C hr hR (1 : Int32) M h) rfl
def P_M_noLine (post : Int32 → Mem → Prop) (x1 x2 : Int32) (M : Mem) : Prop :=
  P_M_none (fun r1 M1 =>
  (¬ r1 = 0 → (P_M_noLine_25 post M1)) ∧
  (r1 = 0 → (P_M_lines (fun r2 M2 =>
  P_M_in (fun r3 M3 =>
  (¬ r3 = 0 → (P_M_noLine_30 post (0 : Int32) M3)) ∧
  (r3 = 0 → (P_M_noLine_25 post M3))) x2 (0 : Int32) (r2 - (1 : Int32)) M2) x1 M1))) x1 (7 : Int32) M
theorem k_M_noLine {X : FX} {g : GT} {A : Nat → Prop} {Z : State → Prop} {post : Int32 → Mem → Prop} (C : Cx X g layM A cX12_noLine 3 RX12 2) (hr : 0 ≤ X.2.2.2.1.cells ∧ 0 ≤ X.2.2.2.1.slots) (hR : RetZ X g layM A cX12_noLine 3 0 0 Z post) (x1 x2 : Int32) (M : Mem) (h : P_M_noLine post x1 x2 M) : AtX X g layM A 3 0 0 Z 0 [(0, .ref (ad g 0)), (1, .int x1), (2, .int x2)] [] M := by
  refine a_aload_n C (tk T_cX12_noLine 0 rfl) rfl ?_
  refine a_iload_n C (tk T_cX12_noLine 1 rfl) rfl ?_
  refine a_bipush C (7 : Int32) (tk T_cX12_noLine 2 rfl) kB_7 ?_
  refine a_callI C [.int x1, .int (7 : Int32)] me_yX12_none lk_RX12_121 (ct_M_none h) (by decide) lm0 rfl rfl rfl (Nat.le_of_ble_eq_true rfl) (tk T_cX12_noLine 3 rfl) hr (fun r1 M1 h => ?_)
  refine a_if_ne C 25 (tk T_cX12_noLine 4 rfl) rfl (fun c => ?_) (fun c => ?_)
  · have h := h.1 c
    exact a_to (k_M_noLine_25 C hr hR M1 h) rfl
  · have h := h.2 c
    refine a_iload_n C (tk T_cX12_noLine 5 rfl) rfl ?_
    refine a_iconst C (0 : Int32) (tk T_cX12_noLine 6 rfl) kI_0 ?_
    refine a_aload_n C (tk T_cX12_noLine 7 rfl) rfl ?_
    refine a_iload_n C (tk T_cX12_noLine 8 rfl) rfl ?_
    refine a_callI C [.int x1] me_yX12_lines lk_RX12_125 (ct_M_lines h) (by decide) lm0 rfl rfl rfl (Nat.le_of_ble_eq_true rfl) (tk T_cX12_noLine 9 rfl) hr (fun r2 M2 h => ?_)
    refine a_iconst C (1 : Int32) (tk T_cX12_noLine 10 rfl) kI_1 ?_
    refine a_isub C (tk T_cX12_noLine 11 rfl) ?_
    refine a_statI C [.int x2, .int (0 : Int32), .int (r2 - (1 : Int32))] me_yX12_in lk_RX12_58 (ct_M_in h) (by decide) rfl rfl (Nat.le_of_ble_eq_true rfl) (tk T_cX12_noLine 12 rfl) hr (fun r3 M3 h => ?_)
    refine a_if_ne C 29 (tk T_cX12_noLine 13 rfl) rfl (fun c => ?_) (fun c => ?_)
    · have h := h.1 c
      refine a_iconst C (0 : Int32) (tk T_cX12_noLine 16 rfl) kI_0 ?_
      exact a_to (k_M_noLine_30 C hr hR (0 : Int32) M3 h) rfl
    · have h := h.2 c
      exact a_to (k_M_noLine_25 C hr hR M3 h) rfl
theorem ct_M_noLine {l : Launch} {g : GT} {post : Int32 → Mem → Prop} {x1 x2 : Int32} {M : Mem} (h : P_M_noLine post x1 x2 M) : CI l g layM yX12_noLine cX12_noLine 3 (some .boolean) 2 [.ref (ad g 0), .int x1, .int x2] M post :=
  cz_of (plainFor_of_name (by decide +kernel)) (Nat.le_of_ble_eq_true rfl) (fun X A Z hl C hr hR => by subst hl; exact k_M_noLine C hr hR x1 x2 M h)
def T_cX12_liesL : List (Nat × Instr × Nat) := [(0, .aload_n 0, 1), (1, .iconst 0, 1), (2, .putfield 3, 3), (5, .aload_n 0, 1), (6, .aload_n 0, 1), (7, .iload_n 1, 1), (8, .iload_n 2, 1), (9, .invokevirtual 154, 3), (12, .iconst 1, 1), (13, .invokevirtual 72, 3), (16, .ifCond .ne 15, 3), (19, .aload_n 0, 1), (20, .iload_n 3, 1), (21, .invokestatic 157, 3), (24, .iconst 2, 1), (25, .invokevirtual 72, 3), (28, .ifCond .eq 7, 3), (31, .iconst 0, 1), (32, .goto 10, 3), (35, .aload_n 0, 1), (36, .iload_n 1, 1), (37, .iload_n 2, 1), (38, .iload_n 3, 1), (39, .invokevirtual 160, 3), (42, .ireturn, 1)]
theorem T_cX12_lies : tabOK cX12_lies T_cX12_liesL = true := by decide +kernel
def P_M_lies_42 (post : Int32 → Mem → Prop) (s0 : Int32) (M : Mem) : Prop :=
  post s0 M
theorem k_M_lies_42 {X : FX} {g : GT} {A : Nat → Prop} {Z : State → Prop} {post : Int32 → Mem → Prop} (C : Cx X g layM A cX12_lies 4 RX12 3) (hr : 0 ≤ X.2.2.2.1.cells ∧ 0 ≤ X.2.2.2.1.slots) (hR : RetI X g layM A cX12_lies 4 0 0 Z post) (s0 : Int32) (M : Mem) (h : P_M_lies_42 post s0 M) : AtX X g layM A 4 0 0 Z 42 [] [.int s0] M := by
  exact hR _ _ _ _ (tk T_cX12_lies 24 rfl) h
def P_M_lies_31 (post : Int32 → Mem → Prop) (M : Mem) : Prop :=
  P_M_lies_42 post (0 : Int32) M
theorem k_M_lies_31 {X : FX} {g : GT} {A : Nat → Prop} {Z : State → Prop} {post : Int32 → Mem → Prop} (C : Cx X g layM A cX12_lies 4 RX12 3) (hr : 0 ≤ X.2.2.2.1.cells ∧ 0 ≤ X.2.2.2.1.slots) (hR : RetI X g layM A cX12_lies 4 0 0 Z post)  (M : Mem) (h : P_M_lies_31 post M) : AtX X g layM A 4 0 0 Z 31 [] [] M := by
  refine a_iconst C (0 : Int32) (tk T_cX12_lies 17 rfl) kI_0 ?_
  refine a_goto C 42 (tk T_cX12_lies 18 rfl) rfl ?_
  exact a_to (k_M_lies_42 C hr hR (0 : Int32) M h) rfl
def P_M_lies (post : Int32 → Mem → Prop) (x1 x2 x3 : Int32) (M : Mem) : Prop :=
  ∀ M1, M1 = ms M 0 0 (0 : Int32) → P_M_noLine (fun r2 M2 =>
  P_M_throwsIf (fun r3 M3 =>
  (¬ r3 = 0 → (P_M_lies_31 post M3)) ∧
  (r3 = 0 → (P_M_noSpeed (fun r4 M4 =>
  P_M_throwsIf (fun r5 M5 =>
  (r5 = 0 → (P_M_shifted (fun r6 M6 =>
  P_M_lies_42 post r6 M6) x1 x2 x3 M5)) ∧
  (¬ r5 = 0 → (P_M_lies_31 post M5))) r4 (2 : Int32) M4) x3 M3))) r2 (1 : Int32) M2) x1 x2 M1
theorem k_M_lies {X : FX} {g : GT} {A : Nat → Prop} {Z : State → Prop} {post : Int32 → Mem → Prop} (C : Cx X g layM A cX12_lies 4 RX12 3) (hr : 0 ≤ X.2.2.2.1.cells ∧ 0 ≤ X.2.2.2.1.slots) (hR : RetI X g layM A cX12_lies 4 0 0 Z post) (x1 x2 x3 : Int32) (M : Mem) (h : P_M_lies post x1 x2 x3 M) : AtX X g layM A 4 0 0 Z 0 [(0, .ref (ad g 0)), (1, .int x1), (2, .int x2), (3, .int x3)] [] M := by
  refine a_aload_n C (tk T_cX12_lies 0 rfl) rfl ?_
  refine a_iconst C (0 : Int32) (tk T_cX12_lies 1 rfl) kI_0 ?_
  refine a_put C f_RX12_3 f_RX12_3p rfl rfl (tk T_cX12_lies 2 rfl) lm0 rfl ?_
  refine a_mem (fun M1 e_M1 => ?_)
  have h := h M1 e_M1
  refine a_aload_n C (tk T_cX12_lies 3 rfl) rfl ?_
  refine a_aload_n C (tk T_cX12_lies 4 rfl) rfl ?_
  refine a_iload_n C (tk T_cX12_lies 5 rfl) rfl ?_
  refine a_iload_n C (tk T_cX12_lies 6 rfl) rfl ?_
  refine a_callI C [.int x1, .int x2] me_yX12_noLine lk_RX12_154 (ct_M_noLine h) (by decide) lm0 rfl rfl rfl (Nat.le_of_ble_eq_true rfl) (tk T_cX12_lies 7 rfl) hr (fun r2 M2 h => ?_)
  refine a_iconst C (1 : Int32) (tk T_cX12_lies 8 rfl) kI_1 ?_
  refine a_callI C [.int r2, .int (1 : Int32)] me_yX12_throwsIf lk_RX12_72 (ct_M_throwsIf h) (by decide) lm0 rfl rfl rfl (Nat.le_of_ble_eq_true rfl) (tk T_cX12_lies 9 rfl) hr (fun r3 M3 h => ?_)
  refine a_if_ne C 31 (tk T_cX12_lies 10 rfl) rfl (fun c => ?_) (fun c => ?_)
  · have h := h.1 c
    exact a_to (k_M_lies_31 C hr hR M3 h) rfl
  · have h := h.2 c
    refine a_aload_n C (tk T_cX12_lies 11 rfl) rfl ?_
    refine a_iload_n C (tk T_cX12_lies 12 rfl) rfl ?_
    refine a_statI C [.int x3] me_yX12_noSpeed lk_RX12_157 (ct_M_noSpeed h) (by decide) rfl rfl (Nat.le_of_ble_eq_true rfl) (tk T_cX12_lies 13 rfl) hr (fun r4 M4 h => ?_)
    refine a_iconst C (2 : Int32) (tk T_cX12_lies 14 rfl) kI_2 ?_
    refine a_callI C [.int r4, .int (2 : Int32)] me_yX12_throwsIf lk_RX12_72 (ct_M_throwsIf h) (by decide) lm0 rfl rfl rfl (Nat.le_of_ble_eq_true rfl) (tk T_cX12_lies 15 rfl) hr (fun r5 M5 h => ?_)
    refine a_if_eq C 35 (tk T_cX12_lies 16 rfl) rfl (fun c => ?_) (fun c => ?_)
    · have h := h.1 c
      refine a_aload_n C (tk T_cX12_lies 19 rfl) rfl ?_
      refine a_iload_n C (tk T_cX12_lies 20 rfl) rfl ?_
      refine a_iload_n C (tk T_cX12_lies 21 rfl) rfl ?_
      refine a_iload_n C (tk T_cX12_lies 22 rfl) rfl ?_
      refine a_callI C [.int x1, .int x2, .int x3] me_yX12_shifted lk_RX12_160 (ct_M_shifted h) (by decide) lm0 rfl rfl rfl (Nat.le_of_ble_eq_true rfl) (tk T_cX12_lies 23 rfl) hr (fun r6 M6 h => ?_)
      exact a_to (k_M_lies_42 C hr hR r6 M6 h) rfl
    · have h := h.2 c
      exact a_to (k_M_lies_31 C hr hR M5 h) rfl
theorem ct_M_lies {l : Launch} {g : GT} {post : Int32 → Mem → Prop} {x1 x2 x3 : Int32} {M : Mem} (h : P_M_lies post x1 x2 x3 M) : CI l g layM yX12_lies cX12_lies 4 (some .int) 3 [.ref (ad g 0), .int x1, .int x2, .int x3] M post :=
  ci_of (plainFor_of_name (by decide +kernel)) (Nat.le_of_ble_eq_true rfl) (fun X A Z hl C hr hR => by subst hl; exact k_M_lies C hr hR x1 x2 x3 M h)
def T_cX12_mustBeL : List (Nat × Instr × Nat) := [(0, .aload_n 0, 1), (1, .iload_n 1, 1), (2, .iload_n 2, 1), (3, .iload_n 3, 1), (4, .invokevirtual 160, 3), (7, .iload 6, 2), (9, .iload 7, 2), (11, .invokestatic 58, 3), (14, .ifCond .eq 24, 3), (17, .aload_n 0, 1), (18, .iload_n 1, 1), (19, .iload_n 2, 1), (20, .invokevirtual 164, 3), (23, .iload 4, 2), (25, .imul, 1), (26, .iload 5, 2), (28, .imul, 1), (29, .bipush 30, 2), (31, .if_icmp .lt 7, 3), (34, .iconst 1, 1), (35, .goto 4, 3), (38, .iconst 0, 1), (39, .ireturn, 1)]
theorem T_cX12_mustBe : tabOK cX12_mustBe T_cX12_mustBeL = true := by decide +kernel
def P_M_mustBe_39 (post : Int32 → Mem → Prop) (s0 : Int32) (M : Mem) : Prop :=
  (s0 = 0 ∨ s0 = 1) ∧ post s0 M
theorem k_M_mustBe_39 {X : FX} {g : GT} {A : Nat → Prop} {Z : State → Prop} {post : Int32 → Mem → Prop} (C : Cx X g layM A cX12_mustBe 8 RX12 2) (hr : 0 ≤ X.2.2.2.1.cells ∧ 0 ≤ X.2.2.2.1.slots) (hR : RetZ X g layM A cX12_mustBe 8 0 0 Z post) (s0 : Int32) (M : Mem) (h : P_M_mustBe_39 post s0 M) : AtX X g layM A 8 0 0 Z 39 [] [.int s0] M := by
  exact hR _ _ _ _ (tk T_cX12_mustBe 22 rfl) h
def P_M_mustBe_38 (post : Int32 → Mem → Prop) (M : Mem) : Prop :=
  P_M_mustBe_39 post (0 : Int32) M
theorem k_M_mustBe_38 {X : FX} {g : GT} {A : Nat → Prop} {Z : State → Prop} {post : Int32 → Mem → Prop} (C : Cx X g layM A cX12_mustBe 8 RX12 2) (hr : 0 ≤ X.2.2.2.1.cells ∧ 0 ≤ X.2.2.2.1.slots) (hR : RetZ X g layM A cX12_mustBe 8 0 0 Z post)  (M : Mem) (h : P_M_mustBe_38 post M) : AtX X g layM A 8 0 0 Z 38 [] [] M := by
  refine a_iconst C (0 : Int32) (tk T_cX12_mustBe 21 rfl) kI_0 ?_
  exact a_to (k_M_mustBe_39 C hr hR (0 : Int32) M h) rfl
def P_M_mustBe (post : Int32 → Mem → Prop) (x1 x2 x3 x4 x5 x6 x7 : Int32) (M : Mem) : Prop :=
  P_M_shifted (fun r1 M1 =>
  P_M_in (fun r2 M2 =>
  (r2 = 0 → (P_M_mustBe_38 post M2)) ∧
  (¬ r2 = 0 → (P_M_strengthOf (fun r3 M3 =>
  (((r3 * x4) * x5) < (30 : Int32) → (P_M_mustBe_38 post M3)) ∧
  (¬ ((r3 * x4) * x5) < (30 : Int32) → (P_M_mustBe_39 post (1 : Int32) M3))) x1 x2 M2))) r1 x6 x7 M1) x1 x2 x3 M
theorem k_M_mustBe {X : FX} {g : GT} {A : Nat → Prop} {Z : State → Prop} {post : Int32 → Mem → Prop} (C : Cx X g layM A cX12_mustBe 8 RX12 2) (hr : 0 ≤ X.2.2.2.1.cells ∧ 0 ≤ X.2.2.2.1.slots) (hR : RetZ X g layM A cX12_mustBe 8 0 0 Z post) (x1 x2 x3 x4 x5 x6 x7 : Int32) (M : Mem) (h : P_M_mustBe post x1 x2 x3 x4 x5 x6 x7 M) : AtX X g layM A 8 0 0 Z 0 [(0, .ref (ad g 0)), (1, .int x1), (2, .int x2), (3, .int x3), (4, .int x4), (5, .int x5), (6, .int x6), (7, .int x7)] [] M := by
  refine a_aload_n C (tk T_cX12_mustBe 0 rfl) rfl ?_
  refine a_iload_n C (tk T_cX12_mustBe 1 rfl) rfl ?_
  refine a_iload_n C (tk T_cX12_mustBe 2 rfl) rfl ?_
  refine a_iload_n C (tk T_cX12_mustBe 3 rfl) rfl ?_
  refine a_callI C [.int x1, .int x2, .int x3] me_yX12_shifted lk_RX12_160 (ct_M_shifted h) (by decide) lm0 rfl rfl rfl (Nat.le_of_ble_eq_true rfl) (tk T_cX12_mustBe 4 rfl) hr (fun r1 M1 h => ?_)
  refine a_iload C (tk T_cX12_mustBe 5 rfl) rfl ?_
  refine a_iload C (tk T_cX12_mustBe 6 rfl) rfl ?_
  refine a_statI C [.int r1, .int x6, .int x7] me_yX12_in lk_RX12_58 (ct_M_in h) (by decide) rfl rfl (Nat.le_of_ble_eq_true rfl) (tk T_cX12_mustBe 7 rfl) hr (fun r2 M2 h => ?_)
  refine a_if_eq C 38 (tk T_cX12_mustBe 8 rfl) rfl (fun c => ?_) (fun c => ?_)
  · have h := h.1 c
    exact a_to (k_M_mustBe_38 C hr hR M2 h) rfl
  · have h := h.2 c
    refine a_aload_n C (tk T_cX12_mustBe 9 rfl) rfl ?_
    refine a_iload_n C (tk T_cX12_mustBe 10 rfl) rfl ?_
    refine a_iload_n C (tk T_cX12_mustBe 11 rfl) rfl ?_
    refine a_callI C [.int x1, .int x2] me_yX12_strengthOf lk_RX12_164 (ct_M_strengthOf h) (by decide) lm0 rfl rfl rfl (Nat.le_of_ble_eq_true rfl) (tk T_cX12_mustBe 12 rfl) hr (fun r3 M3 h => ?_)
    refine a_iload C (tk T_cX12_mustBe 13 rfl) rfl ?_
    refine a_imul C (tk T_cX12_mustBe 14 rfl) ?_
    refine a_iload C (tk T_cX12_mustBe 15 rfl) rfl ?_
    refine a_imul C (tk T_cX12_mustBe 16 rfl) ?_
    refine a_bipush C (30 : Int32) (tk T_cX12_mustBe 17 rfl) kB_30 ?_
    refine a_icmp_lt C 38 (tk T_cX12_mustBe 18 rfl) rfl (fun c => ?_) (fun c => ?_)
    · have h := h.1 c
      exact a_to (k_M_mustBe_38 C hr hR M3 h) rfl
    · have h := h.2 c
      refine a_iconst C (1 : Int32) (tk T_cX12_mustBe 19 rfl) kI_1 ?_
      refine a_goto C 39 (tk T_cX12_mustBe 20 rfl) rfl ?_
      exact a_to (k_M_mustBe_39 C hr hR (1 : Int32) M3 h) rfl
theorem ct_M_mustBe {l : Launch} {g : GT} {post : Int32 → Mem → Prop} {x1 x2 x3 x4 x5 x6 x7 : Int32} {M : Mem} (h : P_M_mustBe post x1 x2 x3 x4 x5 x6 x7 M) : CI l g layM yX12_mustBe cX12_mustBe 8 (some .boolean) 2 [.ref (ad g 0), .int x1, .int x2, .int x3, .int x4, .int x5, .int x6, .int x7] M post :=
  cz_of (plainFor_of_name (by decide +kernel)) (Nat.le_of_ble_eq_true rfl) (fun X A Z hl C hr hR => by subst hl; exact k_M_mustBe C hr hR x1 x2 x3 x4 x5 x6 x7 M h)
def T_cX12_mustOnL : List (Nat × Instr × Nat) := [(0, .aload_n 0, 1), (1, .iload_n 2, 1), (2, .iload_n 3, 1), (3, .iload 4, 2), (5, .aload_n 0, 1), (6, .iload_n 1, 1), (7, .iconst 0, 1), (8, .invokevirtual 135, 3), (11, .aload_n 0, 1), (12, .iload_n 1, 1), (13, .iconst 1, 1), (14, .invokevirtual 135, 3), (17, .aload_n 0, 1), (18, .iload_n 1, 1), (19, .iconst 2, 1), (20, .invokevirtual 135, 3), (23, .aload_n 0, 1), (24, .iload_n 1, 1), (25, .iconst 3, 1), (26, .invokevirtual 135, 3), (29, .invokevirtual 167, 3), (32, .ireturn, 1)]
theorem T_cX12_mustOn : tabOK cX12_mustOn T_cX12_mustOnL = true := by decide +kernel
def P_M_mustOn (post : Int32 → Mem → Prop) (x1 x2 x3 x4 : Int32) (M : Mem) : Prop :=
  P_M_ofPlate (fun r1 M1 =>
  P_M_ofPlate (fun r2 M2 =>
  P_M_ofPlate (fun r3 M3 =>
  P_M_ofPlate (fun r4 M4 =>
  P_M_mustBe (fun r5 M5 =>
  (r5 = 0 ∨ r5 = 1) ∧ post r5 M5) x2 x3 x4 r1 r2 r3 r4 M4) x1 (3 : Int32) M3) x1 (2 : Int32) M2) x1 (1 : Int32) M1) x1 (0 : Int32) M
theorem k_M_mustOn {X : FX} {g : GT} {A : Nat → Prop} {Z : State → Prop} {post : Int32 → Mem → Prop} (C : Cx X g layM A cX12_mustOn 5 RX12 3) (hr : 0 ≤ X.2.2.2.1.cells ∧ 0 ≤ X.2.2.2.1.slots) (hR : RetZ X g layM A cX12_mustOn 5 0 0 Z post) (x1 x2 x3 x4 : Int32) (M : Mem) (h : P_M_mustOn post x1 x2 x3 x4 M) : AtX X g layM A 5 0 0 Z 0 [(0, .ref (ad g 0)), (1, .int x1), (2, .int x2), (3, .int x3), (4, .int x4)] [] M := by
  refine a_aload_n C (tk T_cX12_mustOn 0 rfl) rfl ?_
  refine a_iload_n C (tk T_cX12_mustOn 1 rfl) rfl ?_
  refine a_iload_n C (tk T_cX12_mustOn 2 rfl) rfl ?_
  refine a_iload C (tk T_cX12_mustOn 3 rfl) rfl ?_
  refine a_aload_n C (tk T_cX12_mustOn 4 rfl) rfl ?_
  refine a_iload_n C (tk T_cX12_mustOn 5 rfl) rfl ?_
  refine a_iconst C (0 : Int32) (tk T_cX12_mustOn 6 rfl) kI_0 ?_
  refine a_callI C [.int x1, .int (0 : Int32)] me_yX12_ofPlate lk_RX12_135 (ct_M_ofPlate h) (by decide) lm0 rfl rfl rfl (Nat.le_of_ble_eq_true rfl) (tk T_cX12_mustOn 7 rfl) hr (fun r1 M1 h => ?_)
  refine a_aload_n C (tk T_cX12_mustOn 8 rfl) rfl ?_
  refine a_iload_n C (tk T_cX12_mustOn 9 rfl) rfl ?_
  refine a_iconst C (1 : Int32) (tk T_cX12_mustOn 10 rfl) kI_1 ?_
  refine a_callI C [.int x1, .int (1 : Int32)] me_yX12_ofPlate lk_RX12_135 (ct_M_ofPlate h) (by decide) lm0 rfl rfl rfl (Nat.le_of_ble_eq_true rfl) (tk T_cX12_mustOn 11 rfl) hr (fun r2 M2 h => ?_)
  refine a_aload_n C (tk T_cX12_mustOn 12 rfl) rfl ?_
  refine a_iload_n C (tk T_cX12_mustOn 13 rfl) rfl ?_
  refine a_iconst C (2 : Int32) (tk T_cX12_mustOn 14 rfl) kI_2 ?_
  refine a_callI C [.int x1, .int (2 : Int32)] me_yX12_ofPlate lk_RX12_135 (ct_M_ofPlate h) (by decide) lm0 rfl rfl rfl (Nat.le_of_ble_eq_true rfl) (tk T_cX12_mustOn 15 rfl) hr (fun r3 M3 h => ?_)
  refine a_aload_n C (tk T_cX12_mustOn 16 rfl) rfl ?_
  refine a_iload_n C (tk T_cX12_mustOn 17 rfl) rfl ?_
  refine a_iconst C (3 : Int32) (tk T_cX12_mustOn 18 rfl) kI_3 ?_
  refine a_callI C [.int x1, .int (3 : Int32)] me_yX12_ofPlate lk_RX12_135 (ct_M_ofPlate h) (by decide) lm0 rfl rfl rfl (Nat.le_of_ble_eq_true rfl) (tk T_cX12_mustOn 19 rfl) hr (fun r4 M4 h => ?_)
  refine a_callI C [.int x2, .int x3, .int x4, .int r1, .int r2, .int r3, .int r4] me_yX12_mustBe lk_RX12_167 (ct_M_mustBe h) (by decide) lm0 rfl rfl rfl (Nat.le_of_ble_eq_true rfl) (tk T_cX12_mustOn 20 rfl) hr (fun r5 M5 h => ?_)
  exact hR _ _ _ _ (tk T_cX12_mustOn 21 rfl) h
theorem ct_M_mustOn {l : Launch} {g : GT} {post : Int32 → Mem → Prop} {x1 x2 x3 x4 : Int32} {M : Mem} (h : P_M_mustOn post x1 x2 x3 x4 M) : CI l g layM yX12_mustOn cX12_mustOn 5 (some .boolean) 3 [.ref (ad g 0), .int x1, .int x2, .int x3, .int x4] M post :=
  cz_of (plainFor_of_name (by decide +kernel)) (Nat.le_of_ble_eq_true rfl) (fun X A Z hl C hr hR => by subst hl; exact k_M_mustOn C hr hR x1 x2 x3 x4 M h)
def T_cX12_mustL : List (Nat × Instr × Nat) := [(0, .aload_n 0, 1), (1, .iconst 0, 1), (2, .putfield 3, 3), (5, .aload_n 0, 1), (6, .aload_n 0, 1), (7, .iload_n 1, 1), (8, .bipush 8, 2), (10, .invokevirtual 121, 3), (13, .ifCond .ne 12, 3), (16, .aload_n 0, 1), (17, .iload_n 2, 1), (18, .iload_n 3, 1), (19, .invokevirtual 154, 3), (22, .ifCond .eq 7, 3), (25, .iconst 1, 1), (26, .goto 4, 3), (29, .iconst 0, 1), (30, .iconst 1, 1), (31, .invokevirtual 72, 3), (34, .ifCond .ne 18, 3), (37, .aload_n 0, 1), (38, .iload_n 1, 1), (39, .iload_n 2, 1), (40, .iload_n 3, 1), (41, .iconst 0, 1), (42, .invokevirtual 171, 3), (45, .ifCond .eq 7, 3), (48, .iconst 1, 1), (49, .goto 4, 3), (52, .iconst 0, 1), (53, .ireturn, 1)]
theorem T_cX12_must : tabOK cX12_must T_cX12_mustL = true := by decide +kernel
def P_M_must_53 (post : Int32 → Mem → Prop) (s0 : Int32) (M : Mem) : Prop :=
  (s0 = 0 ∨ s0 = 1) ∧ post s0 M
theorem k_M_must_53 {X : FX} {g : GT} {A : Nat → Prop} {Z : State → Prop} {post : Int32 → Mem → Prop} (C : Cx X g layM A cX12_must 4 RX12 4) (hr : 0 ≤ X.2.2.2.1.cells ∧ 0 ≤ X.2.2.2.1.slots) (hR : RetZ X g layM A cX12_must 4 0 0 Z post) (s0 : Int32) (M : Mem) (h : P_M_must_53 post s0 M) : AtX X g layM A 4 0 0 Z 53 [] [.int s0] M := by
  exact hR _ _ _ _ (tk T_cX12_must 30 rfl) h
def P_M_must_52 (post : Int32 → Mem → Prop) (M : Mem) : Prop :=
  P_M_must_53 post (0 : Int32) M
theorem k_M_must_52 {X : FX} {g : GT} {A : Nat → Prop} {Z : State → Prop} {post : Int32 → Mem → Prop} (C : Cx X g layM A cX12_must 4 RX12 4) (hr : 0 ≤ X.2.2.2.1.cells ∧ 0 ≤ X.2.2.2.1.slots) (hR : RetZ X g layM A cX12_must 4 0 0 Z post)  (M : Mem) (h : P_M_must_52 post M) : AtX X g layM A 4 0 0 Z 52 [] [] M := by
  refine a_iconst C (0 : Int32) (tk T_cX12_must 29 rfl) kI_0 ?_
  exact a_to (k_M_must_53 C hr hR (0 : Int32) M h) rfl
def P_M_must_30 (post : Int32 → Mem → Prop) (x1 x2 x3 s1 : Int32) (M : Mem) : Prop :=
  P_M_throwsIf (fun r1 M1 =>
  (¬ r1 = 0 → (P_M_must_52 post M1)) ∧
  (r1 = 0 → (P_M_mustOn (fun r2 M2 =>
  (r2 = 0 → (P_M_must_52 post M2)) ∧
  (¬ r2 = 0 → (P_M_must_53 post (1 : Int32) M2))) x1 x2 x3 (0 : Int32) M1))) s1 (1 : Int32) M
theorem k_M_must_30 {X : FX} {g : GT} {A : Nat → Prop} {Z : State → Prop} {post : Int32 → Mem → Prop} (C : Cx X g layM A cX12_must 4 RX12 4) (hr : 0 ≤ X.2.2.2.1.cells ∧ 0 ≤ X.2.2.2.1.slots) (hR : RetZ X g layM A cX12_must 4 0 0 Z post) (x1 x2 x3 s1 : Int32) (M : Mem) (h : P_M_must_30 post x1 x2 x3 s1 M) : AtX X g layM A 4 0 0 Z 30 [(0, .ref (ad g 0)), (1, .int x1), (2, .int x2), (3, .int x3)] [.int s1, .ref (ad g 0)] M := by
  refine a_iconst C (1 : Int32) (tk T_cX12_must 17 rfl) kI_1 ?_
  refine a_callI C [.int s1, .int (1 : Int32)] me_yX12_throwsIf lk_RX12_72 (ct_M_throwsIf h) (by decide) lm0 rfl rfl rfl (Nat.le_of_ble_eq_true rfl) (tk T_cX12_must 18 rfl) hr (fun r1 M1 h => ?_)
  refine a_if_ne C 52 (tk T_cX12_must 19 rfl) rfl (fun c => ?_) (fun c => ?_)
  · have h := h.1 c
    exact a_to (k_M_must_52 C hr hR M1 h) rfl
  · have h := h.2 c
    refine a_aload_n C (tk T_cX12_must 20 rfl) rfl ?_
    refine a_iload_n C (tk T_cX12_must 21 rfl) rfl ?_
    refine a_iload_n C (tk T_cX12_must 22 rfl) rfl ?_
    refine a_iload_n C (tk T_cX12_must 23 rfl) rfl ?_
    refine a_iconst C (0 : Int32) (tk T_cX12_must 24 rfl) kI_0 ?_
    refine a_callI C [.int x1, .int x2, .int x3, .int (0 : Int32)] me_yX12_mustOn lk_RX12_171 (ct_M_mustOn h) (by decide) lm0 rfl rfl rfl (Nat.le_of_ble_eq_true rfl) (tk T_cX12_must 25 rfl) hr (fun r2 M2 h => ?_)
    refine a_if_eq C 52 (tk T_cX12_must 26 rfl) rfl (fun c => ?_) (fun c => ?_)
    · have h := h.1 c
      exact a_to (k_M_must_52 C hr hR M2 h) rfl
    · have h := h.2 c
      refine a_iconst C (1 : Int32) (tk T_cX12_must 27 rfl) kI_1 ?_
      refine a_goto C 53 (tk T_cX12_must 28 rfl) rfl ?_
      exact a_to (k_M_must_53 C hr hR (1 : Int32) M2 h) rfl
def P_M_must_25 (post : Int32 → Mem → Prop) (x1 x2 x3 : Int32) (M : Mem) : Prop :=
  P_M_must_30 post x1 x2 x3 (1 : Int32) M
theorem k_M_must_25 {X : FX} {g : GT} {A : Nat → Prop} {Z : State → Prop} {post : Int32 → Mem → Prop} (C : Cx X g layM A cX12_must 4 RX12 4) (hr : 0 ≤ X.2.2.2.1.cells ∧ 0 ≤ X.2.2.2.1.slots) (hR : RetZ X g layM A cX12_must 4 0 0 Z post) (x1 x2 x3 : Int32) (M : Mem) (h : P_M_must_25 post x1 x2 x3 M) : AtX X g layM A 4 0 0 Z 25 [(0, .ref (ad g 0)), (1, .int x1), (2, .int x2), (3, .int x3)] [.ref (ad g 0)] M := by
  refine a_iconst C (1 : Int32) (tk T_cX12_must 14 rfl) kI_1 ?_
  refine a_goto C 30 (tk T_cX12_must 15 rfl) rfl ?_
  exact a_to (k_M_must_30 C hr hR x1 x2 x3 (1 : Int32) M h) rfl
def P_M_must (post : Int32 → Mem → Prop) (x1 x2 x3 : Int32) (M : Mem) : Prop :=
  ∀ M1, M1 = ms M 0 0 (0 : Int32) → P_M_none (fun r2 M2 =>
  (¬ r2 = 0 → (P_M_must_25 post x1 x2 x3 M2)) ∧
  (r2 = 0 → (P_M_noLine (fun r3 M3 =>
  (r3 = 0 → (P_M_must_30 post x1 x2 x3 (0 : Int32) M3)) ∧
  (¬ r3 = 0 → (P_M_must_25 post x1 x2 x3 M3))) x2 x3 M2))) x1 (8 : Int32) M1
theorem k_M_must {X : FX} {g : GT} {A : Nat → Prop} {Z : State → Prop} {post : Int32 → Mem → Prop} (C : Cx X g layM A cX12_must 4 RX12 4) (hr : 0 ≤ X.2.2.2.1.cells ∧ 0 ≤ X.2.2.2.1.slots) (hR : RetZ X g layM A cX12_must 4 0 0 Z post) (x1 x2 x3 : Int32) (M : Mem) (h : P_M_must post x1 x2 x3 M) : AtX X g layM A 4 0 0 Z 0 [(0, .ref (ad g 0)), (1, .int x1), (2, .int x2), (3, .int x3)] [] M := by
  refine a_aload_n C (tk T_cX12_must 0 rfl) rfl ?_
  refine a_iconst C (0 : Int32) (tk T_cX12_must 1 rfl) kI_0 ?_
  refine a_put C f_RX12_3 f_RX12_3p rfl rfl (tk T_cX12_must 2 rfl) lm0 rfl ?_
  refine a_mem (fun M1 e_M1 => ?_)
  have h := h M1 e_M1
  refine a_aload_n C (tk T_cX12_must 3 rfl) rfl ?_
  refine a_aload_n C (tk T_cX12_must 4 rfl) rfl ?_
  refine a_iload_n C (tk T_cX12_must 5 rfl) rfl ?_
  refine a_bipush C (8 : Int32) (tk T_cX12_must 6 rfl) kB_8 ?_
  refine a_callI C [.int x1, .int (8 : Int32)] me_yX12_none lk_RX12_121 (ct_M_none h) (by decide) lm0 rfl rfl rfl (Nat.le_of_ble_eq_true rfl) (tk T_cX12_must 7 rfl) hr (fun r2 M2 h => ?_)
  refine a_if_ne C 25 (tk T_cX12_must 8 rfl) rfl (fun c => ?_) (fun c => ?_)
  · have h := h.1 c
    exact a_to (k_M_must_25 C hr hR x1 x2 x3 M2 h) rfl
  · have h := h.2 c
    refine a_aload_n C (tk T_cX12_must 9 rfl) rfl ?_
    refine a_iload_n C (tk T_cX12_must 10 rfl) rfl ?_
    refine a_iload_n C (tk T_cX12_must 11 rfl) rfl ?_
    refine a_callI C [.int x2, .int x3] me_yX12_noLine lk_RX12_154 (ct_M_noLine h) (by decide) lm0 rfl rfl rfl (Nat.le_of_ble_eq_true rfl) (tk T_cX12_must 12 rfl) hr (fun r3 M3 h => ?_)
    refine a_if_eq C 29 (tk T_cX12_must 13 rfl) rfl (fun c => ?_) (fun c => ?_)
    · have h := h.1 c
      refine a_iconst C (0 : Int32) (tk T_cX12_must 16 rfl) kI_0 ?_
      exact a_to (k_M_must_30 C hr hR x1 x2 x3 (0 : Int32) M3 h) rfl
    · have h := h.2 c
      exact a_to (k_M_must_25 C hr hR x1 x2 x3 M3 h) rfl
theorem ct_M_must {l : Launch} {g : GT} {post : Int32 → Mem → Prop} {x1 x2 x3 : Int32} {M : Mem} (h : P_M_must post x1 x2 x3 M) : CI l g layM yX12_must cX12_must 4 (some .boolean) 4 [.ref (ad g 0), .int x1, .int x2, .int x3] M post :=
  cz_of (plainFor_of_name (by decide +kernel)) (Nat.le_of_ble_eq_true rfl) (fun X A Z hl C hr hR => by subst hl; exact k_M_must C hr hR x1 x2 x3 M h)
