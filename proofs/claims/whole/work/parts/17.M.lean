def T_cX12_readCondL : List (Nat × Instr × Nat) := [(0, .aload_n 0, 1), (1, .invokevirtual 360, 3), (4, .ifCond .ne 5, 3), (7, .iconst 0, 1), (8, .ireturn, 1), (9, .aload_n 0, 1), (10, .ldc_w 363, 3), (13, .invokevirtual 345, 3), (16, .ifCond .eq 22, 3), (19, .aload_n 0, 1), (20, .invokevirtual 360, 3), (23, .ifCond .ne 5, 3), (26, .iconst 0, 1), (27, .ireturn, 1), (28, .aload_n 0, 1), (29, .bipush 13, 2), (31, .iconst 0, 1), (32, .invokevirtual 315, 3), (35, .goto (-26), 3), (38, .iconst 1, 1), (39, .ireturn, 1)]
theorem T_cX12_readCond : tabOK cX12_readCond T_cX12_readCondL = true := by decide +kernel
def P_M_readCond_9 (RA : (Int32 → Mem → Prop) → Mem → Prop) (post : Int32 → Mem → Prop) : Nat → Mem → Prop
  | 0, _ => False
  | n + 1, M =>
    P_M_passes_w0 (fun r1 M1 =>
  (r1 = 0 → (post (1 : Int32) M1)) ∧
  (¬ r1 = 0 → (P_M_readAllOf RA (fun r2 M2 =>
  (¬ r2 = 0 → (P_M_emits (fun M3 =>
  P_M_readCond_9 RA post n M3) (13 : Int32) (0 : Int32) M2)) ∧
  (r2 = 0 → (post (0 : Int32) M2))) M1))) M
theorem k_M_readCond_9 {X : FX} {g : GT} {A : Nat → Prop} {Z : State → Prop} {post : Int32 → Mem → Prop} {sk : Nat → Nat} {hA : Nat} (hc : 20 ≤ hA) {RA : (Int32 → Mem → Prop) → Mem → Prop} (hRA : ∀ (post : Int32 → Mem → Prop) (M : Mem), RA post M → SI X.2.1 g layM sk yX12_readAtom cX12_readAtom 2 (some .boolean) hA [.ref (ad g 0)] M post) (C : CxX X g layM A cX12_readCond 1 RX12 (hA + 2) 0 sk) (hr : 0 ≤ X.2.2.2.1.cells ∧ 0 ≤ X.2.2.2.1.slots) (hR : RetZ X g layM A cX12_readCond 1 0 0 Z post) : ∀ (n : Nat) (M : Mem), P_M_readCond_9 RA post n M → AtX X g layM A 1 0 0 Z 9 [(0, .ref (ad g 0))] [] M := by
  intro n
  induction n with
  | zero =>
    intro M h
    exact h.elim
  | succ n ih =>
    intro M h
    refine a_aload_n C.1 (tk T_cX12_readCond 5 rfl) rfl ?_
    refine s_ldc_w C (C.2.1.2.2.2.2.2.2.2.2.2.2.2.2 0 (by decide)) (tk T_cX12_readCond 6 rfl) ?_
    refine s_callI C [.ref (sk (30 + 0))] me_yX12_passes lk_RX12_345 (ct_M_passes_w0 h) (by omega) lm0 rfl rfl rfl (Nat.le_of_ble_eq_true rfl) (tk T_cX12_readCond 7 rfl) hr (fun r1 M1 h => ?_)
    refine a_if_eq C.1 38 (tk T_cX12_readCond 8 rfl) rfl (fun c => ?_) (fun c => ?_)
    · have h := h.1 c
      refine a_iconst C.1 (1 : Int32) (tk T_cX12_readCond 19 rfl) kI_1 ?_
      exact hR _ _ _ _ (tk T_cX12_readCond 20 rfl) ⟨Or.inr rfl, h⟩
    · have h := h.2 c
      refine a_aload_n C.1 (tk T_cX12_readCond 9 rfl) rfl ?_
      refine s_callI C [] me_yX12_readAllOf lk_RX12_360 (ct_M_readAllOf hc hRA h) (by omega) lm0 rfl rfl rfl (Nat.le_of_ble_eq_true rfl) (tk T_cX12_readCond 10 rfl) hr (fun r2 M2 h => ?_)
      refine a_if_ne C.1 28 (tk T_cX12_readCond 11 rfl) rfl (fun c => ?_) (fun c => ?_)
      · have h := h.1 c
        refine a_aload_n C.1 (tk T_cX12_readCond 14 rfl) rfl ?_
        refine a_bipush C.1 (13 : Int32) (tk T_cX12_readCond 15 rfl) kB_13 ?_
        refine a_iconst C.1 (0 : Int32) (tk T_cX12_readCond 16 rfl) kI_0 ?_
        refine a_callV C.1 [.int (13 : Int32), .int (0 : Int32)] me_yX12_emits lk_RX12_315 (ct_M_emits h) (by omega) lm0 rfl rfl rfl (Nat.le_of_ble_eq_true rfl) (tk T_cX12_readCond 17 rfl) hr (fun M3 h => ?_)
        refine a_goto C.1 9 (tk T_cX12_readCond 18 rfl) rfl ?_
        exact a_to (ih M3 h) rfl
      · have h := h.2 c
        refine a_iconst C.1 (0 : Int32) (tk T_cX12_readCond 12 rfl) kI_0 ?_
        exact hR _ _ _ _ (tk T_cX12_readCond 13 rfl) ⟨Or.inl rfl, h⟩
def P_M_readCond (RA : (Int32 → Mem → Prop) → Mem → Prop) (post : Int32 → Mem → Prop) (M : Mem) : Prop :=
  P_M_readAllOf RA (fun r1 M1 =>
  (¬ r1 = 0 → (∃ j9, P_M_readCond_9 RA post j9 M1)) ∧
  (r1 = 0 → (post (0 : Int32) M1))) M
theorem k_M_readCond {X : FX} {g : GT} {A : Nat → Prop} {Z : State → Prop} {post : Int32 → Mem → Prop} {sk : Nat → Nat} {hA : Nat} (hc : 20 ≤ hA) {RA : (Int32 → Mem → Prop) → Mem → Prop} (hRA : ∀ (post : Int32 → Mem → Prop) (M : Mem), RA post M → SI X.2.1 g layM sk yX12_readAtom cX12_readAtom 2 (some .boolean) hA [.ref (ad g 0)] M post) (C : CxX X g layM A cX12_readCond 1 RX12 (hA + 2) 0 sk) (hr : 0 ≤ X.2.2.2.1.cells ∧ 0 ≤ X.2.2.2.1.slots) (hR : RetZ X g layM A cX12_readCond 1 0 0 Z post) (M : Mem) (h : P_M_readCond RA post M) : AtX X g layM A 1 0 0 Z 0 [(0, .ref (ad g 0))] [] M := by
  refine a_aload_n C.1 (tk T_cX12_readCond 0 rfl) rfl ?_
  refine s_callI C [] me_yX12_readAllOf lk_RX12_360 (ct_M_readAllOf hc hRA h) (by omega) lm0 rfl rfl rfl (Nat.le_of_ble_eq_true rfl) (tk T_cX12_readCond 1 rfl) hr (fun r1 M1 h => ?_)
  refine a_if_ne C.1 9 (tk T_cX12_readCond 2 rfl) rfl (fun c => ?_) (fun c => ?_)
  · have h := h.1 c
    obtain ⟨n1, h⟩ := h
    exact a_to (k_M_readCond_9 hc hRA C hr hR n1 M1 h) rfl
  · have h := h.2 c
    refine a_iconst C.1 (0 : Int32) (tk T_cX12_readCond 3 rfl) kI_0 ?_
    exact hR _ _ _ _ (tk T_cX12_readCond 4 rfl) ⟨Or.inl rfl, h⟩
theorem ct_M_readCond {l : Launch} {g : GT} {sk : Nat → Nat} {post : Int32 → Mem → Prop} {hA : Nat} (hc : 20 ≤ hA) {RA : (Int32 → Mem → Prop) → Mem → Prop} (hRA : ∀ (post : Int32 → Mem → Prop) (M : Mem), RA post M → SI l g layM sk yX12_readAtom cX12_readAtom 2 (some .boolean) hA [.ref (ad g 0)] M post) {M : Mem} (h : P_M_readCond RA post M) : SI l g layM sk yX12_readCond cX12_readCond 1 (some .boolean) (hA + 2) [.ref (ad g 0)] M post :=
  st_of (plainFor_of_name (by decide +kernel)) (Nat.le_of_ble_eq_true rfl) (fun X A Z hl C hr hR => by subst hl; exact k_M_readCond hc hRA C hr (fun v M pc lv hd hp => hR v M pc lv hd (nar_z hp.1) hp.2)  M h)
def T_cX12_readAtomL : List (Nat × Instr × Nat) := [(0, .aload_n 0, 1), (1, .bipush 40, 2), (3, .invokevirtual 337, 3), (6, .ifCond .eq 50, 3), (9, .aload_n 0, 1), (10, .getfield 284, 3), (13, .bipush 6, 2), (15, .if_icmp .ne 5, 3), (18, .iconst 0, 1), (19, .ireturn, 1), (20, .aload_n 0, 1), (21, .dup, 1), (22, .getfield 284, 3), (25, .iconst 1, 1), (26, .iadd, 1), (27, .putfield 284, 3), (30, .aload_n 0, 1), (31, .invokevirtual 340, 3), (34, .ifCond .ne 5, 3), (37, .iconst 0, 1), (38, .ireturn, 1), (39, .aload_n 0, 1), (40, .dup, 1), (41, .getfield 284, 3), (44, .iconst 1, 1), (45, .isub, 1), (46, .putfield 284, 3), (49, .aload_n 0, 1), (50, .bipush 41, 2), (52, .invokevirtual 337, 3), (55, .ireturn, 1), (56, .aload_n 0, 1), (57, .ldc_w 343, 3), (60, .invokevirtual 345, 3), (63, .ifCond .eq 52, 3), (66, .aload_n 0, 1), (67, .getfield 284, 3), (70, .bipush 6, 2), (72, .if_icmp .ne 5, 3), (75, .iconst 0, 1), (76, .ireturn, 1), (77, .aload_n 0, 1), (78, .dup, 1), (79, .getfield 284, 3), (82, .iconst 1, 1), (83, .iadd, 1), (84, .putfield 284, 3), (87, .aload_n 0, 1), (88, .invokevirtual 348, 3), (91, .ifCond .ne 5, 3), (94, .iconst 0, 1), (95, .ireturn, 1), (96, .aload_n 0, 1), (97, .dup, 1), (98, .getfield 284, 3), (101, .iconst 1, 1), (102, .isub, 1), (103, .putfield 284, 3), (106, .aload_n 0, 1), (107, .bipush 11, 2), (109, .iconst 0, 1), (110, .invokevirtual 315, 3), (113, .iconst 1, 1), (114, .ireturn, 1), (115, .aload_n 0, 1), (116, .ldc_w 351, 3), (119, .invokevirtual 345, 3), (122, .ifCond .eq 14, 3), (125, .aload_n 0, 1), (126, .iconst 5, 1), (127, .aload_n 0, 1), (128, .iconst 5, 1), (129, .invokevirtual 318, 3), (132, .invokevirtual 321, 3), (135, .ireturn, 1), (136, .aload_n 0, 1), (137, .ldc_w 353, 3), (140, .invokevirtual 345, 3), (143, .ifCond .eq 15, 3), (146, .aload_n 0, 1), (147, .bipush 6, 2), (149, .aload_n 0, 1), (150, .iconst 5, 1), (151, .invokevirtual 318, 3), (154, .invokevirtual 321, 3), (157, .ireturn, 1), (158, .aload_n 0, 1), (159, .invokevirtual 355, 3), (162, .ifCond .ne 5, 3), (165, .iconst 0, 1), (166, .ireturn, 1), (167, .aload_n 0, 1), (168, .bipush 60, 2), (170, .invokevirtual 337, 3), (173, .istore_n 1, 1), (174, .iload_n 1, 1), (175, .ifCond .ne 12, 3), (178, .aload_n 0, 1), (179, .bipush 62, 2), (181, .invokevirtual 337, 3), (184, .ifCond .eq 10, 3), (187, .aload_n 0, 1), (188, .invokevirtual 355, 3), (191, .ifCond .ne 5, 3), (194, .iconst 0, 1), (195, .ireturn, 1), (196, .aload_n 0, 1), (197, .iload_n 1, 1), (198, .ifCond .eq 8, 3), (201, .bipush 9, 2), (203, .goto 5, 3), (206, .bipush 10, 2), (208, .iconst 0, 1), (209, .invokevirtual 315, 3), (212, .iconst 1, 1), (213, .ireturn, 1)]
theorem T_cX12_readAtom : tabOK cX12_readAtom T_cX12_readAtomL = true := by decide +kernel
def P_M_readAtom_208 (RA : (Int32 → Mem → Prop) → Mem → Prop) (post : Int32 → Mem → Prop) (s1 : Int32) (M : Mem) : Prop :=
  P_M_emits (fun M1 =>
  post (1 : Int32) M1) s1 (0 : Int32) M
theorem k_M_readAtom_208 {X : FX} {g : GT} {A : Nat → Prop} {Z : State → Prop} {post : Int32 → Mem → Prop} {sk : Nat → Nat} {hA : Nat} (hc : 20 ≤ hA) {RA : (Int32 → Mem → Prop) → Mem → Prop} (hRA : ∀ (post : Int32 → Mem → Prop) (M : Mem), RA post M → SI X.2.1 g layM sk yX12_readAtom cX12_readAtom 2 (some .boolean) hA [.ref (ad g 0)] M post) (C : CxX X g layM A cX12_readAtom 2 RX12 (hA + 3) 0 sk) (hr : 0 ≤ X.2.2.2.1.cells ∧ 0 ≤ X.2.2.2.1.slots) (hR : RetZ X g layM A cX12_readAtom 2 0 0 Z post) (s1 : Int32) (M : Mem) (h : P_M_readAtom_208 RA post s1 M) : AtX X g layM A 2 0 0 Z 208 [] [.int s1, .ref (ad g 0)] M := by
  refine a_iconst C.1 (0 : Int32) (tk T_cX12_readAtom 112 rfl) kI_0 ?_
  refine a_callV C.1 [.int s1, .int (0 : Int32)] me_yX12_emits lk_RX12_315 (ct_M_emits h) (by omega) lm0 rfl rfl rfl (Nat.le_of_ble_eq_true rfl) (tk T_cX12_readAtom 113 rfl) hr (fun M1 h => ?_)
  refine a_iconst C.1 (1 : Int32) (tk T_cX12_readAtom 114 rfl) kI_1 ?_
  exact hR _ _ _ _ (tk T_cX12_readAtom 115 rfl) ⟨Or.inr rfl, h⟩
def P_M_readAtom_194 (RA : (Int32 → Mem → Prop) → Mem → Prop) (post : Int32 → Mem → Prop) (M : Mem) : Prop :=
  post (0 : Int32) M
theorem k_M_readAtom_194 {X : FX} {g : GT} {A : Nat → Prop} {Z : State → Prop} {post : Int32 → Mem → Prop} {sk : Nat → Nat} {hA : Nat} (hc : 20 ≤ hA) {RA : (Int32 → Mem → Prop) → Mem → Prop} (hRA : ∀ (post : Int32 → Mem → Prop) (M : Mem), RA post M → SI X.2.1 g layM sk yX12_readAtom cX12_readAtom 2 (some .boolean) hA [.ref (ad g 0)] M post) (C : CxX X g layM A cX12_readAtom 2 RX12 (hA + 3) 0 sk) (hr : 0 ≤ X.2.2.2.1.cells ∧ 0 ≤ X.2.2.2.1.slots) (hR : RetZ X g layM A cX12_readAtom 2 0 0 Z post)  (M : Mem) (h : P_M_readAtom_194 RA post M) : AtX X g layM A 2 0 0 Z 194 [] [] M := by
  refine a_iconst C.1 (0 : Int32) (tk T_cX12_readAtom 104 rfl) kI_0 ?_
  exact hR _ _ _ _ (tk T_cX12_readAtom 105 rfl) ⟨Or.inl rfl, h⟩
def P_M_readAtom_187 (RA : (Int32 → Mem → Prop) → Mem → Prop) (post : Int32 → Mem → Prop) (x1 : Int32) (M : Mem) : Prop :=
  P_M_readSum (fun r1 M1 =>
  (¬ r1 = 0 → ((x1 = 0 → (P_M_readAtom_208 RA post (10 : Int32) M1)) ∧
  (¬ x1 = 0 → (P_M_readAtom_208 RA post (9 : Int32) M1)))) ∧
  (r1 = 0 → (P_M_readAtom_194 RA post M1))) M
theorem k_M_readAtom_187 {X : FX} {g : GT} {A : Nat → Prop} {Z : State → Prop} {post : Int32 → Mem → Prop} {sk : Nat → Nat} {hA : Nat} (hc : 20 ≤ hA) {RA : (Int32 → Mem → Prop) → Mem → Prop} (hRA : ∀ (post : Int32 → Mem → Prop) (M : Mem), RA post M → SI X.2.1 g layM sk yX12_readAtom cX12_readAtom 2 (some .boolean) hA [.ref (ad g 0)] M post) (C : CxX X g layM A cX12_readAtom 2 RX12 (hA + 3) 0 sk) (hr : 0 ≤ X.2.2.2.1.cells ∧ 0 ≤ X.2.2.2.1.slots) (hR : RetZ X g layM A cX12_readAtom 2 0 0 Z post) (x1 : Int32) (M : Mem) (h : P_M_readAtom_187 RA post x1 M) : AtX X g layM A 2 0 0 Z 187 [(0, .ref (ad g 0)), (1, .int x1)] [] M := by
  refine a_aload_n C.1 (tk T_cX12_readAtom 101 rfl) rfl ?_
  refine s_callI C [] me_yX12_readSum lk_RX12_355 (ct_M_readSum h) (by omega) lm0 rfl rfl rfl (Nat.le_of_ble_eq_true rfl) (tk T_cX12_readAtom 102 rfl) hr (fun r1 M1 h => ?_)
  refine a_if_ne C.1 196 (tk T_cX12_readAtom 103 rfl) rfl (fun c => ?_) (fun c => ?_)
  · have h := h.1 c
    refine a_aload_n C.1 (tk T_cX12_readAtom 106 rfl) rfl ?_
    refine a_iload_n C.1 (tk T_cX12_readAtom 107 rfl) rfl ?_
    refine a_if_eq C.1 206 (tk T_cX12_readAtom 108 rfl) rfl (fun c => ?_) (fun c => ?_)
    · have h := h.1 c
      refine a_bipush C.1 (10 : Int32) (tk T_cX12_readAtom 111 rfl) kB_10 ?_
      exact a_to (k_M_readAtom_208 hc hRA C hr hR (10 : Int32) M1 h) rfl
    · have h := h.2 c
      refine a_bipush C.1 (9 : Int32) (tk T_cX12_readAtom 109 rfl) kB_9 ?_
      refine a_goto C.1 208 (tk T_cX12_readAtom 110 rfl) rfl ?_
      exact a_to (k_M_readAtom_208 hc hRA C hr hR (9 : Int32) M1 h) rfl
  · have h := h.2 c
    exact a_to (k_M_readAtom_194 hc hRA C hr hR M1 h) rfl
def P_M_readAtom (RA : (Int32 → Mem → Prop) → Mem → Prop) (post : Int32 → Mem → Prop) (M : Mem) : Prop :=
  P_M_sign (fun r1 M1 =>
  (r1 = 0 → (P_M_passes_w2 (fun r2 M2 =>
  (r2 = 0 → (P_M_passes_w3 (fun r3 M3 =>
  (r3 = 0 → (P_M_passes_w4 (fun r4 M4 =>
  (r4 = 0 → (P_M_readSum (fun r5 M5 =>
  (¬ r5 = 0 → (P_M_sign (fun r6 M6 =>
  (¬ r6 = 0 → (P_M_readAtom_187 RA post r6 M6)) ∧
  (r6 = 0 → (P_M_sign (fun r7 M7 =>
  (r7 = 0 → (P_M_readAtom_194 RA post M7)) ∧
  (¬ r7 = 0 → (P_M_readAtom_187 RA post r6 M7))) (62 : Int32) M6))) (60 : Int32) M5)) ∧
  (r5 = 0 → (post (0 : Int32) M5))) M4)) ∧
  (¬ r4 = 0 → (P_M_readNumber (fun r8 M8 =>
  P_M_emitsIf (fun r9 M9 =>
  (r9 = 0 ∨ r9 = 1) ∧ post r9 M9) (6 : Int32) r8 M8) (5 : Int32) M4))) M3)) ∧
  (¬ r3 = 0 → (P_M_readNumber (fun r10 M10 =>
  P_M_emitsIf (fun r11 M11 =>
  (r11 = 0 ∨ r11 = 1) ∧ post r11 M11) (5 : Int32) r10 M10) (5 : Int32) M3))) M2)) ∧
  (¬ r2 = 0 → ((¬ (M2 0 23) = (6 : Int32) → (∀ M12, M12 = ms M2 0 23 ((M2 0 23) + (1 : Int32)) → RA (fun r13 M13 =>
  (¬ r13 = 0 → (∀ M14, M14 = ms M13 0 23 ((M13 0 23) - (1 : Int32)) → P_M_emits (fun M15 =>
  post (1 : Int32) M15) (11 : Int32) (0 : Int32) M14)) ∧
  (r13 = 0 → (post (0 : Int32) M13))) M12)) ∧
  ((M2 0 23) = (6 : Int32) → (post (0 : Int32) M2))))) M1)) ∧
  (¬ r1 = 0 → ((¬ (M1 0 23) = (6 : Int32) → (∀ M16, M16 = ms M1 0 23 ((M1 0 23) + (1 : Int32)) → P_M_readCond RA (fun r17 M17 =>
  (¬ r17 = 0 → (∀ M18, M18 = ms M17 0 23 ((M17 0 23) - (1 : Int32)) → P_M_sign (fun r19 M19 =>
  (r19 = 0 ∨ r19 = 1) ∧ post r19 M19) (41 : Int32) M18)) ∧
  (r17 = 0 → (post (0 : Int32) M17))) M16)) ∧
  ((M1 0 23) = (6 : Int32) → (post (0 : Int32) M1))))) (40 : Int32) M
theorem k_M_readAtom {X : FX} {g : GT} {A : Nat → Prop} {Z : State → Prop} {post : Int32 → Mem → Prop} {sk : Nat → Nat} {hA : Nat} (hc : 20 ≤ hA) {RA : (Int32 → Mem → Prop) → Mem → Prop} (hRA : ∀ (post : Int32 → Mem → Prop) (M : Mem), RA post M → SI X.2.1 g layM sk yX12_readAtom cX12_readAtom 2 (some .boolean) hA [.ref (ad g 0)] M post) (C : CxX X g layM A cX12_readAtom 2 RX12 (hA + 3) 0 sk) (hr : 0 ≤ X.2.2.2.1.cells ∧ 0 ≤ X.2.2.2.1.slots) (hR : RetZ X g layM A cX12_readAtom 2 0 0 Z post) (M : Mem) (h : P_M_readAtom RA post M) : AtX X g layM A 2 0 0 Z 0 [(0, .ref (ad g 0))] [] M := by
  refine a_aload_n C.1 (tk T_cX12_readAtom 0 rfl) rfl ?_
  refine a_bipush C.1 (40 : Int32) (tk T_cX12_readAtom 1 rfl) kB_40 ?_
  refine a_callI C.1 [.int (40 : Int32)] me_yX12_sign lk_RX12_337 (ct_M_sign h) (by omega) lm0 rfl rfl rfl (Nat.le_of_ble_eq_true rfl) (tk T_cX12_readAtom 2 rfl) hr (fun r1 M1 h => ?_)
  refine a_if_eq C.1 56 (tk T_cX12_readAtom 3 rfl) rfl (fun c => ?_) (fun c => ?_)
  · have h := h.1 c
    refine a_aload_n C.1 (tk T_cX12_readAtom 31 rfl) rfl ?_
    refine s_ldc_w C (C.2.1.2.2.2.2.2.2.2.2.2.2.2.2 2 (by decide)) (tk T_cX12_readAtom 32 rfl) ?_
    refine s_callI C [.ref (sk (30 + 2))] me_yX12_passes lk_RX12_345 (ct_M_passes_w2 h) (by omega) lm0 rfl rfl rfl (Nat.le_of_ble_eq_true rfl) (tk T_cX12_readAtom 33 rfl) hr (fun r2 M2 h => ?_)
    refine a_if_eq C.1 115 (tk T_cX12_readAtom 34 rfl) rfl (fun c => ?_) (fun c => ?_)
    · have h := h.1 c
      refine a_aload_n C.1 (tk T_cX12_readAtom 64 rfl) rfl ?_
      refine s_ldc_w C (C.2.1.2.2.2.2.2.2.2.2.2.2.2.2 3 (by decide)) (tk T_cX12_readAtom 65 rfl) ?_
      refine s_callI C [.ref (sk (30 + 3))] me_yX12_passes lk_RX12_345 (ct_M_passes_w3 h) (by omega) lm0 rfl rfl rfl (Nat.le_of_ble_eq_true rfl) (tk T_cX12_readAtom 66 rfl) hr (fun r3 M3 h => ?_)
      refine a_if_eq C.1 136 (tk T_cX12_readAtom 67 rfl) rfl (fun c => ?_) (fun c => ?_)
      · have h := h.1 c
        refine a_aload_n C.1 (tk T_cX12_readAtom 75 rfl) rfl ?_
        refine s_ldc_w C (C.2.1.2.2.2.2.2.2.2.2.2.2.2.2 4 (by decide)) (tk T_cX12_readAtom 76 rfl) ?_
        refine s_callI C [.ref (sk (30 + 4))] me_yX12_passes lk_RX12_345 (ct_M_passes_w4 h) (by omega) lm0 rfl rfl rfl (Nat.le_of_ble_eq_true rfl) (tk T_cX12_readAtom 77 rfl) hr (fun r4 M4 h => ?_)
        refine a_if_eq C.1 158 (tk T_cX12_readAtom 78 rfl) rfl (fun c => ?_) (fun c => ?_)
        · have h := h.1 c
          refine a_aload_n C.1 (tk T_cX12_readAtom 86 rfl) rfl ?_
          refine s_callI C [] me_yX12_readSum lk_RX12_355 (ct_M_readSum h) (by omega) lm0 rfl rfl rfl (Nat.le_of_ble_eq_true rfl) (tk T_cX12_readAtom 87 rfl) hr (fun r5 M5 h => ?_)
          refine a_if_ne C.1 167 (tk T_cX12_readAtom 88 rfl) rfl (fun c => ?_) (fun c => ?_)
          · have h := h.1 c
            refine a_aload_n C.1 (tk T_cX12_readAtom 91 rfl) rfl ?_
            refine a_bipush C.1 (60 : Int32) (tk T_cX12_readAtom 92 rfl) kB_60 ?_
            refine a_callI C.1 [.int (60 : Int32)] me_yX12_sign lk_RX12_337 (ct_M_sign h) (by omega) lm0 rfl rfl rfl (Nat.le_of_ble_eq_true rfl) (tk T_cX12_readAtom 93 rfl) hr (fun r6 M6 h => ?_)
            refine a_istore_n C.1 (tk T_cX12_readAtom 94 rfl) (by decide) rfl ?_
            refine a_iload_n C.1 (tk T_cX12_readAtom 95 rfl) rfl ?_
            refine a_if_ne C.1 187 (tk T_cX12_readAtom 96 rfl) rfl (fun c => ?_) (fun c => ?_)
            · have h := h.1 c
              exact a_to (k_M_readAtom_187 hc hRA C hr hR r6 M6 h) rfl
            · have h := h.2 c
              refine a_aload_n C.1 (tk T_cX12_readAtom 97 rfl) rfl ?_
              refine a_bipush C.1 (62 : Int32) (tk T_cX12_readAtom 98 rfl) kB_62 ?_
              refine a_callI C.1 [.int (62 : Int32)] me_yX12_sign lk_RX12_337 (ct_M_sign h) (by omega) lm0 rfl rfl rfl (Nat.le_of_ble_eq_true rfl) (tk T_cX12_readAtom 99 rfl) hr (fun r7 M7 h => ?_)
              refine a_if_eq C.1 194 (tk T_cX12_readAtom 100 rfl) rfl (fun c => ?_) (fun c => ?_)
              · have h := h.1 c
                exact a_to (k_M_readAtom_194 hc hRA C hr hR M7 h) rfl
              · have h := h.2 c
                exact a_to (k_M_readAtom_187 hc hRA C hr hR r6 M7 h) rfl
          · have h := h.2 c
            refine a_iconst C.1 (0 : Int32) (tk T_cX12_readAtom 89 rfl) kI_0 ?_
            exact hR _ _ _ _ (tk T_cX12_readAtom 90 rfl) ⟨Or.inl rfl, h⟩
        · have h := h.2 c
          refine a_aload_n C.1 (tk T_cX12_readAtom 79 rfl) rfl ?_
          refine a_bipush C.1 (6 : Int32) (tk T_cX12_readAtom 80 rfl) kB_6 ?_
          refine a_aload_n C.1 (tk T_cX12_readAtom 81 rfl) rfl ?_
          refine a_iconst C.1 (5 : Int32) (tk T_cX12_readAtom 82 rfl) kI_5 ?_
          refine a_callI C.1 [.int (5 : Int32)] me_yX12_readNumber lk_RX12_318 (ct_M_readNumber h) (by omega) lm0 rfl rfl rfl (Nat.le_of_ble_eq_true rfl) (tk T_cX12_readAtom 83 rfl) hr (fun r8 M8 h => ?_)
          refine a_callI C.1 [.int (6 : Int32), .int r8] me_yX12_emitsIf lk_RX12_321 (ct_M_emitsIf h) (by omega) lm0 rfl rfl rfl (Nat.le_of_ble_eq_true rfl) (tk T_cX12_readAtom 84 rfl) hr (fun r9 M9 h => ?_)
          exact hR _ _ _ _ (tk T_cX12_readAtom 85 rfl) h
      · have h := h.2 c
        refine a_aload_n C.1 (tk T_cX12_readAtom 68 rfl) rfl ?_
        refine a_iconst C.1 (5 : Int32) (tk T_cX12_readAtom 69 rfl) kI_5 ?_
        refine a_aload_n C.1 (tk T_cX12_readAtom 70 rfl) rfl ?_
        refine a_iconst C.1 (5 : Int32) (tk T_cX12_readAtom 71 rfl) kI_5 ?_
        refine a_callI C.1 [.int (5 : Int32)] me_yX12_readNumber lk_RX12_318 (ct_M_readNumber h) (by omega) lm0 rfl rfl rfl (Nat.le_of_ble_eq_true rfl) (tk T_cX12_readAtom 72 rfl) hr (fun r10 M10 h => ?_)
        refine a_callI C.1 [.int (5 : Int32), .int r10] me_yX12_emitsIf lk_RX12_321 (ct_M_emitsIf h) (by omega) lm0 rfl rfl rfl (Nat.le_of_ble_eq_true rfl) (tk T_cX12_readAtom 73 rfl) hr (fun r11 M11 h => ?_)
        exact hR _ _ _ _ (tk T_cX12_readAtom 74 rfl) h
    · have h := h.2 c
      refine a_aload_n C.1 (tk T_cX12_readAtom 35 rfl) rfl ?_
      refine a_getI C.1 f_RX12_284 (tk T_cX12_readAtom 36 rfl) lm0 rfl ?_
      refine a_bipush C.1 (6 : Int32) (tk T_cX12_readAtom 37 rfl) kB_6 ?_
      refine a_icmp_ne C.1 77 (tk T_cX12_readAtom 38 rfl) rfl (fun c => ?_) (fun c => ?_)
      · have h := h.1 c
        refine a_aload_n C.1 (tk T_cX12_readAtom 41 rfl) rfl ?_
        refine a_dupr C.1 (tk T_cX12_readAtom 42 rfl) ?_
        refine a_getI C.1 f_RX12_284 (tk T_cX12_readAtom 43 rfl) lm0 rfl ?_
        refine a_iconst C.1 (1 : Int32) (tk T_cX12_readAtom 44 rfl) kI_1 ?_
        refine a_iadd C.1 (tk T_cX12_readAtom 45 rfl) ?_
        refine a_put C.1 f_RX12_284 f_RX12_284p rfl rfl (tk T_cX12_readAtom 46 rfl) lm0 rfl ?_
        refine a_mem (fun M12 e_M12 => ?_)
        have h := h M12 e_M12
        refine a_aload_n C.1 (tk T_cX12_readAtom 47 rfl) rfl ?_
        refine s_callI C [] me_yX12_readAtom lk_RX12_348 (hRA _ _ h) (by omega) lm0 rfl rfl rfl (Nat.le_of_ble_eq_true rfl) (tk T_cX12_readAtom 48 rfl) hr (fun r13 M13 h => ?_)
        refine a_if_ne C.1 96 (tk T_cX12_readAtom 49 rfl) rfl (fun c => ?_) (fun c => ?_)
        · have h := h.1 c
          refine a_aload_n C.1 (tk T_cX12_readAtom 52 rfl) rfl ?_
          refine a_dupr C.1 (tk T_cX12_readAtom 53 rfl) ?_
          refine a_getI C.1 f_RX12_284 (tk T_cX12_readAtom 54 rfl) lm0 rfl ?_
          refine a_iconst C.1 (1 : Int32) (tk T_cX12_readAtom 55 rfl) kI_1 ?_
          refine a_isub C.1 (tk T_cX12_readAtom 56 rfl) ?_
          refine a_put C.1 f_RX12_284 f_RX12_284p rfl rfl (tk T_cX12_readAtom 57 rfl) lm0 rfl ?_
          refine a_mem (fun M14 e_M14 => ?_)
          have h := h M14 e_M14
          refine a_aload_n C.1 (tk T_cX12_readAtom 58 rfl) rfl ?_
          refine a_bipush C.1 (11 : Int32) (tk T_cX12_readAtom 59 rfl) kB_11 ?_
          refine a_iconst C.1 (0 : Int32) (tk T_cX12_readAtom 60 rfl) kI_0 ?_
          refine a_callV C.1 [.int (11 : Int32), .int (0 : Int32)] me_yX12_emits lk_RX12_315 (ct_M_emits h) (by omega) lm0 rfl rfl rfl (Nat.le_of_ble_eq_true rfl) (tk T_cX12_readAtom 61 rfl) hr (fun M15 h => ?_)
          refine a_iconst C.1 (1 : Int32) (tk T_cX12_readAtom 62 rfl) kI_1 ?_
          exact hR _ _ _ _ (tk T_cX12_readAtom 63 rfl) ⟨Or.inr rfl, h⟩
        · have h := h.2 c
          refine a_iconst C.1 (0 : Int32) (tk T_cX12_readAtom 50 rfl) kI_0 ?_
          exact hR _ _ _ _ (tk T_cX12_readAtom 51 rfl) ⟨Or.inl rfl, h⟩
      · have h := h.2 c
        refine a_iconst C.1 (0 : Int32) (tk T_cX12_readAtom 39 rfl) kI_0 ?_
        exact hR _ _ _ _ (tk T_cX12_readAtom 40 rfl) ⟨Or.inl rfl, h⟩
  · have h := h.2 c
    refine a_aload_n C.1 (tk T_cX12_readAtom 4 rfl) rfl ?_
    refine a_getI C.1 f_RX12_284 (tk T_cX12_readAtom 5 rfl) lm0 rfl ?_
    refine a_bipush C.1 (6 : Int32) (tk T_cX12_readAtom 6 rfl) kB_6 ?_
    refine a_icmp_ne C.1 20 (tk T_cX12_readAtom 7 rfl) rfl (fun c => ?_) (fun c => ?_)
    · have h := h.1 c
      refine a_aload_n C.1 (tk T_cX12_readAtom 10 rfl) rfl ?_
      refine a_dupr C.1 (tk T_cX12_readAtom 11 rfl) ?_
      refine a_getI C.1 f_RX12_284 (tk T_cX12_readAtom 12 rfl) lm0 rfl ?_
      refine a_iconst C.1 (1 : Int32) (tk T_cX12_readAtom 13 rfl) kI_1 ?_
      refine a_iadd C.1 (tk T_cX12_readAtom 14 rfl) ?_
      refine a_put C.1 f_RX12_284 f_RX12_284p rfl rfl (tk T_cX12_readAtom 15 rfl) lm0 rfl ?_
      refine a_mem (fun M16 e_M16 => ?_)
      have h := h M16 e_M16
      refine a_aload_n C.1 (tk T_cX12_readAtom 16 rfl) rfl ?_
      refine s_callI C [] me_yX12_readCond lk_RX12_340 (ct_M_readCond hc hRA h) (by omega) lm0 rfl rfl rfl (Nat.le_of_ble_eq_true rfl) (tk T_cX12_readAtom 17 rfl) hr (fun r17 M17 h => ?_)
      refine a_if_ne C.1 39 (tk T_cX12_readAtom 18 rfl) rfl (fun c => ?_) (fun c => ?_)
      · have h := h.1 c
        refine a_aload_n C.1 (tk T_cX12_readAtom 21 rfl) rfl ?_
        refine a_dupr C.1 (tk T_cX12_readAtom 22 rfl) ?_
        refine a_getI C.1 f_RX12_284 (tk T_cX12_readAtom 23 rfl) lm0 rfl ?_
        refine a_iconst C.1 (1 : Int32) (tk T_cX12_readAtom 24 rfl) kI_1 ?_
        refine a_isub C.1 (tk T_cX12_readAtom 25 rfl) ?_
        refine a_put C.1 f_RX12_284 f_RX12_284p rfl rfl (tk T_cX12_readAtom 26 rfl) lm0 rfl ?_
        refine a_mem (fun M18 e_M18 => ?_)
        have h := h M18 e_M18
        refine a_aload_n C.1 (tk T_cX12_readAtom 27 rfl) rfl ?_
        refine a_bipush C.1 (41 : Int32) (tk T_cX12_readAtom 28 rfl) kB_41 ?_
        refine a_callI C.1 [.int (41 : Int32)] me_yX12_sign lk_RX12_337 (ct_M_sign h) (by omega) lm0 rfl rfl rfl (Nat.le_of_ble_eq_true rfl) (tk T_cX12_readAtom 29 rfl) hr (fun r19 M19 h => ?_)
        exact hR _ _ _ _ (tk T_cX12_readAtom 30 rfl) h
      · have h := h.2 c
        refine a_iconst C.1 (0 : Int32) (tk T_cX12_readAtom 19 rfl) kI_0 ?_
        exact hR _ _ _ _ (tk T_cX12_readAtom 20 rfl) ⟨Or.inl rfl, h⟩
    · have h := h.2 c
      refine a_iconst C.1 (0 : Int32) (tk T_cX12_readAtom 8 rfl) kI_0 ?_
      exact hR _ _ _ _ (tk T_cX12_readAtom 9 rfl) ⟨Or.inl rfl, h⟩
theorem ct_M_readAtom {l : Launch} {g : GT} {sk : Nat → Nat} {post : Int32 → Mem → Prop} {hA : Nat} (hc : 20 ≤ hA) {RA : (Int32 → Mem → Prop) → Mem → Prop} (hRA : ∀ (post : Int32 → Mem → Prop) (M : Mem), RA post M → SI l g layM sk yX12_readAtom cX12_readAtom 2 (some .boolean) hA [.ref (ad g 0)] M post) {M : Mem} (h : P_M_readAtom RA post M) : SI l g layM sk yX12_readAtom cX12_readAtom 2 (some .boolean) (hA + 3) [.ref (ad g 0)] M post :=
  st_of (plainFor_of_name (by decide +kernel)) (Nat.le_of_ble_eq_true rfl) (fun X A Z hl C hr hR => by subst hl; exact k_M_readAtom hc hRA C hr (fun v M pc lv hd hp => hR v M pc lv hd (nar_z hp.1) hp.2)  M h)
def P_M_readAtom_n : Nat → (Int32 → Mem → Prop) → Mem → Prop
  | 0, _, _ => False
  | n + 1, post, M => P_M_readAtom (P_M_readAtom_n n) post M
theorem ct_M_readAtom_n {l : Launch} {g : GT} {sk : Nat → Nat} : ∀ (n : Nat) {post : Int32 → Mem → Prop} {M : Mem}, P_M_readAtom_n n post M → SI l g layM sk yX12_readAtom cX12_readAtom 2 (some .boolean) (20 + 3 * n) [.ref (ad g 0)] M post
  | 0, _, _, h => h.elim
  | n + 1, _, _, h => ct_M_readAtom (hA := 20 + 3 * n) (by omega) (fun _ _ h => ct_M_readAtom_n n h) h
def T_cX12_readWholeL : List (Nat × Instr × Nat) := [(0, .aload_n 0, 1), (1, .invokevirtual 340, 3), (4, .ifCond .ne 5, 3), (7, .iconst 0, 1), (8, .ireturn, 1), (9, .aload_n 0, 1), (10, .invokevirtual 293, 3), (13, .aload_n 0, 1), (14, .getfield 278, 3), (17, .aload_n 0, 1), (18, .getfield 275, 3), (21, .if_icmp .ne 7, 3), (24, .iconst 1, 1), (25, .goto 4, 3), (28, .iconst 0, 1), (29, .ireturn, 1)]
theorem T_cX12_readWhole : tabOK cX12_readWhole T_cX12_readWholeL = true := by decide +kernel
def P_M_readWhole_29 (post : Int32 → Mem → Prop) (s0 : Int32) (M : Mem) : Prop :=
  (s0 = 0 ∨ s0 = 1) ∧ post s0 M
theorem k_M_readWhole_29 {X : FX} {g : GT} {A : Nat → Prop} {Z : State → Prop} {post : Int32 → Mem → Prop} {sk : Nat → Nat} (C : CxX X g layM A cX12_readWhole 1 RX12 47 0 sk) (hr : 0 ≤ X.2.2.2.1.cells ∧ 0 ≤ X.2.2.2.1.slots) (hR : RetZ X g layM A cX12_readWhole 1 0 0 Z post) (s0 : Int32) (M : Mem) (h : P_M_readWhole_29 post s0 M) : AtX X g layM A 1 0 0 Z 29 [] [.int s0] M := by
  exact hR _ _ _ _ (tk T_cX12_readWhole 15 rfl) h
def P_M_readWhole (post : Int32 → Mem → Prop) (M : Mem) : Prop :=
  P_M_readCond (P_M_readAtom_n 8) (fun r1 M1 =>
  (¬ r1 = 0 → (P_M_blanks (fun M2 =>
  (¬ (M2 0 20) = (M2 0 21) → (P_M_readWhole_29 post (0 : Int32) M2)) ∧
  ((M2 0 20) = (M2 0 21) → (P_M_readWhole_29 post (1 : Int32) M2))) M1)) ∧
  (r1 = 0 → (post (0 : Int32) M1))) M
theorem k_M_readWhole {X : FX} {g : GT} {A : Nat → Prop} {Z : State → Prop} {post : Int32 → Mem → Prop} {sk : Nat → Nat} (C : CxX X g layM A cX12_readWhole 1 RX12 47 0 sk) (hr : 0 ≤ X.2.2.2.1.cells ∧ 0 ≤ X.2.2.2.1.slots) (hR : RetZ X g layM A cX12_readWhole 1 0 0 Z post) (M : Mem) (h : P_M_readWhole post M) : AtX X g layM A 1 0 0 Z 0 [(0, .ref (ad g 0))] [] M := by
  refine a_aload_n C.1 (tk T_cX12_readWhole 0 rfl) rfl ?_
  refine s_callI C [] me_yX12_readCond lk_RX12_340 (ct_M_readCond (hA := 44) (by decide) (fun _ _  h => ct_M_readAtom_n 8 h) h) (by decide) lm0 rfl rfl rfl (Nat.le_of_ble_eq_true rfl) (tk T_cX12_readWhole 1 rfl) hr (fun r1 M1 h => ?_)
  refine a_if_ne C.1 9 (tk T_cX12_readWhole 2 rfl) rfl (fun c => ?_) (fun c => ?_)
  · have h := h.1 c
    refine a_aload_n C.1 (tk T_cX12_readWhole 5 rfl) rfl ?_
    refine a_callV C.1 [] me_yX12_blanks lk_RX12_293 (ct_M_blanks h) (by decide) lm0 rfl rfl rfl (Nat.le_of_ble_eq_true rfl) (tk T_cX12_readWhole 6 rfl) hr (fun M2 h => ?_)
    refine a_aload_n C.1 (tk T_cX12_readWhole 7 rfl) rfl ?_
    refine a_getI C.1 f_RX12_278 (tk T_cX12_readWhole 8 rfl) lm0 rfl ?_
    refine a_aload_n C.1 (tk T_cX12_readWhole 9 rfl) rfl ?_
    refine a_getI C.1 f_RX12_275 (tk T_cX12_readWhole 10 rfl) lm0 rfl ?_
    refine a_icmp_ne C.1 28 (tk T_cX12_readWhole 11 rfl) rfl (fun c => ?_) (fun c => ?_)
    · have h := h.1 c
      refine a_iconst C.1 (0 : Int32) (tk T_cX12_readWhole 14 rfl) kI_0 ?_
      exact a_to (k_M_readWhole_29 C hr hR (0 : Int32) M2 h) rfl
    · have h := h.2 c
      refine a_iconst C.1 (1 : Int32) (tk T_cX12_readWhole 12 rfl) kI_1 ?_
      refine a_goto C.1 29 (tk T_cX12_readWhole 13 rfl) rfl ?_
      exact a_to (k_M_readWhole_29 C hr hR (1 : Int32) M2 h) rfl
  · have h := h.2 c
    refine a_iconst C.1 (0 : Int32) (tk T_cX12_readWhole 3 rfl) kI_0 ?_
    exact hR _ _ _ _ (tk T_cX12_readWhole 4 rfl) ⟨Or.inl rfl, h⟩
theorem ct_M_readWhole {l : Launch} {g : GT} {sk : Nat → Nat} {post : Int32 → Mem → Prop} {M : Mem} (h : P_M_readWhole post M) : SI l g layM sk yX12_readWhole cX12_readWhole 1 (some .boolean) 47 [.ref (ad g 0)] M post :=
  st_of (plainFor_of_name (by decide +kernel)) (Nat.le_of_ble_eq_true rfl) (fun X A Z hl C hr hR => by subst hl; exact k_M_readWhole C hr (fun v M pc lv hd hp => hR v M pc lv hd (nar_z hp.1) hp.2)  M h)
def T_cX12_claimL : List (Nat × Instr × Nat) := [(0, .aload_n 0, 1), (1, .invokevirtual 365, 3), (4, .aload_n 0, 1), (5, .invokevirtual 368, 3), (8, .istore_n 1, 1), (9, .aload_n 0, 1), (10, .iload_n 1, 1), (11, .ifCond .eq 7, 3), (14, .iconst (-1), 1), (15, .goto 7, 3), (18, .aload_n 0, 1), (19, .getfield 290, 3), (22, .putfield 45, 3), (25, .aload_n 0, 1), (26, .iload_n 1, 1), (27, .ifCond .ne 7, 3), (30, .iconst 1, 1), (31, .goto 4, 3), (34, .iconst 0, 1), (35, .iconst 1, 1), (36, .invokevirtual 72, 3), (39, .ifCond .ne 28, 3), (42, .aload_n 0, 1), (43, .aload_n 0, 1), (44, .getfield 13, 3), (47, .bipush 10, 2), (49, .iaload, 1), (50, .bipush 6, 2), (52, .if_icmp .ne 7, 3), (55, .iconst 1, 1), (56, .goto 4, 3), (59, .iconst 0, 1), (60, .iconst 2, 1), (61, .invokevirtual 72, 3), (64, .ifCond .eq 5, 3), (67, .iconst 0, 1), (68, .ireturn, 1), (69, .aload_n 0, 1), (70, .getfield 13, 3), (73, .bipush 10, 2), (75, .iaload, 1), (76, .istore_n 2, 1), (77, .aload_n 0, 1), (78, .getfield 13, 3), (81, .bipush 6, 2), (83, .invokestatic 312, 3), (86, .aload_n 0, 1), (87, .getfield 281, 3), (90, .iastore, 1), (91, .iconst 0, 1), (92, .istore_n 3, 1), (93, .iload_n 3, 1), (94, .sipush 801, 3), (97, .if_icmp .ge 32, 3), (100, .aload_n 0, 1), (101, .getfield 13, 3), (104, .iload_n 2, 1), (105, .invokestatic 312, 3), (108, .iload_n 3, 1), (109, .iadd, 1), (110, .aload_n 0, 1), (111, .getfield 13, 3), (114, .bipush 6, 2), (116, .invokestatic 312, 3), (119, .iload_n 3, 1), (120, .iadd, 1), (121, .iaload, 1), (122, .iastore, 1), (123, .iinc 3 1, 3), (126, .goto (-33), 3), (129, .aload_n 0, 1), (130, .getfield 13, 3), (133, .bipush 10, 2), (135, .dup2, 1), (136, .iaload, 1), (137, .iconst 1, 1), (138, .iadd, 1), (139, .iastore, 1), (140, .iload_n 2, 1), (141, .ireturn, 1)]
theorem T_cX12_claim : tabOK cX12_claim T_cX12_claimL = true := by decide +kernel
def P_M_claim_93 (post : Int32 → Mem → Prop) : Nat → Int32 → Int32 → Mem → Prop
  | 0, _, _, _ => False
  | n + 1, x2, x3, M =>
    ((801 : Int32) ≤ x3 → (vp_in (10 : Int32) 5966 ∧ vp_in (10 : Int32) 5966 ∧ ∀ M1, M1 = ms M 1 (10 : Int32).toNatClampNeg ((M 1 (10 : Int32).toNatClampNeg) + (1 : Int32)) → post x2 M1)) ∧
  (¬ (801 : Int32) ≤ x3 → (P_M_textAt (fun r2 M2 =>
  P_M_textAt (fun r3 M3 =>
  vp_in (r3 + x3) 5966 ∧ vp_in (r2 + x3) 5966 ∧ ∀ M4, M4 = ms M3 1 (r2 + x3).toNatClampNeg (M3 1 (r3 + x3).toNatClampNeg) → P_M_claim_93 post n x2 (x3 + (1 : Int32)) M4) (6 : Int32) M2) x2 M))
theorem k_M_claim_93 {X : FX} {g : GT} {A : Nat → Prop} {Z : State → Prop} {post : Int32 → Mem → Prop} {sk : Nat → Nat} (C : CxX X g layM A cX12_claim 4 RX12 48 0 sk) (hr : 0 ≤ X.2.2.2.1.cells ∧ 0 ≤ X.2.2.2.1.slots) (hR : RetI X g layM A cX12_claim 4 0 0 Z post) : ∀ (n : Nat) (x2 x3 : Int32) (M : Mem), P_M_claim_93 post n x2 x3 M → AtX X g layM A 4 0 0 Z 93 [(0, .ref (ad g 0)), (2, .int x2), (3, .int x3)] [] M := by
  intro n
  induction n with
  | zero =>
    intro x2 x3 M h
    exact h.elim
  | succ n ih =>
    intro x2 x3 M h
    refine a_iload_n C.1 (tk T_cX12_claim 51 rfl) rfl ?_
    refine a_sipush C.1 (801 : Int32) (tk T_cX12_claim 52 rfl) kS_801 ?_
    refine a_icmp_ge C.1 129 (tk T_cX12_claim 53 rfl) rfl (fun c => ?_) (fun c => ?_)
    · have h := h.1 c
      refine a_aload_n C.1 (tk T_cX12_claim 70 rfl) rfl ?_
      refine a_getR C.1 f_RX12_13 (tk T_cX12_claim 71 rfl) lm0 rfl ?_
      refine a_bipush C.1 (10 : Int32) (tk T_cX12_claim 72 rfl) kB_10 ?_
      refine a_dup2ir C.1 (tk T_cX12_claim 73 rfl) ?_
      obtain ⟨hb, h⟩ := h
      refine a_iald C.1 (tk T_cX12_claim 74 rfl) lm1 hb ?_
      refine a_iconst C.1 (1 : Int32) (tk T_cX12_claim 75 rfl) kI_1 ?_
      refine a_iadd C.1 (tk T_cX12_claim 76 rfl) ?_
      obtain ⟨hb, h⟩ := h
      refine a_iast C.1 (tk T_cX12_claim 77 rfl) lm1 hb ?_
      refine a_mem (fun M1 e_M1 => ?_)
      have h := h M1 e_M1
      refine a_iload_n C.1 (tk T_cX12_claim 78 rfl) rfl ?_
      exact hR _ _ _ _ (tk T_cX12_claim 79 rfl) h
    · have h := h.2 c
      refine a_aload_n C.1 (tk T_cX12_claim 54 rfl) rfl ?_
      refine a_getR C.1 f_RX12_13 (tk T_cX12_claim 55 rfl) lm0 rfl ?_
      refine a_iload_n C.1 (tk T_cX12_claim 56 rfl) rfl ?_
      refine a_statI C.1 [.int x2] me_yX12_textAt lk_RX12_312 (ct_M_textAt h) (by decide) rfl rfl (Nat.le_of_ble_eq_true rfl) (tk T_cX12_claim 57 rfl) hr (fun r2 M2 h => ?_)
      refine a_iload_n C.1 (tk T_cX12_claim 58 rfl) rfl ?_
      refine a_iadd C.1 (tk T_cX12_claim 59 rfl) ?_
      refine a_aload_n C.1 (tk T_cX12_claim 60 rfl) rfl ?_
      refine a_getR C.1 f_RX12_13 (tk T_cX12_claim 61 rfl) lm0 rfl ?_
      refine a_bipush C.1 (6 : Int32) (tk T_cX12_claim 62 rfl) kB_6 ?_
      refine a_statI C.1 [.int (6 : Int32)] me_yX12_textAt lk_RX12_312 (ct_M_textAt h) (by decide) rfl rfl (Nat.le_of_ble_eq_true rfl) (tk T_cX12_claim 63 rfl) hr (fun r3 M3 h => ?_)
      refine a_iload_n C.1 (tk T_cX12_claim 64 rfl) rfl ?_
      refine a_iadd C.1 (tk T_cX12_claim 65 rfl) ?_
      obtain ⟨hb, h⟩ := h
      refine a_iald C.1 (tk T_cX12_claim 66 rfl) lm1 hb ?_
      obtain ⟨hb, h⟩ := h
      refine a_iast C.1 (tk T_cX12_claim 67 rfl) lm1 hb ?_
      refine a_mem (fun M4 e_M4 => ?_)
      have h := h M4 e_M4
      refine a_iinc C.1 (1 : Int32) (tk T_cX12_claim 68 rfl) rfl kI_1 (by decide) rfl ?_
      refine a_goto C.1 93 (tk T_cX12_claim 69 rfl) rfl ?_
      exact a_to (ih x2 (x3 + (1 : Int32)) M4 h) rfl
def P_M_claim_67 (post : Int32 → Mem → Prop) (M : Mem) : Prop :=
  post (0 : Int32) M
theorem k_M_claim_67 {X : FX} {g : GT} {A : Nat → Prop} {Z : State → Prop} {post : Int32 → Mem → Prop} {sk : Nat → Nat} (C : CxX X g layM A cX12_claim 4 RX12 48 0 sk) (hr : 0 ≤ X.2.2.2.1.cells ∧ 0 ≤ X.2.2.2.1.slots) (hR : RetI X g layM A cX12_claim 4 0 0 Z post)  (M : Mem) (h : P_M_claim_67 post M) : AtX X g layM A 4 0 0 Z 67 [] [] M := by
  refine a_iconst C.1 (0 : Int32) (tk T_cX12_claim 35 rfl) kI_0 ?_
  exact hR _ _ _ _ (tk T_cX12_claim 36 rfl) h
def P_M_claim_60 (post : Int32 → Mem → Prop) (s1 : Int32) (M : Mem) : Prop :=
  P_M_throwsIf (fun r1 M1 =>
  (r1 = 0 → (vp_in (10 : Int32) 5966 ∧ ∀ x2_2, x2_2 = (M1 1 (10 : Int32).toNatClampNeg) → P_M_textAt (fun r3 M3 =>
  vp_in r3 5966 ∧ ∀ M4, M4 = ms M3 1 r3.toNatClampNeg (M3 0 26) → ∃ j93, P_M_claim_93 post j93 x2_2 (0 : Int32) M4) (6 : Int32) M1)) ∧
  (¬ r1 = 0 → (P_M_claim_67 post M1))) s1 (2 : Int32) M
theorem k_M_claim_60 {X : FX} {g : GT} {A : Nat → Prop} {Z : State → Prop} {post : Int32 → Mem → Prop} {sk : Nat → Nat} (C : CxX X g layM A cX12_claim 4 RX12 48 0 sk) (hr : 0 ≤ X.2.2.2.1.cells ∧ 0 ≤ X.2.2.2.1.slots) (hR : RetI X g layM A cX12_claim 4 0 0 Z post) (s1 : Int32) (M : Mem) (h : P_M_claim_60 post s1 M) : AtX X g layM A 4 0 0 Z 60 [(0, .ref (ad g 0))] [.int s1, .ref (ad g 0)] M := by
  refine a_iconst C.1 (2 : Int32) (tk T_cX12_claim 32 rfl) kI_2 ?_
  refine a_callI C.1 [.int s1, .int (2 : Int32)] me_yX12_throwsIf lk_RX12_72 (ct_M_throwsIf h) (by decide) lm0 rfl rfl rfl (Nat.le_of_ble_eq_true rfl) (tk T_cX12_claim 33 rfl) hr (fun r1 M1 h => ?_)
  refine a_if_eq C.1 69 (tk T_cX12_claim 34 rfl) rfl (fun c => ?_) (fun c => ?_)
  · have h := h.1 c
    refine a_aload_n C.1 (tk T_cX12_claim 37 rfl) rfl ?_
    refine a_getR C.1 f_RX12_13 (tk T_cX12_claim 38 rfl) lm0 rfl ?_
    refine a_bipush C.1 (10 : Int32) (tk T_cX12_claim 39 rfl) kB_10 ?_
    obtain ⟨hb, h⟩ := h
    refine a_iald C.1 (tk T_cX12_claim 40 rfl) lm1 hb ?_
    refine a_top (fun x2_2 e_x2_2 => ?_)
    have h := h x2_2 e_x2_2
    refine a_istore_n C.1 (tk T_cX12_claim 41 rfl) (by decide) rfl ?_
    refine a_aload_n C.1 (tk T_cX12_claim 42 rfl) rfl ?_
    refine a_getR C.1 f_RX12_13 (tk T_cX12_claim 43 rfl) lm0 rfl ?_
    refine a_bipush C.1 (6 : Int32) (tk T_cX12_claim 44 rfl) kB_6 ?_
    refine a_statI C.1 [.int (6 : Int32)] me_yX12_textAt lk_RX12_312 (ct_M_textAt h) (by decide) rfl rfl (Nat.le_of_ble_eq_true rfl) (tk T_cX12_claim 45 rfl) hr (fun r3 M3 h => ?_)
    refine a_aload_n C.1 (tk T_cX12_claim 46 rfl) rfl ?_
    refine a_getI C.1 f_RX12_281 (tk T_cX12_claim 47 rfl) lm0 rfl ?_
    obtain ⟨hb, h⟩ := h
    refine a_iast C.1 (tk T_cX12_claim 48 rfl) lm1 hb ?_
    refine a_mem (fun M4 e_M4 => ?_)
    have h := h M4 e_M4
    refine a_iconst C.1 (0 : Int32) (tk T_cX12_claim 49 rfl) kI_0 ?_
    refine a_istore_n C.1 (tk T_cX12_claim 50 rfl) (by decide) rfl ?_
    obtain ⟨n1, h⟩ := h
    exact a_to (k_M_claim_93 C hr hR n1 x2_2 (0 : Int32) M4 h) rfl
  · have h := h.2 c
    exact a_to (k_M_claim_67 C hr hR M1 h) rfl
def P_M_claim_35 (post : Int32 → Mem → Prop) (s1 : Int32) (M : Mem) : Prop :=
  P_M_throwsIf (fun r1 M1 =>
  (¬ r1 = 0 → (P_M_claim_67 post M1)) ∧
  (r1 = 0 → (vp_in (10 : Int32) 5966 ∧ (¬ (M1 1 (10 : Int32).toNatClampNeg) = (6 : Int32) → (P_M_claim_60 post (0 : Int32) M1)) ∧
  ((M1 1 (10 : Int32).toNatClampNeg) = (6 : Int32) → (P_M_claim_60 post (1 : Int32) M1))))) s1 (1 : Int32) M
theorem k_M_claim_35 {X : FX} {g : GT} {A : Nat → Prop} {Z : State → Prop} {post : Int32 → Mem → Prop} {sk : Nat → Nat} (C : CxX X g layM A cX12_claim 4 RX12 48 0 sk) (hr : 0 ≤ X.2.2.2.1.cells ∧ 0 ≤ X.2.2.2.1.slots) (hR : RetI X g layM A cX12_claim 4 0 0 Z post) (s1 : Int32) (M : Mem) (h : P_M_claim_35 post s1 M) : AtX X g layM A 4 0 0 Z 35 [(0, .ref (ad g 0))] [.int s1, .ref (ad g 0)] M := by
  refine a_iconst C.1 (1 : Int32) (tk T_cX12_claim 19 rfl) kI_1 ?_
  refine a_callI C.1 [.int s1, .int (1 : Int32)] me_yX12_throwsIf lk_RX12_72 (ct_M_throwsIf h) (by decide) lm0 rfl rfl rfl (Nat.le_of_ble_eq_true rfl) (tk T_cX12_claim 20 rfl) hr (fun r1 M1 h => ?_)
  refine a_if_ne C.1 67 (tk T_cX12_claim 21 rfl) rfl (fun c => ?_) (fun c => ?_)
  · have h := h.1 c
    exact a_to (k_M_claim_67 C hr hR M1 h) rfl
  · have h := h.2 c
    refine a_aload_n C.1 (tk T_cX12_claim 22 rfl) rfl ?_
    refine a_aload_n C.1 (tk T_cX12_claim 23 rfl) rfl ?_
    refine a_getR C.1 f_RX12_13 (tk T_cX12_claim 24 rfl) lm0 rfl ?_
    refine a_bipush C.1 (10 : Int32) (tk T_cX12_claim 25 rfl) kB_10 ?_
    obtain ⟨hb, h⟩ := h
    refine a_iald C.1 (tk T_cX12_claim 26 rfl) lm1 hb ?_
    refine a_bipush C.1 (6 : Int32) (tk T_cX12_claim 27 rfl) kB_6 ?_
    refine a_icmp_ne C.1 59 (tk T_cX12_claim 28 rfl) rfl (fun c => ?_) (fun c => ?_)
    · have h := h.1 c
      refine a_iconst C.1 (0 : Int32) (tk T_cX12_claim 31 rfl) kI_0 ?_
      exact a_to (k_M_claim_60 C hr hR (0 : Int32) M1 h) rfl
    · have h := h.2 c
      refine a_iconst C.1 (1 : Int32) (tk T_cX12_claim 29 rfl) kI_1 ?_
      refine a_goto C.1 60 (tk T_cX12_claim 30 rfl) rfl ?_
      exact a_to (k_M_claim_60 C hr hR (1 : Int32) M1 h) rfl
def P_M_claim_22 (post : Int32 → Mem → Prop) (x1 s1 : Int32) (M : Mem) : Prop :=
  ∀ M1, M1 = ms M 0 24 s1 → (¬ x1 = 0 → (P_M_claim_35 post (0 : Int32) M1)) ∧
  (x1 = 0 → (P_M_claim_35 post (1 : Int32) M1))
theorem k_M_claim_22 {X : FX} {g : GT} {A : Nat → Prop} {Z : State → Prop} {post : Int32 → Mem → Prop} {sk : Nat → Nat} (C : CxX X g layM A cX12_claim 4 RX12 48 0 sk) (hr : 0 ≤ X.2.2.2.1.cells ∧ 0 ≤ X.2.2.2.1.slots) (hR : RetI X g layM A cX12_claim 4 0 0 Z post) (x1 s1 : Int32) (M : Mem) (h : P_M_claim_22 post x1 s1 M) : AtX X g layM A 4 0 0 Z 22 [(0, .ref (ad g 0)), (1, .int x1)] [.int s1, .ref (ad g 0)] M := by
  refine a_put C.1 f_RX12_45 f_RX12_45p rfl rfl (tk T_cX12_claim 12 rfl) lm0 rfl ?_
  refine a_mem (fun M1 e_M1 => ?_)
  have h := h M1 e_M1
  refine a_aload_n C.1 (tk T_cX12_claim 13 rfl) rfl ?_
  refine a_iload_n C.1 (tk T_cX12_claim 14 rfl) rfl ?_
  refine a_if_ne C.1 34 (tk T_cX12_claim 15 rfl) rfl (fun c => ?_) (fun c => ?_)
  · have h := h.1 c
    refine a_iconst C.1 (0 : Int32) (tk T_cX12_claim 18 rfl) kI_0 ?_
    exact a_to (k_M_claim_35 C hr hR (0 : Int32) M1 h) rfl
  · have h := h.2 c
    refine a_iconst C.1 (1 : Int32) (tk T_cX12_claim 16 rfl) kI_1 ?_
    refine a_goto C.1 35 (tk T_cX12_claim 17 rfl) rfl ?_
    exact a_to (k_M_claim_35 C hr hR (1 : Int32) M1 h) rfl
def P_M_claim (post : Int32 → Mem → Prop) (M : Mem) : Prop :=
  P_M_uses (fun M1 =>
  P_M_readWhole (fun r2 M2 =>
  (r2 = 0 → (P_M_claim_22 post r2 (M2 0 22) M2)) ∧
  (¬ r2 = 0 → (P_M_claim_22 post r2 (-1 : Int32) M2))) M1) M
theorem k_M_claim {X : FX} {g : GT} {A : Nat → Prop} {Z : State → Prop} {post : Int32 → Mem → Prop} {sk : Nat → Nat} (C : CxX X g layM A cX12_claim 4 RX12 48 0 sk) (hr : 0 ≤ X.2.2.2.1.cells ∧ 0 ≤ X.2.2.2.1.slots) (hR : RetI X g layM A cX12_claim 4 0 0 Z post) (M : Mem) (h : P_M_claim post M) : AtX X g layM A 4 0 0 Z 0 [(0, .ref (ad g 0))] [] M := by
  refine a_aload_n C.1 (tk T_cX12_claim 0 rfl) rfl ?_
  refine a_callV C.1 [] me_yX12_uses lk_RX12_365 (ct_M_uses h) (by decide) lm0 rfl rfl rfl (Nat.le_of_ble_eq_true rfl) (tk T_cX12_claim 1 rfl) hr (fun M1 h => ?_)
  refine a_aload_n C.1 (tk T_cX12_claim 2 rfl) rfl ?_
  refine s_callI C [] me_yX12_readWhole lk_RX12_368 (ct_M_readWhole h) (by decide) lm0 rfl rfl rfl (Nat.le_of_ble_eq_true rfl) (tk T_cX12_claim 3 rfl) hr (fun r2 M2 h => ?_)
  refine a_istore_n C.1 (tk T_cX12_claim 4 rfl) (by decide) rfl ?_
  refine a_aload_n C.1 (tk T_cX12_claim 5 rfl) rfl ?_
  refine a_iload_n C.1 (tk T_cX12_claim 6 rfl) rfl ?_
  refine a_if_eq C.1 18 (tk T_cX12_claim 7 rfl) rfl (fun c => ?_) (fun c => ?_)
  · have h := h.1 c
    refine a_aload_n C.1 (tk T_cX12_claim 10 rfl) rfl ?_
    refine a_getI C.1 f_RX12_290 (tk T_cX12_claim 11 rfl) lm0 rfl ?_
    exact a_to (k_M_claim_22 C hr hR r2 (M2 0 22) M2 h) rfl
  · have h := h.2 c
    refine a_iconst C.1 (-1 : Int32) (tk T_cX12_claim 8 rfl) kI_m1 ?_
    refine a_goto C.1 22 (tk T_cX12_claim 9 rfl) rfl ?_
    exact a_to (k_M_claim_22 C hr hR r2 (-1 : Int32) M2 h) rfl
theorem ct_M_claim {l : Launch} {g : GT} {sk : Nat → Nat} {post : Int32 → Mem → Prop} {M : Mem} (h : P_M_claim post M) : SI l g layM sk yX12_claim cX12_claim 4 (some .int) 48 [.ref (ad g 0)] M post :=
  st_of (plainFor_of_name (by decide +kernel)) (Nat.le_of_ble_eq_true rfl) (fun X A Z hl C hr hR => by subst hl; exact k_M_claim C hr (fun v M pc lv hd hp => hR v M pc lv hd rfl hp)  M h)
def T_cX12_askedL : List (Nat × Instr × Nat) := [(0, .iconst 0, 1), (1, .istore 4, 2), (3, .iload_n 1, 1), (4, .tableswitch 155 0 6 #[44, 49, 69, 69, 125, 137, 146], 44), (48, .aload_n 0, 1), (49, .getfield 203, 3), (52, .ireturn, 1), (53, .aload_n 0, 1), (54, .getfield 206, 3), (57, .ifCond .ge 8, 3), (60, .bipush 99, 2), (62, .goto 10, 3), (65, .aload_n 0, 1), (66, .getfield 206, 3), (69, .invokestatic 215, 3), (72, .ireturn, 1), (73, .iconst 0, 1), (74, .istore 5, 2), (76, .iload 5, 2), (78, .aload_n 0, 1), (79, .invokevirtual 128, 3), (82, .if_icmp .ge 44, 3), (85, .iload 4, 2), (87, .aload_n 0, 1), (88, .iload 5, 2), (90, .iconst 0, 1), (91, .invokevirtual 132, 3), (94, .iload_n 3, 1), (95, .if_icmp .ne 21, 3), (98, .iload_n 1, 1), (99, .iconst 2, 1), (100, .if_icmp .eq 12, 3), (103, .aload_n 0, 1), (104, .iload 5, 2), (106, .invokevirtual 145, 3), (109, .ifCond .eq 7, 3), (112, .iconst 1, 1), (113, .goto 4, 3), (116, .iconst 0, 1), (117, .iadd, 1), (118, .istore 4, 2), (120, .iinc 5 1, 3), (123, .goto (-47), 3), (126, .iload 4, 2), (128, .ireturn, 1), (129, .sipush 9999, 3), (132, .aload_n 0, 1), (133, .iconst 0, 1), (134, .invokevirtual 112, 3), (137, .invokestatic 109, 3), (140, .ireturn, 1), (141, .aload_n 0, 1), (142, .getfield 209, 3), (145, .iload_n 2, 1), (146, .ishr, 1), (147, .iconst 1, 1), (148, .iand, 1), (149, .ireturn, 1), (150, .aload_n 0, 1), (151, .getfield 212, 3), (154, .iload_n 2, 1), (155, .ishr, 1), (156, .iconst 1, 1), (157, .iand, 1), (158, .ireturn, 1), (159, .iload_n 2, 1), (160, .ireturn, 1)]
theorem T_cX12_asked : tabOK cX12_asked T_cX12_askedL = true := by decide +kernel
def P_M_asked_117 (post : Int32 → Mem → Prop) (R76 : Int32 → Int32 → Int32 → Int32 → Mem → Prop) (x1 x3 x5 s0 s1 : Int32) (M : Mem) : Prop :=
  ∀ x4_1, x4_1 = (s0 + s1) → R76 x1 x3 x4_1 (x5 + (1 : Int32)) M
theorem k_M_asked_117 {X : FX} {g : GT} {A : Nat → Prop} {Z : State → Prop} {post : Int32 → Mem → Prop} {R76 : Int32 → Int32 → Int32 → Int32 → Mem → Prop} (C : Cx X g layM A cX12_asked 6 RX12 4) (hr : 0 ≤ X.2.2.2.1.cells ∧ 0 ≤ X.2.2.2.1.slots) (hR : RetI X g layM A cX12_asked 6 0 0 Z post) (k76 : ∀ (y1 y3 y4 y5 : Int32) (M : Mem), R76 y1 y3 y4 y5 M → AtX X g layM A 6 0 0 Z 76 [(0, .ref (ad g 0)), (1, .int y1), (3, .int y3), (4, .int y4), (5, .int y5)] [] M) (x1 x3 x5 s0 s1 : Int32) (M : Mem) (h : P_M_asked_117 post R76 x1 x3 x5 s0 s1 M) : AtX X g layM A 6 0 0 Z 117 [(0, .ref (ad g 0)), (1, .int x1), (3, .int x3), (5, .int x5)] [.int s1, .int s0] M := by
  refine a_iadd C (tk T_cX12_asked 39 rfl) ?_
  refine a_top (fun x4_1 e_x4_1 => ?_)
  have h := h x4_1 e_x4_1
  refine a_istore C (tk T_cX12_asked 40 rfl) (by decide) rfl ?_
  refine a_iinc C (1 : Int32) (tk T_cX12_asked 41 rfl) rfl kI_1 (by decide) rfl ?_
  refine a_goto C 76 (tk T_cX12_asked 42 rfl) rfl ?_
  exact a_to (k76 x1 x3 x4_1 (x5 + (1 : Int32)) M h) rfl
def P_M_asked_116 (post : Int32 → Mem → Prop) (R76 : Int32 → Int32 → Int32 → Int32 → Mem → Prop) (x1 x3 x5 s0 : Int32) (M : Mem) : Prop :=
  P_M_asked_117 post R76 x1 x3 x5 s0 (0 : Int32) M
theorem k_M_asked_116 {X : FX} {g : GT} {A : Nat → Prop} {Z : State → Prop} {post : Int32 → Mem → Prop} {R76 : Int32 → Int32 → Int32 → Int32 → Mem → Prop} (C : Cx X g layM A cX12_asked 6 RX12 4) (hr : 0 ≤ X.2.2.2.1.cells ∧ 0 ≤ X.2.2.2.1.slots) (hR : RetI X g layM A cX12_asked 6 0 0 Z post) (k76 : ∀ (y1 y3 y4 y5 : Int32) (M : Mem), R76 y1 y3 y4 y5 M → AtX X g layM A 6 0 0 Z 76 [(0, .ref (ad g 0)), (1, .int y1), (3, .int y3), (4, .int y4), (5, .int y5)] [] M) (x1 x3 x5 s0 : Int32) (M : Mem) (h : P_M_asked_116 post R76 x1 x3 x5 s0 M) : AtX X g layM A 6 0 0 Z 116 [(0, .ref (ad g 0)), (1, .int x1), (3, .int x3), (5, .int x5)] [.int s0] M := by
  refine a_iconst C (0 : Int32) (tk T_cX12_asked 38 rfl) kI_0 ?_
  exact a_to (k_M_asked_117 C hr hR k76 x1 x3 x5 s0 (0 : Int32) M h) rfl
def P_M_asked_112 (post : Int32 → Mem → Prop) (R76 : Int32 → Int32 → Int32 → Int32 → Mem → Prop) (x1 x3 x5 s0 : Int32) (M : Mem) : Prop :=
  P_M_asked_117 post R76 x1 x3 x5 s0 (1 : Int32) M
theorem k_M_asked_112 {X : FX} {g : GT} {A : Nat → Prop} {Z : State → Prop} {post : Int32 → Mem → Prop} {R76 : Int32 → Int32 → Int32 → Int32 → Mem → Prop} (C : Cx X g layM A cX12_asked 6 RX12 4) (hr : 0 ≤ X.2.2.2.1.cells ∧ 0 ≤ X.2.2.2.1.slots) (hR : RetI X g layM A cX12_asked 6 0 0 Z post) (k76 : ∀ (y1 y3 y4 y5 : Int32) (M : Mem), R76 y1 y3 y4 y5 M → AtX X g layM A 6 0 0 Z 76 [(0, .ref (ad g 0)), (1, .int y1), (3, .int y3), (4, .int y4), (5, .int y5)] [] M) (x1 x3 x5 s0 : Int32) (M : Mem) (h : P_M_asked_112 post R76 x1 x3 x5 s0 M) : AtX X g layM A 6 0 0 Z 112 [(0, .ref (ad g 0)), (1, .int x1), (3, .int x3), (5, .int x5)] [.int s0] M := by
  refine a_iconst C (1 : Int32) (tk T_cX12_asked 36 rfl) kI_1 ?_
  refine a_goto C 117 (tk T_cX12_asked 37 rfl) rfl ?_
  exact a_to (k_M_asked_117 C hr hR k76 x1 x3 x5 s0 (1 : Int32) M h) rfl
def P_M_asked_76 (post : Int32 → Mem → Prop) : Nat → Int32 → Int32 → Int32 → Int32 → Mem → Prop
  | 0, _, _, _, _, _ => False
  | n + 1, x1, x3, x4, x5, M =>
    P_M_readings (fun r1 M1 =>
  (r1 ≤ x5 → (post x4 M1)) ∧
  (¬ r1 ≤ x5 → (P_M_of (fun r2 M2 =>
  (¬ r2 = x3 → (P_M_asked_116 post (P_M_asked_76 post n) x1 x3 x5 x4 M2)) ∧
  (r2 = x3 → ((x1 = (2 : Int32) → (P_M_asked_112 post (P_M_asked_76 post n) x1 x3 x5 x4 M2)) ∧
  (¬ x1 = (2 : Int32) → (P_M_isGhost (fun r3 M3 =>
  (r3 = 0 → (P_M_asked_116 post (P_M_asked_76 post n) x1 x3 x5 x4 M3)) ∧
  (¬ r3 = 0 → (P_M_asked_112 post (P_M_asked_76 post n) x1 x3 x5 x4 M3))) x5 M2))))) x5 (0 : Int32) M1))) M
theorem k_M_asked_76 {X : FX} {g : GT} {A : Nat → Prop} {Z : State → Prop} {post : Int32 → Mem → Prop} (C : Cx X g layM A cX12_asked 6 RX12 4) (hr : 0 ≤ X.2.2.2.1.cells ∧ 0 ≤ X.2.2.2.1.slots) (hR : RetI X g layM A cX12_asked 6 0 0 Z post) : ∀ (n : Nat) (x1 x3 x4 x5 : Int32) (M : Mem), P_M_asked_76 post n x1 x3 x4 x5 M → AtX X g layM A 6 0 0 Z 76 [(0, .ref (ad g 0)), (1, .int x1), (3, .int x3), (4, .int x4), (5, .int x5)] [] M := by
  intro n
  induction n with
  | zero =>
    intro x1 x3 x4 x5 M h
    exact h.elim
  | succ n ih =>
    intro x1 x3 x4 x5 M h
    refine a_iload C (tk T_cX12_asked 18 rfl) rfl ?_
    refine a_aload_n C (tk T_cX12_asked 19 rfl) rfl ?_
    refine a_callI C [] me_yX12_readings lk_RX12_128 (ct_M_readings h) (by decide) lm0 rfl rfl rfl (Nat.le_of_ble_eq_true rfl) (tk T_cX12_asked 20 rfl) hr (fun r1 M1 h => ?_)
    refine a_icmp_ge C 126 (tk T_cX12_asked 21 rfl) rfl (fun c => ?_) (fun c => ?_)
    · have h := h.1 c
      refine a_iload C (tk T_cX12_asked 43 rfl) rfl ?_
      exact hR _ _ _ _ (tk T_cX12_asked 44 rfl) h
    · have h := h.2 c
      refine a_iload C (tk T_cX12_asked 22 rfl) rfl ?_
      refine a_aload_n C (tk T_cX12_asked 23 rfl) rfl ?_
      refine a_iload C (tk T_cX12_asked 24 rfl) rfl ?_
      refine a_iconst C (0 : Int32) (tk T_cX12_asked 25 rfl) kI_0 ?_
      refine a_callI C [.int x5, .int (0 : Int32)] me_yX12_of lk_RX12_132 (ct_M_of h) (by decide) lm0 rfl rfl rfl (Nat.le_of_ble_eq_true rfl) (tk T_cX12_asked 26 rfl) hr (fun r2 M2 h => ?_)
      refine a_iload_n C (tk T_cX12_asked 27 rfl) rfl ?_
      refine a_icmp_ne C 116 (tk T_cX12_asked 28 rfl) rfl (fun c => ?_) (fun c => ?_)
      · have h := h.1 c
        exact a_to (k_M_asked_116 C hr hR ih x1 x3 x5 x4 M2 h) rfl
      · have h := h.2 c
        refine a_iload_n C (tk T_cX12_asked 29 rfl) rfl ?_
        refine a_iconst C (2 : Int32) (tk T_cX12_asked 30 rfl) kI_2 ?_
        refine a_icmp_eq C 112 (tk T_cX12_asked 31 rfl) rfl (fun c => ?_) (fun c => ?_)
        · have h := h.1 c
          exact a_to (k_M_asked_112 C hr hR ih x1 x3 x5 x4 M2 h) rfl
        · have h := h.2 c
          refine a_aload_n C (tk T_cX12_asked 32 rfl) rfl ?_
          refine a_iload C (tk T_cX12_asked 33 rfl) rfl ?_
          refine a_callI C [.int x5] me_yX12_isGhost lk_RX12_145 (ct_M_isGhost h) (by decide) lm0 rfl rfl rfl (Nat.le_of_ble_eq_true rfl) (tk T_cX12_asked 34 rfl) hr (fun r3 M3 h => ?_)
          refine a_if_eq C 116 (tk T_cX12_asked 35 rfl) rfl (fun c => ?_) (fun c => ?_)
          · have h := h.1 c
            exact a_to (k_M_asked_116 C hr hR ih x1 x3 x5 x4 M3 h) rfl
          · have h := h.2 c
            exact a_to (k_M_asked_112 C hr hR ih x1 x3 x5 x4 M3 h) rfl
def P_M_asked_72 (post : Int32 → Mem → Prop) (s0 : Int32) (M : Mem) : Prop :=
  post s0 M
theorem k_M_asked_72 {X : FX} {g : GT} {A : Nat → Prop} {Z : State → Prop} {post : Int32 → Mem → Prop} (C : Cx X g layM A cX12_asked 6 RX12 4) (hr : 0 ≤ X.2.2.2.1.cells ∧ 0 ≤ X.2.2.2.1.slots) (hR : RetI X g layM A cX12_asked 6 0 0 Z post) (s0 : Int32) (M : Mem) (h : P_M_asked_72 post s0 M) : AtX X g layM A 6 0 0 Z 72 [] [.int s0] M := by
  exact hR _ _ _ _ (tk T_cX12_asked 15 rfl) h
def P_M_asked (post : Int32 → Mem → Prop) (x1 x2 x3 : Int32) (M : Mem) : Prop :=
  (x1 = (0 : Int32) → (post (M 0 8) M)) ∧
  (¬ x1 = (0 : Int32) → (x1 = (1 : Int32) → ((0 ≤ (M 0 9) → (P_Integer_bitCount (fun r1 M1 =>
  P_M_asked_72 post r1 M1) (M 0 9) M)) ∧
  (¬ 0 ≤ (M 0 9) → (P_M_asked_72 post (99 : Int32) M)))) ∧
  (¬ x1 = (1 : Int32) → (x1 = (2 : Int32) → (∃ j76, P_M_asked_76 post j76 x1 x3 (0 : Int32) (0 : Int32) M)) ∧
  (¬ x1 = (2 : Int32) → (x1 = (3 : Int32) → (∃ j76, P_M_asked_76 post j76 x1 x3 (0 : Int32) (0 : Int32) M)) ∧
  (¬ x1 = (3 : Int32) → (x1 = (4 : Int32) → (P_M_lays (fun r2 M2 =>
  P_Math_min (fun r3 M3 =>
  post r3 M3) (9999 : Int32) r2 M2) (0 : Int32) M)) ∧
  (¬ x1 = (4 : Int32) → (x1 = (5 : Int32) → (post (((M 0 10) >>> (x2 &&& 31)) &&& (1 : Int32)) M)) ∧
  (¬ x1 = (5 : Int32) → (x1 = (6 : Int32) → (post (((M 0 11) >>> (x2 &&& 31)) &&& (1 : Int32)) M)) ∧
  (¬ x1 = (6 : Int32) → (post x2 M))))))))
theorem k_M_asked {X : FX} {g : GT} {A : Nat → Prop} {Z : State → Prop} {post : Int32 → Mem → Prop} (C : Cx X g layM A cX12_asked 6 RX12 4) (hr : 0 ≤ X.2.2.2.1.cells ∧ 0 ≤ X.2.2.2.1.slots) (hR : RetI X g layM A cX12_asked 6 0 0 Z post) (x1 x2 x3 : Int32) (M : Mem) (h : P_M_asked post x1 x2 x3 M) : AtX X g layM A 6 0 0 Z 0 [(0, .ref (ad g 0)), (1, .int x1), (2, .int x2), (3, .int x3)] [] M := by
  refine a_iconst C (0 : Int32) (tk T_cX12_asked 0 rfl) kI_0 ?_
  refine a_istore C (tk T_cX12_asked 1 rfl) (by decide) rfl ?_
  refine a_iload_n C (tk T_cX12_asked 2 rfl) rfl ?_
  refine a_case (0 : Int32) (fun c => ?_) (fun c0 => ?_)
  · have h := h.1 c
    refine a_tswI C (44) 48 (tk T_cX12_asked 3 rfl) (by decide) rfl ?_
    refine a_aload_n C (tk T_cX12_asked 4 rfl) rfl ?_
    refine a_getI C f_RX12_203 (tk T_cX12_asked 5 rfl) lm0 rfl ?_
    exact hR _ _ _ _ (tk T_cX12_asked 6 rfl) h
  · have h := h.2 c0
    refine a_case (1 : Int32) (fun c => ?_) (fun c1 => ?_)
    · have h := h.1 c
      refine a_tswI C (49) 53 (tk T_cX12_asked 3 rfl) (by decide) rfl ?_
      refine a_aload_n C (tk T_cX12_asked 7 rfl) rfl ?_
      refine a_getI C f_RX12_206 (tk T_cX12_asked 8 rfl) lm0 rfl ?_
      refine a_if_ge C 65 (tk T_cX12_asked 9 rfl) rfl (fun c => ?_) (fun c => ?_)
      · have h := h.1 c
        refine a_aload_n C (tk T_cX12_asked 12 rfl) rfl ?_
        refine a_getI C f_RX12_206 (tk T_cX12_asked 13 rfl) lm0 rfl ?_
        refine a_statI C [.int (M 0 9)] me_yJ6_bitCount_0f7a4 lk_RX12_215 (ct_Integer_bitCount h) (by decide) rfl rfl (Nat.le_of_ble_eq_true rfl) (tk T_cX12_asked 14 rfl) hr (fun r1 M1 h => ?_)
        exact a_to (k_M_asked_72 C hr hR r1 M1 h) rfl
      · have h := h.2 c
        refine a_bipush C (99 : Int32) (tk T_cX12_asked 10 rfl) kB_99 ?_
        refine a_goto C 72 (tk T_cX12_asked 11 rfl) rfl ?_
        exact a_to (k_M_asked_72 C hr hR (99 : Int32) M h) rfl
    · have h := h.2 c1
      refine a_case (2 : Int32) (fun c => ?_) (fun c2 => ?_)
      · have h := h.1 c
        refine a_tswI C (69) 73 (tk T_cX12_asked 3 rfl) (by decide) rfl ?_
        refine a_iconst C (0 : Int32) (tk T_cX12_asked 16 rfl) kI_0 ?_
        refine a_istore C (tk T_cX12_asked 17 rfl) (by decide) rfl ?_
        obtain ⟨n1, h⟩ := h
        exact a_to (k_M_asked_76 C hr hR n1 x1 x3 (0 : Int32) (0 : Int32) M h) rfl
      · have h := h.2 c2
        refine a_case (3 : Int32) (fun c => ?_) (fun c3 => ?_)
        · have h := h.1 c
          refine a_tswI C (69) 73 (tk T_cX12_asked 3 rfl) (by decide) rfl ?_
          refine a_iconst C (0 : Int32) (tk T_cX12_asked 16 rfl) kI_0 ?_
          refine a_istore C (tk T_cX12_asked 17 rfl) (by decide) rfl ?_
          obtain ⟨n1, h⟩ := h
          exact a_to (k_M_asked_76 C hr hR n1 x1 x3 (0 : Int32) (0 : Int32) M h) rfl
        · have h := h.2 c3
          refine a_case (4 : Int32) (fun c => ?_) (fun c4 => ?_)
          · have h := h.1 c
            refine a_tswI C (125) 129 (tk T_cX12_asked 3 rfl) (by decide) rfl ?_
            refine a_sipush C (9999 : Int32) (tk T_cX12_asked 45 rfl) kS_9999 ?_
            refine a_aload_n C (tk T_cX12_asked 46 rfl) rfl ?_
            refine a_iconst C (0 : Int32) (tk T_cX12_asked 47 rfl) kI_0 ?_
            refine a_callI C [.int (0 : Int32)] me_yX12_lays lk_RX12_112 (ct_M_lays h) (by decide) lm0 rfl rfl rfl (Nat.le_of_ble_eq_true rfl) (tk T_cX12_asked 48 rfl) hr (fun r2 M2 h => ?_)
            refine a_statI C [.int (9999 : Int32), .int r2] me_yJ9_min_7cf53 lk_RX12_109 (ct_Math_min h) (by decide) rfl rfl (Nat.le_of_ble_eq_true rfl) (tk T_cX12_asked 49 rfl) hr (fun r3 M3 h => ?_)
            exact hR _ _ _ _ (tk T_cX12_asked 50 rfl) h
          · have h := h.2 c4
            refine a_case (5 : Int32) (fun c => ?_) (fun c5 => ?_)
            · have h := h.1 c
              refine a_tswI C (137) 141 (tk T_cX12_asked 3 rfl) (by decide) rfl ?_
              refine a_aload_n C (tk T_cX12_asked 51 rfl) rfl ?_
              refine a_getI C f_RX12_209 (tk T_cX12_asked 52 rfl) lm0 rfl ?_
              refine a_iload_n C (tk T_cX12_asked 53 rfl) rfl ?_
              refine a_ishr C (tk T_cX12_asked 54 rfl) ?_
              refine a_iconst C (1 : Int32) (tk T_cX12_asked 55 rfl) kI_1 ?_
              refine a_iand C (tk T_cX12_asked 56 rfl) ?_
              exact hR _ _ _ _ (tk T_cX12_asked 57 rfl) h
            · have h := h.2 c5
              refine a_case (6 : Int32) (fun c => ?_) (fun c6 => ?_)
              · have h := h.1 c
                refine a_tswI C (146) 150 (tk T_cX12_asked 3 rfl) (by decide) rfl ?_
                refine a_aload_n C (tk T_cX12_asked 58 rfl) rfl ?_
                refine a_getI C f_RX12_212 (tk T_cX12_asked 59 rfl) lm0 rfl ?_
                refine a_iload_n C (tk T_cX12_asked 60 rfl) rfl ?_
                refine a_ishr C (tk T_cX12_asked 61 rfl) ?_
                refine a_iconst C (1 : Int32) (tk T_cX12_asked 62 rfl) kI_1 ?_
                refine a_iand C (tk T_cX12_asked 63 rfl) ?_
                exact hR _ _ _ _ (tk T_cX12_asked 64 rfl) h
              · have h := h.2 c6
                have d0 := ne_toInt (z := 0) c0 (by decide)
                have d1 := ne_toInt (z := 1) c1 (by decide)
                have d2 := ne_toInt (z := 2) c2 (by decide)
                have d3 := ne_toInt (z := 3) c3 (by decide)
                have d4 := ne_toInt (z := 4) c4 (by decide)
                have d5 := ne_toInt (z := 5) c5 (by decide)
                have d6 := ne_toInt (z := 6) c6 (by decide)
                refine a_tswO C 159 (tk T_cX12_asked 3 rfl) (by omega) rfl ?_
                refine a_iload_n C (tk T_cX12_asked 65 rfl) rfl ?_
                exact hR _ _ _ _ (tk T_cX12_asked 66 rfl) h
theorem ct_M_asked {l : Launch} {g : GT} {post : Int32 → Mem → Prop} {x1 x2 x3 : Int32} {M : Mem} (h : P_M_asked post x1 x2 x3 M) : CI l g layM yX12_asked cX12_asked 6 (some .int) 4 [.ref (ad g 0), .int x1, .int x2, .int x3] M post :=
  ci_of (plainFor_of_name (by decide +kernel)) (Nat.le_of_ble_eq_true rfl) (fun X A Z hl C hr hR => by subst hl; exact k_M_asked C hr hR x1 x2 x3 M h)
def T_cX12_holdsL : List (Nat × Instr × Nat) := [(0, .aload_n 0, 1), (1, .iconst 0, 1), (2, .putfield 3, 3), (5, .aload_n 0, 1), (6, .aload_n 0, 1), (7, .iload_n 1, 1), (8, .bipush 10, 2), (10, .invokevirtual 121, 3), (13, .ifCond .ne 13, 3), (16, .aload_n 0, 1), (17, .iload_n 2, 1), (18, .bipush 8, 2), (20, .invokevirtual 121, 3), (23, .ifCond .eq 7, 3), (26, .iconst 1, 1), (27, .goto 4, 3), (30, .iconst 0, 1), (31, .iconst 1, 1), (32, .invokevirtual 72, 3), (35, .ifCond .eq 5, 3), (38, .iconst 0, 1), (39, .ireturn, 1), (40, .aload_n 0, 1), (41, .invokevirtual 197, 3), (44, .aload_n 0, 1), (45, .iload_n 2, 1), (46, .invokevirtual 220, 3), (49, .iconst 0, 1), (50, .istore_n 3, 1), (51, .iconst 0, 1), (52, .istore 4, 2), (54, .iload 4, 2), (56, .aload_n 0, 1), (57, .getfield 13, 3), (60, .iload_n 1, 1), (61, .invokestatic 312, 3), (64, .iaload, 1), (65, .if_icmp .ge 234, 3), (68, .aload_n 0, 1), (69, .getfield 13, 3), (72, .iload_n 1, 1), (73, .invokestatic 312, 3), (76, .iconst 1, 1), (77, .iadd, 1), (78, .iconst 2, 1), (79, .iload 4, 2), (81, .imul, 1), (82, .iadd, 1), (83, .iaload, 1), (84, .istore 5, 2), (86, .iload 5, 2), (88, .bipush 7, 2), (90, .if_icmp .gt 38, 3), (93, .aload_n 0, 1), (94, .getfield 51, 3), (97, .iload_n 3, 1), (98, .aload_n 0, 1), (99, .iload 5, 2), (101, .aload_n 0, 1), (102, .getfield 13, 3), (105, .iload_n 1, 1), (106, .invokestatic 312, 3), (109, .iconst 2, 1), (110, .iadd, 1), (111, .iconst 2, 1), (112, .iload 4, 2), (114, .imul, 1), (115, .iadd, 1), (116, .iaload, 1), (117, .iload_n 2, 1), (118, .invokevirtual 371, 3), (121, .iastore, 1), (122, .iinc 3 1, 3), (125, .goto 168, 3), (128, .iload 5, 2), (130, .bipush 11, 2), (132, .if_icmp .ne 24, 3), (135, .aload_n 0, 1), (136, .getfield 51, 3), (139, .iload_n 3, 1), (140, .iconst 1, 1), (141, .isub, 1), (142, .iconst 1, 1), (143, .aload_n 0, 1), (144, .getfield 51, 3), (147, .iload_n 3, 1), (148, .iconst 1, 1), (149, .isub, 1), (150, .iaload, 1), (151, .isub, 1), (152, .iastore, 1), (153, .goto 140, 3), (156, .iinc 3 (-1), 3), (159, .aload_n 0, 1), (160, .getfield 51, 3), (163, .iload_n 3, 1), (164, .iconst 1, 1), (165, .isub, 1), (166, .iaload, 1), (167, .istore 6, 2), (169, .aload_n 0, 1), (170, .getfield 51, 3), (173, .iload_n 3, 1), (174, .iaload, 1), (175, .istore 7, 2), (177, .iload 5, 2), (179, .bipush 9, 2), (181, .if_icmp .ne 18, 3), (184, .iload 6, 2), (186, .iload 7, 2), (188, .if_icmp .ge 7, 3), (191, .iconst 1, 1), (192, .goto 66, 3), (195, .iconst 0, 1), (196, .goto 62, 3), (199, .iload 5, 2), (201, .bipush 10, 2), (203, .if_icmp .ne 18, 3), (206, .iload 6, 2), (208, .iload 7, 2), (210, .if_icmp .le 7, 3), (213, .iconst 1, 1), (214, .goto 44, 3), (217, .iconst 0, 1), (218, .goto 40, 3), (221, .iload 5, 2), (223, .bipush 12, 2), (225, .if_icmp .ne 20, 3), (228, .iload 6, 2), (230, .iload 7, 2), (232, .iadd, 1), (233, .iconst 2, 1), (234, .if_icmp .ne 7, 3), (237, .iconst 1, 1), (238, .goto 20, 3), (241, .iconst 0, 1), (242, .goto 16, 3), (245, .iload 6, 2), (247, .iload 7, 2), (249, .iadd, 1), (250, .ifCond .le 7, 3), (253, .iconst 1, 1), (254, .goto 4, 3), (257, .iconst 0, 1), (258, .istore 8, 2), (260, .aload_n 0, 1), (261, .getfield 51, 3), (264, .iload_n 3, 1), (265, .iconst 1, 1), (266, .isub, 1), (267, .iload 5, 2), (269, .bipush 8, 2), (271, .if_icmp .ne 11, 3), (274, .iload 6, 2), (276, .iload 7, 2), (278, .iadd, 1), (279, .goto 13, 3), (282, .iload 8, 2), (284, .ifCond .eq 7, 3), (287, .iconst 1, 1), (288, .goto 4, 3), (291, .iconst 0, 1), (292, .iastore, 1), (293, .iinc 4 1, 3), (296, .goto (-242), 3), (299, .aload_n 0, 1), (300, .getfield 51, 3), (303, .iconst 0, 1), (304, .iaload, 1), (305, .iconst 1, 1), (306, .if_icmp .ne 7, 3), (309, .iconst 1, 1), (310, .goto 4, 3), (313, .iconst 0, 1), (314, .ireturn, 1)]
theorem T_cX12_holds : tabOK cX12_holds T_cX12_holdsL = true := by decide +kernel
def P_M_holds_314 (post : Int32 → Mem → Prop) (s0 : Int32) (M : Mem) : Prop :=
  (s0 = 0 ∨ s0 = 1) ∧ post s0 M
theorem k_M_holds_314 {X : FX} {g : GT} {A : Nat → Prop} {Z : State → Prop} {post : Int32 → Mem → Prop} (C : Cx X g layM A cX12_holds 9 RX12 7) (hr : 0 ≤ X.2.2.2.1.cells ∧ 0 ≤ X.2.2.2.1.slots) (hR : RetZ X g layM A cX12_holds 9 0 0 Z post) (s0 : Int32) (M : Mem) (h : P_M_holds_314 post s0 M) : AtX X g layM A 9 0 0 Z 314 [] [.int s0] M := by
  exact hR _ _ _ _ (tk T_cX12_holds 174 rfl) h
def P_M_holds_293 (post : Int32 → Mem → Prop) (R54 : Int32 → Int32 → Int32 → Int32 → Mem → Prop) (x1 x2 x3 x4 : Int32) (M : Mem) : Prop :=
  R54 x1 x2 x3 (x4 + (1 : Int32)) M
theorem k_M_holds_293 {X : FX} {g : GT} {A : Nat → Prop} {Z : State → Prop} {post : Int32 → Mem → Prop} {R54 : Int32 → Int32 → Int32 → Int32 → Mem → Prop} (C : Cx X g layM A cX12_holds 9 RX12 7) (hr : 0 ≤ X.2.2.2.1.cells ∧ 0 ≤ X.2.2.2.1.slots) (hR : RetZ X g layM A cX12_holds 9 0 0 Z post) (k54 : ∀ (y1 y2 y3 y4 : Int32) (M : Mem), R54 y1 y2 y3 y4 M → AtX X g layM A 9 0 0 Z 54 [(0, .ref (ad g 0)), (1, .int y1), (2, .int y2), (3, .int y3), (4, .int y4)] [] M) (x1 x2 x3 x4 : Int32) (M : Mem) (h : P_M_holds_293 post R54 x1 x2 x3 x4 M) : AtX X g layM A 9 0 0 Z 293 [(0, .ref (ad g 0)), (1, .int x1), (2, .int x2), (3, .int x3), (4, .int x4)] [] M := by
  refine a_iinc C (1 : Int32) (tk T_cX12_holds 163 rfl) rfl kI_1 (by decide) rfl ?_
  refine a_goto C 54 (tk T_cX12_holds 164 rfl) rfl ?_
  exact a_to (k54 x1 x2 x3 (x4 + (1 : Int32)) M h) rfl
def P_M_holds_292 (post : Int32 → Mem → Prop) (R54 : Int32 → Int32 → Int32 → Int32 → Mem → Prop) (x1 x2 x3 x4 s1 s2 : Int32) (M : Mem) : Prop :=
  vp_in s1 400 ∧ ∀ M1, M1 = ms M 12 s1.toNatClampNeg s2 → P_M_holds_293 post R54 x1 x2 x3 x4 M1
theorem k_M_holds_292 {X : FX} {g : GT} {A : Nat → Prop} {Z : State → Prop} {post : Int32 → Mem → Prop} {R54 : Int32 → Int32 → Int32 → Int32 → Mem → Prop} (C : Cx X g layM A cX12_holds 9 RX12 7) (hr : 0 ≤ X.2.2.2.1.cells ∧ 0 ≤ X.2.2.2.1.slots) (hR : RetZ X g layM A cX12_holds 9 0 0 Z post) (k54 : ∀ (y1 y2 y3 y4 : Int32) (M : Mem), R54 y1 y2 y3 y4 M → AtX X g layM A 9 0 0 Z 54 [(0, .ref (ad g 0)), (1, .int y1), (2, .int y2), (3, .int y3), (4, .int y4)] [] M) (x1 x2 x3 x4 s1 s2 : Int32) (M : Mem) (h : P_M_holds_292 post R54 x1 x2 x3 x4 s1 s2 M) : AtX X g layM A 9 0 0 Z 292 [(0, .ref (ad g 0)), (1, .int x1), (2, .int x2), (3, .int x3), (4, .int x4)] [.int s2, .int s1, .ref (ad g 12)] M := by
  obtain ⟨hb, h⟩ := h
  refine a_iast C (tk T_cX12_holds 162 rfl) lm12 hb ?_
  refine a_mem (fun M1 e_M1 => ?_)
  have h := h M1 e_M1
  exact a_to (k_M_holds_293 C hr hR k54 x1 x2 x3 x4 M1 h) rfl
def P_M_holds_258 (post : Int32 → Mem → Prop) (R54 : Int32 → Int32 → Int32 → Int32 → Mem → Prop) (x1 x2 x3 x4 x5 x6 x7 s0 : Int32) (M : Mem) : Prop :=
  (¬ x5 = (8 : Int32) → ((s0 = 0 → (P_M_holds_292 post R54 x1 x2 x3 x4 (x3 - (1 : Int32)) (0 : Int32) M)) ∧
  (¬ s0 = 0 → (P_M_holds_292 post R54 x1 x2 x3 x4 (x3 - (1 : Int32)) (1 : Int32) M)))) ∧
  (x5 = (8 : Int32) → (P_M_holds_292 post R54 x1 x2 x3 x4 (x3 - (1 : Int32)) (x6 + x7) M))
theorem k_M_holds_258 {X : FX} {g : GT} {A : Nat → Prop} {Z : State → Prop} {post : Int32 → Mem → Prop} {R54 : Int32 → Int32 → Int32 → Int32 → Mem → Prop} (C : Cx X g layM A cX12_holds 9 RX12 7) (hr : 0 ≤ X.2.2.2.1.cells ∧ 0 ≤ X.2.2.2.1.slots) (hR : RetZ X g layM A cX12_holds 9 0 0 Z post) (k54 : ∀ (y1 y2 y3 y4 : Int32) (M : Mem), R54 y1 y2 y3 y4 M → AtX X g layM A 9 0 0 Z 54 [(0, .ref (ad g 0)), (1, .int y1), (2, .int y2), (3, .int y3), (4, .int y4)] [] M) (x1 x2 x3 x4 x5 x6 x7 s0 : Int32) (M : Mem) (h : P_M_holds_258 post R54 x1 x2 x3 x4 x5 x6 x7 s0 M) : AtX X g layM A 9 0 0 Z 258 [(0, .ref (ad g 0)), (1, .int x1), (2, .int x2), (3, .int x3), (4, .int x4), (5, .int x5), (6, .int x6), (7, .int x7)] [.int s0] M := by
  refine a_istore C (tk T_cX12_holds 144 rfl) (by decide) rfl ?_
  refine a_aload_n C (tk T_cX12_holds 145 rfl) rfl ?_
  refine a_getR C f_RX12_51 (tk T_cX12_holds 146 rfl) lm0 rfl ?_
  refine a_iload_n C (tk T_cX12_holds 147 rfl) rfl ?_
  refine a_iconst C (1 : Int32) (tk T_cX12_holds 148 rfl) kI_1 ?_
  refine a_isub C (tk T_cX12_holds 149 rfl) ?_
  refine a_iload C (tk T_cX12_holds 150 rfl) rfl ?_
  refine a_bipush C (8 : Int32) (tk T_cX12_holds 151 rfl) kB_8 ?_
  refine a_icmp_ne C 282 (tk T_cX12_holds 152 rfl) rfl (fun c => ?_) (fun c => ?_)
  · have h := h.1 c
    refine a_iload C (tk T_cX12_holds 157 rfl) rfl ?_
    refine a_if_eq C 291 (tk T_cX12_holds 158 rfl) rfl (fun c => ?_) (fun c => ?_)
    · have h := h.1 c
      refine a_iconst C (0 : Int32) (tk T_cX12_holds 161 rfl) kI_0 ?_
      exact a_to (k_M_holds_292 C hr hR k54 x1 x2 x3 x4 (x3 - (1 : Int32)) (0 : Int32) M h) rfl
    · have h := h.2 c
      refine a_iconst C (1 : Int32) (tk T_cX12_holds 159 rfl) kI_1 ?_
      refine a_goto C 292 (tk T_cX12_holds 160 rfl) rfl ?_
      exact a_to (k_M_holds_292 C hr hR k54 x1 x2 x3 x4 (x3 - (1 : Int32)) (1 : Int32) M h) rfl
  · have h := h.2 c
    refine a_iload C (tk T_cX12_holds 153 rfl) rfl ?_
    refine a_iload C (tk T_cX12_holds 154 rfl) rfl ?_
    refine a_iadd C (tk T_cX12_holds 155 rfl) ?_
    refine a_goto C 292 (tk T_cX12_holds 156 rfl) rfl ?_
    exact a_to (k_M_holds_292 C hr hR k54 x1 x2 x3 x4 (x3 - (1 : Int32)) (x6 + x7) M h) rfl
def P_M_holds_54 (post : Int32 → Mem → Prop) : Nat → Int32 → Int32 → Int32 → Int32 → Mem → Prop
  | 0, _, _, _, _, _ => False
  | n + 1, x1, x2, x3, x4, M =>
    P_M_textAt (fun r1 M1 =>
  vp_in r1 5966 ∧ ((M1 1 r1.toNatClampNeg) ≤ x4 → (vp_in (0 : Int32) 400 ∧ (¬ (M1 12 (0 : Int32).toNatClampNeg) = (1 : Int32) → (P_M_holds_314 post (0 : Int32) M1)) ∧
  ((M1 12 (0 : Int32).toNatClampNeg) = (1 : Int32) → (P_M_holds_314 post (1 : Int32) M1)))) ∧
  (¬ (M1 1 r1.toNatClampNeg) ≤ x4 → (P_M_textAt (fun r2 M2 =>
  ∀ i3, i3 = ((r2 + (1 : Int32)) + ((2 : Int32) * x4)) → vp_in i3 5966 ∧ ((7 : Int32) < (M2 1 i3.toNatClampNeg) → ((¬ (M2 1 i3.toNatClampNeg) = (11 : Int32) → (∀ i4, i4 = ((x3 + (-1 : Int32)) - (1 : Int32)) → vp_in i4 400 ∧ vp_in (x3 + (-1 : Int32)) 400 ∧ ∀ x7_5, x7_5 = (M2 12 (x3 + (-1 : Int32)).toNatClampNeg) → (¬ (M2 1 i3.toNatClampNeg) = (9 : Int32) → ((¬ (M2 1 i3.toNatClampNeg) = (10 : Int32) → ((¬ (M2 1 i3.toNatClampNeg) = (12 : Int32) → ((((M2 12 i4.toNatClampNeg) + x7_5) ≤ 0 → (P_M_holds_258 post (P_M_holds_54 post n) x1 x2 (x3 + (-1 : Int32)) x4 (M2 1 i3.toNatClampNeg) (M2 12 i4.toNatClampNeg) x7_5 (0 : Int32) M2)) ∧
  (¬ ((M2 12 i4.toNatClampNeg) + x7_5) ≤ 0 → (P_M_holds_258 post (P_M_holds_54 post n) x1 x2 (x3 + (-1 : Int32)) x4 (M2 1 i3.toNatClampNeg) (M2 12 i4.toNatClampNeg) x7_5 (1 : Int32) M2)))) ∧
  ((M2 1 i3.toNatClampNeg) = (12 : Int32) → ((¬ ((M2 12 i4.toNatClampNeg) + x7_5) = (2 : Int32) → (P_M_holds_258 post (P_M_holds_54 post n) x1 x2 (x3 + (-1 : Int32)) x4 (M2 1 i3.toNatClampNeg) (M2 12 i4.toNatClampNeg) x7_5 (0 : Int32) M2)) ∧
  (((M2 12 i4.toNatClampNeg) + x7_5) = (2 : Int32) → (P_M_holds_258 post (P_M_holds_54 post n) x1 x2 (x3 + (-1 : Int32)) x4 (M2 1 i3.toNatClampNeg) (M2 12 i4.toNatClampNeg) x7_5 (1 : Int32) M2)))))) ∧
  ((M2 1 i3.toNatClampNeg) = (10 : Int32) → (((M2 12 i4.toNatClampNeg) ≤ x7_5 → (P_M_holds_258 post (P_M_holds_54 post n) x1 x2 (x3 + (-1 : Int32)) x4 (M2 1 i3.toNatClampNeg) (M2 12 i4.toNatClampNeg) x7_5 (0 : Int32) M2)) ∧
  (¬ (M2 12 i4.toNatClampNeg) ≤ x7_5 → (P_M_holds_258 post (P_M_holds_54 post n) x1 x2 (x3 + (-1 : Int32)) x4 (M2 1 i3.toNatClampNeg) (M2 12 i4.toNatClampNeg) x7_5 (1 : Int32) M2)))))) ∧
  ((M2 1 i3.toNatClampNeg) = (9 : Int32) → ((x7_5 ≤ (M2 12 i4.toNatClampNeg) → (P_M_holds_258 post (P_M_holds_54 post n) x1 x2 (x3 + (-1 : Int32)) x4 (M2 1 i3.toNatClampNeg) (M2 12 i4.toNatClampNeg) x7_5 (0 : Int32) M2)) ∧
  (¬ x7_5 ≤ (M2 12 i4.toNatClampNeg) → (P_M_holds_258 post (P_M_holds_54 post n) x1 x2 (x3 + (-1 : Int32)) x4 (M2 1 i3.toNatClampNeg) (M2 12 i4.toNatClampNeg) x7_5 (1 : Int32) M2)))))) ∧
  ((M2 1 i3.toNatClampNeg) = (11 : Int32) → (vp_in (x3 - (1 : Int32)) 400 ∧ vp_in (x3 - (1 : Int32)) 400 ∧ ∀ M6, M6 = ms M2 12 (x3 - (1 : Int32)).toNatClampNeg ((1 : Int32) - (M2 12 (x3 - (1 : Int32)).toNatClampNeg)) → P_M_holds_293 post (P_M_holds_54 post n) x1 x2 x3 x4 M6)))) ∧
  (¬ (7 : Int32) < (M2 1 i3.toNatClampNeg) → (P_M_textAt (fun r7 M7 =>
  ∀ i8, i8 = ((r7 + (2 : Int32)) + ((2 : Int32) * x4)) → vp_in i8 5966 ∧ P_M_asked (fun r9 M9 =>
  vp_in x3 400 ∧ ∀ M10, M10 = ms M9 12 x3.toNatClampNeg r9 → P_M_holds_293 post (P_M_holds_54 post n) x1 x2 (x3 + (1 : Int32)) x4 M10) (M2 1 i3.toNatClampNeg) (M7 1 i8.toNatClampNeg) x2 M7) x1 M2))) x1 M1))) x1 M
theorem k_M_holds_54 {X : FX} {g : GT} {A : Nat → Prop} {Z : State → Prop} {post : Int32 → Mem → Prop} (C : Cx X g layM A cX12_holds 9 RX12 7) (hr : 0 ≤ X.2.2.2.1.cells ∧ 0 ≤ X.2.2.2.1.slots) (hR : RetZ X g layM A cX12_holds 9 0 0 Z post) : ∀ (n : Nat) (x1 x2 x3 x4 : Int32) (M : Mem), P_M_holds_54 post n x1 x2 x3 x4 M → AtX X g layM A 9 0 0 Z 54 [(0, .ref (ad g 0)), (1, .int x1), (2, .int x2), (3, .int x3), (4, .int x4)] [] M := by
  intro n
  induction n with
  | zero =>
    intro x1 x2 x3 x4 M h
    exact h.elim
  | succ n ih =>
    intro x1 x2 x3 x4 M h
    refine a_iload C (tk T_cX12_holds 31 rfl) rfl ?_
    refine a_aload_n C (tk T_cX12_holds 32 rfl) rfl ?_
    refine a_getR C f_RX12_13 (tk T_cX12_holds 33 rfl) lm0 rfl ?_
    refine a_iload_n C (tk T_cX12_holds 34 rfl) rfl ?_
    refine a_statI C [.int x1] me_yX12_textAt lk_RX12_312 (ct_M_textAt h) (by decide) rfl rfl (Nat.le_of_ble_eq_true rfl) (tk T_cX12_holds 35 rfl) hr (fun r1 M1 h => ?_)
    obtain ⟨hb, h⟩ := h
    refine a_iald C (tk T_cX12_holds 36 rfl) lm1 hb ?_
    refine a_icmp_ge C 299 (tk T_cX12_holds 37 rfl) rfl (fun c => ?_) (fun c => ?_)
    · have h := h.1 c
      refine a_aload_n C (tk T_cX12_holds 165 rfl) rfl ?_
      refine a_getR C f_RX12_51 (tk T_cX12_holds 166 rfl) lm0 rfl ?_
      refine a_iconst C (0 : Int32) (tk T_cX12_holds 167 rfl) kI_0 ?_
      obtain ⟨hb, h⟩ := h
      refine a_iald C (tk T_cX12_holds 168 rfl) lm12 hb ?_
      refine a_iconst C (1 : Int32) (tk T_cX12_holds 169 rfl) kI_1 ?_
      refine a_icmp_ne C 313 (tk T_cX12_holds 170 rfl) rfl (fun c => ?_) (fun c => ?_)
      · have h := h.1 c
        refine a_iconst C (0 : Int32) (tk T_cX12_holds 173 rfl) kI_0 ?_
        exact a_to (k_M_holds_314 C hr hR (0 : Int32) M1 h) rfl
      · have h := h.2 c
        refine a_iconst C (1 : Int32) (tk T_cX12_holds 171 rfl) kI_1 ?_
        refine a_goto C 314 (tk T_cX12_holds 172 rfl) rfl ?_
        exact a_to (k_M_holds_314 C hr hR (1 : Int32) M1 h) rfl
    · have h := h.2 c
      refine a_aload_n C (tk T_cX12_holds 38 rfl) rfl ?_
      refine a_getR C f_RX12_13 (tk T_cX12_holds 39 rfl) lm0 rfl ?_
      refine a_iload_n C (tk T_cX12_holds 40 rfl) rfl ?_
      refine a_statI C [.int x1] me_yX12_textAt lk_RX12_312 (ct_M_textAt h) (by decide) rfl rfl (Nat.le_of_ble_eq_true rfl) (tk T_cX12_holds 41 rfl) hr (fun r2 M2 h => ?_)
      refine a_iconst C (1 : Int32) (tk T_cX12_holds 42 rfl) kI_1 ?_
      refine a_iadd C (tk T_cX12_holds 43 rfl) ?_
      refine a_iconst C (2 : Int32) (tk T_cX12_holds 44 rfl) kI_2 ?_
      refine a_iload C (tk T_cX12_holds 45 rfl) rfl ?_
      refine a_imul C (tk T_cX12_holds 46 rfl) ?_
      refine a_iadd C (tk T_cX12_holds 47 rfl) ?_
      refine a_top (fun i3 e_i3 => ?_)
      have h := h i3 e_i3
      obtain ⟨hb, h⟩ := h
      refine a_iald C (tk T_cX12_holds 48 rfl) lm1 hb ?_
      refine a_istore C (tk T_cX12_holds 49 rfl) (by decide) rfl ?_
      refine a_iload C (tk T_cX12_holds 50 rfl) rfl ?_
      refine a_bipush C (7 : Int32) (tk T_cX12_holds 51 rfl) kB_7 ?_
      refine a_icmp_gt C 128 (tk T_cX12_holds 52 rfl) rfl (fun c => ?_) (fun c => ?_)
      · have h := h.1 c
        refine a_iload C (tk T_cX12_holds 74 rfl) rfl ?_
        refine a_bipush C (11 : Int32) (tk T_cX12_holds 75 rfl) kB_11 ?_
        refine a_icmp_ne C 156 (tk T_cX12_holds 76 rfl) rfl (fun c => ?_) (fun c => ?_)
        · have h := h.1 c
          refine a_iinc C (-1 : Int32) (tk T_cX12_holds 92 rfl) rfl kI_m1 (by decide) rfl ?_
          refine a_aload_n C (tk T_cX12_holds 93 rfl) rfl ?_
          refine a_getR C f_RX12_51 (tk T_cX12_holds 94 rfl) lm0 rfl ?_
          refine a_iload_n C (tk T_cX12_holds 95 rfl) rfl ?_
          refine a_iconst C (1 : Int32) (tk T_cX12_holds 96 rfl) kI_1 ?_
          refine a_isub C (tk T_cX12_holds 97 rfl) ?_
          refine a_top (fun i4 e_i4 => ?_)
          have h := h i4 e_i4
          obtain ⟨hb, h⟩ := h
          refine a_iald C (tk T_cX12_holds 98 rfl) lm12 hb ?_
          refine a_istore C (tk T_cX12_holds 99 rfl) (by decide) rfl ?_
          refine a_aload_n C (tk T_cX12_holds 100 rfl) rfl ?_
          refine a_getR C f_RX12_51 (tk T_cX12_holds 101 rfl) lm0 rfl ?_
          refine a_iload_n C (tk T_cX12_holds 102 rfl) rfl ?_
          obtain ⟨hb, h⟩ := h
          refine a_iald C (tk T_cX12_holds 103 rfl) lm12 hb ?_
          refine a_top (fun x7_5 e_x7_5 => ?_)
          have h := h x7_5 e_x7_5
          refine a_istore C (tk T_cX12_holds 104 rfl) (by decide) rfl ?_
          refine a_iload C (tk T_cX12_holds 105 rfl) rfl ?_
          refine a_bipush C (9 : Int32) (tk T_cX12_holds 106 rfl) kB_9 ?_
          refine a_icmp_ne C 199 (tk T_cX12_holds 107 rfl) rfl (fun c => ?_) (fun c => ?_)
          · have h := h.1 c
            refine a_iload C (tk T_cX12_holds 115 rfl) rfl ?_
            refine a_bipush C (10 : Int32) (tk T_cX12_holds 116 rfl) kB_10 ?_
            refine a_icmp_ne C 221 (tk T_cX12_holds 117 rfl) rfl (fun c => ?_) (fun c => ?_)
            · have h := h.1 c
              refine a_iload C (tk T_cX12_holds 125 rfl) rfl ?_
              refine a_bipush C (12 : Int32) (tk T_cX12_holds 126 rfl) kB_12 ?_
              refine a_icmp_ne C 245 (tk T_cX12_holds 127 rfl) rfl (fun c => ?_) (fun c => ?_)
              · have h := h.1 c
                refine a_iload C (tk T_cX12_holds 137 rfl) rfl ?_
                refine a_iload C (tk T_cX12_holds 138 rfl) rfl ?_
                refine a_iadd C (tk T_cX12_holds 139 rfl) ?_
                refine a_if_le C 257 (tk T_cX12_holds 140 rfl) rfl (fun c => ?_) (fun c => ?_)
                · have h := h.1 c
                  refine a_iconst C (0 : Int32) (tk T_cX12_holds 143 rfl) kI_0 ?_
                  exact a_to (k_M_holds_258 C hr hR ih x1 x2 (x3 + (-1 : Int32)) x4 (M2 1 i3.toNatClampNeg) (M2 12 i4.toNatClampNeg) x7_5 (0 : Int32) M2 h) rfl
                · have h := h.2 c
                  refine a_iconst C (1 : Int32) (tk T_cX12_holds 141 rfl) kI_1 ?_
                  refine a_goto C 258 (tk T_cX12_holds 142 rfl) rfl ?_
                  exact a_to (k_M_holds_258 C hr hR ih x1 x2 (x3 + (-1 : Int32)) x4 (M2 1 i3.toNatClampNeg) (M2 12 i4.toNatClampNeg) x7_5 (1 : Int32) M2 h) rfl
              · have h := h.2 c
                refine a_iload C (tk T_cX12_holds 128 rfl) rfl ?_
                refine a_iload C (tk T_cX12_holds 129 rfl) rfl ?_
                refine a_iadd C (tk T_cX12_holds 130 rfl) ?_
                refine a_iconst C (2 : Int32) (tk T_cX12_holds 131 rfl) kI_2 ?_
                refine a_icmp_ne C 241 (tk T_cX12_holds 132 rfl) rfl (fun c => ?_) (fun c => ?_)
                · have h := h.1 c
                  refine a_iconst C (0 : Int32) (tk T_cX12_holds 135 rfl) kI_0 ?_
                  refine a_goto C 258 (tk T_cX12_holds 136 rfl) rfl ?_
                  exact a_to (k_M_holds_258 C hr hR ih x1 x2 (x3 + (-1 : Int32)) x4 (M2 1 i3.toNatClampNeg) (M2 12 i4.toNatClampNeg) x7_5 (0 : Int32) M2 h) rfl
                · have h := h.2 c
                  refine a_iconst C (1 : Int32) (tk T_cX12_holds 133 rfl) kI_1 ?_
                  refine a_goto C 258 (tk T_cX12_holds 134 rfl) rfl ?_
                  exact a_to (k_M_holds_258 C hr hR ih x1 x2 (x3 + (-1 : Int32)) x4 (M2 1 i3.toNatClampNeg) (M2 12 i4.toNatClampNeg) x7_5 (1 : Int32) M2 h) rfl
            · have h := h.2 c
              refine a_iload C (tk T_cX12_holds 118 rfl) rfl ?_
              refine a_iload C (tk T_cX12_holds 119 rfl) rfl ?_
              refine a_icmp_le C 217 (tk T_cX12_holds 120 rfl) rfl (fun c => ?_) (fun c => ?_)
              · have h := h.1 c
                refine a_iconst C (0 : Int32) (tk T_cX12_holds 123 rfl) kI_0 ?_
                refine a_goto C 258 (tk T_cX12_holds 124 rfl) rfl ?_
                exact a_to (k_M_holds_258 C hr hR ih x1 x2 (x3 + (-1 : Int32)) x4 (M2 1 i3.toNatClampNeg) (M2 12 i4.toNatClampNeg) x7_5 (0 : Int32) M2 h) rfl
              · have h := h.2 c
                refine a_iconst C (1 : Int32) (tk T_cX12_holds 121 rfl) kI_1 ?_
                refine a_goto C 258 (tk T_cX12_holds 122 rfl) rfl ?_
                exact a_to (k_M_holds_258 C hr hR ih x1 x2 (x3 + (-1 : Int32)) x4 (M2 1 i3.toNatClampNeg) (M2 12 i4.toNatClampNeg) x7_5 (1 : Int32) M2 h) rfl
          · have h := h.2 c
            refine a_iload C (tk T_cX12_holds 108 rfl) rfl ?_
            refine a_iload C (tk T_cX12_holds 109 rfl) rfl ?_
            refine a_icmp_ge C 195 (tk T_cX12_holds 110 rfl) rfl (fun c => ?_) (fun c => ?_)
            · have h := h.1 c
              refine a_iconst C (0 : Int32) (tk T_cX12_holds 113 rfl) kI_0 ?_
              refine a_goto C 258 (tk T_cX12_holds 114 rfl) rfl ?_
              exact a_to (k_M_holds_258 C hr hR ih x1 x2 (x3 + (-1 : Int32)) x4 (M2 1 i3.toNatClampNeg) (M2 12 i4.toNatClampNeg) x7_5 (0 : Int32) M2 h) rfl
            · have h := h.2 c
              refine a_iconst C (1 : Int32) (tk T_cX12_holds 111 rfl) kI_1 ?_
              refine a_goto C 258 (tk T_cX12_holds 112 rfl) rfl ?_
              exact a_to (k_M_holds_258 C hr hR ih x1 x2 (x3 + (-1 : Int32)) x4 (M2 1 i3.toNatClampNeg) (M2 12 i4.toNatClampNeg) x7_5 (1 : Int32) M2 h) rfl
        · have h := h.2 c
          refine a_aload_n C (tk T_cX12_holds 77 rfl) rfl ?_
          refine a_getR C f_RX12_51 (tk T_cX12_holds 78 rfl) lm0 rfl ?_
          refine a_iload_n C (tk T_cX12_holds 79 rfl) rfl ?_
          refine a_iconst C (1 : Int32) (tk T_cX12_holds 80 rfl) kI_1 ?_
          refine a_isub C (tk T_cX12_holds 81 rfl) ?_
          refine a_iconst C (1 : Int32) (tk T_cX12_holds 82 rfl) kI_1 ?_
          refine a_aload_n C (tk T_cX12_holds 83 rfl) rfl ?_
          refine a_getR C f_RX12_51 (tk T_cX12_holds 84 rfl) lm0 rfl ?_
          refine a_iload_n C (tk T_cX12_holds 85 rfl) rfl ?_
          refine a_iconst C (1 : Int32) (tk T_cX12_holds 86 rfl) kI_1 ?_
          refine a_isub C (tk T_cX12_holds 87 rfl) ?_
          obtain ⟨hb, h⟩ := h
          refine a_iald C (tk T_cX12_holds 88 rfl) lm12 hb ?_
          refine a_isub C (tk T_cX12_holds 89 rfl) ?_
          obtain ⟨hb, h⟩ := h
          refine a_iast C (tk T_cX12_holds 90 rfl) lm12 hb ?_
          refine a_mem (fun M6 e_M6 => ?_)
          have h := h M6 e_M6
          refine a_goto C 293 (tk T_cX12_holds 91 rfl) rfl ?_
          exact a_to (k_M_holds_293 C hr hR ih x1 x2 x3 x4 M6 h) rfl
      · have h := h.2 c
        refine a_aload_n C (tk T_cX12_holds 53 rfl) rfl ?_
        refine a_getR C f_RX12_51 (tk T_cX12_holds 54 rfl) lm0 rfl ?_
        refine a_iload_n C (tk T_cX12_holds 55 rfl) rfl ?_
        refine a_aload_n C (tk T_cX12_holds 56 rfl) rfl ?_
        refine a_iload C (tk T_cX12_holds 57 rfl) rfl ?_
        refine a_aload_n C (tk T_cX12_holds 58 rfl) rfl ?_
        refine a_getR C f_RX12_13 (tk T_cX12_holds 59 rfl) lm0 rfl ?_
        refine a_iload_n C (tk T_cX12_holds 60 rfl) rfl ?_
        refine a_statI C [.int x1] me_yX12_textAt lk_RX12_312 (ct_M_textAt h) (by decide) rfl rfl (Nat.le_of_ble_eq_true rfl) (tk T_cX12_holds 61 rfl) hr (fun r7 M7 h => ?_)
        refine a_iconst C (2 : Int32) (tk T_cX12_holds 62 rfl) kI_2 ?_
        refine a_iadd C (tk T_cX12_holds 63 rfl) ?_
        refine a_iconst C (2 : Int32) (tk T_cX12_holds 64 rfl) kI_2 ?_
        refine a_iload C (tk T_cX12_holds 65 rfl) rfl ?_
        refine a_imul C (tk T_cX12_holds 66 rfl) ?_
        refine a_iadd C (tk T_cX12_holds 67 rfl) ?_
        refine a_top (fun i8 e_i8 => ?_)
        have h := h i8 e_i8
        obtain ⟨hb, h⟩ := h
        refine a_iald C (tk T_cX12_holds 68 rfl) lm1 hb ?_
        refine a_iload_n C (tk T_cX12_holds 69 rfl) rfl ?_
        refine a_callI C [.int (M2 1 i3.toNatClampNeg), .int (M7 1 i8.toNatClampNeg), .int x2] me_yX12_asked lk_RX12_371 (ct_M_asked h) (by decide) lm0 rfl rfl rfl (Nat.le_of_ble_eq_true rfl) (tk T_cX12_holds 70 rfl) hr (fun r9 M9 h => ?_)
        obtain ⟨hb, h⟩ := h
        refine a_iast C (tk T_cX12_holds 71 rfl) lm12 hb ?_
        refine a_mem (fun M10 e_M10 => ?_)
        have h := h M10 e_M10
        refine a_iinc C (1 : Int32) (tk T_cX12_holds 72 rfl) rfl kI_1 (by decide) rfl ?_
        refine a_goto C 293 (tk T_cX12_holds 73 rfl) rfl ?_
        exact a_to (k_M_holds_293 C hr hR ih x1 x2 (x3 + (1 : Int32)) x4 M10 h) rfl
def P_M_holds_31 (post : Int32 → Mem → Prop) (x1 x2 s1 : Int32) (M : Mem) : Prop :=
  P_M_throwsIf (fun r1 M1 =>
  (r1 = 0 → (P_M_spans (fun M2 =>
  P_M_findsSets (fun M3 =>
  ∃ j54, P_M_holds_54 post j54 x1 x2 (0 : Int32) (0 : Int32) M3) x2 M2) M1)) ∧
  (¬ r1 = 0 → (post (0 : Int32) M1))) s1 (1 : Int32) M
theorem k_M_holds_31 {X : FX} {g : GT} {A : Nat → Prop} {Z : State → Prop} {post : Int32 → Mem → Prop} (C : Cx X g layM A cX12_holds 9 RX12 7) (hr : 0 ≤ X.2.2.2.1.cells ∧ 0 ≤ X.2.2.2.1.slots) (hR : RetZ X g layM A cX12_holds 9 0 0 Z post) (x1 x2 s1 : Int32) (M : Mem) (h : P_M_holds_31 post x1 x2 s1 M) : AtX X g layM A 9 0 0 Z 31 [(0, .ref (ad g 0)), (1, .int x1), (2, .int x2)] [.int s1, .ref (ad g 0)] M := by
  refine a_iconst C (1 : Int32) (tk T_cX12_holds 17 rfl) kI_1 ?_
  refine a_callI C [.int s1, .int (1 : Int32)] me_yX12_throwsIf lk_RX12_72 (ct_M_throwsIf h) (by decide) lm0 rfl rfl rfl (Nat.le_of_ble_eq_true rfl) (tk T_cX12_holds 18 rfl) hr (fun r1 M1 h => ?_)
  refine a_if_eq C 40 (tk T_cX12_holds 19 rfl) rfl (fun c => ?_) (fun c => ?_)
  · have h := h.1 c
    refine a_aload_n C (tk T_cX12_holds 22 rfl) rfl ?_
    refine a_callV C [] me_yX12_spans lk_RX12_197 (ct_M_spans h) (by decide) lm0 rfl rfl rfl (Nat.le_of_ble_eq_true rfl) (tk T_cX12_holds 23 rfl) hr (fun M2 h => ?_)
    refine a_aload_n C (tk T_cX12_holds 24 rfl) rfl ?_
    refine a_iload_n C (tk T_cX12_holds 25 rfl) rfl ?_
    refine a_callV C [.int x2] me_yX12_findsSets lk_RX12_220 (ct_M_findsSets h) (by decide) lm0 rfl rfl rfl (Nat.le_of_ble_eq_true rfl) (tk T_cX12_holds 26 rfl) hr (fun M3 h => ?_)
    refine a_iconst C (0 : Int32) (tk T_cX12_holds 27 rfl) kI_0 ?_
    refine a_istore_n C (tk T_cX12_holds 28 rfl) (by decide) rfl ?_
    refine a_iconst C (0 : Int32) (tk T_cX12_holds 29 rfl) kI_0 ?_
    refine a_istore C (tk T_cX12_holds 30 rfl) (by decide) rfl ?_
    obtain ⟨n1, h⟩ := h
    exact a_to (k_M_holds_54 C hr hR n1 x1 x2 (0 : Int32) (0 : Int32) M3 h) rfl
  · have h := h.2 c
    refine a_iconst C (0 : Int32) (tk T_cX12_holds 20 rfl) kI_0 ?_
    exact hR _ _ _ _ (tk T_cX12_holds 21 rfl) ⟨Or.inl rfl, h⟩
def P_M_holds_26 (post : Int32 → Mem → Prop) (x1 x2 : Int32) (M : Mem) : Prop :=
  P_M_holds_31 post x1 x2 (1 : Int32) M
theorem k_M_holds_26 {X : FX} {g : GT} {A : Nat → Prop} {Z : State → Prop} {post : Int32 → Mem → Prop} (C : Cx X g layM A cX12_holds 9 RX12 7) (hr : 0 ≤ X.2.2.2.1.cells ∧ 0 ≤ X.2.2.2.1.slots) (hR : RetZ X g layM A cX12_holds 9 0 0 Z post) (x1 x2 : Int32) (M : Mem) (h : P_M_holds_26 post x1 x2 M) : AtX X g layM A 9 0 0 Z 26 [(0, .ref (ad g 0)), (1, .int x1), (2, .int x2)] [.ref (ad g 0)] M := by
  refine a_iconst C (1 : Int32) (tk T_cX12_holds 14 rfl) kI_1 ?_
  refine a_goto C 31 (tk T_cX12_holds 15 rfl) rfl ?_
  exact a_to (k_M_holds_31 C hr hR x1 x2 (1 : Int32) M h) rfl
def P_M_holds (post : Int32 → Mem → Prop) (x1 x2 : Int32) (M : Mem) : Prop :=
  ∀ M1, M1 = ms M 0 0 (0 : Int32) → P_M_none (fun r2 M2 =>
  (¬ r2 = 0 → (P_M_holds_26 post x1 x2 M2)) ∧
  (r2 = 0 → (P_M_none (fun r3 M3 =>
  (r3 = 0 → (P_M_holds_31 post x1 x2 (0 : Int32) M3)) ∧
  (¬ r3 = 0 → (P_M_holds_26 post x1 x2 M3))) x2 (8 : Int32) M2))) x1 (10 : Int32) M1
theorem k_M_holds {X : FX} {g : GT} {A : Nat → Prop} {Z : State → Prop} {post : Int32 → Mem → Prop} (C : Cx X g layM A cX12_holds 9 RX12 7) (hr : 0 ≤ X.2.2.2.1.cells ∧ 0 ≤ X.2.2.2.1.slots) (hR : RetZ X g layM A cX12_holds 9 0 0 Z post) (x1 x2 : Int32) (M : Mem) (h : P_M_holds post x1 x2 M) : AtX X g layM A 9 0 0 Z 0 [(0, .ref (ad g 0)), (1, .int x1), (2, .int x2)] [] M := by
  refine a_aload_n C (tk T_cX12_holds 0 rfl) rfl ?_
  refine a_iconst C (0 : Int32) (tk T_cX12_holds 1 rfl) kI_0 ?_
  refine a_put C f_RX12_3 f_RX12_3p rfl rfl (tk T_cX12_holds 2 rfl) lm0 rfl ?_
  refine a_mem (fun M1 e_M1 => ?_)
  have h := h M1 e_M1
  refine a_aload_n C (tk T_cX12_holds 3 rfl) rfl ?_
  refine a_aload_n C (tk T_cX12_holds 4 rfl) rfl ?_
  refine a_iload_n C (tk T_cX12_holds 5 rfl) rfl ?_
  refine a_bipush C (10 : Int32) (tk T_cX12_holds 6 rfl) kB_10 ?_
  refine a_callI C [.int x1, .int (10 : Int32)] me_yX12_none lk_RX12_121 (ct_M_none h) (by decide) lm0 rfl rfl rfl (Nat.le_of_ble_eq_true rfl) (tk T_cX12_holds 7 rfl) hr (fun r2 M2 h => ?_)
  refine a_if_ne C 26 (tk T_cX12_holds 8 rfl) rfl (fun c => ?_) (fun c => ?_)
  · have h := h.1 c
    exact a_to (k_M_holds_26 C hr hR x1 x2 M2 h) rfl
  · have h := h.2 c
    refine a_aload_n C (tk T_cX12_holds 9 rfl) rfl ?_
    refine a_iload_n C (tk T_cX12_holds 10 rfl) rfl ?_
    refine a_bipush C (8 : Int32) (tk T_cX12_holds 11 rfl) kB_8 ?_
    refine a_callI C [.int x2, .int (8 : Int32)] me_yX12_none lk_RX12_121 (ct_M_none h) (by decide) lm0 rfl rfl rfl (Nat.le_of_ble_eq_true rfl) (tk T_cX12_holds 12 rfl) hr (fun r3 M3 h => ?_)
    refine a_if_eq C 30 (tk T_cX12_holds 13 rfl) rfl (fun c => ?_) (fun c => ?_)
    · have h := h.1 c
      refine a_iconst C (0 : Int32) (tk T_cX12_holds 16 rfl) kI_0 ?_
      exact a_to (k_M_holds_31 C hr hR x1 x2 (0 : Int32) M3 h) rfl
    · have h := h.2 c
      exact a_to (k_M_holds_26 C hr hR x1 x2 M3 h) rfl
theorem ct_M_holds {l : Launch} {g : GT} {post : Int32 → Mem → Prop} {x1 x2 : Int32} {M : Mem} (h : P_M_holds post x1 x2 M) : CI l g layM yX12_holds cX12_holds 9 (some .boolean) 7 [.ref (ad g 0), .int x1, .int x2] M post :=
  cz_of (plainFor_of_name (by decide +kernel)) (Nat.le_of_ble_eq_true rfl) (fun X A Z hl C hr hR => by subst hl; exact k_M_holds C hr hR x1 x2 M h)
def T_cX12_countL : List (Nat × Instr × Nat) := [(0, .aload_n 0, 1), (1, .iconst 0, 1), (2, .putfield 3, 3), (5, .iconst 0, 1), (6, .istore_n 2, 1), (7, .iload_n 1, 1), (8, .tableswitch 220 0 10 #[60, 67, 75, 83, 112, 120, 125, 159, 167, 174, 212], 60), (68, .aload_n 0, 1), (69, .getfield 13, 3), (72, .iconst 5, 1), (73, .iaload, 1), (74, .ireturn, 1), (75, .aload_n 0, 1), (76, .getfield 13, 3), (79, .bipush 6, 2), (81, .iaload, 1), (82, .ireturn, 1), (83, .aload_n 0, 1), (84, .getfield 13, 3), (87, .bipush 7, 2), (89, .iaload, 1), (90, .ireturn, 1), (91, .iconst 0, 1), (92, .istore_n 3, 1), (93, .iload_n 3, 1), (94, .aload_n 0, 1), (95, .getfield 13, 3), (98, .bipush 7, 2), (100, .iaload, 1), (101, .if_icmp .ge 17, 3), (104, .iload_n 2, 1), (105, .aload_n 0, 1), (106, .iload_n 3, 1), (107, .invokevirtual 125, 3), (110, .iadd, 1), (111, .istore_n 2, 1), (112, .iinc 3 1, 3), (115, .goto (-22), 3), (118, .iload_n 2, 1), (119, .ireturn, 1), (120, .aload_n 0, 1), (121, .getfield 13, 3), (124, .bipush 8, 2), (126, .iaload, 1), (127, .ireturn, 1), (128, .aload_n 0, 1), (129, .invokevirtual 128, 3), (132, .ireturn, 1), (133, .iconst 0, 1), (134, .istore_n 3, 1), (135, .iload_n 3, 1), (136, .aload_n 0, 1), (137, .invokevirtual 128, 3), (140, .if_icmp .ge 25, 3), (143, .iload_n 2, 1), (144, .aload_n 0, 1), (145, .iload_n 3, 1), (146, .invokevirtual 145, 3), (149, .ifCond .eq 7, 3), (152, .iconst 1, 1), (153, .goto 4, 3), (156, .iconst 0, 1), (157, .iadd, 1), (158, .istore_n 2, 1), (159, .iinc 3 1, 3), (162, .goto (-27), 3), (165, .iload_n 2, 1), (166, .ireturn, 1), (167, .aload_n 0, 1), (168, .getfield 13, 3), (171, .bipush 10, 2), (173, .iaload, 1), (174, .ireturn, 1), (175, .aload_n 0, 1), (176, .getfield 13, 3), (179, .iconst 4, 1), (180, .iaload, 1), (181, .ireturn, 1), (182, .aload_n 0, 1), (183, .invokevirtual 197, 3), (186, .iconst 0, 1), (187, .istore_n 3, 1), (188, .iload_n 3, 1), (189, .aload_n 0, 1), (190, .invokevirtual 128, 3), (193, .if_icmp .ge 25, 3), (196, .iload_n 2, 1), (197, .aload_n 0, 1), (198, .iload_n 3, 1), (199, .invokevirtual 142, 3), (202, .ifCond .eq 7, 3), (205, .iconst 1, 1), (206, .goto 4, 3), (209, .iconst 0, 1), (210, .iadd, 1), (211, .istore_n 2, 1), (212, .iinc 3 1, 3), (215, .goto (-27), 3), (218, .iload_n 2, 1), (219, .ireturn, 1), (220, .aload_n 0, 1), (221, .getfield 13, 3), (224, .bipush 11, 2), (226, .iaload, 1), (227, .ireturn, 1), (228, .iconst (-1), 1), (229, .ireturn, 1)]
theorem T_cX12_count : tabOK cX12_count T_cX12_countL = true := by decide +kernel
def P_M_count_210 (post : Int32 → Mem → Prop) (R188 : Int32 → Int32 → Mem → Prop) (x3 s0 s1 : Int32) (M : Mem) : Prop :=
  ∀ x2_1, x2_1 = (s0 + s1) → R188 x2_1 (x3 + (1 : Int32)) M
theorem k_M_count_210 {X : FX} {g : GT} {A : Nat → Prop} {Z : State → Prop} {post : Int32 → Mem → Prop} {R188 : Int32 → Int32 → Mem → Prop} (C : Cx X g layM A cX12_count 4 RX12 5) (hr : 0 ≤ X.2.2.2.1.cells ∧ 0 ≤ X.2.2.2.1.slots) (hR : RetI X g layM A cX12_count 4 0 0 Z post) (k188 : ∀ (y2 y3 : Int32) (M : Mem), R188 y2 y3 M → AtX X g layM A 4 0 0 Z 188 [(0, .ref (ad g 0)), (2, .int y2), (3, .int y3)] [] M) (x3 s0 s1 : Int32) (M : Mem) (h : P_M_count_210 post R188 x3 s0 s1 M) : AtX X g layM A 4 0 0 Z 210 [(0, .ref (ad g 0)), (3, .int x3)] [.int s1, .int s0] M := by
  refine a_iadd C (tk T_cX12_count 94 rfl) ?_
  refine a_top (fun x2_1 e_x2_1 => ?_)
  have h := h x2_1 e_x2_1
  refine a_istore_n C (tk T_cX12_count 95 rfl) (by decide) rfl ?_
  refine a_iinc C (1 : Int32) (tk T_cX12_count 96 rfl) rfl kI_1 (by decide) rfl ?_
  refine a_goto C 188 (tk T_cX12_count 97 rfl) rfl ?_
  exact a_to (k188 x2_1 (x3 + (1 : Int32)) M h) rfl
def P_M_count_188 (post : Int32 → Mem → Prop) : Nat → Int32 → Int32 → Mem → Prop
  | 0, _, _, _ => False
  | n + 1, x2, x3, M =>
    P_M_readings (fun r1 M1 =>
  (r1 ≤ x3 → (post x2 M1)) ∧
  (¬ r1 ≤ x3 → (P_M_hasSpan (fun r2 M2 =>
  (r2 = 0 → (P_M_count_210 post (P_M_count_188 post n) x3 x2 (0 : Int32) M2)) ∧
  (¬ r2 = 0 → (P_M_count_210 post (P_M_count_188 post n) x3 x2 (1 : Int32) M2))) x3 M1))) M
theorem k_M_count_188 {X : FX} {g : GT} {A : Nat → Prop} {Z : State → Prop} {post : Int32 → Mem → Prop} (C : Cx X g layM A cX12_count 4 RX12 5) (hr : 0 ≤ X.2.2.2.1.cells ∧ 0 ≤ X.2.2.2.1.slots) (hR : RetI X g layM A cX12_count 4 0 0 Z post) : ∀ (n : Nat) (x2 x3 : Int32) (M : Mem), P_M_count_188 post n x2 x3 M → AtX X g layM A 4 0 0 Z 188 [(0, .ref (ad g 0)), (2, .int x2), (3, .int x3)] [] M := by
  intro n
  induction n with
  | zero =>
    intro x2 x3 M h
    exact h.elim
  | succ n ih =>
    intro x2 x3 M h
    refine a_iload_n C (tk T_cX12_count 82 rfl) rfl ?_
    refine a_aload_n C (tk T_cX12_count 83 rfl) rfl ?_
    refine a_callI C [] me_yX12_readings lk_RX12_128 (ct_M_readings h) (by decide) lm0 rfl rfl rfl (Nat.le_of_ble_eq_true rfl) (tk T_cX12_count 84 rfl) hr (fun r1 M1 h => ?_)
    refine a_icmp_ge C 218 (tk T_cX12_count 85 rfl) rfl (fun c => ?_) (fun c => ?_)
    · have h := h.1 c
      refine a_iload_n C (tk T_cX12_count 98 rfl) rfl ?_
      exact hR _ _ _ _ (tk T_cX12_count 99 rfl) h
    · have h := h.2 c
      refine a_iload_n C (tk T_cX12_count 86 rfl) rfl ?_
      refine a_aload_n C (tk T_cX12_count 87 rfl) rfl ?_
      refine a_iload_n C (tk T_cX12_count 88 rfl) rfl ?_
      refine a_callI C [.int x3] me_yX12_hasSpan lk_RX12_142 (ct_M_hasSpan h) (by decide) lm0 rfl rfl rfl (Nat.le_of_ble_eq_true rfl) (tk T_cX12_count 89 rfl) hr (fun r2 M2 h => ?_)
      refine a_if_eq C 209 (tk T_cX12_count 90 rfl) rfl (fun c => ?_) (fun c => ?_)
      · have h := h.1 c
        refine a_iconst C (0 : Int32) (tk T_cX12_count 93 rfl) kI_0 ?_
        exact a_to (k_M_count_210 C hr hR ih x3 x2 (0 : Int32) M2 h) rfl
      · have h := h.2 c
        refine a_iconst C (1 : Int32) (tk T_cX12_count 91 rfl) kI_1 ?_
        refine a_goto C 210 (tk T_cX12_count 92 rfl) rfl ?_
        exact a_to (k_M_count_210 C hr hR ih x3 x2 (1 : Int32) M2 h) rfl
def P_M_count_157 (post : Int32 → Mem → Prop) (R135 : Int32 → Int32 → Mem → Prop) (x3 s0 s1 : Int32) (M : Mem) : Prop :=
  ∀ x2_1, x2_1 = (s0 + s1) → R135 x2_1 (x3 + (1 : Int32)) M
theorem k_M_count_157 {X : FX} {g : GT} {A : Nat → Prop} {Z : State → Prop} {post : Int32 → Mem → Prop} {R135 : Int32 → Int32 → Mem → Prop} (C : Cx X g layM A cX12_count 4 RX12 5) (hr : 0 ≤ X.2.2.2.1.cells ∧ 0 ≤ X.2.2.2.1.slots) (hR : RetI X g layM A cX12_count 4 0 0 Z post) (k135 : ∀ (y2 y3 : Int32) (M : Mem), R135 y2 y3 M → AtX X g layM A 4 0 0 Z 135 [(0, .ref (ad g 0)), (2, .int y2), (3, .int y3)] [] M) (x3 s0 s1 : Int32) (M : Mem) (h : P_M_count_157 post R135 x3 s0 s1 M) : AtX X g layM A 4 0 0 Z 157 [(0, .ref (ad g 0)), (3, .int x3)] [.int s1, .int s0] M := by
  refine a_iadd C (tk T_cX12_count 62 rfl) ?_
  refine a_top (fun x2_1 e_x2_1 => ?_)
  have h := h x2_1 e_x2_1
  refine a_istore_n C (tk T_cX12_count 63 rfl) (by decide) rfl ?_
  refine a_iinc C (1 : Int32) (tk T_cX12_count 64 rfl) rfl kI_1 (by decide) rfl ?_
  refine a_goto C 135 (tk T_cX12_count 65 rfl) rfl ?_
  exact a_to (k135 x2_1 (x3 + (1 : Int32)) M h) rfl
def P_M_count_135 (post : Int32 → Mem → Prop) : Nat → Int32 → Int32 → Mem → Prop
  | 0, _, _, _ => False
  | n + 1, x2, x3, M =>
    P_M_readings (fun r1 M1 =>
  (r1 ≤ x3 → (post x2 M1)) ∧
  (¬ r1 ≤ x3 → (P_M_isGhost (fun r2 M2 =>
  (r2 = 0 → (P_M_count_157 post (P_M_count_135 post n) x3 x2 (0 : Int32) M2)) ∧
  (¬ r2 = 0 → (P_M_count_157 post (P_M_count_135 post n) x3 x2 (1 : Int32) M2))) x3 M1))) M
theorem k_M_count_135 {X : FX} {g : GT} {A : Nat → Prop} {Z : State → Prop} {post : Int32 → Mem → Prop} (C : Cx X g layM A cX12_count 4 RX12 5) (hr : 0 ≤ X.2.2.2.1.cells ∧ 0 ≤ X.2.2.2.1.slots) (hR : RetI X g layM A cX12_count 4 0 0 Z post) : ∀ (n : Nat) (x2 x3 : Int32) (M : Mem), P_M_count_135 post n x2 x3 M → AtX X g layM A 4 0 0 Z 135 [(0, .ref (ad g 0)), (2, .int x2), (3, .int x3)] [] M := by
  intro n
  induction n with
  | zero =>
    intro x2 x3 M h
    exact h.elim
  | succ n ih =>
    intro x2 x3 M h
    refine a_iload_n C (tk T_cX12_count 50 rfl) rfl ?_
    refine a_aload_n C (tk T_cX12_count 51 rfl) rfl ?_
    refine a_callI C [] me_yX12_readings lk_RX12_128 (ct_M_readings h) (by decide) lm0 rfl rfl rfl (Nat.le_of_ble_eq_true rfl) (tk T_cX12_count 52 rfl) hr (fun r1 M1 h => ?_)
    refine a_icmp_ge C 165 (tk T_cX12_count 53 rfl) rfl (fun c => ?_) (fun c => ?_)
    · have h := h.1 c
      refine a_iload_n C (tk T_cX12_count 66 rfl) rfl ?_
      exact hR _ _ _ _ (tk T_cX12_count 67 rfl) h
    · have h := h.2 c
      refine a_iload_n C (tk T_cX12_count 54 rfl) rfl ?_
      refine a_aload_n C (tk T_cX12_count 55 rfl) rfl ?_
      refine a_iload_n C (tk T_cX12_count 56 rfl) rfl ?_
      refine a_callI C [.int x3] me_yX12_isGhost lk_RX12_145 (ct_M_isGhost h) (by decide) lm0 rfl rfl rfl (Nat.le_of_ble_eq_true rfl) (tk T_cX12_count 57 rfl) hr (fun r2 M2 h => ?_)
      refine a_if_eq C 156 (tk T_cX12_count 58 rfl) rfl (fun c => ?_) (fun c => ?_)
      · have h := h.1 c
        refine a_iconst C (0 : Int32) (tk T_cX12_count 61 rfl) kI_0 ?_
        exact a_to (k_M_count_157 C hr hR ih x3 x2 (0 : Int32) M2 h) rfl
      · have h := h.2 c
        refine a_iconst C (1 : Int32) (tk T_cX12_count 59 rfl) kI_1 ?_
        refine a_goto C 157 (tk T_cX12_count 60 rfl) rfl ?_
        exact a_to (k_M_count_157 C hr hR ih x3 x2 (1 : Int32) M2 h) rfl
def P_M_count_93 (post : Int32 → Mem → Prop) : Nat → Int32 → Int32 → Mem → Prop
  | 0, _, _, _ => False
  | n + 1, x2, x3, M =>
    vp_in (7 : Int32) 5966 ∧ ((M 1 (7 : Int32).toNatClampNeg) ≤ x3 → (post x2 M)) ∧
  (¬ (M 1 (7 : Int32).toNatClampNeg) ≤ x3 → (P_M_lines (fun r1 M1 =>
  ∀ x2_2, x2_2 = (x2 + r1) → P_M_count_93 post n x2_2 (x3 + (1 : Int32)) M1) x3 M))
theorem k_M_count_93 {X : FX} {g : GT} {A : Nat → Prop} {Z : State → Prop} {post : Int32 → Mem → Prop} (C : Cx X g layM A cX12_count 4 RX12 5) (hr : 0 ≤ X.2.2.2.1.cells ∧ 0 ≤ X.2.2.2.1.slots) (hR : RetI X g layM A cX12_count 4 0 0 Z post) : ∀ (n : Nat) (x2 x3 : Int32) (M : Mem), P_M_count_93 post n x2 x3 M → AtX X g layM A 4 0 0 Z 93 [(0, .ref (ad g 0)), (2, .int x2), (3, .int x3)] [] M := by
  intro n
  induction n with
  | zero =>
    intro x2 x3 M h
    exact h.elim
  | succ n ih =>
    intro x2 x3 M h
    refine a_iload_n C (tk T_cX12_count 24 rfl) rfl ?_
    refine a_aload_n C (tk T_cX12_count 25 rfl) rfl ?_
    refine a_getR C f_RX12_13 (tk T_cX12_count 26 rfl) lm0 rfl ?_
    refine a_bipush C (7 : Int32) (tk T_cX12_count 27 rfl) kB_7 ?_
    obtain ⟨hb, h⟩ := h
    refine a_iald C (tk T_cX12_count 28 rfl) lm1 hb ?_
    refine a_icmp_ge C 118 (tk T_cX12_count 29 rfl) rfl (fun c => ?_) (fun c => ?_)
    · have h := h.1 c
      refine a_iload_n C (tk T_cX12_count 38 rfl) rfl ?_
      exact hR _ _ _ _ (tk T_cX12_count 39 rfl) h
    · have h := h.2 c
      refine a_iload_n C (tk T_cX12_count 30 rfl) rfl ?_
      refine a_aload_n C (tk T_cX12_count 31 rfl) rfl ?_
      refine a_iload_n C (tk T_cX12_count 32 rfl) rfl ?_
      refine a_callI C [.int x3] me_yX12_lines lk_RX12_125 (ct_M_lines h) (by decide) lm0 rfl rfl rfl (Nat.le_of_ble_eq_true rfl) (tk T_cX12_count 33 rfl) hr (fun r1 M1 h => ?_)
      refine a_iadd C (tk T_cX12_count 34 rfl) ?_
      refine a_top (fun x2_2 e_x2_2 => ?_)
      have h := h x2_2 e_x2_2
      refine a_istore_n C (tk T_cX12_count 35 rfl) (by decide) rfl ?_
      refine a_iinc C (1 : Int32) (tk T_cX12_count 36 rfl) rfl kI_1 (by decide) rfl ?_
      refine a_goto C 93 (tk T_cX12_count 37 rfl) rfl ?_
      exact a_to (ih x2_2 (x3 + (1 : Int32)) M1 h) rfl
def P_M_count (post : Int32 → Mem → Prop) (x1 : Int32) (M : Mem) : Prop :=
  ∀ M1, M1 = ms M 0 0 (0 : Int32) → (x1 = (0 : Int32) → (vp_in (5 : Int32) 5966 ∧ post (M1 1 (5 : Int32).toNatClampNeg) M1)) ∧
  (¬ x1 = (0 : Int32) → (x1 = (1 : Int32) → (vp_in (6 : Int32) 5966 ∧ post (M1 1 (6 : Int32).toNatClampNeg) M1)) ∧
  (¬ x1 = (1 : Int32) → (x1 = (2 : Int32) → (vp_in (7 : Int32) 5966 ∧ post (M1 1 (7 : Int32).toNatClampNeg) M1)) ∧
  (¬ x1 = (2 : Int32) → (x1 = (3 : Int32) → (∃ j93, P_M_count_93 post j93 (0 : Int32) (0 : Int32) M1)) ∧
  (¬ x1 = (3 : Int32) → (x1 = (4 : Int32) → (vp_in (8 : Int32) 5966 ∧ post (M1 1 (8 : Int32).toNatClampNeg) M1)) ∧
  (¬ x1 = (4 : Int32) → (x1 = (5 : Int32) → (P_M_readings (fun r2 M2 =>
  post r2 M2) M1)) ∧
  (¬ x1 = (5 : Int32) → (x1 = (6 : Int32) → (∃ j135, P_M_count_135 post j135 (0 : Int32) (0 : Int32) M1)) ∧
  (¬ x1 = (6 : Int32) → (x1 = (7 : Int32) → (vp_in (10 : Int32) 5966 ∧ post (M1 1 (10 : Int32).toNatClampNeg) M1)) ∧
  (¬ x1 = (7 : Int32) → (x1 = (8 : Int32) → (vp_in (4 : Int32) 5966 ∧ post (M1 1 (4 : Int32).toNatClampNeg) M1)) ∧
  (¬ x1 = (8 : Int32) → (x1 = (9 : Int32) → (P_M_spans (fun M3 =>
  ∃ j188, P_M_count_188 post j188 (0 : Int32) (0 : Int32) M3) M1)) ∧
  (¬ x1 = (9 : Int32) → (x1 = (10 : Int32) → (vp_in (11 : Int32) 5966 ∧ post (M1 1 (11 : Int32).toNatClampNeg) M1)) ∧
  (¬ x1 = (10 : Int32) → (post (-1 : Int32) M1))))))))))))
theorem k_M_count {X : FX} {g : GT} {A : Nat → Prop} {Z : State → Prop} {post : Int32 → Mem → Prop} (C : Cx X g layM A cX12_count 4 RX12 5) (hr : 0 ≤ X.2.2.2.1.cells ∧ 0 ≤ X.2.2.2.1.slots) (hR : RetI X g layM A cX12_count 4 0 0 Z post) (x1 : Int32) (M : Mem) (h : P_M_count post x1 M) : AtX X g layM A 4 0 0 Z 0 [(0, .ref (ad g 0)), (1, .int x1)] [] M := by
  refine a_aload_n C (tk T_cX12_count 0 rfl) rfl ?_
  refine a_iconst C (0 : Int32) (tk T_cX12_count 1 rfl) kI_0 ?_
  refine a_put C f_RX12_3 f_RX12_3p rfl rfl (tk T_cX12_count 2 rfl) lm0 rfl ?_
  refine a_mem (fun M1 e_M1 => ?_)
  have h := h M1 e_M1
  refine a_iconst C (0 : Int32) (tk T_cX12_count 3 rfl) kI_0 ?_
  refine a_istore_n C (tk T_cX12_count 4 rfl) (by decide) rfl ?_
  refine a_iload_n C (tk T_cX12_count 5 rfl) rfl ?_
  refine a_case (0 : Int32) (fun c => ?_) (fun c0 => ?_)
  · have h := h.1 c
    refine a_tswI C (60) 68 (tk T_cX12_count 6 rfl) (by decide) rfl ?_
    refine a_aload_n C (tk T_cX12_count 7 rfl) rfl ?_
    refine a_getR C f_RX12_13 (tk T_cX12_count 8 rfl) lm0 rfl ?_
    refine a_iconst C (5 : Int32) (tk T_cX12_count 9 rfl) kI_5 ?_
    obtain ⟨hb, h⟩ := h
    refine a_iald C (tk T_cX12_count 10 rfl) lm1 hb ?_
    exact hR _ _ _ _ (tk T_cX12_count 11 rfl) h
  · have h := h.2 c0
    refine a_case (1 : Int32) (fun c => ?_) (fun c1 => ?_)
    · have h := h.1 c
      refine a_tswI C (67) 75 (tk T_cX12_count 6 rfl) (by decide) rfl ?_
      refine a_aload_n C (tk T_cX12_count 12 rfl) rfl ?_
      refine a_getR C f_RX12_13 (tk T_cX12_count 13 rfl) lm0 rfl ?_
      refine a_bipush C (6 : Int32) (tk T_cX12_count 14 rfl) kB_6 ?_
      obtain ⟨hb, h⟩ := h
      refine a_iald C (tk T_cX12_count 15 rfl) lm1 hb ?_
      exact hR _ _ _ _ (tk T_cX12_count 16 rfl) h
    · have h := h.2 c1
      refine a_case (2 : Int32) (fun c => ?_) (fun c2 => ?_)
      · have h := h.1 c
        refine a_tswI C (75) 83 (tk T_cX12_count 6 rfl) (by decide) rfl ?_
        refine a_aload_n C (tk T_cX12_count 17 rfl) rfl ?_
        refine a_getR C f_RX12_13 (tk T_cX12_count 18 rfl) lm0 rfl ?_
        refine a_bipush C (7 : Int32) (tk T_cX12_count 19 rfl) kB_7 ?_
        obtain ⟨hb, h⟩ := h
        refine a_iald C (tk T_cX12_count 20 rfl) lm1 hb ?_
        exact hR _ _ _ _ (tk T_cX12_count 21 rfl) h
      · have h := h.2 c2
        refine a_case (3 : Int32) (fun c => ?_) (fun c3 => ?_)
        · have h := h.1 c
          refine a_tswI C (83) 91 (tk T_cX12_count 6 rfl) (by decide) rfl ?_
          refine a_iconst C (0 : Int32) (tk T_cX12_count 22 rfl) kI_0 ?_
          refine a_istore_n C (tk T_cX12_count 23 rfl) (by decide) rfl ?_
          obtain ⟨n1, h⟩ := h
          exact a_to (k_M_count_93 C hr hR n1 (0 : Int32) (0 : Int32) M1 h) rfl
        · have h := h.2 c3
          refine a_case (4 : Int32) (fun c => ?_) (fun c4 => ?_)
          · have h := h.1 c
            refine a_tswI C (112) 120 (tk T_cX12_count 6 rfl) (by decide) rfl ?_
            refine a_aload_n C (tk T_cX12_count 40 rfl) rfl ?_
            refine a_getR C f_RX12_13 (tk T_cX12_count 41 rfl) lm0 rfl ?_
            refine a_bipush C (8 : Int32) (tk T_cX12_count 42 rfl) kB_8 ?_
            obtain ⟨hb, h⟩ := h
            refine a_iald C (tk T_cX12_count 43 rfl) lm1 hb ?_
            exact hR _ _ _ _ (tk T_cX12_count 44 rfl) h
          · have h := h.2 c4
            refine a_case (5 : Int32) (fun c => ?_) (fun c5 => ?_)
            · have h := h.1 c
              refine a_tswI C (120) 128 (tk T_cX12_count 6 rfl) (by decide) rfl ?_
              refine a_aload_n C (tk T_cX12_count 45 rfl) rfl ?_
              refine a_callI C [] me_yX12_readings lk_RX12_128 (ct_M_readings h) (by decide) lm0 rfl rfl rfl (Nat.le_of_ble_eq_true rfl) (tk T_cX12_count 46 rfl) hr (fun r2 M2 h => ?_)
              exact hR _ _ _ _ (tk T_cX12_count 47 rfl) h
            · have h := h.2 c5
              refine a_case (6 : Int32) (fun c => ?_) (fun c6 => ?_)
              · have h := h.1 c
                refine a_tswI C (125) 133 (tk T_cX12_count 6 rfl) (by decide) rfl ?_
                refine a_iconst C (0 : Int32) (tk T_cX12_count 48 rfl) kI_0 ?_
                refine a_istore_n C (tk T_cX12_count 49 rfl) (by decide) rfl ?_
                obtain ⟨n1, h⟩ := h
                exact a_to (k_M_count_135 C hr hR n1 (0 : Int32) (0 : Int32) M1 h) rfl
              · have h := h.2 c6
                refine a_case (7 : Int32) (fun c => ?_) (fun c7 => ?_)
                · have h := h.1 c
                  refine a_tswI C (159) 167 (tk T_cX12_count 6 rfl) (by decide) rfl ?_
                  refine a_aload_n C (tk T_cX12_count 68 rfl) rfl ?_
                  refine a_getR C f_RX12_13 (tk T_cX12_count 69 rfl) lm0 rfl ?_
                  refine a_bipush C (10 : Int32) (tk T_cX12_count 70 rfl) kB_10 ?_
                  obtain ⟨hb, h⟩ := h
                  refine a_iald C (tk T_cX12_count 71 rfl) lm1 hb ?_
                  exact hR _ _ _ _ (tk T_cX12_count 72 rfl) h
                · have h := h.2 c7
                  refine a_case (8 : Int32) (fun c => ?_) (fun c8 => ?_)
                  · have h := h.1 c
                    refine a_tswI C (167) 175 (tk T_cX12_count 6 rfl) (by decide) rfl ?_
                    refine a_aload_n C (tk T_cX12_count 73 rfl) rfl ?_
                    refine a_getR C f_RX12_13 (tk T_cX12_count 74 rfl) lm0 rfl ?_
                    refine a_iconst C (4 : Int32) (tk T_cX12_count 75 rfl) kI_4 ?_
                    obtain ⟨hb, h⟩ := h
                    refine a_iald C (tk T_cX12_count 76 rfl) lm1 hb ?_
                    exact hR _ _ _ _ (tk T_cX12_count 77 rfl) h
                  · have h := h.2 c8
                    refine a_case (9 : Int32) (fun c => ?_) (fun c9 => ?_)
                    · have h := h.1 c
                      refine a_tswI C (174) 182 (tk T_cX12_count 6 rfl) (by decide) rfl ?_
                      refine a_aload_n C (tk T_cX12_count 78 rfl) rfl ?_
                      refine a_callV C [] me_yX12_spans lk_RX12_197 (ct_M_spans h) (by decide) lm0 rfl rfl rfl (Nat.le_of_ble_eq_true rfl) (tk T_cX12_count 79 rfl) hr (fun M3 h => ?_)
                      refine a_iconst C (0 : Int32) (tk T_cX12_count 80 rfl) kI_0 ?_
                      refine a_istore_n C (tk T_cX12_count 81 rfl) (by decide) rfl ?_
                      obtain ⟨n1, h⟩ := h
                      exact a_to (k_M_count_188 C hr hR n1 (0 : Int32) (0 : Int32) M3 h) rfl
                    · have h := h.2 c9
                      refine a_case (10 : Int32) (fun c => ?_) (fun c10 => ?_)
                      · have h := h.1 c
                        refine a_tswI C (212) 220 (tk T_cX12_count 6 rfl) (by decide) rfl ?_
                        refine a_aload_n C (tk T_cX12_count 100 rfl) rfl ?_
                        refine a_getR C f_RX12_13 (tk T_cX12_count 101 rfl) lm0 rfl ?_
                        refine a_bipush C (11 : Int32) (tk T_cX12_count 102 rfl) kB_11 ?_
                        obtain ⟨hb, h⟩ := h
                        refine a_iald C (tk T_cX12_count 103 rfl) lm1 hb ?_
                        exact hR _ _ _ _ (tk T_cX12_count 104 rfl) h
                      · have h := h.2 c10
                        have d0 := ne_toInt (z := 0) c0 (by decide)
                        have d1 := ne_toInt (z := 1) c1 (by decide)
                        have d2 := ne_toInt (z := 2) c2 (by decide)
                        have d3 := ne_toInt (z := 3) c3 (by decide)
                        have d4 := ne_toInt (z := 4) c4 (by decide)
                        have d5 := ne_toInt (z := 5) c5 (by decide)
                        have d6 := ne_toInt (z := 6) c6 (by decide)
                        have d7 := ne_toInt (z := 7) c7 (by decide)
                        have d8 := ne_toInt (z := 8) c8 (by decide)
                        have d9 := ne_toInt (z := 9) c9 (by decide)
                        have d10 := ne_toInt (z := 10) c10 (by decide)
                        refine a_tswO C 228 (tk T_cX12_count 6 rfl) (by omega) rfl ?_
                        refine a_iconst C (-1 : Int32) (tk T_cX12_count 105 rfl) kI_m1 ?_
                        exact hR _ _ _ _ (tk T_cX12_count 106 rfl) h
theorem ct_M_count {l : Launch} {g : GT} {post : Int32 → Mem → Prop} {x1 : Int32} {M : Mem} (h : P_M_count post x1 M) : CI l g layM yX12_count cX12_count 4 (some .int) 5 [.ref (ad g 0), .int x1] M post :=
  ci_of (plainFor_of_name (by decide +kernel)) (Nat.le_of_ble_eq_true rfl) (fun X A Z hl C hr hR => by subst hl; exact k_M_count C hr hR x1 M h)
