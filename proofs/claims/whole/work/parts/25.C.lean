def P_Reader_isWord_w9_26 (post : Int32 → Mem → Prop) : Nat → Int32 → Int32 → Mem → Prop
  | 0, _, _, _ => False
  | n + 1, x1, x4, M =>
    P_len 9 (fun r1 M1 =>
  (r1 ≤ x4 → (post (1 : Int32) M1)) ∧
  (¬ r1 ≤ x4 → (vp_in (x1 + x4) 400 ∧ P_chr 9 (fun r2 M2 =>
  ((M1 85 (x1 + x4).toNatClampNeg) = r2 → (P_Reader_isWord_w9_26 post n x1 (x4 + (1 : Int32)) M2)) ∧
  (¬ (M1 85 (x1 + x4).toNatClampNeg) = r2 → (post (0 : Int32) M2))) x4 M1))) M
theorem k_Reader_isWord_w9_26 {X : FX} {g : GT} {ext : List CD} {A : Nat → Prop} {Z : State → Prop} {post : Int32 → Mem → Prop} {sk : Nat → Nat} (C : CxX X g (layC ++ ext) A cX6_isWord 5 RX6 4 0 sk) (hr : 0 ≤ X.2.2.2.1.cells ∧ 0 ≤ X.2.2.2.1.slots) (hR : RetZ X g (layC ++ ext) A cX6_isWord 5 0 0 Z post) : ∀ (n : Nat) (x1 x4 : Int32) (M : Mem), P_Reader_isWord_w9_26 post n x1 x4 M → AtX X g (layC ++ ext) A 5 0 0 Z 26 [(0, .ref (ad g 84)), (3, .ref (sk (10 + 9))), (1, .int x1), (4, .int x4)] [] M := by
  intro n
  induction n with
  | zero =>
    intro x1 x4 M h
    exact h.elim
  | succ n ih =>
    intro x1 x4 M h
    refine a_iload C.1 (tk T_cX6_isWord 15 rfl) rfl ?_
    refine a_aload_n C.1 (tk T_cX6_isWord 16 rfl) rfl ?_
    refine s_strI C [] me_yJ0_length_8abf5 rfl lk_RX6_111 (ct_lenP (o := 10) (j := 9) ⟨Or.inl rfl, by decide⟩ h) (by decide) (wok.at (o := 10) (j := 9) ⟨Or.inl rfl, by decide⟩ C.2.1.2.2.2.2.2.2.2).1 rfl rfl (Nat.le_of_ble_eq_true rfl) (tk T_cX6_isWord 17 rfl) hr (fun r1 M1 h => ?_)
    refine a_icmp_ge C.1 61 (tk T_cX6_isWord 18 rfl) rfl (fun c => ?_) (fun c => ?_)
    · have h := h.1 c
      refine a_iconst C.1 (1 : Int32) (tk T_cX6_isWord 33 rfl) kI_1 ?_
      exact hR _ _ _ _ (tk T_cX6_isWord 34 rfl) ⟨Or.inr rfl, h⟩
    · have h := h.2 c
      refine a_aload_n C.1 (tk T_cX6_isWord 19 rfl) rfl ?_
      refine a_getR C.1 f_RX6_9 (tk T_cX6_isWord 20 rfl) lc84 rfl ?_
      refine a_iload_n C.1 (tk T_cX6_isWord 21 rfl) rfl ?_
      refine a_iload C.1 (tk T_cX6_isWord 22 rfl) rfl ?_
      refine a_iadd C.1 (tk T_cX6_isWord 23 rfl) ?_
      obtain ⟨hb, h⟩ := h
      refine a_bald C.1 (tk T_cX6_isWord 24 rfl) lc85 hb ?_
      refine a_aload_n C.1 (tk T_cX6_isWord 25 rfl) rfl ?_
      refine a_iload C.1 (tk T_cX6_isWord 26 rfl) rfl ?_
      refine s_strI C [.int x4] me_yJ0_charAt_5068e rfl lk_RX6_116 (ct_chrP (o := 10) (j := 9) ⟨Or.inl rfl, by decide⟩ h) (by decide) (wok.at (o := 10) (j := 9) ⟨Or.inl rfl, by decide⟩ C.2.1.2.2.2.2.2.2.2).1 rfl rfl (Nat.le_of_ble_eq_true rfl) (tk T_cX6_isWord 27 rfl) hr (fun r2 M2 h => ?_)
      refine a_icmp_eq C.1 55 (tk T_cX6_isWord 28 rfl) rfl (fun c => ?_) (fun c => ?_)
      · have h := h.1 c
        refine a_iinc C.1 (1 : Int32) (tk T_cX6_isWord 31 rfl) rfl kI_1 (by decide) rfl ?_
        refine a_goto C.1 26 (tk T_cX6_isWord 32 rfl) rfl ?_
        exact a_to (ih x1 (x4 + (1 : Int32)) M2 h) rfl
      · have h := h.2 c
        refine a_iconst C.1 (0 : Int32) (tk T_cX6_isWord 29 rfl) kI_0 ?_
        exact hR _ _ _ _ (tk T_cX6_isWord 30 rfl) ⟨Or.inl rfl, h⟩
def P_Reader_isWord_w9_21 (post : Int32 → Mem → Prop) (M : Mem) : Prop :=
  post (0 : Int32) M
theorem k_Reader_isWord_w9_21 {X : FX} {g : GT} {ext : List CD} {A : Nat → Prop} {Z : State → Prop} {post : Int32 → Mem → Prop} {sk : Nat → Nat} (C : CxX X g (layC ++ ext) A cX6_isWord 5 RX6 4 0 sk) (hr : 0 ≤ X.2.2.2.1.cells ∧ 0 ≤ X.2.2.2.1.slots) (hR : RetZ X g (layC ++ ext) A cX6_isWord 5 0 0 Z post)  (M : Mem) (h : P_Reader_isWord_w9_21 post M) : AtX X g (layC ++ ext) A 5 0 0 Z 21 [] [] M := by
  refine a_iconst C.1 (0 : Int32) (tk T_cX6_isWord 11 rfl) kI_0 ?_
  exact hR _ _ _ _ (tk T_cX6_isWord 12 rfl) ⟨Or.inl rfl, h⟩
def P_Reader_isWord_w9 (post : Int32 → Mem → Prop) (x1 x2 : Int32) (M : Mem) : Prop :=
  P_len 9 (fun r1 M1 =>
  (¬ (x2 - x1) = r1 → (P_Reader_isWord_w9_21 post M1)) ∧
  ((x2 - x1) = r1 → ((x1 < 0 → (P_Reader_isWord_w9_21 post M1)) ∧
  (¬ x1 < 0 → ((x2 ≤ (400 : Int32) → (∃ j26, P_Reader_isWord_w9_26 post j26 x1 (0 : Int32) M1)) ∧
  (¬ x2 ≤ (400 : Int32) → (P_Reader_isWord_w9_21 post M1))))))) M
theorem k_Reader_isWord_w9 {X : FX} {g : GT} {ext : List CD} {A : Nat → Prop} {Z : State → Prop} {post : Int32 → Mem → Prop} {sk : Nat → Nat} (C : CxX X g (layC ++ ext) A cX6_isWord 5 RX6 4 0 sk) (hr : 0 ≤ X.2.2.2.1.cells ∧ 0 ≤ X.2.2.2.1.slots) (hR : RetZ X g (layC ++ ext) A cX6_isWord 5 0 0 Z post) (x1 x2 : Int32) (M : Mem) (h : P_Reader_isWord_w9 post x1 x2 M) : AtX X g (layC ++ ext) A 5 0 0 Z 0 [(0, .ref (ad g 84)), (1, .int x1), (2, .int x2), (3, .ref (sk (10 + 9)))] [] M := by
  refine a_iload_n C.1 (tk T_cX6_isWord 0 rfl) rfl ?_
  refine a_iload_n C.1 (tk T_cX6_isWord 1 rfl) rfl ?_
  refine a_isub C.1 (tk T_cX6_isWord 2 rfl) ?_
  refine a_aload_n C.1 (tk T_cX6_isWord 3 rfl) rfl ?_
  refine s_strI C [] me_yJ0_length_8abf5 rfl lk_RX6_111 (ct_lenP (o := 10) (j := 9) ⟨Or.inl rfl, by decide⟩ h) (by decide) (wok.at (o := 10) (j := 9) ⟨Or.inl rfl, by decide⟩ C.2.1.2.2.2.2.2.2.2).1 rfl rfl (Nat.le_of_ble_eq_true rfl) (tk T_cX6_isWord 4 rfl) hr (fun r1 M1 h => ?_)
  refine a_icmp_ne C.1 21 (tk T_cX6_isWord 5 rfl) rfl (fun c => ?_) (fun c => ?_)
  · have h := h.1 c
    exact a_to (k_Reader_isWord_w9_21 C hr hR M1 h) rfl
  · have h := h.2 c
    refine a_iload_n C.1 (tk T_cX6_isWord 6 rfl) rfl ?_
    refine a_if_lt C.1 21 (tk T_cX6_isWord 7 rfl) rfl (fun c => ?_) (fun c => ?_)
    · have h := h.1 c
      exact a_to (k_Reader_isWord_w9_21 C hr hR M1 h) rfl
    · have h := h.2 c
      refine a_iload_n C.1 (tk T_cX6_isWord 8 rfl) rfl ?_
      refine a_sipush C.1 (400 : Int32) (tk T_cX6_isWord 9 rfl) kS_400 ?_
      refine a_icmp_le C.1 23 (tk T_cX6_isWord 10 rfl) rfl (fun c => ?_) (fun c => ?_)
      · have h := h.1 c
        refine a_iconst C.1 (0 : Int32) (tk T_cX6_isWord 13 rfl) kI_0 ?_
        refine a_istore C.1 (tk T_cX6_isWord 14 rfl) (by decide) rfl ?_
        obtain ⟨n1, h⟩ := h
        exact a_to (k_Reader_isWord_w9_26 C hr hR n1 x1 (0 : Int32) M1 h) rfl
      · have h := h.2 c
        exact a_to (k_Reader_isWord_w9_21 C hr hR M1 h) rfl
theorem ct_Reader_isWord_w9 {l : Launch} {g : GT} {ext : List CD} {sk : Nat → Nat} {post : Int32 → Mem → Prop} {x1 x2 : Int32} {M : Mem} (h : P_Reader_isWord_w9 post x1 x2 M) : SI l g (layC ++ ext) sk yX6_isWord cX6_isWord 5 (some .boolean) 4 [.ref (ad g 84), .int x1, .int x2, .ref (sk (10 + 9))] M post :=
  st_of (plainFor_of_name (by decide +kernel)) (Nat.le_of_ble_eq_true rfl) (fun X A Z hl C hr hR => by subst hl; exact k_Reader_isWord_w9 C hr (fun v M pc lv hd hp => hR v M pc lv hd (nar_z hp.1) hp.2) x1 x2 M h)
def T_cX6_partOfL : List (Nat × Instr × Nat) := [(0, .aload_n 0, 1), (1, .iload_n 1, 1), (2, .iload_n 2, 1), (3, .ldc 101, 2), (5, .invokevirtual 86, 3), (8, .ifCond .eq 5, 3), (11, .iconst 1, 1), (12, .ireturn, 1), (13, .aload_n 0, 1), (14, .iload_n 1, 1), (15, .iload_n 2, 1), (16, .ldc 103, 2), (18, .invokevirtual 86, 3), (21, .ifCond .eq 5, 3), (24, .iconst 2, 1), (25, .ireturn, 1), (26, .aload_n 0, 1), (27, .iload_n 1, 1), (28, .iload_n 2, 1), (29, .ldc 105, 2), (31, .invokevirtual 86, 3), (34, .ifCond .eq 5, 3), (37, .iconst 3, 1), (38, .ireturn, 1), (39, .aload_n 0, 1), (40, .iload_n 1, 1), (41, .iload_n 2, 1), (42, .ldc 107, 2), (44, .invokevirtual 86, 3), (47, .ifCond .eq 5, 3), (50, .iconst 4, 1), (51, .ireturn, 1), (52, .aload_n 0, 1), (53, .iload_n 1, 1), (54, .iload_n 2, 1), (55, .ldc 109, 2), (57, .invokevirtual 86, 3), (60, .ifCond .eq 7, 3), (63, .iconst 5, 1), (64, .goto 5, 3), (67, .bipush 16, 2), (69, .ireturn, 1)]
theorem T_cX6_partOf : tabOK cX6_partOf T_cX6_partOfL = true := by decide +kernel
def P_Reader_partOf_69 (post : Int32 → Mem → Prop) (s0 : Int32) (M : Mem) : Prop :=
  post s0 M
theorem k_Reader_partOf_69 {X : FX} {g : GT} {ext : List CD} {A : Nat → Prop} {Z : State → Prop} {post : Int32 → Mem → Prop} {sk : Nat → Nat} (C : CxX X g (layC ++ ext) A cX6_partOf 3 RX6 5 0 sk) (hr : 0 ≤ X.2.2.2.1.cells ∧ 0 ≤ X.2.2.2.1.slots) (hR : RetI X g (layC ++ ext) A cX6_partOf 3 0 0 Z post) (s0 : Int32) (M : Mem) (h : P_Reader_partOf_69 post s0 M) : AtX X g (layC ++ ext) A 3 0 0 Z 69 [] [.int s0] M := by
  exact hR _ _ _ _ (tk T_cX6_partOf 41 rfl) h
def P_Reader_partOf (post : Int32 → Mem → Prop) (x1 x2 : Int32) (M : Mem) : Prop :=
  P_Reader_isWord_w5 (fun r1 M1 =>
  (r1 = 0 → (P_Reader_isWord_w6 (fun r2 M2 =>
  (r2 = 0 → (P_Reader_isWord_w7 (fun r3 M3 =>
  (r3 = 0 → (P_Reader_isWord_w8 (fun r4 M4 =>
  (r4 = 0 → (P_Reader_isWord_w9 (fun r5 M5 =>
  (r5 = 0 → (P_Reader_partOf_69 post (16 : Int32) M5)) ∧
  (¬ r5 = 0 → (P_Reader_partOf_69 post (5 : Int32) M5))) x1 x2 M4)) ∧
  (¬ r4 = 0 → (post (4 : Int32) M4))) x1 x2 M3)) ∧
  (¬ r3 = 0 → (post (3 : Int32) M3))) x1 x2 M2)) ∧
  (¬ r2 = 0 → (post (2 : Int32) M2))) x1 x2 M1)) ∧
  (¬ r1 = 0 → (post (1 : Int32) M1))) x1 x2 M
theorem k_Reader_partOf {X : FX} {g : GT} {ext : List CD} {A : Nat → Prop} {Z : State → Prop} {post : Int32 → Mem → Prop} {sk : Nat → Nat} (C : CxX X g (layC ++ ext) A cX6_partOf 3 RX6 5 0 sk) (hr : 0 ≤ X.2.2.2.1.cells ∧ 0 ≤ X.2.2.2.1.slots) (hR : RetI X g (layC ++ ext) A cX6_partOf 3 0 0 Z post) (x1 x2 : Int32) (M : Mem) (h : P_Reader_partOf post x1 x2 M) : AtX X g (layC ++ ext) A 3 0 0 Z 0 [(0, .ref (ad g 84)), (1, .int x1), (2, .int x2)] [] M := by
  refine a_aload_n C.1 (tk T_cX6_partOf 0 rfl) rfl ?_
  refine a_iload_n C.1 (tk T_cX6_partOf 1 rfl) rfl ?_
  refine a_iload_n C.1 (tk T_cX6_partOf 2 rfl) rfl ?_
  refine s_ldc C (C.2.1.2.2.2.2.2.2.2.2.2.2.2.1 5 (by decide)) (tk T_cX6_partOf 3 rfl) ?_
  refine s_callI C [.int x1, .int x2, .ref (sk (10 + 5))] me_yX6_isWord lk_RX6_86 (ct_Reader_isWord_w5 h) (by decide) lc84 rfl rfl rfl (Nat.le_of_ble_eq_true rfl) (tk T_cX6_partOf 4 rfl) hr (fun r1 M1 h => ?_)
  refine a_if_eq C.1 13 (tk T_cX6_partOf 5 rfl) rfl (fun c => ?_) (fun c => ?_)
  · have h := h.1 c
    refine a_aload_n C.1 (tk T_cX6_partOf 8 rfl) rfl ?_
    refine a_iload_n C.1 (tk T_cX6_partOf 9 rfl) rfl ?_
    refine a_iload_n C.1 (tk T_cX6_partOf 10 rfl) rfl ?_
    refine s_ldc C (C.2.1.2.2.2.2.2.2.2.2.2.2.2.1 6 (by decide)) (tk T_cX6_partOf 11 rfl) ?_
    refine s_callI C [.int x1, .int x2, .ref (sk (10 + 6))] me_yX6_isWord lk_RX6_86 (ct_Reader_isWord_w6 h) (by decide) lc84 rfl rfl rfl (Nat.le_of_ble_eq_true rfl) (tk T_cX6_partOf 12 rfl) hr (fun r2 M2 h => ?_)
    refine a_if_eq C.1 26 (tk T_cX6_partOf 13 rfl) rfl (fun c => ?_) (fun c => ?_)
    · have h := h.1 c
      refine a_aload_n C.1 (tk T_cX6_partOf 16 rfl) rfl ?_
      refine a_iload_n C.1 (tk T_cX6_partOf 17 rfl) rfl ?_
      refine a_iload_n C.1 (tk T_cX6_partOf 18 rfl) rfl ?_
      refine s_ldc C (C.2.1.2.2.2.2.2.2.2.2.2.2.2.1 7 (by decide)) (tk T_cX6_partOf 19 rfl) ?_
      refine s_callI C [.int x1, .int x2, .ref (sk (10 + 7))] me_yX6_isWord lk_RX6_86 (ct_Reader_isWord_w7 h) (by decide) lc84 rfl rfl rfl (Nat.le_of_ble_eq_true rfl) (tk T_cX6_partOf 20 rfl) hr (fun r3 M3 h => ?_)
      refine a_if_eq C.1 39 (tk T_cX6_partOf 21 rfl) rfl (fun c => ?_) (fun c => ?_)
      · have h := h.1 c
        refine a_aload_n C.1 (tk T_cX6_partOf 24 rfl) rfl ?_
        refine a_iload_n C.1 (tk T_cX6_partOf 25 rfl) rfl ?_
        refine a_iload_n C.1 (tk T_cX6_partOf 26 rfl) rfl ?_
        refine s_ldc C (C.2.1.2.2.2.2.2.2.2.2.2.2.2.1 8 (by decide)) (tk T_cX6_partOf 27 rfl) ?_
        refine s_callI C [.int x1, .int x2, .ref (sk (10 + 8))] me_yX6_isWord lk_RX6_86 (ct_Reader_isWord_w8 h) (by decide) lc84 rfl rfl rfl (Nat.le_of_ble_eq_true rfl) (tk T_cX6_partOf 28 rfl) hr (fun r4 M4 h => ?_)
        refine a_if_eq C.1 52 (tk T_cX6_partOf 29 rfl) rfl (fun c => ?_) (fun c => ?_)
        · have h := h.1 c
          refine a_aload_n C.1 (tk T_cX6_partOf 32 rfl) rfl ?_
          refine a_iload_n C.1 (tk T_cX6_partOf 33 rfl) rfl ?_
          refine a_iload_n C.1 (tk T_cX6_partOf 34 rfl) rfl ?_
          refine s_ldc C (C.2.1.2.2.2.2.2.2.2.2.2.2.2.1 9 (by decide)) (tk T_cX6_partOf 35 rfl) ?_
          refine s_callI C [.int x1, .int x2, .ref (sk (10 + 9))] me_yX6_isWord lk_RX6_86 (ct_Reader_isWord_w9 h) (by decide) lc84 rfl rfl rfl (Nat.le_of_ble_eq_true rfl) (tk T_cX6_partOf 36 rfl) hr (fun r5 M5 h => ?_)
          refine a_if_eq C.1 67 (tk T_cX6_partOf 37 rfl) rfl (fun c => ?_) (fun c => ?_)
          · have h := h.1 c
            refine a_bipush C.1 (16 : Int32) (tk T_cX6_partOf 40 rfl) kB_16 ?_
            exact a_to (k_Reader_partOf_69 C hr hR (16 : Int32) M5 h) rfl
          · have h := h.2 c
            refine a_iconst C.1 (5 : Int32) (tk T_cX6_partOf 38 rfl) kI_5 ?_
            refine a_goto C.1 69 (tk T_cX6_partOf 39 rfl) rfl ?_
            exact a_to (k_Reader_partOf_69 C hr hR (5 : Int32) M5 h) rfl
        · have h := h.2 c
          refine a_iconst C.1 (4 : Int32) (tk T_cX6_partOf 30 rfl) kI_4 ?_
          exact hR _ _ _ _ (tk T_cX6_partOf 31 rfl) h
      · have h := h.2 c
        refine a_iconst C.1 (3 : Int32) (tk T_cX6_partOf 22 rfl) kI_3 ?_
        exact hR _ _ _ _ (tk T_cX6_partOf 23 rfl) h
    · have h := h.2 c
      refine a_iconst C.1 (2 : Int32) (tk T_cX6_partOf 14 rfl) kI_2 ?_
      exact hR _ _ _ _ (tk T_cX6_partOf 15 rfl) h
  · have h := h.2 c
    refine a_iconst C.1 (1 : Int32) (tk T_cX6_partOf 6 rfl) kI_1 ?_
    exact hR _ _ _ _ (tk T_cX6_partOf 7 rfl) h
theorem ct_Reader_partOf {l : Launch} {g : GT} {ext : List CD} {sk : Nat → Nat} {post : Int32 → Mem → Prop} {x1 x2 : Int32} {M : Mem} (h : P_Reader_partOf post x1 x2 M) : SI l g (layC ++ ext) sk yX6_partOf cX6_partOf 3 (some .int) 5 [.ref (ad g 84), .int x1, .int x2] M post :=
  st_of (plainFor_of_name (by decide +kernel)) (Nat.le_of_ble_eq_true rfl) (fun X A Z hl C hr hR => by subst hl; exact k_Reader_partOf C hr (fun v M pc lv hd hp => hR v M pc lv hd rfl hp) x1 x2 M h)
def T_cX6_wordOfL : List (Nat × Instr × Nat) := [(0, .aload_n 0, 1), (1, .iload_n 1, 1), (2, .iload_n 2, 1), (3, .ldc 84, 2), (5, .invokevirtual 86, 3), (8, .ifCond .eq 6, 3), (11, .bipush 13, 2), (13, .ireturn, 1), (14, .aload_n 0, 1), (15, .iload_n 1, 1), (16, .iload_n 2, 1), (17, .ldc 90, 2), (19, .invokevirtual 86, 3), (22, .ifCond .eq 6, 3), (25, .bipush 12, 2), (27, .ireturn, 1), (28, .aload_n 0, 1), (29, .iload_n 1, 1), (30, .iload_n 2, 1), (31, .ldc 92, 2), (33, .invokevirtual 86, 3), (36, .ifCond .eq 6, 3), (39, .bipush 8, 2), (41, .ireturn, 1), (42, .aload_n 0, 1), (43, .iload_n 1, 1), (44, .iload_n 2, 1), (45, .ldc 94, 2), (47, .invokevirtual 86, 3), (50, .ifCond .eq 6, 3), (53, .bipush 6, 2), (55, .ireturn, 1), (56, .aload_n 0, 1), (57, .iload_n 1, 1), (58, .iload_n 2, 1), (59, .ldc 96, 2), (61, .invokevirtual 86, 3), (64, .ifCond .eq 6, 3), (67, .bipush 7, 2), (69, .ireturn, 1), (70, .aload_n 0, 1), (71, .iload_n 1, 1), (72, .iload_n 2, 1), (73, .invokevirtual 98, 3), (76, .ireturn, 1)]
theorem T_cX6_wordOf : tabOK cX6_wordOf T_cX6_wordOfL = true := by decide +kernel
def P_Reader_wordOf (post : Int32 → Mem → Prop) (x1 x2 : Int32) (M : Mem) : Prop :=
  P_Reader_isWord_w0 (fun r1 M1 =>
  (r1 = 0 → (P_Reader_isWord_w1 (fun r2 M2 =>
  (r2 = 0 → (P_Reader_isWord_w2 (fun r3 M3 =>
  (r3 = 0 → (P_Reader_isWord_w3 (fun r4 M4 =>
  (r4 = 0 → (P_Reader_isWord_w4 (fun r5 M5 =>
  (r5 = 0 → (P_Reader_partOf (fun r6 M6 =>
  post r6 M6) x1 x2 M5)) ∧
  (¬ r5 = 0 → (post (7 : Int32) M5))) x1 x2 M4)) ∧
  (¬ r4 = 0 → (post (6 : Int32) M4))) x1 x2 M3)) ∧
  (¬ r3 = 0 → (post (8 : Int32) M3))) x1 x2 M2)) ∧
  (¬ r2 = 0 → (post (12 : Int32) M2))) x1 x2 M1)) ∧
  (¬ r1 = 0 → (post (13 : Int32) M1))) x1 x2 M
theorem k_Reader_wordOf {X : FX} {g : GT} {ext : List CD} {A : Nat → Prop} {Z : State → Prop} {post : Int32 → Mem → Prop} {sk : Nat → Nat} (C : CxX X g (layC ++ ext) A cX6_wordOf 3 RX6 6 0 sk) (hr : 0 ≤ X.2.2.2.1.cells ∧ 0 ≤ X.2.2.2.1.slots) (hR : RetI X g (layC ++ ext) A cX6_wordOf 3 0 0 Z post) (x1 x2 : Int32) (M : Mem) (h : P_Reader_wordOf post x1 x2 M) : AtX X g (layC ++ ext) A 3 0 0 Z 0 [(0, .ref (ad g 84)), (1, .int x1), (2, .int x2)] [] M := by
  refine a_aload_n C.1 (tk T_cX6_wordOf 0 rfl) rfl ?_
  refine a_iload_n C.1 (tk T_cX6_wordOf 1 rfl) rfl ?_
  refine a_iload_n C.1 (tk T_cX6_wordOf 2 rfl) rfl ?_
  refine s_ldc C (C.2.1.2.2.2.2.2.2.2.2.2.2.2.1 0 (by decide)) (tk T_cX6_wordOf 3 rfl) ?_
  refine s_callI C [.int x1, .int x2, .ref (sk (10 + 0))] me_yX6_isWord lk_RX6_86 (ct_Reader_isWord_w0 h) (by decide) lc84 rfl rfl rfl (Nat.le_of_ble_eq_true rfl) (tk T_cX6_wordOf 4 rfl) hr (fun r1 M1 h => ?_)
  refine a_if_eq C.1 14 (tk T_cX6_wordOf 5 rfl) rfl (fun c => ?_) (fun c => ?_)
  · have h := h.1 c
    refine a_aload_n C.1 (tk T_cX6_wordOf 8 rfl) rfl ?_
    refine a_iload_n C.1 (tk T_cX6_wordOf 9 rfl) rfl ?_
    refine a_iload_n C.1 (tk T_cX6_wordOf 10 rfl) rfl ?_
    refine s_ldc C (C.2.1.2.2.2.2.2.2.2.2.2.2.2.1 1 (by decide)) (tk T_cX6_wordOf 11 rfl) ?_
    refine s_callI C [.int x1, .int x2, .ref (sk (10 + 1))] me_yX6_isWord lk_RX6_86 (ct_Reader_isWord_w1 h) (by decide) lc84 rfl rfl rfl (Nat.le_of_ble_eq_true rfl) (tk T_cX6_wordOf 12 rfl) hr (fun r2 M2 h => ?_)
    refine a_if_eq C.1 28 (tk T_cX6_wordOf 13 rfl) rfl (fun c => ?_) (fun c => ?_)
    · have h := h.1 c
      refine a_aload_n C.1 (tk T_cX6_wordOf 16 rfl) rfl ?_
      refine a_iload_n C.1 (tk T_cX6_wordOf 17 rfl) rfl ?_
      refine a_iload_n C.1 (tk T_cX6_wordOf 18 rfl) rfl ?_
      refine s_ldc C (C.2.1.2.2.2.2.2.2.2.2.2.2.2.1 2 (by decide)) (tk T_cX6_wordOf 19 rfl) ?_
      refine s_callI C [.int x1, .int x2, .ref (sk (10 + 2))] me_yX6_isWord lk_RX6_86 (ct_Reader_isWord_w2 h) (by decide) lc84 rfl rfl rfl (Nat.le_of_ble_eq_true rfl) (tk T_cX6_wordOf 20 rfl) hr (fun r3 M3 h => ?_)
      refine a_if_eq C.1 42 (tk T_cX6_wordOf 21 rfl) rfl (fun c => ?_) (fun c => ?_)
      · have h := h.1 c
        refine a_aload_n C.1 (tk T_cX6_wordOf 24 rfl) rfl ?_
        refine a_iload_n C.1 (tk T_cX6_wordOf 25 rfl) rfl ?_
        refine a_iload_n C.1 (tk T_cX6_wordOf 26 rfl) rfl ?_
        refine s_ldc C (C.2.1.2.2.2.2.2.2.2.2.2.2.2.1 3 (by decide)) (tk T_cX6_wordOf 27 rfl) ?_
        refine s_callI C [.int x1, .int x2, .ref (sk (10 + 3))] me_yX6_isWord lk_RX6_86 (ct_Reader_isWord_w3 h) (by decide) lc84 rfl rfl rfl (Nat.le_of_ble_eq_true rfl) (tk T_cX6_wordOf 28 rfl) hr (fun r4 M4 h => ?_)
        refine a_if_eq C.1 56 (tk T_cX6_wordOf 29 rfl) rfl (fun c => ?_) (fun c => ?_)
        · have h := h.1 c
          refine a_aload_n C.1 (tk T_cX6_wordOf 32 rfl) rfl ?_
          refine a_iload_n C.1 (tk T_cX6_wordOf 33 rfl) rfl ?_
          refine a_iload_n C.1 (tk T_cX6_wordOf 34 rfl) rfl ?_
          refine s_ldc C (C.2.1.2.2.2.2.2.2.2.2.2.2.2.1 4 (by decide)) (tk T_cX6_wordOf 35 rfl) ?_
          refine s_callI C [.int x1, .int x2, .ref (sk (10 + 4))] me_yX6_isWord lk_RX6_86 (ct_Reader_isWord_w4 h) (by decide) lc84 rfl rfl rfl (Nat.le_of_ble_eq_true rfl) (tk T_cX6_wordOf 36 rfl) hr (fun r5 M5 h => ?_)
          refine a_if_eq C.1 70 (tk T_cX6_wordOf 37 rfl) rfl (fun c => ?_) (fun c => ?_)
          · have h := h.1 c
            refine a_aload_n C.1 (tk T_cX6_wordOf 40 rfl) rfl ?_
            refine a_iload_n C.1 (tk T_cX6_wordOf 41 rfl) rfl ?_
            refine a_iload_n C.1 (tk T_cX6_wordOf 42 rfl) rfl ?_
            refine s_callI C [.int x1, .int x2] me_yX6_partOf lk_RX6_98 (ct_Reader_partOf h) (by decide) lc84 rfl rfl rfl (Nat.le_of_ble_eq_true rfl) (tk T_cX6_wordOf 43 rfl) hr (fun r6 M6 h => ?_)
            exact hR _ _ _ _ (tk T_cX6_wordOf 44 rfl) h
          · have h := h.2 c
            refine a_bipush C.1 (7 : Int32) (tk T_cX6_wordOf 38 rfl) kB_7 ?_
            exact hR _ _ _ _ (tk T_cX6_wordOf 39 rfl) h
        · have h := h.2 c
          refine a_bipush C.1 (6 : Int32) (tk T_cX6_wordOf 30 rfl) kB_6 ?_
          exact hR _ _ _ _ (tk T_cX6_wordOf 31 rfl) h
      · have h := h.2 c
        refine a_bipush C.1 (8 : Int32) (tk T_cX6_wordOf 22 rfl) kB_8 ?_
        exact hR _ _ _ _ (tk T_cX6_wordOf 23 rfl) h
    · have h := h.2 c
      refine a_bipush C.1 (12 : Int32) (tk T_cX6_wordOf 14 rfl) kB_12 ?_
      exact hR _ _ _ _ (tk T_cX6_wordOf 15 rfl) h
  · have h := h.2 c
    refine a_bipush C.1 (13 : Int32) (tk T_cX6_wordOf 6 rfl) kB_13 ?_
    exact hR _ _ _ _ (tk T_cX6_wordOf 7 rfl) h
theorem ct_Reader_wordOf {l : Launch} {g : GT} {ext : List CD} {sk : Nat → Nat} {post : Int32 → Mem → Prop} {x1 x2 : Int32} {M : Mem} (h : P_Reader_wordOf post x1 x2 M) : SI l g (layC ++ ext) sk yX6_wordOf cX6_wordOf 3 (some .int) 6 [.ref (ad g 84), .int x1, .int x2] M post :=
  st_of (plainFor_of_name (by decide +kernel)) (Nat.le_of_ble_eq_true rfl) (fun X A Z hl C hr hR => by subst hl; exact k_Reader_wordOf C hr (fun v M pc lv hd hp => hR v M pc lv hd rfl hp) x1 x2 M h)
def T_cX6_signOfL : List (Nat × Instr × Nat) := [(0, .aload_n 0, 1), (1, .iload_n 1, 1), (2, .invokevirtual 63, 3), (5, .ifCond .eq 10, 3), (8, .aload_n 0, 1), (9, .iload_n 1, 1), (10, .iload_n 2, 1), (11, .invokevirtual 73, 3), (14, .ireturn, 1), (15, .aload_n 0, 1), (16, .iload_n 1, 1), (17, .invokevirtual 66, 3), (20, .ifCond .eq 26, 3), (23, .iload_n 2, 1), (24, .iload_n 1, 1), (25, .isub, 1), (26, .iconst 4, 1), (27, .if_icmp .le 8, 3), (30, .bipush 16, 2), (32, .goto 13, 3), (35, .iconst 0, 1), (36, .aload_n 0, 1), (37, .iload_n 1, 1), (38, .iload_n 2, 1), (39, .invokevirtual 78, 3), (42, .invokestatic 81, 3), (45, .ireturn, 1), (46, .aload_n 0, 1), (47, .getfield 9, 3), (50, .iload_n 1, 1), (51, .baload, 1), (52, .lookupswitch 67 #[(40, 52), (41, 55), (43, 64), (60, 58), (62, 61)], 52), (104, .bipush 14, 2), (106, .ireturn, 1), (107, .bipush 15, 2), (109, .ireturn, 1), (110, .bipush 10, 2), (112, .ireturn, 1), (113, .bipush 11, 2), (115, .ireturn, 1), (116, .bipush 9, 2), (118, .ireturn, 1), (119, .bipush 16, 2), (121, .ireturn, 1)]
theorem T_cX6_signOf : tabOK cX6_signOf T_cX6_signOfL = true := by decide +kernel
def P_Reader_signOf_45 (post : Int32 → Mem → Prop) (s0 : Int32) (M : Mem) : Prop :=
  post s0 M
theorem k_Reader_signOf_45 {X : FX} {g : GT} {ext : List CD} {A : Nat → Prop} {Z : State → Prop} {post : Int32 → Mem → Prop} {sk : Nat → Nat} (C : CxX X g (layC ++ ext) A cX6_signOf 3 RX6 7 0 sk) (hr : 0 ≤ X.2.2.2.1.cells ∧ 0 ≤ X.2.2.2.1.slots) (hR : RetI X g (layC ++ ext) A cX6_signOf 3 0 0 Z post) (s0 : Int32) (M : Mem) (h : P_Reader_signOf_45 post s0 M) : AtX X g (layC ++ ext) A 3 0 0 Z 45 [] [.int s0] M := by
  exact hR _ _ _ _ (tk T_cX6_signOf 26 rfl) h
def P_Reader_signOf (post : Int32 → Mem → Prop) (x1 x2 : Int32) (M : Mem) : Prop :=
  P_Reader_isLetter (fun r1 M1 =>
  (r1 = 0 → (P_Reader_isDigit (fun r2 M2 =>
  (r2 = 0 → (vp_in x1 400 ∧ ((M2 85 x1.toNatClampNeg) = (40 : Int32) → (post (14 : Int32) M2)) ∧
  (¬ (M2 85 x1.toNatClampNeg) = (40 : Int32) → ((M2 85 x1.toNatClampNeg) = (41 : Int32) → (post (15 : Int32) M2)) ∧
  (¬ (M2 85 x1.toNatClampNeg) = (41 : Int32) → ((M2 85 x1.toNatClampNeg) = (43 : Int32) → (post (9 : Int32) M2)) ∧
  (¬ (M2 85 x1.toNatClampNeg) = (43 : Int32) → ((M2 85 x1.toNatClampNeg) = (60 : Int32) → (post (10 : Int32) M2)) ∧
  (¬ (M2 85 x1.toNatClampNeg) = (60 : Int32) → ((M2 85 x1.toNatClampNeg) = (62 : Int32) → (post (11 : Int32) M2)) ∧
  (¬ (M2 85 x1.toNatClampNeg) = (62 : Int32) → (post (16 : Int32) M2)))))))) ∧
  (¬ r2 = 0 → (((x2 - x1) ≤ (4 : Int32) → (P_Reader_valueOf (fun r3 M3 =>
  P_Reader_coded (fun r4 M4 =>
  P_Reader_signOf_45 post r4 M4) (0 : Int32) r3 M3) x1 x2 M2)) ∧
  (¬ (x2 - x1) ≤ (4 : Int32) → (P_Reader_signOf_45 post (16 : Int32) M2))))) x1 M1)) ∧
  (¬ r1 = 0 → (P_Reader_wordOf (fun r5 M5 =>
  post r5 M5) x1 x2 M1))) x1 M
theorem k_Reader_signOf {X : FX} {g : GT} {ext : List CD} {A : Nat → Prop} {Z : State → Prop} {post : Int32 → Mem → Prop} {sk : Nat → Nat} (C : CxX X g (layC ++ ext) A cX6_signOf 3 RX6 7 0 sk) (hr : 0 ≤ X.2.2.2.1.cells ∧ 0 ≤ X.2.2.2.1.slots) (hR : RetI X g (layC ++ ext) A cX6_signOf 3 0 0 Z post) (x1 x2 : Int32) (M : Mem) (h : P_Reader_signOf post x1 x2 M) : AtX X g (layC ++ ext) A 3 0 0 Z 0 [(0, .ref (ad g 84)), (1, .int x1), (2, .int x2)] [] M := by
  refine a_aload_n C.1 (tk T_cX6_signOf 0 rfl) rfl ?_
  refine a_iload_n C.1 (tk T_cX6_signOf 1 rfl) rfl ?_
  refine a_callI C.1 [.int x1] me_yX6_isLetter lk_RX6_63 (ct_Reader_isLetter h) (by decide) lc84 rfl rfl rfl (Nat.le_of_ble_eq_true rfl) (tk T_cX6_signOf 2 rfl) hr (fun r1 M1 h => ?_)
  refine a_if_eq C.1 15 (tk T_cX6_signOf 3 rfl) rfl (fun c => ?_) (fun c => ?_)
  · have h := h.1 c
    refine a_aload_n C.1 (tk T_cX6_signOf 9 rfl) rfl ?_
    refine a_iload_n C.1 (tk T_cX6_signOf 10 rfl) rfl ?_
    refine a_callI C.1 [.int x1] me_yX6_isDigit lk_RX6_66 (ct_Reader_isDigit h) (by decide) lc84 rfl rfl rfl (Nat.le_of_ble_eq_true rfl) (tk T_cX6_signOf 11 rfl) hr (fun r2 M2 h => ?_)
    refine a_if_eq C.1 46 (tk T_cX6_signOf 12 rfl) rfl (fun c => ?_) (fun c => ?_)
    · have h := h.1 c
      refine a_aload_n C.1 (tk T_cX6_signOf 27 rfl) rfl ?_
      refine a_getR C.1 f_RX6_9 (tk T_cX6_signOf 28 rfl) lc84 rfl ?_
      refine a_iload_n C.1 (tk T_cX6_signOf 29 rfl) rfl ?_
      obtain ⟨hb, h⟩ := h
      refine a_bald C.1 (tk T_cX6_signOf 30 rfl) lc85 hb ?_
      refine a_case (40 : Int32) (fun c => ?_) (fun c40 => ?_)
      · have h := h.1 c
        refine a_lsw C.1 (52) 104 (tk T_cX6_signOf 31 rfl) (by decide) (by decide) rfl ?_
        refine a_bipush C.1 (14 : Int32) (tk T_cX6_signOf 32 rfl) kB_14 ?_
        exact hR _ _ _ _ (tk T_cX6_signOf 33 rfl) h
      · have h := h.2 c40
        refine a_case (41 : Int32) (fun c => ?_) (fun c41 => ?_)
        · have h := h.1 c
          refine a_lsw C.1 (55) 107 (tk T_cX6_signOf 31 rfl) (by decide) (by decide) rfl ?_
          refine a_bipush C.1 (15 : Int32) (tk T_cX6_signOf 34 rfl) kB_15 ?_
          exact hR _ _ _ _ (tk T_cX6_signOf 35 rfl) h
        · have h := h.2 c41
          refine a_case (43 : Int32) (fun c => ?_) (fun c43 => ?_)
          · have h := h.1 c
            refine a_lsw C.1 (64) 116 (tk T_cX6_signOf 31 rfl) (by decide) (by decide) rfl ?_
            refine a_bipush C.1 (9 : Int32) (tk T_cX6_signOf 40 rfl) kB_9 ?_
            exact hR _ _ _ _ (tk T_cX6_signOf 41 rfl) h
          · have h := h.2 c43
            refine a_case (60 : Int32) (fun c => ?_) (fun c60 => ?_)
            · have h := h.1 c
              refine a_lsw C.1 (58) 110 (tk T_cX6_signOf 31 rfl) (by decide) (by decide) rfl ?_
              refine a_bipush C.1 (10 : Int32) (tk T_cX6_signOf 36 rfl) kB_10 ?_
              exact hR _ _ _ _ (tk T_cX6_signOf 37 rfl) h
            · have h := h.2 c60
              refine a_case (62 : Int32) (fun c => ?_) (fun c62 => ?_)
              · have h := h.1 c
                refine a_lsw C.1 (61) 113 (tk T_cX6_signOf 31 rfl) (by decide) (by decide) rfl ?_
                refine a_bipush C.1 (11 : Int32) (tk T_cX6_signOf 38 rfl) kB_11 ?_
                exact hR _ _ _ _ (tk T_cX6_signOf 39 rfl) h
              · have h := h.2 c62
                have d40 := ne_toInt (z := 40) c40 (by decide)
                have d41 := ne_toInt (z := 41) c41 (by decide)
                have d43 := ne_toInt (z := 43) c43 (by decide)
                have d60 := ne_toInt (z := 60) c60 (by decide)
                have d62 := ne_toInt (z := 62) c62 (by decide)
                refine a_lsw C.1 (67) 119 (tk T_cX6_signOf 31 rfl) (by decide) (by simp [Op.lookupswitch.offset, d40, Ne.symm d40, d41, Ne.symm d41, d43, Ne.symm d43, d60, Ne.symm d60, d62, Ne.symm d62]) rfl ?_
                refine a_bipush C.1 (16 : Int32) (tk T_cX6_signOf 42 rfl) kB_16 ?_
                exact hR _ _ _ _ (tk T_cX6_signOf 43 rfl) h
    · have h := h.2 c
      refine a_iload_n C.1 (tk T_cX6_signOf 13 rfl) rfl ?_
      refine a_iload_n C.1 (tk T_cX6_signOf 14 rfl) rfl ?_
      refine a_isub C.1 (tk T_cX6_signOf 15 rfl) ?_
      refine a_iconst C.1 (4 : Int32) (tk T_cX6_signOf 16 rfl) kI_4 ?_
      refine a_icmp_le C.1 35 (tk T_cX6_signOf 17 rfl) rfl (fun c => ?_) (fun c => ?_)
      · have h := h.1 c
        refine a_iconst C.1 (0 : Int32) (tk T_cX6_signOf 20 rfl) kI_0 ?_
        refine a_aload_n C.1 (tk T_cX6_signOf 21 rfl) rfl ?_
        refine a_iload_n C.1 (tk T_cX6_signOf 22 rfl) rfl ?_
        refine a_iload_n C.1 (tk T_cX6_signOf 23 rfl) rfl ?_
        refine a_callI C.1 [.int x1, .int x2] me_yX6_valueOf lk_RX6_78 (ct_Reader_valueOf h) (by decide) lc84 rfl rfl rfl (Nat.le_of_ble_eq_true rfl) (tk T_cX6_signOf 24 rfl) hr (fun r3 M3 h => ?_)
        refine a_statI C.1 [.int (0 : Int32), .int r3] me_yX6_coded lk_RX6_81 (ct_Reader_coded h) (by decide) rfl rfl (Nat.le_of_ble_eq_true rfl) (tk T_cX6_signOf 25 rfl) hr (fun r4 M4 h => ?_)
        exact a_to (k_Reader_signOf_45 C hr hR r4 M4 h) rfl
      · have h := h.2 c
        refine a_bipush C.1 (16 : Int32) (tk T_cX6_signOf 18 rfl) kB_16 ?_
        refine a_goto C.1 45 (tk T_cX6_signOf 19 rfl) rfl ?_
        exact a_to (k_Reader_signOf_45 C hr hR (16 : Int32) M2 h) rfl
  · have h := h.2 c
    refine a_aload_n C.1 (tk T_cX6_signOf 4 rfl) rfl ?_
    refine a_iload_n C.1 (tk T_cX6_signOf 5 rfl) rfl ?_
    refine a_iload_n C.1 (tk T_cX6_signOf 6 rfl) rfl ?_
    refine s_callI C [.int x1, .int x2] me_yX6_wordOf lk_RX6_73 (ct_Reader_wordOf h) (by decide) lc84 rfl rfl rfl (Nat.le_of_ble_eq_true rfl) (tk T_cX6_signOf 7 rfl) hr (fun r5 M5 h => ?_)
    exact hR _ _ _ _ (tk T_cX6_signOf 8 rfl) h
theorem ct_Reader_signOf {l : Launch} {g : GT} {ext : List CD} {sk : Nat → Nat} {post : Int32 → Mem → Prop} {x1 x2 : Int32} {M : Mem} (h : P_Reader_signOf post x1 x2 M) : SI l g (layC ++ ext) sk yX6_signOf cX6_signOf 3 (some .int) 7 [.ref (ad g 84), .int x1, .int x2] M post :=
  st_of (plainFor_of_name (by decide +kernel)) (Nat.le_of_ble_eq_true rfl) (fun X A Z hl C hr hR => by subst hl; exact k_Reader_signOf C hr (fun v M pc lv hd hp => hR v M pc lv hd rfl hp) x1 x2 M h)
def T_cX6_splitL : List (Nat × Instr × Nat) := [(0, .aload_n 0, 1), (1, .iconst 0, 1), (2, .putfield 52, 3), (5, .iconst 0, 1), (6, .istore_n 1, 1), (7, .iconst 0, 1), (8, .istore_n 2, 1), (9, .iload_n 2, 1), (10, .sipush 400, 3), (13, .if_icmp .ge 71, 3), (16, .iload_n 1, 1), (17, .aload_n 0, 1), (18, .getfield 29, 3), (21, .if_icmp .ge 63, 3), (24, .aload_n 0, 1), (25, .iload_n 1, 1), (26, .invokevirtual 55, 3), (29, .istore_n 3, 1), (30, .aload_n 0, 1), (31, .getfield 9, 3), (34, .iload_n 1, 1), (35, .baload, 1), (36, .bipush 32, 2), (38, .if_icmp .eq 38, 3), (41, .aload_n 0, 1), (42, .getfield 19, 3), (45, .aload_n 0, 1), (46, .getfield 52, 3), (49, .iload_n 1, 1), (50, .iastore, 1), (51, .aload_n 0, 1), (52, .getfield 15, 3), (55, .aload_n 0, 1), (56, .getfield 52, 3), (59, .aload_n 0, 1), (60, .iload_n 1, 1), (61, .iload_n 3, 1), (62, .invokevirtual 59, 3), (65, .iastore, 1), (66, .aload_n 0, 1), (67, .dup, 1), (68, .getfield 52, 3), (71, .iconst 1, 1), (72, .iadd, 1), (73, .putfield 52, 3), (76, .iload_n 3, 1), (77, .istore_n 1, 1), (78, .iinc 2 1, 3), (81, .goto (-72), 3), (84, .aload_n 0, 1), (85, .getfield 19, 3), (88, .aload_n 0, 1), (89, .getfield 52, 3), (92, .aload_n 0, 1), (93, .getfield 29, 3), (96, .iastore, 1), (97, .aload_n 0, 1), (98, .getfield 15, 3), (101, .aload_n 0, 1), (102, .getfield 52, 3), (105, .bipush 17, 2), (107, .iastore, 1), (108, .return_, 1)]
theorem T_cX6_split : tabOK cX6_split T_cX6_splitL = true := by decide +kernel
def P_Reader_split_84 (post : Mem → Prop) (M : Mem) : Prop :=
  vp_in (M 84 5) 401 ∧ ∀ M1, M1 = ms M 87 (M 84 5).toNatClampNeg (M 84 4) → vp_in (M1 84 5) 401 ∧ ∀ M2, M2 = ms M1 86 (M1 84 5).toNatClampNeg (17 : Int32) → post M2
theorem k_Reader_split_84 {X : FX} {g : GT} {ext : List CD} {A : Nat → Prop} {Z : State → Prop} {post : Mem → Prop} {sk : Nat → Nat} (C : CxX X g (layC ++ ext) A cX6_split 4 RX6 8 0 sk) (hr : 0 ≤ X.2.2.2.1.cells ∧ 0 ≤ X.2.2.2.1.slots) (hR : RetV X g (layC ++ ext) A cX6_split 4 0 0 Z post)  (M : Mem) (h : P_Reader_split_84 post M) : AtX X g (layC ++ ext) A 4 0 0 Z 84 [(0, .ref (ad g 84))] [] M := by
  refine a_aload_n C.1 (tk T_cX6_split 49 rfl) rfl ?_
  refine a_getR C.1 f_RX6_19 (tk T_cX6_split 50 rfl) lc84 rfl ?_
  refine a_aload_n C.1 (tk T_cX6_split 51 rfl) rfl ?_
  refine a_getI C.1 f_RX6_52 (tk T_cX6_split 52 rfl) lc84 rfl ?_
  refine a_aload_n C.1 (tk T_cX6_split 53 rfl) rfl ?_
  refine a_getI C.1 f_RX6_29 (tk T_cX6_split 54 rfl) lc84 rfl ?_
  obtain ⟨hb, h⟩ := h
  refine a_iast C.1 (tk T_cX6_split 55 rfl) lc87 hb ?_
  refine a_mem (fun M1 e_M1 => ?_)
  have h := h M1 e_M1
  refine a_aload_n C.1 (tk T_cX6_split 56 rfl) rfl ?_
  refine a_getR C.1 f_RX6_15 (tk T_cX6_split 57 rfl) lc84 rfl ?_
  refine a_aload_n C.1 (tk T_cX6_split 58 rfl) rfl ?_
  refine a_getI C.1 f_RX6_52 (tk T_cX6_split 59 rfl) lc84 rfl ?_
  refine a_bipush C.1 (17 : Int32) (tk T_cX6_split 60 rfl) kB_17 ?_
  obtain ⟨hb, h⟩ := h
  refine a_iast C.1 (tk T_cX6_split 61 rfl) lc86 hb ?_
  refine a_mem (fun M2 e_M2 => ?_)
  have h := h M2 e_M2
  exact hR _ _ _ (tk T_cX6_split 62 rfl) h
def P_Reader_split_76 (post : Mem → Prop) (R9 : Int32 → Int32 → Mem → Prop) (x2 x3 : Int32) (M : Mem) : Prop :=
  R9 x3 (x2 + (1 : Int32)) M
theorem k_Reader_split_76 {X : FX} {g : GT} {ext : List CD} {A : Nat → Prop} {Z : State → Prop} {post : Mem → Prop} {R9 : Int32 → Int32 → Mem → Prop} {sk : Nat → Nat} (C : CxX X g (layC ++ ext) A cX6_split 4 RX6 8 0 sk) (hr : 0 ≤ X.2.2.2.1.cells ∧ 0 ≤ X.2.2.2.1.slots) (hR : RetV X g (layC ++ ext) A cX6_split 4 0 0 Z post) (k9 : ∀ (y1 y2 : Int32) (M : Mem), R9 y1 y2 M → AtX X g (layC ++ ext) A 4 0 0 Z 9 [(0, .ref (ad g 84)), (1, .int y1), (2, .int y2)] [] M) (x2 x3 : Int32) (M : Mem) (h : P_Reader_split_76 post R9 x2 x3 M) : AtX X g (layC ++ ext) A 4 0 0 Z 76 [(0, .ref (ad g 84)), (2, .int x2), (3, .int x3)] [] M := by
  refine a_iload_n C.1 (tk T_cX6_split 45 rfl) rfl ?_
  refine a_istore_n C.1 (tk T_cX6_split 46 rfl) (by decide) rfl ?_
  refine a_iinc C.1 (1 : Int32) (tk T_cX6_split 47 rfl) rfl kI_1 (by decide) rfl ?_
  refine a_goto C.1 9 (tk T_cX6_split 48 rfl) rfl ?_
  exact a_to (k9 x3 (x2 + (1 : Int32)) M h) rfl
def P_Reader_split_9 (post : Mem → Prop) : Nat → Int32 → Int32 → Mem → Prop
  | 0, _, _, _ => False
  | n + 1, x1, x2, M =>
    ((400 : Int32) ≤ x2 → (P_Reader_split_84 post M)) ∧
  (¬ (400 : Int32) ≤ x2 → (((M 84 4) ≤ x1 → (P_Reader_split_84 post M)) ∧
  (¬ (M 84 4) ≤ x1 → (P_Reader_signEnd (fun r1 M1 =>
  vp_in x1 400 ∧ ((M1 85 x1.toNatClampNeg) = (32 : Int32) → (P_Reader_split_76 post (P_Reader_split_9 post n) x2 r1 M1)) ∧
  (¬ (M1 85 x1.toNatClampNeg) = (32 : Int32) → (vp_in (M1 84 5) 401 ∧ ∀ M2, M2 = ms M1 87 (M1 84 5).toNatClampNeg x1 → P_Reader_signOf (fun r3 M3 =>
  vp_in (M2 84 5) 401 ∧ ∀ M4, M4 = ms M3 86 (M2 84 5).toNatClampNeg r3 → ∀ M5, M5 = ms M4 84 5 ((M4 84 5) + (1 : Int32)) → P_Reader_split_76 post (P_Reader_split_9 post n) x2 r1 M5) x1 r1 M2))) x1 M))))
theorem k_Reader_split_9 {X : FX} {g : GT} {ext : List CD} {A : Nat → Prop} {Z : State → Prop} {post : Mem → Prop} {sk : Nat → Nat} (C : CxX X g (layC ++ ext) A cX6_split 4 RX6 8 0 sk) (hr : 0 ≤ X.2.2.2.1.cells ∧ 0 ≤ X.2.2.2.1.slots) (hR : RetV X g (layC ++ ext) A cX6_split 4 0 0 Z post) : ∀ (n : Nat) (x1 x2 : Int32) (M : Mem), P_Reader_split_9 post n x1 x2 M → AtX X g (layC ++ ext) A 4 0 0 Z 9 [(0, .ref (ad g 84)), (1, .int x1), (2, .int x2)] [] M := by
  intro n
  induction n with
  | zero =>
    intro x1 x2 M h
    exact h.elim
  | succ n ih =>
    intro x1 x2 M h
    refine a_iload_n C.1 (tk T_cX6_split 7 rfl) rfl ?_
    refine a_sipush C.1 (400 : Int32) (tk T_cX6_split 8 rfl) kS_400 ?_
    refine a_icmp_ge C.1 84 (tk T_cX6_split 9 rfl) rfl (fun c => ?_) (fun c => ?_)
    · have h := h.1 c
      exact a_to (k_Reader_split_84 C hr hR M h) rfl
    · have h := h.2 c
      refine a_iload_n C.1 (tk T_cX6_split 10 rfl) rfl ?_
      refine a_aload_n C.1 (tk T_cX6_split 11 rfl) rfl ?_
      refine a_getI C.1 f_RX6_29 (tk T_cX6_split 12 rfl) lc84 rfl ?_
      refine a_icmp_ge C.1 84 (tk T_cX6_split 13 rfl) rfl (fun c => ?_) (fun c => ?_)
      · have h := h.1 c
        exact a_to (k_Reader_split_84 C hr hR M h) rfl
      · have h := h.2 c
        refine a_aload_n C.1 (tk T_cX6_split 14 rfl) rfl ?_
        refine a_iload_n C.1 (tk T_cX6_split 15 rfl) rfl ?_
        refine a_callI C.1 [.int x1] me_yX6_signEnd lk_RX6_55 (ct_Reader_signEnd h) (by decide) lc84 rfl rfl rfl (Nat.le_of_ble_eq_true rfl) (tk T_cX6_split 16 rfl) hr (fun r1 M1 h => ?_)
        refine a_istore_n C.1 (tk T_cX6_split 17 rfl) (by decide) rfl ?_
        refine a_aload_n C.1 (tk T_cX6_split 18 rfl) rfl ?_
        refine a_getR C.1 f_RX6_9 (tk T_cX6_split 19 rfl) lc84 rfl ?_
        refine a_iload_n C.1 (tk T_cX6_split 20 rfl) rfl ?_
        obtain ⟨hb, h⟩ := h
        refine a_bald C.1 (tk T_cX6_split 21 rfl) lc85 hb ?_
        refine a_bipush C.1 (32 : Int32) (tk T_cX6_split 22 rfl) kB_32 ?_
        refine a_icmp_eq C.1 76 (tk T_cX6_split 23 rfl) rfl (fun c => ?_) (fun c => ?_)
        · have h := h.1 c
          exact a_to (k_Reader_split_76 C hr hR ih x2 r1 M1 h) rfl
        · have h := h.2 c
          refine a_aload_n C.1 (tk T_cX6_split 24 rfl) rfl ?_
          refine a_getR C.1 f_RX6_19 (tk T_cX6_split 25 rfl) lc84 rfl ?_
          refine a_aload_n C.1 (tk T_cX6_split 26 rfl) rfl ?_
          refine a_getI C.1 f_RX6_52 (tk T_cX6_split 27 rfl) lc84 rfl ?_
          refine a_iload_n C.1 (tk T_cX6_split 28 rfl) rfl ?_
          obtain ⟨hb, h⟩ := h
          refine a_iast C.1 (tk T_cX6_split 29 rfl) lc87 hb ?_
          refine a_mem (fun M2 e_M2 => ?_)
          have h := h M2 e_M2
          refine a_aload_n C.1 (tk T_cX6_split 30 rfl) rfl ?_
          refine a_getR C.1 f_RX6_15 (tk T_cX6_split 31 rfl) lc84 rfl ?_
          refine a_aload_n C.1 (tk T_cX6_split 32 rfl) rfl ?_
          refine a_getI C.1 f_RX6_52 (tk T_cX6_split 33 rfl) lc84 rfl ?_
          refine a_aload_n C.1 (tk T_cX6_split 34 rfl) rfl ?_
          refine a_iload_n C.1 (tk T_cX6_split 35 rfl) rfl ?_
          refine a_iload_n C.1 (tk T_cX6_split 36 rfl) rfl ?_
          refine s_callI C [.int x1, .int r1] me_yX6_signOf lk_RX6_59 (ct_Reader_signOf h) (by decide) lc84 rfl rfl rfl (Nat.le_of_ble_eq_true rfl) (tk T_cX6_split 37 rfl) hr (fun r3 M3 h => ?_)
          obtain ⟨hb, h⟩ := h
          refine a_iast C.1 (tk T_cX6_split 38 rfl) lc86 hb ?_
          refine a_mem (fun M4 e_M4 => ?_)
          have h := h M4 e_M4
          refine a_aload_n C.1 (tk T_cX6_split 39 rfl) rfl ?_
          refine a_dupr C.1 (tk T_cX6_split 40 rfl) ?_
          refine a_getI C.1 f_RX6_52 (tk T_cX6_split 41 rfl) lc84 rfl ?_
          refine a_iconst C.1 (1 : Int32) (tk T_cX6_split 42 rfl) kI_1 ?_
          refine a_iadd C.1 (tk T_cX6_split 43 rfl) ?_
          refine a_put C.1 f_RX6_52 f_RX6_52p rfl rfl (tk T_cX6_split 44 rfl) lc84 rfl ?_
          refine a_mem (fun M5 e_M5 => ?_)
          have h := h M5 e_M5
          exact a_to (k_Reader_split_76 C hr hR ih x2 r1 M5 h) rfl
def P_Reader_split (post : Mem → Prop) (M : Mem) : Prop :=
  ∀ M1, M1 = ms M 84 5 (0 : Int32) → ∃ j9, P_Reader_split_9 post j9 (0 : Int32) (0 : Int32) M1
theorem k_Reader_split {X : FX} {g : GT} {ext : List CD} {A : Nat → Prop} {Z : State → Prop} {post : Mem → Prop} {sk : Nat → Nat} (C : CxX X g (layC ++ ext) A cX6_split 4 RX6 8 0 sk) (hr : 0 ≤ X.2.2.2.1.cells ∧ 0 ≤ X.2.2.2.1.slots) (hR : RetV X g (layC ++ ext) A cX6_split 4 0 0 Z post) (M : Mem) (h : P_Reader_split post M) : AtX X g (layC ++ ext) A 4 0 0 Z 0 [(0, .ref (ad g 84))] [] M := by
  refine a_aload_n C.1 (tk T_cX6_split 0 rfl) rfl ?_
  refine a_iconst C.1 (0 : Int32) (tk T_cX6_split 1 rfl) kI_0 ?_
  refine a_put C.1 f_RX6_52 f_RX6_52p rfl rfl (tk T_cX6_split 2 rfl) lc84 rfl ?_
  refine a_mem (fun M1 e_M1 => ?_)
  have h := h M1 e_M1
  refine a_iconst C.1 (0 : Int32) (tk T_cX6_split 3 rfl) kI_0 ?_
  refine a_istore_n C.1 (tk T_cX6_split 4 rfl) (by decide) rfl ?_
  refine a_iconst C.1 (0 : Int32) (tk T_cX6_split 5 rfl) kI_0 ?_
  refine a_istore_n C.1 (tk T_cX6_split 6 rfl) (by decide) rfl ?_
  obtain ⟨n1, h⟩ := h
  exact a_to (k_Reader_split_9 C hr hR n1 (0 : Int32) (0 : Int32) M1 h) rfl
theorem ct_Reader_split {l : Launch} {g : GT} {ext : List CD} {sk : Nat → Nat} {post : Mem → Prop} {M : Mem} (h : P_Reader_split post M) : SV l g (layC ++ ext) sk yX6_split cX6_split 4 none 8 [.ref (ad g 84)] M post :=
  sv_of (plainFor_of_name (by decide +kernel)) (Nat.le_of_ble_eq_true rfl) (fun X A Z hl C hr hR => by subst hl; exact k_Reader_split C hr hR  M h)
def T_cX6_nextIsL : List (Nat × Instr × Nat) := [(0, .aload_n 0, 1), (1, .getfield 15, 3), (4, .aload_n 0, 1), (5, .getfield 35, 3), (8, .iaload, 1), (9, .bipush 32, 2), (11, .irem, 1), (12, .iload_n 1, 1), (13, .if_icmp .ne 7, 3), (16, .iconst 1, 1), (17, .goto 4, 3), (20, .iconst 0, 1), (21, .ireturn, 1)]
theorem T_cX6_nextIs : tabOK cX6_nextIs T_cX6_nextIsL = true := by decide +kernel
def P_Reader_nextIs_21 (post : Int32 → Mem → Prop) (s0 : Int32) (M : Mem) : Prop :=
  (s0 = 0 ∨ s0 = 1) ∧ post s0 M
theorem k_Reader_nextIs_21 {X : FX} {g : GT} {ext : List CD} {A : Nat → Prop} {Z : State → Prop} {post : Int32 → Mem → Prop} (C : Cx X g (layC ++ ext) A cX6_nextIs 2 RX6 0) (hr : 0 ≤ X.2.2.2.1.cells ∧ 0 ≤ X.2.2.2.1.slots) (hR : RetZ X g (layC ++ ext) A cX6_nextIs 2 0 0 Z post) (s0 : Int32) (M : Mem) (h : P_Reader_nextIs_21 post s0 M) : AtX X g (layC ++ ext) A 2 0 0 Z 21 [] [.int s0] M := by
  exact hR _ _ _ _ (tk T_cX6_nextIs 12 rfl) h
def P_Reader_nextIs (post : Int32 → Mem → Prop) (x1 : Int32) (M : Mem) : Prop :=
  vp_in (M 84 6) 401 ∧ (¬ (irm (M 86 (M 84 6).toNatClampNeg) (32 : Int32)) = x1 → (P_Reader_nextIs_21 post (0 : Int32) M)) ∧
  ((irm (M 86 (M 84 6).toNatClampNeg) (32 : Int32)) = x1 → (P_Reader_nextIs_21 post (1 : Int32) M))
theorem k_Reader_nextIs {X : FX} {g : GT} {ext : List CD} {A : Nat → Prop} {Z : State → Prop} {post : Int32 → Mem → Prop} (C : Cx X g (layC ++ ext) A cX6_nextIs 2 RX6 0) (hr : 0 ≤ X.2.2.2.1.cells ∧ 0 ≤ X.2.2.2.1.slots) (hR : RetZ X g (layC ++ ext) A cX6_nextIs 2 0 0 Z post) (x1 : Int32) (M : Mem) (h : P_Reader_nextIs post x1 M) : AtX X g (layC ++ ext) A 2 0 0 Z 0 [(0, .ref (ad g 84)), (1, .int x1)] [] M := by
  refine a_aload_n C (tk T_cX6_nextIs 0 rfl) rfl ?_
  refine a_getR C f_RX6_15 (tk T_cX6_nextIs 1 rfl) lc84 rfl ?_
  refine a_aload_n C (tk T_cX6_nextIs 2 rfl) rfl ?_
  refine a_getI C f_RX6_35 (tk T_cX6_nextIs 3 rfl) lc84 rfl ?_
  obtain ⟨hb, h⟩ := h
  refine a_iald C (tk T_cX6_nextIs 4 rfl) lc86 hb ?_
  refine a_bipush C (32 : Int32) (tk T_cX6_nextIs 5 rfl) kB_32 ?_
  refine a_irem C (tk T_cX6_nextIs 6 rfl) (by decide) ?_
  refine a_iload_n C (tk T_cX6_nextIs 7 rfl) rfl ?_
  refine a_icmp_ne C 20 (tk T_cX6_nextIs 8 rfl) rfl (fun c => ?_) (fun c => ?_)
  · have h := h.1 c
    refine a_iconst C (0 : Int32) (tk T_cX6_nextIs 11 rfl) kI_0 ?_
    exact a_to (k_Reader_nextIs_21 C hr hR (0 : Int32) M h) rfl
  · have h := h.2 c
    refine a_iconst C (1 : Int32) (tk T_cX6_nextIs 9 rfl) kI_1 ?_
    refine a_goto C 21 (tk T_cX6_nextIs 10 rfl) rfl ?_
    exact a_to (k_Reader_nextIs_21 C hr hR (1 : Int32) M h) rfl
theorem ct_Reader_nextIs {l : Launch} {g : GT} {ext : List CD} {post : Int32 → Mem → Prop} {x1 : Int32} {M : Mem} (h : P_Reader_nextIs post x1 M) : CI l g (layC ++ ext) yX6_nextIs cX6_nextIs 2 (some .boolean) 0 [.ref (ad g 84), .int x1] M post :=
  cz_of (plainFor_of_name (by decide +kernel)) (Nat.le_of_ble_eq_true rfl) (fun X A Z hl C hr hR => by subst hl; exact k_Reader_nextIs C hr hR x1 M h)
def T_cX6_takeSignL : List (Nat × Instr × Nat) := [(0, .aload_n 0, 1), (1, .iload_n 1, 1), (2, .invokevirtual 135, 3), (5, .ifCond .ne 5, 3), (8, .iconst 0, 1), (9, .ireturn, 1), (10, .aload_n 0, 1), (11, .getfield 35, 3), (14, .aload_n 0, 1), (15, .getfield 52, 3), (18, .if_icmp .ge 13, 3), (21, .aload_n 0, 1), (22, .dup, 1), (23, .getfield 35, 3), (26, .iconst 1, 1), (27, .iadd, 1), (28, .putfield 35, 3), (31, .iconst 1, 1), (32, .ireturn, 1)]
theorem T_cX6_takeSign : tabOK cX6_takeSign T_cX6_takeSignL = true := by decide +kernel
def P_Reader_takeSign_31 (post : Int32 → Mem → Prop) (M : Mem) : Prop :=
  post (1 : Int32) M
theorem k_Reader_takeSign_31 {X : FX} {g : GT} {ext : List CD} {A : Nat → Prop} {Z : State → Prop} {post : Int32 → Mem → Prop} (C : Cx X g (layC ++ ext) A cX6_takeSign 2 RX6 1) (hr : 0 ≤ X.2.2.2.1.cells ∧ 0 ≤ X.2.2.2.1.slots) (hR : RetZ X g (layC ++ ext) A cX6_takeSign 2 0 0 Z post)  (M : Mem) (h : P_Reader_takeSign_31 post M) : AtX X g (layC ++ ext) A 2 0 0 Z 31 [] [] M := by
  refine a_iconst C (1 : Int32) (tk T_cX6_takeSign 17 rfl) kI_1 ?_
  exact hR _ _ _ _ (tk T_cX6_takeSign 18 rfl) ⟨Or.inr rfl, h⟩
def P_Reader_takeSign (post : Int32 → Mem → Prop) (x1 : Int32) (M : Mem) : Prop :=
  P_Reader_nextIs (fun r1 M1 =>
  (¬ r1 = 0 → (((M1 84 5) ≤ (M1 84 6) → (P_Reader_takeSign_31 post M1)) ∧
  (¬ (M1 84 5) ≤ (M1 84 6) → (∀ M2, M2 = ms M1 84 6 ((M1 84 6) + (1 : Int32)) → P_Reader_takeSign_31 post M2)))) ∧
  (r1 = 0 → (post (0 : Int32) M1))) x1 M
theorem k_Reader_takeSign {X : FX} {g : GT} {ext : List CD} {A : Nat → Prop} {Z : State → Prop} {post : Int32 → Mem → Prop} (C : Cx X g (layC ++ ext) A cX6_takeSign 2 RX6 1) (hr : 0 ≤ X.2.2.2.1.cells ∧ 0 ≤ X.2.2.2.1.slots) (hR : RetZ X g (layC ++ ext) A cX6_takeSign 2 0 0 Z post) (x1 : Int32) (M : Mem) (h : P_Reader_takeSign post x1 M) : AtX X g (layC ++ ext) A 2 0 0 Z 0 [(0, .ref (ad g 84)), (1, .int x1)] [] M := by
  refine a_aload_n C (tk T_cX6_takeSign 0 rfl) rfl ?_
  refine a_iload_n C (tk T_cX6_takeSign 1 rfl) rfl ?_
  refine a_callI C [.int x1] me_yX6_nextIs lk_RX6_135 (ct_Reader_nextIs h) (by decide) lc84 rfl rfl rfl (Nat.le_of_ble_eq_true rfl) (tk T_cX6_takeSign 2 rfl) hr (fun r1 M1 h => ?_)
  refine a_if_ne C 10 (tk T_cX6_takeSign 3 rfl) rfl (fun c => ?_) (fun c => ?_)
  · have h := h.1 c
    refine a_aload_n C (tk T_cX6_takeSign 6 rfl) rfl ?_
    refine a_getI C f_RX6_35 (tk T_cX6_takeSign 7 rfl) lc84 rfl ?_
    refine a_aload_n C (tk T_cX6_takeSign 8 rfl) rfl ?_
    refine a_getI C f_RX6_52 (tk T_cX6_takeSign 9 rfl) lc84 rfl ?_
    refine a_icmp_ge C 31 (tk T_cX6_takeSign 10 rfl) rfl (fun c => ?_) (fun c => ?_)
    · have h := h.1 c
      exact a_to (k_Reader_takeSign_31 C hr hR M1 h) rfl
    · have h := h.2 c
      refine a_aload_n C (tk T_cX6_takeSign 11 rfl) rfl ?_
      refine a_dupr C (tk T_cX6_takeSign 12 rfl) ?_
      refine a_getI C f_RX6_35 (tk T_cX6_takeSign 13 rfl) lc84 rfl ?_
      refine a_iconst C (1 : Int32) (tk T_cX6_takeSign 14 rfl) kI_1 ?_
      refine a_iadd C (tk T_cX6_takeSign 15 rfl) ?_
      refine a_put C f_RX6_35 f_RX6_35p rfl rfl (tk T_cX6_takeSign 16 rfl) lc84 rfl ?_
      refine a_mem (fun M2 e_M2 => ?_)
      have h := h M2 e_M2
      exact a_to (k_Reader_takeSign_31 C hr hR M2 h) rfl
  · have h := h.2 c
    refine a_iconst C (0 : Int32) (tk T_cX6_takeSign 4 rfl) kI_0 ?_
    exact hR _ _ _ _ (tk T_cX6_takeSign 5 rfl) ⟨Or.inl rfl, h⟩
theorem ct_Reader_takeSign {l : Launch} {g : GT} {ext : List CD} {post : Int32 → Mem → Prop} {x1 : Int32} {M : Mem} (h : P_Reader_takeSign post x1 M) : CI l g (layC ++ ext) yX6_takeSign cX6_takeSign 2 (some .boolean) 1 [.ref (ad g 84), .int x1] M post :=
  cz_of (plainFor_of_name (by decide +kernel)) (Nat.le_of_ble_eq_true rfl) (fun X A Z hl C hr hR => by subst hl; exact k_Reader_takeSign C hr hR x1 M h)
def T_cX6_failL : List (Nat × Instr × Nat) := [(0, .aload_n 0, 1), (1, .aload_n 0, 1), (2, .getfield 19, 3), (5, .aload_n 0, 1), (6, .getfield 35, 3), (9, .iaload, 1), (10, .putfield 25, 3), (13, .iconst 0, 1), (14, .ireturn, 1)]
theorem T_cX6_fail : tabOK cX6_fail T_cX6_failL = true := by decide +kernel
def P_Reader_fail (post : Int32 → Mem → Prop) (M : Mem) : Prop :=
  vp_in (M 84 6) 401 ∧ ∀ M1, M1 = ms M 84 8 (M 87 (M 84 6).toNatClampNeg) → post (0 : Int32) M1
theorem k_Reader_fail {X : FX} {g : GT} {ext : List CD} {A : Nat → Prop} {Z : State → Prop} {post : Int32 → Mem → Prop} (C : Cx X g (layC ++ ext) A cX6_fail 1 RX6 0) (hr : 0 ≤ X.2.2.2.1.cells ∧ 0 ≤ X.2.2.2.1.slots) (hR : RetZ X g (layC ++ ext) A cX6_fail 1 0 0 Z post) (M : Mem) (h : P_Reader_fail post M) : AtX X g (layC ++ ext) A 1 0 0 Z 0 [(0, .ref (ad g 84))] [] M := by
  refine a_aload_n C (tk T_cX6_fail 0 rfl) rfl ?_
  refine a_aload_n C (tk T_cX6_fail 1 rfl) rfl ?_
  refine a_getR C f_RX6_19 (tk T_cX6_fail 2 rfl) lc84 rfl ?_
  refine a_aload_n C (tk T_cX6_fail 3 rfl) rfl ?_
  refine a_getI C f_RX6_35 (tk T_cX6_fail 4 rfl) lc84 rfl ?_
  obtain ⟨hb, h⟩ := h
  refine a_iald C (tk T_cX6_fail 5 rfl) lc87 hb ?_
  refine a_put C f_RX6_25 f_RX6_25p rfl rfl (tk T_cX6_fail 6 rfl) lc84 rfl ?_
  refine a_mem (fun M1 e_M1 => ?_)
  have h := h M1 e_M1
  refine a_iconst C (0 : Int32) (tk T_cX6_fail 7 rfl) kI_0 ?_
  exact hR _ _ _ _ (tk T_cX6_fail 8 rfl) ⟨Or.inl rfl, h⟩
theorem ct_Reader_fail {l : Launch} {g : GT} {ext : List CD} {post : Int32 → Mem → Prop} {M : Mem} (h : P_Reader_fail post M) : CI l g (layC ++ ext) yX6_fail cX6_fail 1 (some .boolean) 0 [.ref (ad g 84)] M post :=
  cz_of (plainFor_of_name (by decide +kernel)) (Nat.le_of_ble_eq_true rfl) (fun X A Z hl C hr hR => by subst hl; exact k_Reader_fail C hr hR  M h)
def T_cX6_emitL : List (Nat × Instr × Nat) := [(0, .aload_n 0, 1), (1, .getfield 38, 3), (4, .sipush 400, 3), (7, .if_icmp .ge 23, 3), (10, .aload_n 0, 1), (11, .getfield 22, 3), (14, .aload_n 0, 1), (15, .getfield 38, 3), (18, .iload_n 1, 1), (19, .iastore, 1), (20, .aload_n 0, 1), (21, .dup, 1), (22, .getfield 38, 3), (25, .iconst 1, 1), (26, .iadd, 1), (27, .putfield 38, 3), (30, .iconst 1, 1), (31, .ireturn, 1)]
theorem T_cX6_emit : tabOK cX6_emit T_cX6_emitL = true := by decide +kernel
def P_Reader_emit_30 (post : Int32 → Mem → Prop) (M : Mem) : Prop :=
  post (1 : Int32) M
theorem k_Reader_emit_30 {X : FX} {g : GT} {ext : List CD} {A : Nat → Prop} {Z : State → Prop} {post : Int32 → Mem → Prop} (C : Cx X g (layC ++ ext) A cX6_emit 2 RX6 0) (hr : 0 ≤ X.2.2.2.1.cells ∧ 0 ≤ X.2.2.2.1.slots) (hR : RetZ X g (layC ++ ext) A cX6_emit 2 0 0 Z post)  (M : Mem) (h : P_Reader_emit_30 post M) : AtX X g (layC ++ ext) A 2 0 0 Z 30 [] [] M := by
  refine a_iconst C (1 : Int32) (tk T_cX6_emit 16 rfl) kI_1 ?_
  exact hR _ _ _ _ (tk T_cX6_emit 17 rfl) ⟨Or.inr rfl, h⟩
def P_Reader_emit (post : Int32 → Mem → Prop) (x1 : Int32) (M : Mem) : Prop :=
  ((400 : Int32) ≤ (M 84 7) → (P_Reader_emit_30 post M)) ∧
  (¬ (400 : Int32) ≤ (M 84 7) → (vp_in (M 84 7) 400 ∧ ∀ M1, M1 = ms M 88 (M 84 7).toNatClampNeg x1 → ∀ M2, M2 = ms M1 84 7 ((M1 84 7) + (1 : Int32)) → P_Reader_emit_30 post M2))
theorem k_Reader_emit {X : FX} {g : GT} {ext : List CD} {A : Nat → Prop} {Z : State → Prop} {post : Int32 → Mem → Prop} (C : Cx X g (layC ++ ext) A cX6_emit 2 RX6 0) (hr : 0 ≤ X.2.2.2.1.cells ∧ 0 ≤ X.2.2.2.1.slots) (hR : RetZ X g (layC ++ ext) A cX6_emit 2 0 0 Z post) (x1 : Int32) (M : Mem) (h : P_Reader_emit post x1 M) : AtX X g (layC ++ ext) A 2 0 0 Z 0 [(0, .ref (ad g 84)), (1, .int x1)] [] M := by
  refine a_aload_n C (tk T_cX6_emit 0 rfl) rfl ?_
  refine a_getI C f_RX6_38 (tk T_cX6_emit 1 rfl) lc84 rfl ?_
  refine a_sipush C (400 : Int32) (tk T_cX6_emit 2 rfl) kS_400 ?_
  refine a_icmp_ge C 30 (tk T_cX6_emit 3 rfl) rfl (fun c => ?_) (fun c => ?_)
  · have h := h.1 c
    exact a_to (k_Reader_emit_30 C hr hR M h) rfl
  · have h := h.2 c
    refine a_aload_n C (tk T_cX6_emit 4 rfl) rfl ?_
    refine a_getR C f_RX6_22 (tk T_cX6_emit 5 rfl) lc84 rfl ?_
    refine a_aload_n C (tk T_cX6_emit 6 rfl) rfl ?_
    refine a_getI C f_RX6_38 (tk T_cX6_emit 7 rfl) lc84 rfl ?_
    refine a_iload_n C (tk T_cX6_emit 8 rfl) rfl ?_
    obtain ⟨hb, h⟩ := h
    refine a_iast C (tk T_cX6_emit 9 rfl) lc88 hb ?_
    refine a_mem (fun M1 e_M1 => ?_)
    have h := h M1 e_M1
    refine a_aload_n C (tk T_cX6_emit 10 rfl) rfl ?_
    refine a_dupr C (tk T_cX6_emit 11 rfl) ?_
    refine a_getI C f_RX6_38 (tk T_cX6_emit 12 rfl) lc84 rfl ?_
    refine a_iconst C (1 : Int32) (tk T_cX6_emit 13 rfl) kI_1 ?_
    refine a_iadd C (tk T_cX6_emit 14 rfl) ?_
    refine a_put C f_RX6_38 f_RX6_38p rfl rfl (tk T_cX6_emit 15 rfl) lc84 rfl ?_
    refine a_mem (fun M2 e_M2 => ?_)
    have h := h M2 e_M2
    exact a_to (k_Reader_emit_30 C hr hR M2 h) rfl
theorem ct_Reader_emit {l : Launch} {g : GT} {ext : List CD} {post : Int32 → Mem → Prop} {x1 : Int32} {M : Mem} (h : P_Reader_emit post x1 M) : CI l g (layC ++ ext) yX6_emit cX6_emit 2 (some .boolean) 0 [.ref (ad g 84), .int x1] M post :=
  cz_of (plainFor_of_name (by decide +kernel)) (Nat.le_of_ble_eq_true rfl) (fun X A Z hl C hr hR => by subst hl; exact k_Reader_emit C hr hR x1 M h)
def T_cX6_readSumL : List (Nat × Instr × Nat) := [(0, .iconst 0, 1), (1, .istore_n 1, 1), (2, .iload_n 1, 1), (3, .sipush 400, 3), (6, .if_icmp .ge 76, 3), (9, .aload_n 0, 1), (10, .getfield 15, 3), (13, .aload_n 0, 1), (14, .getfield 35, 3), (17, .iaload, 1), (18, .bipush 32, 2), (20, .irem, 1), (21, .iconst 5, 1), (22, .if_icmp .le 8, 3), (25, .aload_n 0, 1), (26, .invokevirtual 48, 3), (29, .ireturn, 1), (30, .aload_n 0, 1), (31, .aload_n 0, 1), (32, .getfield 15, 3), (35, .aload_n 0, 1), (36, .getfield 35, 3), (39, .iaload, 1), (40, .invokevirtual 123, 3), (43, .pop, 1), (44, .aload_n 0, 1), (45, .dup, 1), (46, .getfield 35, 3), (49, .iconst 1, 1), (50, .iadd, 1), (51, .putfield 35, 3), (54, .iload_n 1, 1), (55, .ifCond .le 10, 3), (58, .aload_n 0, 1), (59, .bipush 9, 2), (61, .invokevirtual 123, 3), (64, .pop, 1), (65, .aload_n 0, 1), (66, .bipush 9, 2), (68, .invokevirtual 45, 3), (71, .ifCond .ne 5, 3), (74, .iconst 1, 1), (75, .ireturn, 1), (76, .iinc 1 1, 3), (79, .goto (-77), 3), (82, .aload_n 0, 1), (83, .invokevirtual 48, 3), (86, .ireturn, 1)]
theorem T_cX6_readSum : tabOK cX6_readSum T_cX6_readSumL = true := by decide +kernel
def P_Reader_readSum_65 (post : Int32 → Mem → Prop) (R2 : Int32 → Mem → Prop) (x1 : Int32) (M : Mem) : Prop :=
  P_Reader_takeSign (fun r1 M1 =>
  (¬ r1 = 0 → (R2 (x1 + (1 : Int32)) M1)) ∧
  (r1 = 0 → (post (1 : Int32) M1))) (9 : Int32) M
theorem k_Reader_readSum_65 {X : FX} {g : GT} {ext : List CD} {A : Nat → Prop} {Z : State → Prop} {post : Int32 → Mem → Prop} {R2 : Int32 → Mem → Prop} (C : Cx X g (layC ++ ext) A cX6_readSum 2 RX6 2) (hr : 0 ≤ X.2.2.2.1.cells ∧ 0 ≤ X.2.2.2.1.slots) (hR : RetZ X g (layC ++ ext) A cX6_readSum 2 0 0 Z post) (k2 : ∀ (y1 : Int32) (M : Mem), R2 y1 M → AtX X g (layC ++ ext) A 2 0 0 Z 2 [(0, .ref (ad g 84)), (1, .int y1)] [] M) (x1 : Int32) (M : Mem) (h : P_Reader_readSum_65 post R2 x1 M) : AtX X g (layC ++ ext) A 2 0 0 Z 65 [(0, .ref (ad g 84)), (1, .int x1)] [] M := by
  refine a_aload_n C (tk T_cX6_readSum 37 rfl) rfl ?_
  refine a_bipush C (9 : Int32) (tk T_cX6_readSum 38 rfl) kB_9 ?_
  refine a_callI C [.int (9 : Int32)] me_yX6_takeSign lk_RX6_45 (ct_Reader_takeSign h) (by decide) lc84 rfl rfl rfl (Nat.le_of_ble_eq_true rfl) (tk T_cX6_readSum 39 rfl) hr (fun r1 M1 h => ?_)
  refine a_if_ne C 76 (tk T_cX6_readSum 40 rfl) rfl (fun c => ?_) (fun c => ?_)
  · have h := h.1 c
    refine a_iinc C (1 : Int32) (tk T_cX6_readSum 43 rfl) rfl kI_1 (by decide) rfl ?_
    refine a_goto C 2 (tk T_cX6_readSum 44 rfl) rfl ?_
    exact a_to (k2 (x1 + (1 : Int32)) M1 h) rfl
  · have h := h.2 c
    refine a_iconst C (1 : Int32) (tk T_cX6_readSum 41 rfl) kI_1 ?_
    exact hR _ _ _ _ (tk T_cX6_readSum 42 rfl) ⟨Or.inr rfl, h⟩
def P_Reader_readSum_2 (post : Int32 → Mem → Prop) : Nat → Int32 → Mem → Prop
  | 0, _, _ => False
  | n + 1, x1, M =>
    ((400 : Int32) ≤ x1 → (P_Reader_fail (fun r1 M1 =>
  (r1 = 0 ∨ r1 = 1) ∧ post r1 M1) M)) ∧
  (¬ (400 : Int32) ≤ x1 → (vp_in (M 84 6) 401 ∧ ((irm (M 86 (M 84 6).toNatClampNeg) (32 : Int32)) ≤ (5 : Int32) → (vp_in (M 84 6) 401 ∧ P_Reader_emit (fun r2 M2 =>
  ∀ M3, M3 = ms M2 84 6 ((M2 84 6) + (1 : Int32)) → (x1 ≤ 0 → (P_Reader_readSum_65 post (P_Reader_readSum_2 post n) x1 M3)) ∧
  (¬ x1 ≤ 0 → (P_Reader_emit (fun r4 M4 =>
  P_Reader_readSum_65 post (P_Reader_readSum_2 post n) x1 M4) (9 : Int32) M3))) (M 86 (M 84 6).toNatClampNeg) M)) ∧
  (¬ (irm (M 86 (M 84 6).toNatClampNeg) (32 : Int32)) ≤ (5 : Int32) → (P_Reader_fail (fun r5 M5 =>
  (r5 = 0 ∨ r5 = 1) ∧ post r5 M5) M))))
theorem k_Reader_readSum_2 {X : FX} {g : GT} {ext : List CD} {A : Nat → Prop} {Z : State → Prop} {post : Int32 → Mem → Prop} (C : Cx X g (layC ++ ext) A cX6_readSum 2 RX6 2) (hr : 0 ≤ X.2.2.2.1.cells ∧ 0 ≤ X.2.2.2.1.slots) (hR : RetZ X g (layC ++ ext) A cX6_readSum 2 0 0 Z post) : ∀ (n : Nat) (x1 : Int32) (M : Mem), P_Reader_readSum_2 post n x1 M → AtX X g (layC ++ ext) A 2 0 0 Z 2 [(0, .ref (ad g 84)), (1, .int x1)] [] M := by
  intro n
  induction n with
  | zero =>
    intro x1 M h
    exact h.elim
  | succ n ih =>
    intro x1 M h
    refine a_iload_n C (tk T_cX6_readSum 2 rfl) rfl ?_
    refine a_sipush C (400 : Int32) (tk T_cX6_readSum 3 rfl) kS_400 ?_
    refine a_icmp_ge C 82 (tk T_cX6_readSum 4 rfl) rfl (fun c => ?_) (fun c => ?_)
    · have h := h.1 c
      refine a_aload_n C (tk T_cX6_readSum 45 rfl) rfl ?_
      refine a_callI C [] me_yX6_fail lk_RX6_48 (ct_Reader_fail h) (by decide) lc84 rfl rfl rfl (Nat.le_of_ble_eq_true rfl) (tk T_cX6_readSum 46 rfl) hr (fun r1 M1 h => ?_)
      exact hR _ _ _ _ (tk T_cX6_readSum 47 rfl) h
    · have h := h.2 c
      refine a_aload_n C (tk T_cX6_readSum 5 rfl) rfl ?_
      refine a_getR C f_RX6_15 (tk T_cX6_readSum 6 rfl) lc84 rfl ?_
      refine a_aload_n C (tk T_cX6_readSum 7 rfl) rfl ?_
      refine a_getI C f_RX6_35 (tk T_cX6_readSum 8 rfl) lc84 rfl ?_
      obtain ⟨hb, h⟩ := h
      refine a_iald C (tk T_cX6_readSum 9 rfl) lc86 hb ?_
      refine a_bipush C (32 : Int32) (tk T_cX6_readSum 10 rfl) kB_32 ?_
      refine a_irem C (tk T_cX6_readSum 11 rfl) (by decide) ?_
      refine a_iconst C (5 : Int32) (tk T_cX6_readSum 12 rfl) kI_5 ?_
      refine a_icmp_le C 30 (tk T_cX6_readSum 13 rfl) rfl (fun c => ?_) (fun c => ?_)
      · have h := h.1 c
        refine a_aload_n C (tk T_cX6_readSum 17 rfl) rfl ?_
        refine a_aload_n C (tk T_cX6_readSum 18 rfl) rfl ?_
        refine a_getR C f_RX6_15 (tk T_cX6_readSum 19 rfl) lc84 rfl ?_
        refine a_aload_n C (tk T_cX6_readSum 20 rfl) rfl ?_
        refine a_getI C f_RX6_35 (tk T_cX6_readSum 21 rfl) lc84 rfl ?_
        obtain ⟨hb, h⟩ := h
        refine a_iald C (tk T_cX6_readSum 22 rfl) lc86 hb ?_
        refine a_callI C [.int (M 86 (M 84 6).toNatClampNeg)] me_yX6_emit lk_RX6_123 (ct_Reader_emit h) (by decide) lc84 rfl rfl rfl (Nat.le_of_ble_eq_true rfl) (tk T_cX6_readSum 23 rfl) hr (fun r2 M2 h => ?_)
        refine a_popi C (tk T_cX6_readSum 24 rfl) ?_
        refine a_aload_n C (tk T_cX6_readSum 25 rfl) rfl ?_
        refine a_dupr C (tk T_cX6_readSum 26 rfl) ?_
        refine a_getI C f_RX6_35 (tk T_cX6_readSum 27 rfl) lc84 rfl ?_
        refine a_iconst C (1 : Int32) (tk T_cX6_readSum 28 rfl) kI_1 ?_
        refine a_iadd C (tk T_cX6_readSum 29 rfl) ?_
        refine a_put C f_RX6_35 f_RX6_35p rfl rfl (tk T_cX6_readSum 30 rfl) lc84 rfl ?_
        refine a_mem (fun M3 e_M3 => ?_)
        have h := h M3 e_M3
        refine a_iload_n C (tk T_cX6_readSum 31 rfl) rfl ?_
        refine a_if_le C 65 (tk T_cX6_readSum 32 rfl) rfl (fun c => ?_) (fun c => ?_)
        · have h := h.1 c
          exact a_to (k_Reader_readSum_65 C hr hR ih x1 M3 h) rfl
        · have h := h.2 c
          refine a_aload_n C (tk T_cX6_readSum 33 rfl) rfl ?_
          refine a_bipush C (9 : Int32) (tk T_cX6_readSum 34 rfl) kB_9 ?_
          refine a_callI C [.int (9 : Int32)] me_yX6_emit lk_RX6_123 (ct_Reader_emit h) (by decide) lc84 rfl rfl rfl (Nat.le_of_ble_eq_true rfl) (tk T_cX6_readSum 35 rfl) hr (fun r4 M4 h => ?_)
          refine a_popi C (tk T_cX6_readSum 36 rfl) ?_
          exact a_to (k_Reader_readSum_65 C hr hR ih x1 M4 h) rfl
      · have h := h.2 c
        refine a_aload_n C (tk T_cX6_readSum 14 rfl) rfl ?_
        refine a_callI C [] me_yX6_fail lk_RX6_48 (ct_Reader_fail h) (by decide) lc84 rfl rfl rfl (Nat.le_of_ble_eq_true rfl) (tk T_cX6_readSum 15 rfl) hr (fun r5 M5 h => ?_)
        exact hR _ _ _ _ (tk T_cX6_readSum 16 rfl) h
def P_Reader_readSum (post : Int32 → Mem → Prop) (M : Mem) : Prop :=
  ∃ j2, P_Reader_readSum_2 post j2 (0 : Int32) M
theorem k_Reader_readSum {X : FX} {g : GT} {ext : List CD} {A : Nat → Prop} {Z : State → Prop} {post : Int32 → Mem → Prop} (C : Cx X g (layC ++ ext) A cX6_readSum 2 RX6 2) (hr : 0 ≤ X.2.2.2.1.cells ∧ 0 ≤ X.2.2.2.1.slots) (hR : RetZ X g (layC ++ ext) A cX6_readSum 2 0 0 Z post) (M : Mem) (h : P_Reader_readSum post M) : AtX X g (layC ++ ext) A 2 0 0 Z 0 [(0, .ref (ad g 84))] [] M := by
  refine a_iconst C (0 : Int32) (tk T_cX6_readSum 0 rfl) kI_0 ?_
  refine a_istore_n C (tk T_cX6_readSum 1 rfl) (by decide) rfl ?_
  obtain ⟨n1, h⟩ := h
  exact a_to (k_Reader_readSum_2 C hr hR n1 (0 : Int32) M h) rfl
theorem ct_Reader_readSum {l : Launch} {g : GT} {ext : List CD} {post : Int32 → Mem → Prop} {M : Mem} (h : P_Reader_readSum post M) : CI l g (layC ++ ext) yX6_readSum cX6_readSum 2 (some .boolean) 2 [.ref (ad g 84)] M post :=
  cz_of (plainFor_of_name (by decide +kernel)) (Nat.le_of_ble_eq_true rfl) (fun X A Z hl C hr hR => by subst hl; exact k_Reader_readSum C hr hR  M h)
def T_cX6_readElementL : List (Nat × Instr × Nat) := [(0, .aload_n 0, 1), (1, .getfield 15, 3), (4, .aload_n 0, 1), (5, .getfield 35, 3), (8, .iaload, 1), (9, .bipush 32, 2), (11, .idiv, 1), (12, .istore_n 2, 1), (13, .aload_n 0, 1), (14, .iconst 0, 1), (15, .invokevirtual 135, 3), (18, .ifCond .eq 9, 3), (21, .iload_n 2, 1), (22, .bipush 6, 2), (24, .if_icmp .lt 8, 3), (27, .aload_n 0, 1), (28, .invokevirtual 48, 3), (31, .ireturn, 1), (32, .aload_n 0, 1), (33, .dup, 1), (34, .getfield 35, 3), (37, .iconst 1, 1), (38, .iadd, 1), (39, .putfield 35, 3), (42, .aload_n 0, 1), (43, .iload_n 1, 1), (44, .iload_n 2, 1), (45, .invokestatic 81, 3), (48, .invokevirtual 123, 3), (51, .ireturn, 1)]
theorem T_cX6_readElement : tabOK cX6_readElement T_cX6_readElementL = true := by decide +kernel
def P_Reader_readElement_27 (post : Int32 → Mem → Prop) (M : Mem) : Prop :=
  P_Reader_fail (fun r1 M1 =>
  (r1 = 0 ∨ r1 = 1) ∧ post r1 M1) M
theorem k_Reader_readElement_27 {X : FX} {g : GT} {ext : List CD} {A : Nat → Prop} {Z : State → Prop} {post : Int32 → Mem → Prop} (C : Cx X g (layC ++ ext) A cX6_readElement 3 RX6 1) (hr : 0 ≤ X.2.2.2.1.cells ∧ 0 ≤ X.2.2.2.1.slots) (hR : RetZ X g (layC ++ ext) A cX6_readElement 3 0 0 Z post)  (M : Mem) (h : P_Reader_readElement_27 post M) : AtX X g (layC ++ ext) A 3 0 0 Z 27 [(0, .ref (ad g 84))] [] M := by
  refine a_aload_n C (tk T_cX6_readElement 15 rfl) rfl ?_
  refine a_callI C [] me_yX6_fail lk_RX6_48 (ct_Reader_fail h) (by decide) lc84 rfl rfl rfl (Nat.le_of_ble_eq_true rfl) (tk T_cX6_readElement 16 rfl) hr (fun r1 M1 h => ?_)
  exact hR _ _ _ _ (tk T_cX6_readElement 17 rfl) h
def P_Reader_readElement (post : Int32 → Mem → Prop) (x1 : Int32) (M : Mem) : Prop :=
  vp_in (M 84 6) 401 ∧ ∀ x2_1, x2_1 = ((M 86 (M 84 6).toNatClampNeg) / (32 : Int32)) → P_Reader_nextIs (fun r2 M2 =>
  (r2 = 0 → (P_Reader_readElement_27 post M2)) ∧
  (¬ r2 = 0 → ((x2_1 < (6 : Int32) → (∀ M3, M3 = ms M2 84 6 ((M2 84 6) + (1 : Int32)) → P_Reader_coded (fun r4 M4 =>
  P_Reader_emit (fun r5 M5 =>
  (r5 = 0 ∨ r5 = 1) ∧ post r5 M5) r4 M4) x1 x2_1 M3)) ∧
  (¬ x2_1 < (6 : Int32) → (P_Reader_readElement_27 post M2))))) (0 : Int32) M
theorem k_Reader_readElement {X : FX} {g : GT} {ext : List CD} {A : Nat → Prop} {Z : State → Prop} {post : Int32 → Mem → Prop} (C : Cx X g (layC ++ ext) A cX6_readElement 3 RX6 1) (hr : 0 ≤ X.2.2.2.1.cells ∧ 0 ≤ X.2.2.2.1.slots) (hR : RetZ X g (layC ++ ext) A cX6_readElement 3 0 0 Z post) (x1 : Int32) (M : Mem) (h : P_Reader_readElement post x1 M) : AtX X g (layC ++ ext) A 3 0 0 Z 0 [(0, .ref (ad g 84)), (1, .int x1)] [] M := by
  refine a_aload_n C (tk T_cX6_readElement 0 rfl) rfl ?_
  refine a_getR C f_RX6_15 (tk T_cX6_readElement 1 rfl) lc84 rfl ?_
  refine a_aload_n C (tk T_cX6_readElement 2 rfl) rfl ?_
  refine a_getI C f_RX6_35 (tk T_cX6_readElement 3 rfl) lc84 rfl ?_
  obtain ⟨hb, h⟩ := h
  refine a_iald C (tk T_cX6_readElement 4 rfl) lc86 hb ?_
  refine a_bipush C (32 : Int32) (tk T_cX6_readElement 5 rfl) kB_32 ?_
  refine a_idiv C (tk T_cX6_readElement 6 rfl) (by decide) ?_
  refine a_top (fun x2_1 e_x2_1 => ?_)
  have h := h x2_1 e_x2_1
  refine a_istore_n C (tk T_cX6_readElement 7 rfl) (by decide) rfl ?_
  refine a_aload_n C (tk T_cX6_readElement 8 rfl) rfl ?_
  refine a_iconst C (0 : Int32) (tk T_cX6_readElement 9 rfl) kI_0 ?_
  refine a_callI C [.int (0 : Int32)] me_yX6_nextIs lk_RX6_135 (ct_Reader_nextIs h) (by decide) lc84 rfl rfl rfl (Nat.le_of_ble_eq_true rfl) (tk T_cX6_readElement 10 rfl) hr (fun r2 M2 h => ?_)
  refine a_if_eq C 27 (tk T_cX6_readElement 11 rfl) rfl (fun c => ?_) (fun c => ?_)
  · have h := h.1 c
    exact a_to (k_Reader_readElement_27 C hr hR M2 h) rfl
  · have h := h.2 c
    refine a_iload_n C (tk T_cX6_readElement 12 rfl) rfl ?_
    refine a_bipush C (6 : Int32) (tk T_cX6_readElement 13 rfl) kB_6 ?_
    refine a_icmp_lt C 32 (tk T_cX6_readElement 14 rfl) rfl (fun c => ?_) (fun c => ?_)
    · have h := h.1 c
      refine a_aload_n C (tk T_cX6_readElement 18 rfl) rfl ?_
      refine a_dupr C (tk T_cX6_readElement 19 rfl) ?_
      refine a_getI C f_RX6_35 (tk T_cX6_readElement 20 rfl) lc84 rfl ?_
      refine a_iconst C (1 : Int32) (tk T_cX6_readElement 21 rfl) kI_1 ?_
      refine a_iadd C (tk T_cX6_readElement 22 rfl) ?_
      refine a_put C f_RX6_35 f_RX6_35p rfl rfl (tk T_cX6_readElement 23 rfl) lc84 rfl ?_
      refine a_mem (fun M3 e_M3 => ?_)
      have h := h M3 e_M3
      refine a_aload_n C (tk T_cX6_readElement 24 rfl) rfl ?_
      refine a_iload_n C (tk T_cX6_readElement 25 rfl) rfl ?_
      refine a_iload_n C (tk T_cX6_readElement 26 rfl) rfl ?_
      refine a_statI C [.int x1, .int x2_1] me_yX6_coded lk_RX6_81 (ct_Reader_coded h) (by decide) rfl rfl (Nat.le_of_ble_eq_true rfl) (tk T_cX6_readElement 27 rfl) hr (fun r4 M4 h => ?_)
      refine a_callI C [.int r4] me_yX6_emit lk_RX6_123 (ct_Reader_emit h) (by decide) lc84 rfl rfl rfl (Nat.le_of_ble_eq_true rfl) (tk T_cX6_readElement 28 rfl) hr (fun r5 M5 h => ?_)
      exact hR _ _ _ _ (tk T_cX6_readElement 29 rfl) h
    · have h := h.2 c
      exact a_to (k_Reader_readElement_27 C hr hR M2 h) rfl
theorem ct_Reader_readElement {l : Launch} {g : GT} {ext : List CD} {post : Int32 → Mem → Prop} {x1 : Int32} {M : Mem} (h : P_Reader_readElement post x1 M) : CI l g (layC ++ ext) yX6_readElement cX6_readElement 3 (some .boolean) 1 [.ref (ad g 84), .int x1] M post :=
  cz_of (plainFor_of_name (by decide +kernel)) (Nat.le_of_ble_eq_true rfl) (fun X A Z hl C hr hR => by subst hl; exact k_Reader_readElement C hr hR x1 M h)
def T_cX6_readAllL : List (Nat × Instr × Nat) := [(0, .aload_n 0, 1), (1, .iload_n 1, 1), (2, .invokevirtual 126, 3), (5, .ifCond .ne 5, 3), (8, .iconst 0, 1), (9, .ireturn, 1), (10, .iconst 0, 1), (11, .istore_n 2, 1), (12, .iload_n 2, 1), (13, .sipush 400, 3), (16, .if_icmp .ge 35, 3), (19, .aload_n 0, 1), (20, .bipush 12, 2), (22, .invokevirtual 45, 3), (25, .ifCond .eq 26, 3), (28, .aload_n 0, 1), (29, .iload_n 1, 1), (30, .invokevirtual 126, 3), (33, .ifCond .ne 5, 3), (36, .iconst 0, 1), (37, .ireturn, 1), (38, .aload_n 0, 1), (39, .bipush 12, 2), (41, .invokevirtual 123, 3), (44, .pop, 1), (45, .iinc 2 1, 3), (48, .goto (-36), 3), (51, .iconst 1, 1), (52, .ireturn, 1)]
theorem T_cX6_readAll : tabOK cX6_readAll T_cX6_readAllL = true := by decide +kernel
def P_Reader_readAll_51 (RA : (Int32 → Mem → Prop) → Int32 → Mem → Prop) (post : Int32 → Mem → Prop) (M : Mem) : Prop :=
  post (1 : Int32) M
theorem k_Reader_readAll_51 {X : FX} {g : GT} {ext : List CD} {A : Nat → Prop} {Z : State → Prop} {post : Int32 → Mem → Prop} {sk : Nat → Nat} {hA : Nat} (hc : 20 ≤ hA) {RA : (Int32 → Mem → Prop) → Int32 → Mem → Prop} (hRA : ∀ (post : Int32 → Mem → Prop) (x1 : Int32) (M : Mem), RA post x1 M → SI X.2.1 g (layC ++ ext) sk yX6_readAtom cX6_readAtom 3 (some .boolean) hA [.ref (ad g 84), .int x1] M post) (C : CxX X g (layC ++ ext) A cX6_readAll 3 RX6 (hA + 1) 0 sk) (hr : 0 ≤ X.2.2.2.1.cells ∧ 0 ≤ X.2.2.2.1.slots) (hR : RetZ X g (layC ++ ext) A cX6_readAll 3 0 0 Z post)  (M : Mem) (h : P_Reader_readAll_51 RA post M) : AtX X g (layC ++ ext) A 3 0 0 Z 51 [] [] M := by
  refine a_iconst C.1 (1 : Int32) (tk T_cX6_readAll 27 rfl) kI_1 ?_
  exact hR _ _ _ _ (tk T_cX6_readAll 28 rfl) ⟨Or.inr rfl, h⟩
def P_Reader_readAll_12 (RA : (Int32 → Mem → Prop) → Int32 → Mem → Prop) (post : Int32 → Mem → Prop) : Nat → Int32 → Int32 → Mem → Prop
  | 0, _, _, _ => False
  | n + 1, x1, x2, M =>
    ((400 : Int32) ≤ x2 → (P_Reader_readAll_51 RA post M)) ∧
  (¬ (400 : Int32) ≤ x2 → (P_Reader_takeSign (fun r1 M1 =>
  (r1 = 0 → (P_Reader_readAll_51 RA post M1)) ∧
  (¬ r1 = 0 → (RA (fun r2 M2 =>
  (¬ r2 = 0 → (P_Reader_emit (fun r3 M3 =>
  P_Reader_readAll_12 RA post n x1 (x2 + (1 : Int32)) M3) (12 : Int32) M2)) ∧
  (r2 = 0 → (post (0 : Int32) M2))) x1 M1))) (12 : Int32) M))
theorem k_Reader_readAll_12 {X : FX} {g : GT} {ext : List CD} {A : Nat → Prop} {Z : State → Prop} {post : Int32 → Mem → Prop} {sk : Nat → Nat} {hA : Nat} (hc : 20 ≤ hA) {RA : (Int32 → Mem → Prop) → Int32 → Mem → Prop} (hRA : ∀ (post : Int32 → Mem → Prop) (x1 : Int32) (M : Mem), RA post x1 M → SI X.2.1 g (layC ++ ext) sk yX6_readAtom cX6_readAtom 3 (some .boolean) hA [.ref (ad g 84), .int x1] M post) (C : CxX X g (layC ++ ext) A cX6_readAll 3 RX6 (hA + 1) 0 sk) (hr : 0 ≤ X.2.2.2.1.cells ∧ 0 ≤ X.2.2.2.1.slots) (hR : RetZ X g (layC ++ ext) A cX6_readAll 3 0 0 Z post) : ∀ (n : Nat) (x1 x2 : Int32) (M : Mem), P_Reader_readAll_12 RA post n x1 x2 M → AtX X g (layC ++ ext) A 3 0 0 Z 12 [(0, .ref (ad g 84)), (1, .int x1), (2, .int x2)] [] M := by
  intro n
  induction n with
  | zero =>
    intro x1 x2 M h
    exact h.elim
  | succ n ih =>
    intro x1 x2 M h
    refine a_iload_n C.1 (tk T_cX6_readAll 8 rfl) rfl ?_
    refine a_sipush C.1 (400 : Int32) (tk T_cX6_readAll 9 rfl) kS_400 ?_
    refine a_icmp_ge C.1 51 (tk T_cX6_readAll 10 rfl) rfl (fun c => ?_) (fun c => ?_)
    · have h := h.1 c
      exact a_to (k_Reader_readAll_51 hc hRA C hr hR M h) rfl
    · have h := h.2 c
      refine a_aload_n C.1 (tk T_cX6_readAll 11 rfl) rfl ?_
      refine a_bipush C.1 (12 : Int32) (tk T_cX6_readAll 12 rfl) kB_12 ?_
      refine a_callI C.1 [.int (12 : Int32)] me_yX6_takeSign lk_RX6_45 (ct_Reader_takeSign h) (by omega) lc84 rfl rfl rfl (Nat.le_of_ble_eq_true rfl) (tk T_cX6_readAll 13 rfl) hr (fun r1 M1 h => ?_)
      refine a_if_eq C.1 51 (tk T_cX6_readAll 14 rfl) rfl (fun c => ?_) (fun c => ?_)
      · have h := h.1 c
        exact a_to (k_Reader_readAll_51 hc hRA C hr hR M1 h) rfl
      · have h := h.2 c
        refine a_aload_n C.1 (tk T_cX6_readAll 15 rfl) rfl ?_
        refine a_iload_n C.1 (tk T_cX6_readAll 16 rfl) rfl ?_
        refine s_callI C [.int x1] me_yX6_readAtom lk_RX6_126 (hRA _ _ _ h) (by omega) lc84 rfl rfl rfl (Nat.le_of_ble_eq_true rfl) (tk T_cX6_readAll 17 rfl) hr (fun r2 M2 h => ?_)
        refine a_if_ne C.1 38 (tk T_cX6_readAll 18 rfl) rfl (fun c => ?_) (fun c => ?_)
        · have h := h.1 c
          refine a_aload_n C.1 (tk T_cX6_readAll 21 rfl) rfl ?_
          refine a_bipush C.1 (12 : Int32) (tk T_cX6_readAll 22 rfl) kB_12 ?_
          refine a_callI C.1 [.int (12 : Int32)] me_yX6_emit lk_RX6_123 (ct_Reader_emit h) (by omega) lc84 rfl rfl rfl (Nat.le_of_ble_eq_true rfl) (tk T_cX6_readAll 23 rfl) hr (fun r3 M3 h => ?_)
          refine a_popi C.1 (tk T_cX6_readAll 24 rfl) ?_
          refine a_iinc C.1 (1 : Int32) (tk T_cX6_readAll 25 rfl) rfl kI_1 (by decide) rfl ?_
          refine a_goto C.1 12 (tk T_cX6_readAll 26 rfl) rfl ?_
          exact a_to (ih x1 (x2 + (1 : Int32)) M3 h) rfl
        · have h := h.2 c
          refine a_iconst C.1 (0 : Int32) (tk T_cX6_readAll 19 rfl) kI_0 ?_
          exact hR _ _ _ _ (tk T_cX6_readAll 20 rfl) ⟨Or.inl rfl, h⟩
def P_Reader_readAll (RA : (Int32 → Mem → Prop) → Int32 → Mem → Prop) (post : Int32 → Mem → Prop) (x1 : Int32) (M : Mem) : Prop :=
  RA (fun r1 M1 =>
  (¬ r1 = 0 → (∃ j12, P_Reader_readAll_12 RA post j12 x1 (0 : Int32) M1)) ∧
  (r1 = 0 → (post (0 : Int32) M1))) x1 M
theorem k_Reader_readAll {X : FX} {g : GT} {ext : List CD} {A : Nat → Prop} {Z : State → Prop} {post : Int32 → Mem → Prop} {sk : Nat → Nat} {hA : Nat} (hc : 20 ≤ hA) {RA : (Int32 → Mem → Prop) → Int32 → Mem → Prop} (hRA : ∀ (post : Int32 → Mem → Prop) (x1 : Int32) (M : Mem), RA post x1 M → SI X.2.1 g (layC ++ ext) sk yX6_readAtom cX6_readAtom 3 (some .boolean) hA [.ref (ad g 84), .int x1] M post) (C : CxX X g (layC ++ ext) A cX6_readAll 3 RX6 (hA + 1) 0 sk) (hr : 0 ≤ X.2.2.2.1.cells ∧ 0 ≤ X.2.2.2.1.slots) (hR : RetZ X g (layC ++ ext) A cX6_readAll 3 0 0 Z post) (x1 : Int32) (M : Mem) (h : P_Reader_readAll RA post x1 M) : AtX X g (layC ++ ext) A 3 0 0 Z 0 [(0, .ref (ad g 84)), (1, .int x1)] [] M := by
  refine a_aload_n C.1 (tk T_cX6_readAll 0 rfl) rfl ?_
  refine a_iload_n C.1 (tk T_cX6_readAll 1 rfl) rfl ?_
  refine s_callI C [.int x1] me_yX6_readAtom lk_RX6_126 (hRA _ _ _ h) (by omega) lc84 rfl rfl rfl (Nat.le_of_ble_eq_true rfl) (tk T_cX6_readAll 2 rfl) hr (fun r1 M1 h => ?_)
  refine a_if_ne C.1 10 (tk T_cX6_readAll 3 rfl) rfl (fun c => ?_) (fun c => ?_)
  · have h := h.1 c
    refine a_iconst C.1 (0 : Int32) (tk T_cX6_readAll 6 rfl) kI_0 ?_
    refine a_istore_n C.1 (tk T_cX6_readAll 7 rfl) (by decide) rfl ?_
    obtain ⟨n1, h⟩ := h
    exact a_to (k_Reader_readAll_12 hc hRA C hr hR n1 x1 (0 : Int32) M1 h) rfl
  · have h := h.2 c
    refine a_iconst C.1 (0 : Int32) (tk T_cX6_readAll 4 rfl) kI_0 ?_
    exact hR _ _ _ _ (tk T_cX6_readAll 5 rfl) ⟨Or.inl rfl, h⟩
theorem ct_Reader_readAll {l : Launch} {g : GT} {ext : List CD} {sk : Nat → Nat} {post : Int32 → Mem → Prop} {hA : Nat} (hc : 20 ≤ hA) {RA : (Int32 → Mem → Prop) → Int32 → Mem → Prop} (hRA : ∀ (post : Int32 → Mem → Prop) (x1 : Int32) (M : Mem), RA post x1 M → SI l g (layC ++ ext) sk yX6_readAtom cX6_readAtom 3 (some .boolean) hA [.ref (ad g 84), .int x1] M post) {x1 : Int32} {M : Mem} (h : P_Reader_readAll RA post x1 M) : SI l g (layC ++ ext) sk yX6_readAll cX6_readAll 3 (some .boolean) (hA + 1) [.ref (ad g 84), .int x1] M post :=
  st_of (plainFor_of_name (by decide +kernel)) (Nat.le_of_ble_eq_true rfl) (fun X A Z hl C hr hR => by subst hl; exact k_Reader_readAll hc hRA C hr (fun v M pc lv hd hp => hR v M pc lv hd (nar_z hp.1) hp.2) x1 M h)
def T_cX6_readAnyL : List (Nat × Instr × Nat) := [(0, .aload_n 0, 1), (1, .iload_n 1, 1), (2, .invokevirtual 120, 3), (5, .ifCond .ne 5, 3), (8, .iconst 0, 1), (9, .ireturn, 1), (10, .iconst 0, 1), (11, .istore_n 2, 1), (12, .iload_n 2, 1), (13, .sipush 400, 3), (16, .if_icmp .ge 35, 3), (19, .aload_n 0, 1), (20, .bipush 13, 2), (22, .invokevirtual 45, 3), (25, .ifCond .eq 26, 3), (28, .aload_n 0, 1), (29, .iload_n 1, 1), (30, .invokevirtual 120, 3), (33, .ifCond .ne 5, 3), (36, .iconst 0, 1), (37, .ireturn, 1), (38, .aload_n 0, 1), (39, .bipush 13, 2), (41, .invokevirtual 123, 3), (44, .pop, 1), (45, .iinc 2 1, 3), (48, .goto (-36), 3), (51, .iconst 1, 1), (52, .ireturn, 1)]
theorem T_cX6_readAny : tabOK cX6_readAny T_cX6_readAnyL = true := by decide +kernel
def P_Reader_readAny_51 (RA : (Int32 → Mem → Prop) → Int32 → Mem → Prop) (post : Int32 → Mem → Prop) (M : Mem) : Prop :=
  post (1 : Int32) M
theorem k_Reader_readAny_51 {X : FX} {g : GT} {ext : List CD} {A : Nat → Prop} {Z : State → Prop} {post : Int32 → Mem → Prop} {sk : Nat → Nat} {hA : Nat} (hc : 20 ≤ hA) {RA : (Int32 → Mem → Prop) → Int32 → Mem → Prop} (hRA : ∀ (post : Int32 → Mem → Prop) (x1 : Int32) (M : Mem), RA post x1 M → SI X.2.1 g (layC ++ ext) sk yX6_readAtom cX6_readAtom 3 (some .boolean) hA [.ref (ad g 84), .int x1] M post) (C : CxX X g (layC ++ ext) A cX6_readAny 3 RX6 (hA + 2) 0 sk) (hr : 0 ≤ X.2.2.2.1.cells ∧ 0 ≤ X.2.2.2.1.slots) (hR : RetZ X g (layC ++ ext) A cX6_readAny 3 0 0 Z post)  (M : Mem) (h : P_Reader_readAny_51 RA post M) : AtX X g (layC ++ ext) A 3 0 0 Z 51 [] [] M := by
  refine a_iconst C.1 (1 : Int32) (tk T_cX6_readAny 27 rfl) kI_1 ?_
  exact hR _ _ _ _ (tk T_cX6_readAny 28 rfl) ⟨Or.inr rfl, h⟩
def P_Reader_readAny_12 (RA : (Int32 → Mem → Prop) → Int32 → Mem → Prop) (post : Int32 → Mem → Prop) : Nat → Int32 → Int32 → Mem → Prop
  | 0, _, _, _ => False
  | n + 1, x1, x2, M =>
    ((400 : Int32) ≤ x2 → (P_Reader_readAny_51 RA post M)) ∧
  (¬ (400 : Int32) ≤ x2 → (P_Reader_takeSign (fun r1 M1 =>
  (r1 = 0 → (P_Reader_readAny_51 RA post M1)) ∧
  (¬ r1 = 0 → (P_Reader_readAll RA (fun r2 M2 =>
  (¬ r2 = 0 → (P_Reader_emit (fun r3 M3 =>
  P_Reader_readAny_12 RA post n x1 (x2 + (1 : Int32)) M3) (13 : Int32) M2)) ∧
  (r2 = 0 → (post (0 : Int32) M2))) x1 M1))) (13 : Int32) M))
theorem k_Reader_readAny_12 {X : FX} {g : GT} {ext : List CD} {A : Nat → Prop} {Z : State → Prop} {post : Int32 → Mem → Prop} {sk : Nat → Nat} {hA : Nat} (hc : 20 ≤ hA) {RA : (Int32 → Mem → Prop) → Int32 → Mem → Prop} (hRA : ∀ (post : Int32 → Mem → Prop) (x1 : Int32) (M : Mem), RA post x1 M → SI X.2.1 g (layC ++ ext) sk yX6_readAtom cX6_readAtom 3 (some .boolean) hA [.ref (ad g 84), .int x1] M post) (C : CxX X g (layC ++ ext) A cX6_readAny 3 RX6 (hA + 2) 0 sk) (hr : 0 ≤ X.2.2.2.1.cells ∧ 0 ≤ X.2.2.2.1.slots) (hR : RetZ X g (layC ++ ext) A cX6_readAny 3 0 0 Z post) : ∀ (n : Nat) (x1 x2 : Int32) (M : Mem), P_Reader_readAny_12 RA post n x1 x2 M → AtX X g (layC ++ ext) A 3 0 0 Z 12 [(0, .ref (ad g 84)), (1, .int x1), (2, .int x2)] [] M := by
  intro n
  induction n with
  | zero =>
    intro x1 x2 M h
    exact h.elim
  | succ n ih =>
    intro x1 x2 M h
    refine a_iload_n C.1 (tk T_cX6_readAny 8 rfl) rfl ?_
    refine a_sipush C.1 (400 : Int32) (tk T_cX6_readAny 9 rfl) kS_400 ?_
    refine a_icmp_ge C.1 51 (tk T_cX6_readAny 10 rfl) rfl (fun c => ?_) (fun c => ?_)
    · have h := h.1 c
      exact a_to (k_Reader_readAny_51 hc hRA C hr hR M h) rfl
    · have h := h.2 c
      refine a_aload_n C.1 (tk T_cX6_readAny 11 rfl) rfl ?_
      refine a_bipush C.1 (13 : Int32) (tk T_cX6_readAny 12 rfl) kB_13 ?_
      refine a_callI C.1 [.int (13 : Int32)] me_yX6_takeSign lk_RX6_45 (ct_Reader_takeSign h) (by omega) lc84 rfl rfl rfl (Nat.le_of_ble_eq_true rfl) (tk T_cX6_readAny 13 rfl) hr (fun r1 M1 h => ?_)
      refine a_if_eq C.1 51 (tk T_cX6_readAny 14 rfl) rfl (fun c => ?_) (fun c => ?_)
      · have h := h.1 c
        exact a_to (k_Reader_readAny_51 hc hRA C hr hR M1 h) rfl
      · have h := h.2 c
        refine a_aload_n C.1 (tk T_cX6_readAny 15 rfl) rfl ?_
        refine a_iload_n C.1 (tk T_cX6_readAny 16 rfl) rfl ?_
        refine s_callI C [.int x1] me_yX6_readAll lk_RX6_120 (ct_Reader_readAll hc hRA h) (by omega) lc84 rfl rfl rfl (Nat.le_of_ble_eq_true rfl) (tk T_cX6_readAny 17 rfl) hr (fun r2 M2 h => ?_)
        refine a_if_ne C.1 38 (tk T_cX6_readAny 18 rfl) rfl (fun c => ?_) (fun c => ?_)
        · have h := h.1 c
          refine a_aload_n C.1 (tk T_cX6_readAny 21 rfl) rfl ?_
          refine a_bipush C.1 (13 : Int32) (tk T_cX6_readAny 22 rfl) kB_13 ?_
          refine a_callI C.1 [.int (13 : Int32)] me_yX6_emit lk_RX6_123 (ct_Reader_emit h) (by omega) lc84 rfl rfl rfl (Nat.le_of_ble_eq_true rfl) (tk T_cX6_readAny 23 rfl) hr (fun r3 M3 h => ?_)
          refine a_popi C.1 (tk T_cX6_readAny 24 rfl) ?_
          refine a_iinc C.1 (1 : Int32) (tk T_cX6_readAny 25 rfl) rfl kI_1 (by decide) rfl ?_
          refine a_goto C.1 12 (tk T_cX6_readAny 26 rfl) rfl ?_
          exact a_to (ih x1 (x2 + (1 : Int32)) M3 h) rfl
        · have h := h.2 c
          refine a_iconst C.1 (0 : Int32) (tk T_cX6_readAny 19 rfl) kI_0 ?_
          exact hR _ _ _ _ (tk T_cX6_readAny 20 rfl) ⟨Or.inl rfl, h⟩
def P_Reader_readAny (RA : (Int32 → Mem → Prop) → Int32 → Mem → Prop) (post : Int32 → Mem → Prop) (x1 : Int32) (M : Mem) : Prop :=
  P_Reader_readAll RA (fun r1 M1 =>
  (¬ r1 = 0 → (∃ j12, P_Reader_readAny_12 RA post j12 x1 (0 : Int32) M1)) ∧
  (r1 = 0 → (post (0 : Int32) M1))) x1 M
theorem k_Reader_readAny {X : FX} {g : GT} {ext : List CD} {A : Nat → Prop} {Z : State → Prop} {post : Int32 → Mem → Prop} {sk : Nat → Nat} {hA : Nat} (hc : 20 ≤ hA) {RA : (Int32 → Mem → Prop) → Int32 → Mem → Prop} (hRA : ∀ (post : Int32 → Mem → Prop) (x1 : Int32) (M : Mem), RA post x1 M → SI X.2.1 g (layC ++ ext) sk yX6_readAtom cX6_readAtom 3 (some .boolean) hA [.ref (ad g 84), .int x1] M post) (C : CxX X g (layC ++ ext) A cX6_readAny 3 RX6 (hA + 2) 0 sk) (hr : 0 ≤ X.2.2.2.1.cells ∧ 0 ≤ X.2.2.2.1.slots) (hR : RetZ X g (layC ++ ext) A cX6_readAny 3 0 0 Z post) (x1 : Int32) (M : Mem) (h : P_Reader_readAny RA post x1 M) : AtX X g (layC ++ ext) A 3 0 0 Z 0 [(0, .ref (ad g 84)), (1, .int x1)] [] M := by
  refine a_aload_n C.1 (tk T_cX6_readAny 0 rfl) rfl ?_
  refine a_iload_n C.1 (tk T_cX6_readAny 1 rfl) rfl ?_
  refine s_callI C [.int x1] me_yX6_readAll lk_RX6_120 (ct_Reader_readAll hc hRA h) (by omega) lc84 rfl rfl rfl (Nat.le_of_ble_eq_true rfl) (tk T_cX6_readAny 2 rfl) hr (fun r1 M1 h => ?_)
  refine a_if_ne C.1 10 (tk T_cX6_readAny 3 rfl) rfl (fun c => ?_) (fun c => ?_)
  · have h := h.1 c
    refine a_iconst C.1 (0 : Int32) (tk T_cX6_readAny 6 rfl) kI_0 ?_
    refine a_istore_n C.1 (tk T_cX6_readAny 7 rfl) (by decide) rfl ?_
    obtain ⟨n1, h⟩ := h
    exact a_to (k_Reader_readAny_12 hc hRA C hr hR n1 x1 (0 : Int32) M1 h) rfl
  · have h := h.2 c
    refine a_iconst C.1 (0 : Int32) (tk T_cX6_readAny 4 rfl) kI_0 ?_
    exact hR _ _ _ _ (tk T_cX6_readAny 5 rfl) ⟨Or.inl rfl, h⟩
theorem ct_Reader_readAny {l : Launch} {g : GT} {ext : List CD} {sk : Nat → Nat} {post : Int32 → Mem → Prop} {hA : Nat} (hc : 20 ≤ hA) {RA : (Int32 → Mem → Prop) → Int32 → Mem → Prop} (hRA : ∀ (post : Int32 → Mem → Prop) (x1 : Int32) (M : Mem), RA post x1 M → SI l g (layC ++ ext) sk yX6_readAtom cX6_readAtom 3 (some .boolean) hA [.ref (ad g 84), .int x1] M post) {x1 : Int32} {M : Mem} (h : P_Reader_readAny RA post x1 M) : SI l g (layC ++ ext) sk yX6_readAny cX6_readAny 3 (some .boolean) (hA + 2) [.ref (ad g 84), .int x1] M post :=
  st_of (plainFor_of_name (by decide +kernel)) (Nat.le_of_ble_eq_true rfl) (fun X A Z hl C hr hR => by subst hl; exact k_Reader_readAny hc hRA C hr (fun v M pc lv hd hp => hR v M pc lv hd (nar_z hp.1) hp.2) x1 M h)
def T_cX6_readAtomL : List (Nat × Instr × Nat) := [(0, .iload_n 1, 1), (1, .bipush 6, 2), (3, .if_icmp .ge 44, 3), (6, .aload_n 0, 1), (7, .bipush 14, 2), (9, .invokevirtual 45, 3), (12, .ifCond .eq 35, 3), (15, .aload_n 0, 1), (16, .iload_n 1, 1), (17, .iconst 1, 1), (18, .iadd, 1), (19, .invokevirtual 41, 3), (22, .ifCond .eq 23, 3), (25, .aload_n 0, 1), (26, .bipush 15, 2), (28, .invokevirtual 45, 3), (31, .ifCond .ne 10, 3), (34, .aload_n 0, 1), (35, .invokevirtual 48, 3), (38, .ifCond .eq 7, 3), (41, .iconst 1, 1), (42, .goto 4, 3), (45, .iconst 0, 1), (46, .ireturn, 1), (47, .iload_n 1, 1), (48, .bipush 6, 2), (50, .if_icmp .ge 37, 3), (53, .aload_n 0, 1), (54, .bipush 8, 2), (56, .invokevirtual 45, 3), (59, .ifCond .eq 28, 3), (62, .aload_n 0, 1), (63, .iload_n 1, 1), (64, .iconst 1, 1), (65, .iadd, 1), (66, .invokevirtual 126, 3), (69, .ifCond .eq 16, 3), (72, .aload_n 0, 1), (73, .bipush 8, 2), (75, .invokevirtual 123, 3), (78, .ifCond .eq 7, 3), (81, .iconst 1, 1), (82, .goto 4, 3), (85, .iconst 0, 1), (86, .ireturn, 1), (87, .aload_n 0, 1), (88, .bipush 6, 2), (90, .invokevirtual 45, 3), (93, .ifCond .eq 10, 3), (96, .aload_n 0, 1), (97, .bipush 6, 2), (99, .invokevirtual 129, 3), (102, .ireturn, 1), (103, .aload_n 0, 1), (104, .bipush 7, 2), (106, .invokevirtual 45, 3), (109, .ifCond .eq 10, 3), (112, .aload_n 0, 1), (113, .bipush 7, 2), (115, .invokevirtual 129, 3), (118, .ireturn, 1), (119, .aload_n 0, 1), (120, .invokevirtual 132, 3), (123, .ifCond .ne 5, 3), (126, .iconst 0, 1), (127, .ireturn, 1), (128, .aload_n 0, 1), (129, .bipush 10, 2), (131, .invokevirtual 45, 3), (134, .ifCond .eq 8, 3), (137, .bipush 10, 2), (139, .goto 19, 3), (142, .aload_n 0, 1), (143, .bipush 11, 2), (145, .invokevirtual 45, 3), (148, .ifCond .eq 8, 3), (151, .bipush 11, 2), (153, .goto 5, 3), (156, .bipush 16, 2), (158, .istore_n 2, 1), (159, .iload_n 2, 1), (160, .bipush 16, 2), (162, .if_icmp .ne 10, 3), (165, .aload_n 0, 1), (166, .invokevirtual 48, 3), (169, .goto 23, 3), (172, .aload_n 0, 1), (173, .invokevirtual 132, 3), (176, .ifCond .eq 15, 3), (179, .aload_n 0, 1), (180, .iload_n 2, 1), (181, .invokevirtual 123, 3), (184, .ifCond .eq 7, 3), (187, .iconst 1, 1), (188, .goto 4, 3), (191, .iconst 0, 1), (192, .ireturn, 1)]
theorem T_cX6_readAtom : tabOK cX6_readAtom T_cX6_readAtomL = true := by decide +kernel
def P_Reader_readAtom_192 (RA : (Int32 → Mem → Prop) → Int32 → Mem → Prop) (post : Int32 → Mem → Prop) (s0 : Int32) (M : Mem) : Prop :=
  (s0 = 0 ∨ s0 = 1) ∧ post s0 M
theorem k_Reader_readAtom_192 {X : FX} {g : GT} {ext : List CD} {A : Nat → Prop} {Z : State → Prop} {post : Int32 → Mem → Prop} {sk : Nat → Nat} {hA : Nat} (hc : 20 ≤ hA) {RA : (Int32 → Mem → Prop) → Int32 → Mem → Prop} (hRA : ∀ (post : Int32 → Mem → Prop) (x1 : Int32) (M : Mem), RA post x1 M → SI X.2.1 g (layC ++ ext) sk yX6_readAtom cX6_readAtom 3 (some .boolean) hA [.ref (ad g 84), .int x1] M post) (C : CxX X g (layC ++ ext) A cX6_readAtom 3 RX6 (hA + 3) 0 sk) (hr : 0 ≤ X.2.2.2.1.cells ∧ 0 ≤ X.2.2.2.1.slots) (hR : RetZ X g (layC ++ ext) A cX6_readAtom 3 0 0 Z post) (s0 : Int32) (M : Mem) (h : P_Reader_readAtom_192 RA post s0 M) : AtX X g (layC ++ ext) A 3 0 0 Z 192 [] [.int s0] M := by
  exact hR _ _ _ _ (tk T_cX6_readAtom 96 rfl) h
def P_Reader_readAtom_191 (RA : (Int32 → Mem → Prop) → Int32 → Mem → Prop) (post : Int32 → Mem → Prop) (M : Mem) : Prop :=
  P_Reader_readAtom_192 RA post (0 : Int32) M
theorem k_Reader_readAtom_191 {X : FX} {g : GT} {ext : List CD} {A : Nat → Prop} {Z : State → Prop} {post : Int32 → Mem → Prop} {sk : Nat → Nat} {hA : Nat} (hc : 20 ≤ hA) {RA : (Int32 → Mem → Prop) → Int32 → Mem → Prop} (hRA : ∀ (post : Int32 → Mem → Prop) (x1 : Int32) (M : Mem), RA post x1 M → SI X.2.1 g (layC ++ ext) sk yX6_readAtom cX6_readAtom 3 (some .boolean) hA [.ref (ad g 84), .int x1] M post) (C : CxX X g (layC ++ ext) A cX6_readAtom 3 RX6 (hA + 3) 0 sk) (hr : 0 ≤ X.2.2.2.1.cells ∧ 0 ≤ X.2.2.2.1.slots) (hR : RetZ X g (layC ++ ext) A cX6_readAtom 3 0 0 Z post)  (M : Mem) (h : P_Reader_readAtom_191 RA post M) : AtX X g (layC ++ ext) A 3 0 0 Z 191 [] [] M := by
  refine a_iconst C.1 (0 : Int32) (tk T_cX6_readAtom 95 rfl) kI_0 ?_
  exact a_to (k_Reader_readAtom_192 hc hRA C hr hR (0 : Int32) M h) rfl
def P_Reader_readAtom_158 (RA : (Int32 → Mem → Prop) → Int32 → Mem → Prop) (post : Int32 → Mem → Prop) (s0 : Int32) (M : Mem) : Prop :=
  (¬ s0 = (16 : Int32) → (P_Reader_readSum (fun r1 M1 =>
  (r1 = 0 → (P_Reader_readAtom_191 RA post M1)) ∧
  (¬ r1 = 0 → (P_Reader_emit (fun r2 M2 =>
  (r2 = 0 → (P_Reader_readAtom_191 RA post M2)) ∧
  (¬ r2 = 0 → (P_Reader_readAtom_192 RA post (1 : Int32) M2))) s0 M1))) M)) ∧
  (s0 = (16 : Int32) → (P_Reader_fail (fun r3 M3 =>
  P_Reader_readAtom_192 RA post r3 M3) M))
theorem k_Reader_readAtom_158 {X : FX} {g : GT} {ext : List CD} {A : Nat → Prop} {Z : State → Prop} {post : Int32 → Mem → Prop} {sk : Nat → Nat} {hA : Nat} (hc : 20 ≤ hA) {RA : (Int32 → Mem → Prop) → Int32 → Mem → Prop} (hRA : ∀ (post : Int32 → Mem → Prop) (x1 : Int32) (M : Mem), RA post x1 M → SI X.2.1 g (layC ++ ext) sk yX6_readAtom cX6_readAtom 3 (some .boolean) hA [.ref (ad g 84), .int x1] M post) (C : CxX X g (layC ++ ext) A cX6_readAtom 3 RX6 (hA + 3) 0 sk) (hr : 0 ≤ X.2.2.2.1.cells ∧ 0 ≤ X.2.2.2.1.slots) (hR : RetZ X g (layC ++ ext) A cX6_readAtom 3 0 0 Z post) (s0 : Int32) (M : Mem) (h : P_Reader_readAtom_158 RA post s0 M) : AtX X g (layC ++ ext) A 3 0 0 Z 158 [(0, .ref (ad g 84))] [.int s0] M := by
  refine a_istore_n C.1 (tk T_cX6_readAtom 79 rfl) (by decide) rfl ?_
  refine a_iload_n C.1 (tk T_cX6_readAtom 80 rfl) rfl ?_
  refine a_bipush C.1 (16 : Int32) (tk T_cX6_readAtom 81 rfl) kB_16 ?_
  refine a_icmp_ne C.1 172 (tk T_cX6_readAtom 82 rfl) rfl (fun c => ?_) (fun c => ?_)
  · have h := h.1 c
    refine a_aload_n C.1 (tk T_cX6_readAtom 86 rfl) rfl ?_
    refine a_callI C.1 [] me_yX6_readSum lk_RX6_132 (ct_Reader_readSum h) (by omega) lc84 rfl rfl rfl (Nat.le_of_ble_eq_true rfl) (tk T_cX6_readAtom 87 rfl) hr (fun r1 M1 h => ?_)
    refine a_if_eq C.1 191 (tk T_cX6_readAtom 88 rfl) rfl (fun c => ?_) (fun c => ?_)
    · have h := h.1 c
      exact a_to (k_Reader_readAtom_191 hc hRA C hr hR M1 h) rfl
    · have h := h.2 c
      refine a_aload_n C.1 (tk T_cX6_readAtom 89 rfl) rfl ?_
      refine a_iload_n C.1 (tk T_cX6_readAtom 90 rfl) rfl ?_
      refine a_callI C.1 [.int s0] me_yX6_emit lk_RX6_123 (ct_Reader_emit h) (by omega) lc84 rfl rfl rfl (Nat.le_of_ble_eq_true rfl) (tk T_cX6_readAtom 91 rfl) hr (fun r2 M2 h => ?_)
      refine a_if_eq C.1 191 (tk T_cX6_readAtom 92 rfl) rfl (fun c => ?_) (fun c => ?_)
      · have h := h.1 c
        exact a_to (k_Reader_readAtom_191 hc hRA C hr hR M2 h) rfl
      · have h := h.2 c
        refine a_iconst C.1 (1 : Int32) (tk T_cX6_readAtom 93 rfl) kI_1 ?_
        refine a_goto C.1 192 (tk T_cX6_readAtom 94 rfl) rfl ?_
        exact a_to (k_Reader_readAtom_192 hc hRA C hr hR (1 : Int32) M2 h) rfl
  · have h := h.2 c
    refine a_aload_n C.1 (tk T_cX6_readAtom 83 rfl) rfl ?_
    refine a_callI C.1 [] me_yX6_fail lk_RX6_48 (ct_Reader_fail h) (by omega) lc84 rfl rfl rfl (Nat.le_of_ble_eq_true rfl) (tk T_cX6_readAtom 84 rfl) hr (fun r3 M3 h => ?_)
    refine a_goto C.1 192 (tk T_cX6_readAtom 85 rfl) rfl ?_
    exact a_to (k_Reader_readAtom_192 hc hRA C hr hR r3 M3 h) rfl
def P_Reader_readAtom_87 (RA : (Int32 → Mem → Prop) → Int32 → Mem → Prop) (post : Int32 → Mem → Prop) (M : Mem) : Prop :=
  P_Reader_takeSign (fun r1 M1 =>
  (r1 = 0 → (P_Reader_takeSign (fun r2 M2 =>
  (r2 = 0 → (P_Reader_readSum (fun r3 M3 =>
  (¬ r3 = 0 → (P_Reader_takeSign (fun r4 M4 =>
  (r4 = 0 → (P_Reader_takeSign (fun r5 M5 =>
  (r5 = 0 → (P_Reader_readAtom_158 RA post (16 : Int32) M5)) ∧
  (¬ r5 = 0 → (P_Reader_readAtom_158 RA post (11 : Int32) M5))) (11 : Int32) M4)) ∧
  (¬ r4 = 0 → (P_Reader_readAtom_158 RA post (10 : Int32) M4))) (10 : Int32) M3)) ∧
  (r3 = 0 → (post (0 : Int32) M3))) M2)) ∧
  (¬ r2 = 0 → (P_Reader_readElement (fun r6 M6 =>
  (r6 = 0 ∨ r6 = 1) ∧ post r6 M6) (7 : Int32) M2))) (7 : Int32) M1)) ∧
  (¬ r1 = 0 → (P_Reader_readElement (fun r7 M7 =>
  (r7 = 0 ∨ r7 = 1) ∧ post r7 M7) (6 : Int32) M1))) (6 : Int32) M
theorem k_Reader_readAtom_87 {X : FX} {g : GT} {ext : List CD} {A : Nat → Prop} {Z : State → Prop} {post : Int32 → Mem → Prop} {sk : Nat → Nat} {hA : Nat} (hc : 20 ≤ hA) {RA : (Int32 → Mem → Prop) → Int32 → Mem → Prop} (hRA : ∀ (post : Int32 → Mem → Prop) (x1 : Int32) (M : Mem), RA post x1 M → SI X.2.1 g (layC ++ ext) sk yX6_readAtom cX6_readAtom 3 (some .boolean) hA [.ref (ad g 84), .int x1] M post) (C : CxX X g (layC ++ ext) A cX6_readAtom 3 RX6 (hA + 3) 0 sk) (hr : 0 ≤ X.2.2.2.1.cells ∧ 0 ≤ X.2.2.2.1.slots) (hR : RetZ X g (layC ++ ext) A cX6_readAtom 3 0 0 Z post)  (M : Mem) (h : P_Reader_readAtom_87 RA post M) : AtX X g (layC ++ ext) A 3 0 0 Z 87 [(0, .ref (ad g 84))] [] M := by
  refine a_aload_n C.1 (tk T_cX6_readAtom 45 rfl) rfl ?_
  refine a_bipush C.1 (6 : Int32) (tk T_cX6_readAtom 46 rfl) kB_6 ?_
  refine a_callI C.1 [.int (6 : Int32)] me_yX6_takeSign lk_RX6_45 (ct_Reader_takeSign h) (by omega) lc84 rfl rfl rfl (Nat.le_of_ble_eq_true rfl) (tk T_cX6_readAtom 47 rfl) hr (fun r1 M1 h => ?_)
  refine a_if_eq C.1 103 (tk T_cX6_readAtom 48 rfl) rfl (fun c => ?_) (fun c => ?_)
  · have h := h.1 c
    refine a_aload_n C.1 (tk T_cX6_readAtom 53 rfl) rfl ?_
    refine a_bipush C.1 (7 : Int32) (tk T_cX6_readAtom 54 rfl) kB_7 ?_
    refine a_callI C.1 [.int (7 : Int32)] me_yX6_takeSign lk_RX6_45 (ct_Reader_takeSign h) (by omega) lc84 rfl rfl rfl (Nat.le_of_ble_eq_true rfl) (tk T_cX6_readAtom 55 rfl) hr (fun r2 M2 h => ?_)
    refine a_if_eq C.1 119 (tk T_cX6_readAtom 56 rfl) rfl (fun c => ?_) (fun c => ?_)
    · have h := h.1 c
      refine a_aload_n C.1 (tk T_cX6_readAtom 61 rfl) rfl ?_
      refine a_callI C.1 [] me_yX6_readSum lk_RX6_132 (ct_Reader_readSum h) (by omega) lc84 rfl rfl rfl (Nat.le_of_ble_eq_true rfl) (tk T_cX6_readAtom 62 rfl) hr (fun r3 M3 h => ?_)
      refine a_if_ne C.1 128 (tk T_cX6_readAtom 63 rfl) rfl (fun c => ?_) (fun c => ?_)
      · have h := h.1 c
        refine a_aload_n C.1 (tk T_cX6_readAtom 66 rfl) rfl ?_
        refine a_bipush C.1 (10 : Int32) (tk T_cX6_readAtom 67 rfl) kB_10 ?_
        refine a_callI C.1 [.int (10 : Int32)] me_yX6_takeSign lk_RX6_45 (ct_Reader_takeSign h) (by omega) lc84 rfl rfl rfl (Nat.le_of_ble_eq_true rfl) (tk T_cX6_readAtom 68 rfl) hr (fun r4 M4 h => ?_)
        refine a_if_eq C.1 142 (tk T_cX6_readAtom 69 rfl) rfl (fun c => ?_) (fun c => ?_)
        · have h := h.1 c
          refine a_aload_n C.1 (tk T_cX6_readAtom 72 rfl) rfl ?_
          refine a_bipush C.1 (11 : Int32) (tk T_cX6_readAtom 73 rfl) kB_11 ?_
          refine a_callI C.1 [.int (11 : Int32)] me_yX6_takeSign lk_RX6_45 (ct_Reader_takeSign h) (by omega) lc84 rfl rfl rfl (Nat.le_of_ble_eq_true rfl) (tk T_cX6_readAtom 74 rfl) hr (fun r5 M5 h => ?_)
          refine a_if_eq C.1 156 (tk T_cX6_readAtom 75 rfl) rfl (fun c => ?_) (fun c => ?_)
          · have h := h.1 c
            refine a_bipush C.1 (16 : Int32) (tk T_cX6_readAtom 78 rfl) kB_16 ?_
            exact a_to (k_Reader_readAtom_158 hc hRA C hr hR (16 : Int32) M5 h) rfl
          · have h := h.2 c
            refine a_bipush C.1 (11 : Int32) (tk T_cX6_readAtom 76 rfl) kB_11 ?_
            refine a_goto C.1 158 (tk T_cX6_readAtom 77 rfl) rfl ?_
            exact a_to (k_Reader_readAtom_158 hc hRA C hr hR (11 : Int32) M5 h) rfl
        · have h := h.2 c
          refine a_bipush C.1 (10 : Int32) (tk T_cX6_readAtom 70 rfl) kB_10 ?_
          refine a_goto C.1 158 (tk T_cX6_readAtom 71 rfl) rfl ?_
          exact a_to (k_Reader_readAtom_158 hc hRA C hr hR (10 : Int32) M4 h) rfl
      · have h := h.2 c
        refine a_iconst C.1 (0 : Int32) (tk T_cX6_readAtom 64 rfl) kI_0 ?_
        exact hR _ _ _ _ (tk T_cX6_readAtom 65 rfl) ⟨Or.inl rfl, h⟩
    · have h := h.2 c
      refine a_aload_n C.1 (tk T_cX6_readAtom 57 rfl) rfl ?_
      refine a_bipush C.1 (7 : Int32) (tk T_cX6_readAtom 58 rfl) kB_7 ?_
      refine a_callI C.1 [.int (7 : Int32)] me_yX6_readElement lk_RX6_129 (ct_Reader_readElement h) (by omega) lc84 rfl rfl rfl (Nat.le_of_ble_eq_true rfl) (tk T_cX6_readAtom 59 rfl) hr (fun r6 M6 h => ?_)
      exact hR _ _ _ _ (tk T_cX6_readAtom 60 rfl) h
  · have h := h.2 c
    refine a_aload_n C.1 (tk T_cX6_readAtom 49 rfl) rfl ?_
    refine a_bipush C.1 (6 : Int32) (tk T_cX6_readAtom 50 rfl) kB_6 ?_
    refine a_callI C.1 [.int (6 : Int32)] me_yX6_readElement lk_RX6_129 (ct_Reader_readElement h) (by omega) lc84 rfl rfl rfl (Nat.le_of_ble_eq_true rfl) (tk T_cX6_readAtom 51 rfl) hr (fun r7 M7 h => ?_)
    exact hR _ _ _ _ (tk T_cX6_readAtom 52 rfl) h
def P_Reader_readAtom_86 (RA : (Int32 → Mem → Prop) → Int32 → Mem → Prop) (post : Int32 → Mem → Prop) (s0 : Int32) (M : Mem) : Prop :=
  (s0 = 0 ∨ s0 = 1) ∧ post s0 M
theorem k_Reader_readAtom_86 {X : FX} {g : GT} {ext : List CD} {A : Nat → Prop} {Z : State → Prop} {post : Int32 → Mem → Prop} {sk : Nat → Nat} {hA : Nat} (hc : 20 ≤ hA) {RA : (Int32 → Mem → Prop) → Int32 → Mem → Prop} (hRA : ∀ (post : Int32 → Mem → Prop) (x1 : Int32) (M : Mem), RA post x1 M → SI X.2.1 g (layC ++ ext) sk yX6_readAtom cX6_readAtom 3 (some .boolean) hA [.ref (ad g 84), .int x1] M post) (C : CxX X g (layC ++ ext) A cX6_readAtom 3 RX6 (hA + 3) 0 sk) (hr : 0 ≤ X.2.2.2.1.cells ∧ 0 ≤ X.2.2.2.1.slots) (hR : RetZ X g (layC ++ ext) A cX6_readAtom 3 0 0 Z post) (s0 : Int32) (M : Mem) (h : P_Reader_readAtom_86 RA post s0 M) : AtX X g (layC ++ ext) A 3 0 0 Z 86 [] [.int s0] M := by
  exact hR _ _ _ _ (tk T_cX6_readAtom 44 rfl) h
def P_Reader_readAtom_85 (RA : (Int32 → Mem → Prop) → Int32 → Mem → Prop) (post : Int32 → Mem → Prop) (M : Mem) : Prop :=
  P_Reader_readAtom_86 RA post (0 : Int32) M
theorem k_Reader_readAtom_85 {X : FX} {g : GT} {ext : List CD} {A : Nat → Prop} {Z : State → Prop} {post : Int32 → Mem → Prop} {sk : Nat → Nat} {hA : Nat} (hc : 20 ≤ hA) {RA : (Int32 → Mem → Prop) → Int32 → Mem → Prop} (hRA : ∀ (post : Int32 → Mem → Prop) (x1 : Int32) (M : Mem), RA post x1 M → SI X.2.1 g (layC ++ ext) sk yX6_readAtom cX6_readAtom 3 (some .boolean) hA [.ref (ad g 84), .int x1] M post) (C : CxX X g (layC ++ ext) A cX6_readAtom 3 RX6 (hA + 3) 0 sk) (hr : 0 ≤ X.2.2.2.1.cells ∧ 0 ≤ X.2.2.2.1.slots) (hR : RetZ X g (layC ++ ext) A cX6_readAtom 3 0 0 Z post)  (M : Mem) (h : P_Reader_readAtom_85 RA post M) : AtX X g (layC ++ ext) A 3 0 0 Z 85 [] [] M := by
  refine a_iconst C.1 (0 : Int32) (tk T_cX6_readAtom 43 rfl) kI_0 ?_
  exact a_to (k_Reader_readAtom_86 hc hRA C hr hR (0 : Int32) M h) rfl
def P_Reader_readAtom_47 (RA : (Int32 → Mem → Prop) → Int32 → Mem → Prop) (post : Int32 → Mem → Prop) (x1 : Int32) (M : Mem) : Prop :=
  ((6 : Int32) ≤ x1 → (P_Reader_readAtom_87 RA post M)) ∧
  (¬ (6 : Int32) ≤ x1 → (P_Reader_takeSign (fun r1 M1 =>
  (r1 = 0 → (P_Reader_readAtom_87 RA post M1)) ∧
  (¬ r1 = 0 → (RA (fun r2 M2 =>
  (r2 = 0 → (P_Reader_readAtom_85 RA post M2)) ∧
  (¬ r2 = 0 → (P_Reader_emit (fun r3 M3 =>
  (r3 = 0 → (P_Reader_readAtom_85 RA post M3)) ∧
  (¬ r3 = 0 → (P_Reader_readAtom_86 RA post (1 : Int32) M3))) (8 : Int32) M2))) (x1 + (1 : Int32)) M1))) (8 : Int32) M))
theorem k_Reader_readAtom_47 {X : FX} {g : GT} {ext : List CD} {A : Nat → Prop} {Z : State → Prop} {post : Int32 → Mem → Prop} {sk : Nat → Nat} {hA : Nat} (hc : 20 ≤ hA) {RA : (Int32 → Mem → Prop) → Int32 → Mem → Prop} (hRA : ∀ (post : Int32 → Mem → Prop) (x1 : Int32) (M : Mem), RA post x1 M → SI X.2.1 g (layC ++ ext) sk yX6_readAtom cX6_readAtom 3 (some .boolean) hA [.ref (ad g 84), .int x1] M post) (C : CxX X g (layC ++ ext) A cX6_readAtom 3 RX6 (hA + 3) 0 sk) (hr : 0 ≤ X.2.2.2.1.cells ∧ 0 ≤ X.2.2.2.1.slots) (hR : RetZ X g (layC ++ ext) A cX6_readAtom 3 0 0 Z post) (x1 : Int32) (M : Mem) (h : P_Reader_readAtom_47 RA post x1 M) : AtX X g (layC ++ ext) A 3 0 0 Z 47 [(0, .ref (ad g 84)), (1, .int x1)] [] M := by
  refine a_iload_n C.1 (tk T_cX6_readAtom 24 rfl) rfl ?_
  refine a_bipush C.1 (6 : Int32) (tk T_cX6_readAtom 25 rfl) kB_6 ?_
  refine a_icmp_ge C.1 87 (tk T_cX6_readAtom 26 rfl) rfl (fun c => ?_) (fun c => ?_)
  · have h := h.1 c
    exact a_to (k_Reader_readAtom_87 hc hRA C hr hR M h) rfl
  · have h := h.2 c
    refine a_aload_n C.1 (tk T_cX6_readAtom 27 rfl) rfl ?_
    refine a_bipush C.1 (8 : Int32) (tk T_cX6_readAtom 28 rfl) kB_8 ?_
    refine a_callI C.1 [.int (8 : Int32)] me_yX6_takeSign lk_RX6_45 (ct_Reader_takeSign h) (by omega) lc84 rfl rfl rfl (Nat.le_of_ble_eq_true rfl) (tk T_cX6_readAtom 29 rfl) hr (fun r1 M1 h => ?_)
    refine a_if_eq C.1 87 (tk T_cX6_readAtom 30 rfl) rfl (fun c => ?_) (fun c => ?_)
    · have h := h.1 c
      exact a_to (k_Reader_readAtom_87 hc hRA C hr hR M1 h) rfl
    · have h := h.2 c
      refine a_aload_n C.1 (tk T_cX6_readAtom 31 rfl) rfl ?_
      refine a_iload_n C.1 (tk T_cX6_readAtom 32 rfl) rfl ?_
      refine a_iconst C.1 (1 : Int32) (tk T_cX6_readAtom 33 rfl) kI_1 ?_
      refine a_iadd C.1 (tk T_cX6_readAtom 34 rfl) ?_
      refine s_callI C [.int (x1 + (1 : Int32))] me_yX6_readAtom lk_RX6_126 (hRA _ _ _ h) (by omega) lc84 rfl rfl rfl (Nat.le_of_ble_eq_true rfl) (tk T_cX6_readAtom 35 rfl) hr (fun r2 M2 h => ?_)
      refine a_if_eq C.1 85 (tk T_cX6_readAtom 36 rfl) rfl (fun c => ?_) (fun c => ?_)
      · have h := h.1 c
        exact a_to (k_Reader_readAtom_85 hc hRA C hr hR M2 h) rfl
      · have h := h.2 c
        refine a_aload_n C.1 (tk T_cX6_readAtom 37 rfl) rfl ?_
        refine a_bipush C.1 (8 : Int32) (tk T_cX6_readAtom 38 rfl) kB_8 ?_
        refine a_callI C.1 [.int (8 : Int32)] me_yX6_emit lk_RX6_123 (ct_Reader_emit h) (by omega) lc84 rfl rfl rfl (Nat.le_of_ble_eq_true rfl) (tk T_cX6_readAtom 39 rfl) hr (fun r3 M3 h => ?_)
        refine a_if_eq C.1 85 (tk T_cX6_readAtom 40 rfl) rfl (fun c => ?_) (fun c => ?_)
        · have h := h.1 c
          exact a_to (k_Reader_readAtom_85 hc hRA C hr hR M3 h) rfl
        · have h := h.2 c
          refine a_iconst C.1 (1 : Int32) (tk T_cX6_readAtom 41 rfl) kI_1 ?_
          refine a_goto C.1 86 (tk T_cX6_readAtom 42 rfl) rfl ?_
          exact a_to (k_Reader_readAtom_86 hc hRA C hr hR (1 : Int32) M3 h) rfl
def P_Reader_readAtom_46 (RA : (Int32 → Mem → Prop) → Int32 → Mem → Prop) (post : Int32 → Mem → Prop) (s0 : Int32) (M : Mem) : Prop :=
  (s0 = 0 ∨ s0 = 1) ∧ post s0 M
theorem k_Reader_readAtom_46 {X : FX} {g : GT} {ext : List CD} {A : Nat → Prop} {Z : State → Prop} {post : Int32 → Mem → Prop} {sk : Nat → Nat} {hA : Nat} (hc : 20 ≤ hA) {RA : (Int32 → Mem → Prop) → Int32 → Mem → Prop} (hRA : ∀ (post : Int32 → Mem → Prop) (x1 : Int32) (M : Mem), RA post x1 M → SI X.2.1 g (layC ++ ext) sk yX6_readAtom cX6_readAtom 3 (some .boolean) hA [.ref (ad g 84), .int x1] M post) (C : CxX X g (layC ++ ext) A cX6_readAtom 3 RX6 (hA + 3) 0 sk) (hr : 0 ≤ X.2.2.2.1.cells ∧ 0 ≤ X.2.2.2.1.slots) (hR : RetZ X g (layC ++ ext) A cX6_readAtom 3 0 0 Z post) (s0 : Int32) (M : Mem) (h : P_Reader_readAtom_46 RA post s0 M) : AtX X g (layC ++ ext) A 3 0 0 Z 46 [] [.int s0] M := by
  exact hR _ _ _ _ (tk T_cX6_readAtom 23 rfl) h
def P_Reader_readAtom_45 (RA : (Int32 → Mem → Prop) → Int32 → Mem → Prop) (post : Int32 → Mem → Prop) (M : Mem) : Prop :=
  P_Reader_readAtom_46 RA post (0 : Int32) M
theorem k_Reader_readAtom_45 {X : FX} {g : GT} {ext : List CD} {A : Nat → Prop} {Z : State → Prop} {post : Int32 → Mem → Prop} {sk : Nat → Nat} {hA : Nat} (hc : 20 ≤ hA) {RA : (Int32 → Mem → Prop) → Int32 → Mem → Prop} (hRA : ∀ (post : Int32 → Mem → Prop) (x1 : Int32) (M : Mem), RA post x1 M → SI X.2.1 g (layC ++ ext) sk yX6_readAtom cX6_readAtom 3 (some .boolean) hA [.ref (ad g 84), .int x1] M post) (C : CxX X g (layC ++ ext) A cX6_readAtom 3 RX6 (hA + 3) 0 sk) (hr : 0 ≤ X.2.2.2.1.cells ∧ 0 ≤ X.2.2.2.1.slots) (hR : RetZ X g (layC ++ ext) A cX6_readAtom 3 0 0 Z post)  (M : Mem) (h : P_Reader_readAtom_45 RA post M) : AtX X g (layC ++ ext) A 3 0 0 Z 45 [] [] M := by
  refine a_iconst C.1 (0 : Int32) (tk T_cX6_readAtom 22 rfl) kI_0 ?_
  exact a_to (k_Reader_readAtom_46 hc hRA C hr hR (0 : Int32) M h) rfl
def P_Reader_readAtom_41 (RA : (Int32 → Mem → Prop) → Int32 → Mem → Prop) (post : Int32 → Mem → Prop) (M : Mem) : Prop :=
  P_Reader_readAtom_46 RA post (1 : Int32) M
theorem k_Reader_readAtom_41 {X : FX} {g : GT} {ext : List CD} {A : Nat → Prop} {Z : State → Prop} {post : Int32 → Mem → Prop} {sk : Nat → Nat} {hA : Nat} (hc : 20 ≤ hA) {RA : (Int32 → Mem → Prop) → Int32 → Mem → Prop} (hRA : ∀ (post : Int32 → Mem → Prop) (x1 : Int32) (M : Mem), RA post x1 M → SI X.2.1 g (layC ++ ext) sk yX6_readAtom cX6_readAtom 3 (some .boolean) hA [.ref (ad g 84), .int x1] M post) (C : CxX X g (layC ++ ext) A cX6_readAtom 3 RX6 (hA + 3) 0 sk) (hr : 0 ≤ X.2.2.2.1.cells ∧ 0 ≤ X.2.2.2.1.slots) (hR : RetZ X g (layC ++ ext) A cX6_readAtom 3 0 0 Z post)  (M : Mem) (h : P_Reader_readAtom_41 RA post M) : AtX X g (layC ++ ext) A 3 0 0 Z 41 [] [] M := by
  refine a_iconst C.1 (1 : Int32) (tk T_cX6_readAtom 20 rfl) kI_1 ?_
  refine a_goto C.1 46 (tk T_cX6_readAtom 21 rfl) rfl ?_
  exact a_to (k_Reader_readAtom_46 hc hRA C hr hR (1 : Int32) M h) rfl
def P_Reader_readAtom (RA : (Int32 → Mem → Prop) → Int32 → Mem → Prop) (post : Int32 → Mem → Prop) (x1 : Int32) (M : Mem) : Prop :=
  ((6 : Int32) ≤ x1 → (P_Reader_readAtom_47 RA post x1 M)) ∧
  (¬ (6 : Int32) ≤ x1 → (P_Reader_takeSign (fun r1 M1 =>
  (r1 = 0 → (P_Reader_readAtom_47 RA post x1 M1)) ∧
  (¬ r1 = 0 → (P_Reader_readAny RA (fun r2 M2 =>
  (r2 = 0 → (P_Reader_readAtom_45 RA post M2)) ∧
  (¬ r2 = 0 → (P_Reader_takeSign (fun r3 M3 =>
  (¬ r3 = 0 → (P_Reader_readAtom_41 RA post M3)) ∧
  (r3 = 0 → (P_Reader_fail (fun r4 M4 =>
  (r4 = 0 → (P_Reader_readAtom_45 RA post M4)) ∧
  (¬ r4 = 0 → (P_Reader_readAtom_41 RA post M4))) M3))) (15 : Int32) M2))) (x1 + (1 : Int32)) M1))) (14 : Int32) M))
theorem k_Reader_readAtom {X : FX} {g : GT} {ext : List CD} {A : Nat → Prop} {Z : State → Prop} {post : Int32 → Mem → Prop} {sk : Nat → Nat} {hA : Nat} (hc : 20 ≤ hA) {RA : (Int32 → Mem → Prop) → Int32 → Mem → Prop} (hRA : ∀ (post : Int32 → Mem → Prop) (x1 : Int32) (M : Mem), RA post x1 M → SI X.2.1 g (layC ++ ext) sk yX6_readAtom cX6_readAtom 3 (some .boolean) hA [.ref (ad g 84), .int x1] M post) (C : CxX X g (layC ++ ext) A cX6_readAtom 3 RX6 (hA + 3) 0 sk) (hr : 0 ≤ X.2.2.2.1.cells ∧ 0 ≤ X.2.2.2.1.slots) (hR : RetZ X g (layC ++ ext) A cX6_readAtom 3 0 0 Z post) (x1 : Int32) (M : Mem) (h : P_Reader_readAtom RA post x1 M) : AtX X g (layC ++ ext) A 3 0 0 Z 0 [(0, .ref (ad g 84)), (1, .int x1)] [] M := by
  refine a_iload_n C.1 (tk T_cX6_readAtom 0 rfl) rfl ?_
  refine a_bipush C.1 (6 : Int32) (tk T_cX6_readAtom 1 rfl) kB_6 ?_
  refine a_icmp_ge C.1 47 (tk T_cX6_readAtom 2 rfl) rfl (fun c => ?_) (fun c => ?_)
  · have h := h.1 c
    exact a_to (k_Reader_readAtom_47 hc hRA C hr hR x1 M h) rfl
  · have h := h.2 c
    refine a_aload_n C.1 (tk T_cX6_readAtom 3 rfl) rfl ?_
    refine a_bipush C.1 (14 : Int32) (tk T_cX6_readAtom 4 rfl) kB_14 ?_
    refine a_callI C.1 [.int (14 : Int32)] me_yX6_takeSign lk_RX6_45 (ct_Reader_takeSign h) (by omega) lc84 rfl rfl rfl (Nat.le_of_ble_eq_true rfl) (tk T_cX6_readAtom 5 rfl) hr (fun r1 M1 h => ?_)
    refine a_if_eq C.1 47 (tk T_cX6_readAtom 6 rfl) rfl (fun c => ?_) (fun c => ?_)
    · have h := h.1 c
      exact a_to (k_Reader_readAtom_47 hc hRA C hr hR x1 M1 h) rfl
    · have h := h.2 c
      refine a_aload_n C.1 (tk T_cX6_readAtom 7 rfl) rfl ?_
      refine a_iload_n C.1 (tk T_cX6_readAtom 8 rfl) rfl ?_
      refine a_iconst C.1 (1 : Int32) (tk T_cX6_readAtom 9 rfl) kI_1 ?_
      refine a_iadd C.1 (tk T_cX6_readAtom 10 rfl) ?_
      refine s_callI C [.int (x1 + (1 : Int32))] me_yX6_readAny lk_RX6_41 (ct_Reader_readAny hc hRA h) (by omega) lc84 rfl rfl rfl (Nat.le_of_ble_eq_true rfl) (tk T_cX6_readAtom 11 rfl) hr (fun r2 M2 h => ?_)
      refine a_if_eq C.1 45 (tk T_cX6_readAtom 12 rfl) rfl (fun c => ?_) (fun c => ?_)
      · have h := h.1 c
        exact a_to (k_Reader_readAtom_45 hc hRA C hr hR M2 h) rfl
      · have h := h.2 c
        refine a_aload_n C.1 (tk T_cX6_readAtom 13 rfl) rfl ?_
        refine a_bipush C.1 (15 : Int32) (tk T_cX6_readAtom 14 rfl) kB_15 ?_
        refine a_callI C.1 [.int (15 : Int32)] me_yX6_takeSign lk_RX6_45 (ct_Reader_takeSign h) (by omega) lc84 rfl rfl rfl (Nat.le_of_ble_eq_true rfl) (tk T_cX6_readAtom 15 rfl) hr (fun r3 M3 h => ?_)
        refine a_if_ne C.1 41 (tk T_cX6_readAtom 16 rfl) rfl (fun c => ?_) (fun c => ?_)
        · have h := h.1 c
          exact a_to (k_Reader_readAtom_41 hc hRA C hr hR M3 h) rfl
        · have h := h.2 c
          refine a_aload_n C.1 (tk T_cX6_readAtom 17 rfl) rfl ?_
          refine a_callI C.1 [] me_yX6_fail lk_RX6_48 (ct_Reader_fail h) (by omega) lc84 rfl rfl rfl (Nat.le_of_ble_eq_true rfl) (tk T_cX6_readAtom 18 rfl) hr (fun r4 M4 h => ?_)
          refine a_if_eq C.1 45 (tk T_cX6_readAtom 19 rfl) rfl (fun c => ?_) (fun c => ?_)
          · have h := h.1 c
            exact a_to (k_Reader_readAtom_45 hc hRA C hr hR M4 h) rfl
          · have h := h.2 c
            exact a_to (k_Reader_readAtom_41 hc hRA C hr hR M4 h) rfl
theorem ct_Reader_readAtom {l : Launch} {g : GT} {ext : List CD} {sk : Nat → Nat} {post : Int32 → Mem → Prop} {hA : Nat} (hc : 20 ≤ hA) {RA : (Int32 → Mem → Prop) → Int32 → Mem → Prop} (hRA : ∀ (post : Int32 → Mem → Prop) (x1 : Int32) (M : Mem), RA post x1 M → SI l g (layC ++ ext) sk yX6_readAtom cX6_readAtom 3 (some .boolean) hA [.ref (ad g 84), .int x1] M post) {x1 : Int32} {M : Mem} (h : P_Reader_readAtom RA post x1 M) : SI l g (layC ++ ext) sk yX6_readAtom cX6_readAtom 3 (some .boolean) (hA + 3) [.ref (ad g 84), .int x1] M post :=
  st_of (plainFor_of_name (by decide +kernel)) (Nat.le_of_ble_eq_true rfl) (fun X A Z hl C hr hR => by subst hl; exact k_Reader_readAtom hc hRA C hr (fun v M pc lv hd hp => hR v M pc lv hd (nar_z hp.1) hp.2) x1 M h)
def P_Reader_readAtom_n : Nat → (Int32 → Mem → Prop) → Int32 → Mem → Prop
  | 0, _, _, _ => False
  | n + 1, post, x1, M => P_Reader_readAtom (P_Reader_readAtom_n n) post x1 M
theorem ct_Reader_readAtom_n {l : Launch} {g : GT} {ext : List CD} {sk : Nat → Nat} : ∀ (n : Nat) {post : Int32 → Mem → Prop} {x1 : Int32} {M : Mem}, P_Reader_readAtom_n n post x1 M → SI l g (layC ++ ext) sk yX6_readAtom cX6_readAtom 3 (some .boolean) (20 + 3 * n) [.ref (ad g 84), .int x1] M post
  | 0, _, _, _, h => h.elim
  | n + 1, _, _, _, h => ct_Reader_readAtom (hA := 20 + 3 * n) (by omega) (fun _ _ _ h => ct_Reader_readAtom_n n h) h
def T_cX6_readTextL : List (Nat × Instr × Nat) := [(0, .aload_n 0, 1), (1, .invokevirtual 32, 3), (4, .aload_n 0, 1), (5, .iconst 0, 1), (6, .putfield 35, 3), (9, .aload_n 0, 1), (10, .iconst 0, 1), (11, .putfield 38, 3), (14, .aload_n 0, 1), (15, .iconst (-1), 1), (16, .putfield 25, 3), (19, .aload_n 0, 1), (20, .iconst 0, 1), (21, .invokevirtual 41, 3), (24, .ifCond .eq 23, 3), (27, .aload_n 0, 1), (28, .bipush 17, 2), (30, .invokevirtual 45, 3), (33, .ifCond .ne 10, 3), (36, .aload_n 0, 1), (37, .invokevirtual 48, 3), (40, .ifCond .eq 7, 3), (43, .iconst 1, 1), (44, .goto 4, 3), (47, .iconst 0, 1), (48, .ireturn, 1)]
theorem T_cX6_readText : tabOK cX6_readText T_cX6_readTextL = true := by decide +kernel
def P_Reader_readText_48 (post : Int32 → Mem → Prop) (s0 : Int32) (M : Mem) : Prop :=
  (s0 = 0 ∨ s0 = 1) ∧ post s0 M
theorem k_Reader_readText_48 {X : FX} {g : GT} {ext : List CD} {A : Nat → Prop} {Z : State → Prop} {post : Int32 → Mem → Prop} {sk : Nat → Nat} (C : CxX X g (layC ++ ext) A cX6_readText 1 RX6 47 0 sk) (hr : 0 ≤ X.2.2.2.1.cells ∧ 0 ≤ X.2.2.2.1.slots) (hR : RetZ X g (layC ++ ext) A cX6_readText 1 0 0 Z post) (s0 : Int32) (M : Mem) (h : P_Reader_readText_48 post s0 M) : AtX X g (layC ++ ext) A 1 0 0 Z 48 [] [.int s0] M := by
  exact hR _ _ _ _ (tk T_cX6_readText 25 rfl) h
def P_Reader_readText_47 (post : Int32 → Mem → Prop) (M : Mem) : Prop :=
  P_Reader_readText_48 post (0 : Int32) M
theorem k_Reader_readText_47 {X : FX} {g : GT} {ext : List CD} {A : Nat → Prop} {Z : State → Prop} {post : Int32 → Mem → Prop} {sk : Nat → Nat} (C : CxX X g (layC ++ ext) A cX6_readText 1 RX6 47 0 sk) (hr : 0 ≤ X.2.2.2.1.cells ∧ 0 ≤ X.2.2.2.1.slots) (hR : RetZ X g (layC ++ ext) A cX6_readText 1 0 0 Z post)  (M : Mem) (h : P_Reader_readText_47 post M) : AtX X g (layC ++ ext) A 1 0 0 Z 47 [] [] M := by
  refine a_iconst C.1 (0 : Int32) (tk T_cX6_readText 24 rfl) kI_0 ?_
  exact a_to (k_Reader_readText_48 C hr hR (0 : Int32) M h) rfl
def P_Reader_readText_43 (post : Int32 → Mem → Prop) (M : Mem) : Prop :=
  P_Reader_readText_48 post (1 : Int32) M
theorem k_Reader_readText_43 {X : FX} {g : GT} {ext : List CD} {A : Nat → Prop} {Z : State → Prop} {post : Int32 → Mem → Prop} {sk : Nat → Nat} (C : CxX X g (layC ++ ext) A cX6_readText 1 RX6 47 0 sk) (hr : 0 ≤ X.2.2.2.1.cells ∧ 0 ≤ X.2.2.2.1.slots) (hR : RetZ X g (layC ++ ext) A cX6_readText 1 0 0 Z post)  (M : Mem) (h : P_Reader_readText_43 post M) : AtX X g (layC ++ ext) A 1 0 0 Z 43 [] [] M := by
  refine a_iconst C.1 (1 : Int32) (tk T_cX6_readText 22 rfl) kI_1 ?_
  refine a_goto C.1 48 (tk T_cX6_readText 23 rfl) rfl ?_
  exact a_to (k_Reader_readText_48 C hr hR (1 : Int32) M h) rfl
def P_Reader_readText (post : Int32 → Mem → Prop) (M : Mem) : Prop :=
  P_Reader_split (fun M1 =>
  ∀ M2, M2 = ms M1 84 6 (0 : Int32) → ∀ M3, M3 = ms M2 84 7 (0 : Int32) → ∀ M4, M4 = ms M3 84 8 (-1 : Int32) → P_Reader_readAny (P_Reader_readAtom_n 8) (fun r5 M5 =>
  (r5 = 0 → (P_Reader_readText_47 post M5)) ∧
  (¬ r5 = 0 → (P_Reader_takeSign (fun r6 M6 =>
  (¬ r6 = 0 → (P_Reader_readText_43 post M6)) ∧
  (r6 = 0 → (P_Reader_fail (fun r7 M7 =>
  (r7 = 0 → (P_Reader_readText_47 post M7)) ∧
  (¬ r7 = 0 → (P_Reader_readText_43 post M7))) M6))) (17 : Int32) M5))) (0 : Int32) M4) M
theorem k_Reader_readText {X : FX} {g : GT} {ext : List CD} {A : Nat → Prop} {Z : State → Prop} {post : Int32 → Mem → Prop} {sk : Nat → Nat} (C : CxX X g (layC ++ ext) A cX6_readText 1 RX6 47 0 sk) (hr : 0 ≤ X.2.2.2.1.cells ∧ 0 ≤ X.2.2.2.1.slots) (hR : RetZ X g (layC ++ ext) A cX6_readText 1 0 0 Z post) (M : Mem) (h : P_Reader_readText post M) : AtX X g (layC ++ ext) A 1 0 0 Z 0 [(0, .ref (ad g 84))] [] M := by
  refine a_aload_n C.1 (tk T_cX6_readText 0 rfl) rfl ?_
  refine s_callV C [] me_yX6_split lk_RX6_32 (ct_Reader_split h) (by decide) lc84 rfl rfl rfl (Nat.le_of_ble_eq_true rfl) (tk T_cX6_readText 1 rfl) hr (fun M1 h => ?_)
  refine a_aload_n C.1 (tk T_cX6_readText 2 rfl) rfl ?_
  refine a_iconst C.1 (0 : Int32) (tk T_cX6_readText 3 rfl) kI_0 ?_
  refine a_put C.1 f_RX6_35 f_RX6_35p rfl rfl (tk T_cX6_readText 4 rfl) lc84 rfl ?_
  refine a_mem (fun M2 e_M2 => ?_)
  have h := h M2 e_M2
  refine a_aload_n C.1 (tk T_cX6_readText 5 rfl) rfl ?_
  refine a_iconst C.1 (0 : Int32) (tk T_cX6_readText 6 rfl) kI_0 ?_
  refine a_put C.1 f_RX6_38 f_RX6_38p rfl rfl (tk T_cX6_readText 7 rfl) lc84 rfl ?_
  refine a_mem (fun M3 e_M3 => ?_)
  have h := h M3 e_M3
  refine a_aload_n C.1 (tk T_cX6_readText 8 rfl) rfl ?_
  refine a_iconst C.1 (-1 : Int32) (tk T_cX6_readText 9 rfl) kI_m1 ?_
  refine a_put C.1 f_RX6_25 f_RX6_25p rfl rfl (tk T_cX6_readText 10 rfl) lc84 rfl ?_
  refine a_mem (fun M4 e_M4 => ?_)
  have h := h M4 e_M4
  refine a_aload_n C.1 (tk T_cX6_readText 11 rfl) rfl ?_
  refine a_iconst C.1 (0 : Int32) (tk T_cX6_readText 12 rfl) kI_0 ?_
  refine s_callI C [.int (0 : Int32)] me_yX6_readAny lk_RX6_41 (ct_Reader_readAny (hA := 44) (by decide) (fun _ _ _ h => ct_Reader_readAtom_n 8 h) h) (by decide) lc84 rfl rfl rfl (Nat.le_of_ble_eq_true rfl) (tk T_cX6_readText 13 rfl) hr (fun r5 M5 h => ?_)
  refine a_if_eq C.1 47 (tk T_cX6_readText 14 rfl) rfl (fun c => ?_) (fun c => ?_)
  · have h := h.1 c
    exact a_to (k_Reader_readText_47 C hr hR M5 h) rfl
  · have h := h.2 c
    refine a_aload_n C.1 (tk T_cX6_readText 15 rfl) rfl ?_
    refine a_bipush C.1 (17 : Int32) (tk T_cX6_readText 16 rfl) kB_17 ?_
    refine a_callI C.1 [.int (17 : Int32)] me_yX6_takeSign lk_RX6_45 (ct_Reader_takeSign h) (by decide) lc84 rfl rfl rfl (Nat.le_of_ble_eq_true rfl) (tk T_cX6_readText 17 rfl) hr (fun r6 M6 h => ?_)
    refine a_if_ne C.1 43 (tk T_cX6_readText 18 rfl) rfl (fun c => ?_) (fun c => ?_)
    · have h := h.1 c
      exact a_to (k_Reader_readText_43 C hr hR M6 h) rfl
    · have h := h.2 c
      refine a_aload_n C.1 (tk T_cX6_readText 19 rfl) rfl ?_
      refine a_callI C.1 [] me_yX6_fail lk_RX6_48 (ct_Reader_fail h) (by decide) lc84 rfl rfl rfl (Nat.le_of_ble_eq_true rfl) (tk T_cX6_readText 20 rfl) hr (fun r7 M7 h => ?_)
      refine a_if_eq C.1 47 (tk T_cX6_readText 21 rfl) rfl (fun c => ?_) (fun c => ?_)
      · have h := h.1 c
        exact a_to (k_Reader_readText_47 C hr hR M7 h) rfl
      · have h := h.2 c
        exact a_to (k_Reader_readText_43 C hr hR M7 h) rfl
theorem ct_Reader_readText {l : Launch} {g : GT} {ext : List CD} {sk : Nat → Nat} {post : Int32 → Mem → Prop} {M : Mem} (h : P_Reader_readText post M) : SI l g (layC ++ ext) sk yX6_readText cX6_readText 1 (some .boolean) 47 [.ref (ad g 84)] M post :=
  st_of (plainFor_of_name (by decide +kernel)) (Nat.le_of_ble_eq_true rfl) (fun X A Z hl C hr hR => by subst hl; exact k_Reader_readText C hr (fun v M pc lv hd hp => hR v M pc lv hd (nar_z hp.1) hp.2)  M h)
