def T_cX11_countL : List (Nat × Instr × Nat) := [(0, .iload_n 1, 1), (1, .tableswitch 195 0 10 #[59, 70, 81, 92, 103, 114, 125, 136, 144, 155, 187], 59), (60, .aload_n 0, 1), (61, .getfield 10, 3), (64, .getfield 76, 3), (67, .getfield 101, 3), (70, .ireturn, 1), (71, .aload_n 0, 1), (72, .getfield 10, 3), (75, .getfield 132, 3), (78, .getfield 145, 3), (81, .ireturn, 1), (82, .aload_n 0, 1), (83, .getfield 10, 3), (86, .getfield 188, 3), (89, .getfield 192, 3), (92, .ireturn, 1), (93, .aload_n 0, 1), (94, .getfield 10, 3), (97, .getfield 188, 3), (100, .invokevirtual 412, 3), (103, .ireturn, 1), (104, .aload_n 0, 1), (105, .getfield 10, 3), (108, .getfield 208, 3), (111, .getfield 212, 3), (114, .ireturn, 1), (115, .aload_n 0, 1), (116, .getfield 10, 3), (119, .getfield 208, 3), (122, .getfield 235, 3), (125, .ireturn, 1), (126, .aload_n 0, 1), (127, .getfield 10, 3), (130, .getfield 208, 3), (133, .invokevirtual 415, 3), (136, .ireturn, 1), (137, .aload_n 0, 1), (138, .getfield 10, 3), (141, .getfield 382, 3), (144, .ireturn, 1), (145, .aload_n 0, 1), (146, .getfield 10, 3), (149, .getfield 132, 3), (152, .getfield 136, 3), (155, .ireturn, 1), (156, .aload_n 0, 1), (157, .getfield 24, 3), (160, .invokevirtual 160, 3), (163, .aload_n 0, 1), (164, .getfield 24, 3), (167, .getfield 163, 3), (170, .ifCond .le 16, 3), (173, .aload_n 0, 1), (174, .getfield 10, 3), (177, .getfield 208, 3), (180, .getfield 235, 3), (183, .goto 4, 3), (186, .iconst 0, 1), (187, .ireturn, 1), (188, .aload_n 0, 1), (189, .getfield 10, 3), (192, .getfield 342, 3), (195, .ireturn, 1), (196, .iconst (-1), 1), (197, .ireturn, 1)]
theorem T_cX11_count : tabOK cX11_count T_cX11_countL = true := by decide +kernel
def P_R_count_187 (post : Int32 → Mem → Prop) (s0 : Int32) (M : Mem) : Prop :=
  post s0 M
theorem k_R_count_187 {X : FX} {g : GT} {ext : List CD} {A : Nat → Prop} {Z : State → Prop} {post : Int32 → Mem → Prop} (C : Cx X g (layC ++ ext) A cX11_count 2 RX11 5) (hr : 0 ≤ X.2.2.2.1.cells ∧ 0 ≤ X.2.2.2.1.slots) (hR : RetI X g (layC ++ ext) A cX11_count 2 0 0 Z post) (s0 : Int32) (M : Mem) (h : P_R_count_187 post s0 M) : At X g (layC ++ ext) A 2 0 0 Z 187 [] [.int s0] M := by
  exact hR _ _ _ _ (tk T_cX11_count 59 rfl) h
def P_R_count (post : Int32 → Mem → Prop) (x1 : Int32) (M : Mem) : Prop :=
  (x1 = (0 : Int32) → (post (M 2 5) M)) ∧
  (¬ x1 = (0 : Int32) → (x1 = (1 : Int32) → (post (M 8 4) M)) ∧
  (¬ x1 = (1 : Int32) → (x1 = (2 : Int32) → (post (M 13 4) M)) ∧
  (¬ x1 = (2 : Int32) → (x1 = (3 : Int32) → (P_Table_allLines (fun r1 M1 =>
  post r1 M1) M)) ∧
  (¬ x1 = (3 : Int32) → (x1 = (4 : Int32) → (post (M 18 5) M)) ∧
  (¬ x1 = (4 : Int32) → (x1 = (5 : Int32) → (post (M 18 11) M)) ∧
  (¬ x1 = (5 : Int32) → (x1 = (6 : Int32) → (P_Shelf_allGhosts (fun r2 M2 =>
  post r2 M2) M)) ∧
  (¬ x1 = (6 : Int32) → (x1 = (7 : Int32) → (post (M 1 8) M)) ∧
  (¬ x1 = (7 : Int32) → (x1 = (8 : Int32) → (post (M 8 5) M)) ∧
  (¬ x1 = (8 : Int32) → (x1 = (9 : Int32) → (P_Laws_solve (fun M3 =>
  ((M3 63 8) ≤ 0 → (P_R_count_187 post (0 : Int32) M3)) ∧
  (¬ (M3 63 8) ≤ 0 → (P_R_count_187 post (M3 18 11) M3))) M)) ∧
  (¬ x1 = (9 : Int32) → (x1 = (10 : Int32) → (post (M 1 7) M)) ∧
  (¬ x1 = (10 : Int32) → (post (-1 : Int32) M))))))))))))
theorem k_R_count {X : FX} {g : GT} {ext : List CD} {A : Nat → Prop} {Z : State → Prop} {post : Int32 → Mem → Prop} (C : Cx X g (layC ++ ext) A cX11_count 2 RX11 5) (hr : 0 ≤ X.2.2.2.1.cells ∧ 0 ≤ X.2.2.2.1.slots) (hR : RetI X g (layC ++ ext) A cX11_count 2 0 0 Z post) (x1 : Int32) (M : Mem) (h : P_R_count post x1 M) : At X g (layC ++ ext) A 2 0 0 Z 0 [(0, .ref (ad g 0)), (1, .int x1)] [] M := by
  refine a_iload_n C (tk T_cX11_count 0 rfl) rfl ?_
  refine a_case (0 : Int32) (fun c => ?_) (fun c0 => ?_)
  · have h := h.1 c
    refine a_tswI C (59) 60 (tk T_cX11_count 1 rfl) (by decide) rfl ?_
    refine a_aload_n C (tk T_cX11_count 2 rfl) rfl ?_
    refine a_getR C f_RX11_10 (tk T_cX11_count 3 rfl) lc0 rfl ?_
    refine a_getR C f_RX11_76 (tk T_cX11_count 4 rfl) lc1 rfl ?_
    refine a_getI C f_RX11_101 (tk T_cX11_count 5 rfl) lc2 rfl ?_
    exact hR _ _ _ _ (tk T_cX11_count 6 rfl) h
  · have h := h.2 c0
    refine a_case (1 : Int32) (fun c => ?_) (fun c1 => ?_)
    · have h := h.1 c
      refine a_tswI C (70) 71 (tk T_cX11_count 1 rfl) (by decide) rfl ?_
      refine a_aload_n C (tk T_cX11_count 7 rfl) rfl ?_
      refine a_getR C f_RX11_10 (tk T_cX11_count 8 rfl) lc0 rfl ?_
      refine a_getR C f_RX11_132 (tk T_cX11_count 9 rfl) lc1 rfl ?_
      refine a_getI C f_RX11_145 (tk T_cX11_count 10 rfl) lc8 rfl ?_
      exact hR _ _ _ _ (tk T_cX11_count 11 rfl) h
    · have h := h.2 c1
      refine a_case (2 : Int32) (fun c => ?_) (fun c2 => ?_)
      · have h := h.1 c
        refine a_tswI C (81) 82 (tk T_cX11_count 1 rfl) (by decide) rfl ?_
        refine a_aload_n C (tk T_cX11_count 12 rfl) rfl ?_
        refine a_getR C f_RX11_10 (tk T_cX11_count 13 rfl) lc0 rfl ?_
        refine a_getR C f_RX11_188 (tk T_cX11_count 14 rfl) lc1 rfl ?_
        refine a_getI C f_RX11_192 (tk T_cX11_count 15 rfl) lc13 rfl ?_
        exact hR _ _ _ _ (tk T_cX11_count 16 rfl) h
      · have h := h.2 c2
        refine a_case (3 : Int32) (fun c => ?_) (fun c3 => ?_)
        · have h := h.1 c
          refine a_tswI C (92) 93 (tk T_cX11_count 1 rfl) (by decide) rfl ?_
          refine a_aload_n C (tk T_cX11_count 17 rfl) rfl ?_
          refine a_getR C f_RX11_10 (tk T_cX11_count 18 rfl) lc0 rfl ?_
          refine a_getR C f_RX11_188 (tk T_cX11_count 19 rfl) lc1 rfl ?_
          refine a_callI C [] me_yX10_allLines lk_RX11_412 (ct_Table_allLines h) (by decide) lc13 rfl rfl rfl (Nat.le_of_ble_eq_true rfl) (tk T_cX11_count 20 rfl) hr (fun r1 M1 h => ?_)
          exact hR _ _ _ _ (tk T_cX11_count 21 rfl) h
        · have h := h.2 c3
          refine a_case (4 : Int32) (fun c => ?_) (fun c4 => ?_)
          · have h := h.1 c
            refine a_tswI C (103) 104 (tk T_cX11_count 1 rfl) (by decide) rfl ?_
            refine a_aload_n C (tk T_cX11_count 22 rfl) rfl ?_
            refine a_getR C f_RX11_10 (tk T_cX11_count 23 rfl) lc0 rfl ?_
            refine a_getR C f_RX11_208 (tk T_cX11_count 24 rfl) lc1 rfl ?_
            refine a_getI C f_RX11_212 (tk T_cX11_count 25 rfl) lc18 rfl ?_
            exact hR _ _ _ _ (tk T_cX11_count 26 rfl) h
          · have h := h.2 c4
            refine a_case (5 : Int32) (fun c => ?_) (fun c5 => ?_)
            · have h := h.1 c
              refine a_tswI C (114) 115 (tk T_cX11_count 1 rfl) (by decide) rfl ?_
              refine a_aload_n C (tk T_cX11_count 27 rfl) rfl ?_
              refine a_getR C f_RX11_10 (tk T_cX11_count 28 rfl) lc0 rfl ?_
              refine a_getR C f_RX11_208 (tk T_cX11_count 29 rfl) lc1 rfl ?_
              refine a_getI C f_RX11_235 (tk T_cX11_count 30 rfl) lc18 rfl ?_
              exact hR _ _ _ _ (tk T_cX11_count 31 rfl) h
            · have h := h.2 c5
              refine a_case (6 : Int32) (fun c => ?_) (fun c6 => ?_)
              · have h := h.1 c
                refine a_tswI C (125) 126 (tk T_cX11_count 1 rfl) (by decide) rfl ?_
                refine a_aload_n C (tk T_cX11_count 32 rfl) rfl ?_
                refine a_getR C f_RX11_10 (tk T_cX11_count 33 rfl) lc0 rfl ?_
                refine a_getR C f_RX11_208 (tk T_cX11_count 34 rfl) lc1 rfl ?_
                refine a_callI C [] me_yX9_allGhosts lk_RX11_415 (ct_Shelf_allGhosts h) (by decide) lc18 rfl rfl rfl (Nat.le_of_ble_eq_true rfl) (tk T_cX11_count 35 rfl) hr (fun r2 M2 h => ?_)
                exact hR _ _ _ _ (tk T_cX11_count 36 rfl) h
              · have h := h.2 c6
                refine a_case (7 : Int32) (fun c => ?_) (fun c7 => ?_)
                · have h := h.1 c
                  refine a_tswI C (136) 137 (tk T_cX11_count 1 rfl) (by decide) rfl ?_
                  refine a_aload_n C (tk T_cX11_count 37 rfl) rfl ?_
                  refine a_getR C f_RX11_10 (tk T_cX11_count 38 rfl) lc0 rfl ?_
                  refine a_getI C f_RX11_382 (tk T_cX11_count 39 rfl) lc1 rfl ?_
                  exact hR _ _ _ _ (tk T_cX11_count 40 rfl) h
                · have h := h.2 c7
                  refine a_case (8 : Int32) (fun c => ?_) (fun c8 => ?_)
                  · have h := h.1 c
                    refine a_tswI C (144) 145 (tk T_cX11_count 1 rfl) (by decide) rfl ?_
                    refine a_aload_n C (tk T_cX11_count 41 rfl) rfl ?_
                    refine a_getR C f_RX11_10 (tk T_cX11_count 42 rfl) lc0 rfl ?_
                    refine a_getR C f_RX11_132 (tk T_cX11_count 43 rfl) lc1 rfl ?_
                    refine a_getI C f_RX11_136 (tk T_cX11_count 44 rfl) lc8 rfl ?_
                    exact hR _ _ _ _ (tk T_cX11_count 45 rfl) h
                  · have h := h.2 c8
                    refine a_case (9 : Int32) (fun c => ?_) (fun c9 => ?_)
                    · have h := h.1 c
                      refine a_tswI C (155) 156 (tk T_cX11_count 1 rfl) (by decide) rfl ?_
                      refine a_aload_n C (tk T_cX11_count 46 rfl) rfl ?_
                      refine a_getR C f_RX11_24 (tk T_cX11_count 47 rfl) lc0 rfl ?_
                      refine a_callV C [] me_yX5_solve lk_RX11_160 (ct_Laws_solve h) (by decide) lc63 rfl rfl rfl (Nat.le_of_ble_eq_true rfl) (tk T_cX11_count 48 rfl) hr (fun M3 h => ?_)
                      refine a_aload_n C (tk T_cX11_count 49 rfl) rfl ?_
                      refine a_getR C f_RX11_24 (tk T_cX11_count 50 rfl) lc0 rfl ?_
                      refine a_getI C f_RX11_163 (tk T_cX11_count 51 rfl) lc63 rfl ?_
                      refine a_if_le C 186 (tk T_cX11_count 52 rfl) rfl (fun c => ?_) (fun c => ?_)
                      · have h := h.1 c
                        refine a_iconst C (0 : Int32) (tk T_cX11_count 58 rfl) kI_0 ?_
                        exact a_to (k_R_count_187 C hr hR (0 : Int32) M3 h) rfl
                      · have h := h.2 c
                        refine a_aload_n C (tk T_cX11_count 53 rfl) rfl ?_
                        refine a_getR C f_RX11_10 (tk T_cX11_count 54 rfl) lc0 rfl ?_
                        refine a_getR C f_RX11_208 (tk T_cX11_count 55 rfl) lc1 rfl ?_
                        refine a_getI C f_RX11_235 (tk T_cX11_count 56 rfl) lc18 rfl ?_
                        refine a_goto C 187 (tk T_cX11_count 57 rfl) rfl ?_
                        exact a_to (k_R_count_187 C hr hR (M3 18 11) M3 h) rfl
                    · have h := h.2 c9
                      refine a_case (10 : Int32) (fun c => ?_) (fun c10 => ?_)
                      · have h := h.1 c
                        refine a_tswI C (187) 188 (tk T_cX11_count 1 rfl) (by decide) rfl ?_
                        refine a_aload_n C (tk T_cX11_count 60 rfl) rfl ?_
                        refine a_getR C f_RX11_10 (tk T_cX11_count 61 rfl) lc0 rfl ?_
                        refine a_getI C f_RX11_342 (tk T_cX11_count 62 rfl) lc1 rfl ?_
                        exact hR _ _ _ _ (tk T_cX11_count 63 rfl) h
                      · have h := h.2 c10
                        have d0 := ne_toInt (z := 0) c0 (by decide)
                        have d1 := ne_toInt (z := 1) c1 (by decide)
                        have d2 := ne_toInt (z := 2) c2 (by decide)
                        have d3 := ne_toInt (z := 3) c3 (by decide)
                        have d4 := ne_toInt (z := 4) c4 (by decide)
                        have d5 := ne_toInt (z := 5) c5 (by decide)
                        have d6 := ne_toInt (z := 6) c6 (by decide)
                        have d7 := ne_toInt (z := 7) c7 (by decide)
                        have d8 := ne_toInt (z := 8) c8 (by decide)
                        have d9 := ne_toInt (z := 9) c9 (by decide)
                        have d10 := ne_toInt (z := 10) c10 (by decide)
                        refine a_tswO C 196 (tk T_cX11_count 1 rfl) (by omega) rfl ?_
                        refine a_iconst C (-1 : Int32) (tk T_cX11_count 64 rfl) kI_m1 ?_
                        exact hR _ _ _ _ (tk T_cX11_count 65 rfl) h
theorem ct_R_count {l : Launch} {g : GT} {ext : List CD} {post : Int32 → Mem → Prop} {x1 : Int32} {M : Mem} (h : P_R_count post x1 M) : CI l g (layC ++ ext) yX11_count cX11_count 2 (some .int) 5 [.ref (ad g 0), .int x1] M post :=
  ci_of (plainFor_of_name (by decide +kernel)) (Nat.le_of_ble_eq_true rfl) (fun X A Z hl C hr hR => by subst hl; exact k_R_count C hr hR x1 M h)
def T_cX11_spanEndL : List (Nat × Instr × Nat) := [(0, .aload_n 0, 1), (1, .getfield 24, 3), (4, .invokevirtual 160, 3), (7, .aload_n 0, 1), (8, .getfield 24, 3), (11, .iload_n 1, 1), (12, .invokevirtual 418, 3), (15, .istore_n 3, 1), (16, .iload_n 3, 1), (17, .iconst (-1), 1), (18, .if_icmp .ne 7, 3), (21, .ldc_w 421, 3), (24, .ireturn, 1), (25, .iload_n 2, 1), (26, .ifCond .eq 15, 3), (29, .aload_n 0, 1), (30, .getfield 24, 3), (33, .getfield 422, 3), (36, .iload_n 3, 1), (37, .iaload, 1), (38, .goto 12, 3), (41, .aload_n 0, 1), (42, .getfield 24, 3), (45, .getfield 425, 3), (48, .iload_n 3, 1), (49, .iaload, 1), (50, .ireturn, 1)]
theorem T_cX11_spanEnd : tabOK cX11_spanEnd T_cX11_spanEndL = true := by decide +kernel
def P_R_spanEnd_50 (post : Int32 → Mem → Prop) (s0 : Int32) (M : Mem) : Prop :=
  post s0 M
theorem k_R_spanEnd_50 {X : FX} {g : GT} {ext : List CD} {A : Nat → Prop} {Z : State → Prop} {post : Int32 → Mem → Prop} (C : Cx X g (layC ++ ext) A cX11_spanEnd 4 RX11 5) (hr : 0 ≤ X.2.2.2.1.cells ∧ 0 ≤ X.2.2.2.1.slots) (hR : RetI X g (layC ++ ext) A cX11_spanEnd 4 0 0 Z post) (s0 : Int32) (M : Mem) (h : P_R_spanEnd_50 post s0 M) : At X g (layC ++ ext) A 4 0 0 Z 50 [] [.int s0] M := by
  exact hR _ _ _ _ (tk T_cX11_spanEnd 26 rfl) h
def P_R_spanEnd (post : Int32 → Mem → Prop) (x1 x2 : Int32) (M : Mem) : Prop :=
  P_Laws_solve (fun M1 =>
  P_Laws_slotOf (fun r2 M2 =>
  (¬ r2 = (-1 : Int32) → ((x2 = 0 → (vp_in r2 1087 ∧ P_R_spanEnd_50 post (M2 67 r2.toNatClampNeg) M2)) ∧
  (¬ x2 = 0 → (vp_in r2 1087 ∧ P_R_spanEnd_50 post (M2 68 r2.toNatClampNeg) M2)))) ∧
  (r2 = (-1 : Int32) → (post (-99999 : Int32) M2))) x1 M1) M
theorem k_R_spanEnd {X : FX} {g : GT} {ext : List CD} {A : Nat → Prop} {Z : State → Prop} {post : Int32 → Mem → Prop} (C : Cx X g (layC ++ ext) A cX11_spanEnd 4 RX11 5) (hr : 0 ≤ X.2.2.2.1.cells ∧ 0 ≤ X.2.2.2.1.slots) (hR : RetI X g (layC ++ ext) A cX11_spanEnd 4 0 0 Z post) (x1 x2 : Int32) (M : Mem) (h : P_R_spanEnd post x1 x2 M) : At X g (layC ++ ext) A 4 0 0 Z 0 [(0, .ref (ad g 0)), (1, .int x1), (2, .int x2)] [] M := by
  refine a_aload_n C (tk T_cX11_spanEnd 0 rfl) rfl ?_
  refine a_getR C f_RX11_24 (tk T_cX11_spanEnd 1 rfl) lc0 rfl ?_
  refine a_callV C [] me_yX5_solve lk_RX11_160 (ct_Laws_solve h) (by decide) lc63 rfl rfl rfl (Nat.le_of_ble_eq_true rfl) (tk T_cX11_spanEnd 2 rfl) hr (fun M1 h => ?_)
  refine a_aload_n C (tk T_cX11_spanEnd 3 rfl) rfl ?_
  refine a_getR C f_RX11_24 (tk T_cX11_spanEnd 4 rfl) lc0 rfl ?_
  refine a_iload_n C (tk T_cX11_spanEnd 5 rfl) rfl ?_
  refine a_callI C [.int x1] me_yX5_slotOf lk_RX11_418 (ct_Laws_slotOf h) (by decide) lc63 rfl rfl rfl (Nat.le_of_ble_eq_true rfl) (tk T_cX11_spanEnd 6 rfl) hr (fun r2 M2 h => ?_)
  refine a_istore_n C (tk T_cX11_spanEnd 7 rfl) (by decide) rfl ?_
  refine a_iload_n C (tk T_cX11_spanEnd 8 rfl) rfl ?_
  refine a_iconst C (-1 : Int32) (tk T_cX11_spanEnd 9 rfl) kI_m1 ?_
  refine a_icmp_ne C 25 (tk T_cX11_spanEnd 10 rfl) rfl (fun c => ?_) (fun c => ?_)
  · have h := h.1 c
    refine a_iload_n C (tk T_cX11_spanEnd 13 rfl) rfl ?_
    refine a_if_eq C 41 (tk T_cX11_spanEnd 14 rfl) rfl (fun c => ?_) (fun c => ?_)
    · have h := h.1 c
      refine a_aload_n C (tk T_cX11_spanEnd 21 rfl) rfl ?_
      refine a_getR C f_RX11_24 (tk T_cX11_spanEnd 22 rfl) lc0 rfl ?_
      refine a_getR C f_RX11_425 (tk T_cX11_spanEnd 23 rfl) lc63 rfl ?_
      refine a_iload_n C (tk T_cX11_spanEnd 24 rfl) rfl ?_
      obtain ⟨hb, h⟩ := h
      refine a_iald C (tk T_cX11_spanEnd 25 rfl) lc67 hb ?_
      exact a_to (k_R_spanEnd_50 C hr hR (M2 67 r2.toNatClampNeg) M2 h) rfl
    · have h := h.2 c
      refine a_aload_n C (tk T_cX11_spanEnd 15 rfl) rfl ?_
      refine a_getR C f_RX11_24 (tk T_cX11_spanEnd 16 rfl) lc0 rfl ?_
      refine a_getR C f_RX11_422 (tk T_cX11_spanEnd 17 rfl) lc63 rfl ?_
      refine a_iload_n C (tk T_cX11_spanEnd 18 rfl) rfl ?_
      obtain ⟨hb, h⟩ := h
      refine a_iald C (tk T_cX11_spanEnd 19 rfl) lc68 hb ?_
      refine a_goto C 50 (tk T_cX11_spanEnd 20 rfl) rfl ?_
      exact a_to (k_R_spanEnd_50 C hr hR (M2 68 r2.toNatClampNeg) M2 h) rfl
  · have h := h.2 c
    refine a_ldc_w C c_RX11_421 (tk T_cX11_spanEnd 11 rfl) ?_
    exact hR _ _ _ _ (tk T_cX11_spanEnd 12 rfl) h
theorem ct_R_spanEnd {l : Launch} {g : GT} {ext : List CD} {post : Int32 → Mem → Prop} {x1 x2 : Int32} {M : Mem} (h : P_R_spanEnd post x1 x2 M) : CI l g (layC ++ ext) yX11_spanEnd cX11_spanEnd 4 (some .int) 5 [.ref (ad g 0), .int x1, .int x2] M post :=
  ci_of (plainFor_of_name (by decide +kernel)) (Nat.le_of_ble_eq_true rfl) (fun X A Z hl C hr hR => by subst hl; exact k_R_spanEnd C hr hR x1 x2 M h)
def T_cX11_isWaveL : List (Nat × Instr × Nat) := [(0, .iload_n 0, 1), (1, .sipush 1000, 3), (4, .sipush 9999, 3), (7, .invokestatic 68, 3), (10, .ireturn, 1)]
theorem T_cX11_isWave : tabOK cX11_isWave T_cX11_isWaveL = true := by decide +kernel
def P_R_isWave (post : Int32 → Mem → Prop) (x0 : Int32) (M : Mem) : Prop :=
  P_R_within (fun r1 M1 =>
  (r1 = 0 ∨ r1 = 1) ∧ post r1 M1) x0 (1000 : Int32) (9999 : Int32) M
theorem k_R_isWave {X : FX} {g : GT} {ext : List CD} {A : Nat → Prop} {Z : State → Prop} {post : Int32 → Mem → Prop} (C : Cx X g (layC ++ ext) A cX11_isWave 1 RX11 1) (hr : 0 ≤ X.2.2.2.1.cells ∧ 0 ≤ X.2.2.2.1.slots) (hR : RetZ X g (layC ++ ext) A cX11_isWave 1 0 0 Z post) (x0 : Int32) (M : Mem) (h : P_R_isWave post x0 M) : At X g (layC ++ ext) A 1 0 0 Z 0 [(0, .int x0)] [] M := by
  refine a_iload_n C (tk T_cX11_isWave 0 rfl) rfl ?_
  refine a_sipush C (1000 : Int32) (tk T_cX11_isWave 1 rfl) kS_1000 ?_
  refine a_sipush C (9999 : Int32) (tk T_cX11_isWave 2 rfl) kS_9999 ?_
  refine a_statI C [.int x0, .int (1000 : Int32), .int (9999 : Int32)] me_yX11_within lk_RX11_68 (ct_R_within h) (by decide) rfl rfl (Nat.le_of_ble_eq_true rfl) (tk T_cX11_isWave 3 rfl) hr (fun r1 M1 h => ?_)
  exact hR _ _ _ _ (tk T_cX11_isWave 4 rfl) h
theorem ct_R_isWave {l : Launch} {g : GT} {ext : List CD} {post : Int32 → Mem → Prop} {x0 : Int32} {M : Mem} (h : P_R_isWave post x0 M) : CI l g (layC ++ ext) yX11_isWave cX11_isWave 1 (some .boolean) 1 [.int x0] M post :=
  cz_of (plainFor_of_name (by decide +kernel)) (Nat.le_of_ble_eq_true rfl) (fun X A Z hl C hr hR => by subst hl; exact k_R_isWave C hr hR x0 M h)
def T_cX3_shownL : List (Nat × Instr × Nat) := [(0, .bipush 9, 2), (2, .iload_n 0, 1), (3, .iload_n 1, 1), (4, .imul, 1), (5, .iconst 5, 1), (6, .idiv, 1), (7, .invokestatic 201, 3), (10, .istore_n 2, 1), (11, .iload_n 1, 1), (12, .bipush 6, 2), (14, .if_icmp .le 24, 3), (17, .iload_n 0, 1), (18, .bipush 7, 2), (20, .if_icmp .lt 18, 3), (23, .iconst 0, 1), (24, .iload_n 2, 1), (25, .iconst 2, 1), (26, .iload_n 1, 1), (27, .bipush 6, 2), (29, .isub, 1), (30, .imul, 1), (31, .isub, 1), (32, .invokestatic 206, 3), (35, .goto 4, 3), (38, .iload_n 2, 1), (39, .ireturn, 1)]
theorem T_cX3_shown : tabOK cX3_shown T_cX3_shownL = true := by decide +kernel
def P_Judge_shown_39 (post : Int32 → Mem → Prop) (s0 : Int32) (M : Mem) : Prop :=
  post s0 M
theorem k_Judge_shown_39 {X : FX} {g : GT} {ext : List CD} {A : Nat → Prop} {Z : State → Prop} {post : Int32 → Mem → Prop} (C : Cx X g (layC ++ ext) A cX3_shown 3 RX3 1) (hr : 0 ≤ X.2.2.2.1.cells ∧ 0 ≤ X.2.2.2.1.slots) (hR : RetI X g (layC ++ ext) A cX3_shown 3 0 0 Z post) (s0 : Int32) (M : Mem) (h : P_Judge_shown_39 post s0 M) : At X g (layC ++ ext) A 3 0 0 Z 39 [] [.int s0] M := by
  exact hR _ _ _ _ (tk T_cX3_shown 25 rfl) h
def P_Judge_shown_38 (post : Int32 → Mem → Prop) (x2 : Int32) (M : Mem) : Prop :=
  P_Judge_shown_39 post x2 M
theorem k_Judge_shown_38 {X : FX} {g : GT} {ext : List CD} {A : Nat → Prop} {Z : State → Prop} {post : Int32 → Mem → Prop} (C : Cx X g (layC ++ ext) A cX3_shown 3 RX3 1) (hr : 0 ≤ X.2.2.2.1.cells ∧ 0 ≤ X.2.2.2.1.slots) (hR : RetI X g (layC ++ ext) A cX3_shown 3 0 0 Z post) (x2 : Int32) (M : Mem) (h : P_Judge_shown_38 post x2 M) : At X g (layC ++ ext) A 3 0 0 Z 38 [(2, .int x2)] [] M := by
  refine a_iload_n C (tk T_cX3_shown 24 rfl) rfl ?_
  exact a_to (k_Judge_shown_39 C hr hR x2 M h) rfl
def P_Judge_shown (post : Int32 → Mem → Prop) (x0 x1 : Int32) (M : Mem) : Prop :=
  P_Math_min (fun r1 M1 =>
  (x1 ≤ (6 : Int32) → (P_Judge_shown_38 post r1 M1)) ∧
  (¬ x1 ≤ (6 : Int32) → ((x0 < (7 : Int32) → (P_Judge_shown_38 post r1 M1)) ∧
  (¬ x0 < (7 : Int32) → (P_Math_max (fun r2 M2 =>
  P_Judge_shown_39 post r2 M2) (0 : Int32) (r1 - ((2 : Int32) * (x1 - (6 : Int32)))) M1))))) (9 : Int32) ((x0 * x1) / (5 : Int32)) M
theorem k_Judge_shown {X : FX} {g : GT} {ext : List CD} {A : Nat → Prop} {Z : State → Prop} {post : Int32 → Mem → Prop} (C : Cx X g (layC ++ ext) A cX3_shown 3 RX3 1) (hr : 0 ≤ X.2.2.2.1.cells ∧ 0 ≤ X.2.2.2.1.slots) (hR : RetI X g (layC ++ ext) A cX3_shown 3 0 0 Z post) (x0 x1 : Int32) (M : Mem) (h : P_Judge_shown post x0 x1 M) : At X g (layC ++ ext) A 3 0 0 Z 0 [(0, .int x0), (1, .int x1)] [] M := by
  refine a_bipush C (9 : Int32) (tk T_cX3_shown 0 rfl) kB_9 ?_
  refine a_iload_n C (tk T_cX3_shown 1 rfl) rfl ?_
  refine a_iload_n C (tk T_cX3_shown 2 rfl) rfl ?_
  refine a_imul C (tk T_cX3_shown 3 rfl) ?_
  refine a_iconst C (5 : Int32) (tk T_cX3_shown 4 rfl) kI_5 ?_
  refine a_idiv C (tk T_cX3_shown 5 rfl) (by decide) ?_
  refine a_statI C [.int (9 : Int32), .int ((x0 * x1) / (5 : Int32))] me_yJ9_min_7cf53 lk_RX3_201 (ct_Math_min h) (by decide) rfl rfl (Nat.le_of_ble_eq_true rfl) (tk T_cX3_shown 6 rfl) hr (fun r1 M1 h => ?_)
  refine a_istore_n C (tk T_cX3_shown 7 rfl) (by decide) rfl ?_
  refine a_iload_n C (tk T_cX3_shown 8 rfl) rfl ?_
  refine a_bipush C (6 : Int32) (tk T_cX3_shown 9 rfl) kB_6 ?_
  refine a_icmp_le C 38 (tk T_cX3_shown 10 rfl) rfl (fun c => ?_) (fun c => ?_)
  · have h := h.1 c
    exact a_to (k_Judge_shown_38 C hr hR r1 M1 h) rfl
  · have h := h.2 c
    refine a_iload_n C (tk T_cX3_shown 11 rfl) rfl ?_
    refine a_bipush C (7 : Int32) (tk T_cX3_shown 12 rfl) kB_7 ?_
    refine a_icmp_lt C 38 (tk T_cX3_shown 13 rfl) rfl (fun c => ?_) (fun c => ?_)
    · have h := h.1 c
      exact a_to (k_Judge_shown_38 C hr hR r1 M1 h) rfl
    · have h := h.2 c
      refine a_iconst C (0 : Int32) (tk T_cX3_shown 14 rfl) kI_0 ?_
      refine a_iload_n C (tk T_cX3_shown 15 rfl) rfl ?_
      refine a_iconst C (2 : Int32) (tk T_cX3_shown 16 rfl) kI_2 ?_
      refine a_iload_n C (tk T_cX3_shown 17 rfl) rfl ?_
      refine a_bipush C (6 : Int32) (tk T_cX3_shown 18 rfl) kB_6 ?_
      refine a_isub C (tk T_cX3_shown 19 rfl) ?_
      refine a_imul C (tk T_cX3_shown 20 rfl) ?_
      refine a_isub C (tk T_cX3_shown 21 rfl) ?_
      refine a_statI C [.int (0 : Int32), .int (r1 - ((2 : Int32) * (x1 - (6 : Int32))))] me_yJ9_max_7cf53 lk_RX3_206 (ct_Math_max h) (by decide) rfl rfl (Nat.le_of_ble_eq_true rfl) (tk T_cX3_shown 22 rfl) hr (fun r2 M2 h => ?_)
      refine a_goto C 39 (tk T_cX3_shown 23 rfl) rfl ?_
      exact a_to (k_Judge_shown_39 C hr hR r2 M2 h) rfl
theorem ct_Judge_shown {l : Launch} {g : GT} {ext : List CD} {post : Int32 → Mem → Prop} {x0 x1 : Int32} {M : Mem} (h : P_Judge_shown post x0 x1 M) : CI l g (layC ++ ext) yX3_shown cX3_shown 3 (some .int) 1 [.int x0, .int x1] M post :=
  ci_of (plainFor_of_name (by decide +kernel)) (Nat.le_of_ble_eq_true rfl) (fun X A Z hl C hr hR => by subst hl; exact k_Judge_shown C hr hR x0 x1 M h)
def T_cX3_isSeenAsL : List (Nat × Instr × Nat) := [(0, .iconst 0, 1), (1, .istore_n 3, 1), (2, .iload_n 3, 1), (3, .aload_n 0, 1), (4, .getfield 38, 3), (7, .getfield 61, 3), (10, .getfield 67, 3), (13, .if_icmp .ge 62, 3), (16, .aload_n 0, 1), (17, .getfield 18, 3), (20, .iload_n 3, 1), (21, .iaload, 1), (22, .iconst 1, 1), (23, .if_icmp .ne 46, 3), (26, .iload_n 1, 1), (27, .aload_n 0, 1), (28, .getfield 9, 3), (31, .iload_n 3, 1), (32, .iaload, 1), (33, .aload_n 0, 1), (34, .getfield 15, 3), (37, .iload_n 3, 1), (38, .iaload, 1), (39, .invokestatic 113, 3), (42, .ifCond .eq 27, 3), (45, .aload_n 0, 1), (46, .getfield 38, 3), (49, .getfield 61, 3), (52, .getfield 200, 3), (55, .iload_n 3, 1), (56, .iaload, 1), (57, .iload_n 2, 1), (58, .isub, 1), (59, .iconst (-1), 1), (60, .iconst 1, 1), (61, .invokestatic 113, 3), (64, .ifCond .ne 5, 3), (67, .iconst 0, 1), (68, .ireturn, 1), (69, .iinc 3 1, 3), (72, .goto (-70), 3), (75, .iconst 1, 1), (76, .ireturn, 1)]
theorem T_cX3_isSeenAs : tabOK cX3_isSeenAs T_cX3_isSeenAsL = true := by decide +kernel
def P_Judge_isSeenAs_69 (post : Int32 → Mem → Prop) (R2 : Int32 → Int32 → Int32 → Mem → Prop) (x1 x2 x3 : Int32) (M : Mem) : Prop :=
  R2 x1 x2 (x3 + (1 : Int32)) M
theorem k_Judge_isSeenAs_69 {X : FX} {g : GT} {ext : List CD} {A : Nat → Prop} {Z : State → Prop} {post : Int32 → Mem → Prop} {R2 : Int32 → Int32 → Int32 → Mem → Prop} (C : Cx X g (layC ++ ext) A cX3_isSeenAs 4 RX3 1) (hr : 0 ≤ X.2.2.2.1.cells ∧ 0 ≤ X.2.2.2.1.slots) (hR : RetZ X g (layC ++ ext) A cX3_isSeenAs 4 0 0 Z post) (k2 : ∀ (y1 y2 y3 : Int32) (M : Mem), R2 y1 y2 y3 M → At X g (layC ++ ext) A 4 0 0 Z 2 [(0, .ref (ad g 69)), (1, .int y1), (2, .int y2), (3, .int y3)] [] M) (x1 x2 x3 : Int32) (M : Mem) (h : P_Judge_isSeenAs_69 post R2 x1 x2 x3 M) : At X g (layC ++ ext) A 4 0 0 Z 69 [(0, .ref (ad g 69)), (1, .int x1), (2, .int x2), (3, .int x3)] [] M := by
  refine a_iinc C (1 : Int32) (tk T_cX3_isSeenAs 39 rfl) rfl kI_1 (by decide) rfl ?_
  refine a_goto C 2 (tk T_cX3_isSeenAs 40 rfl) rfl ?_
  exact a_to (k2 x1 x2 (x3 + (1 : Int32)) M h) rfl
def P_Judge_isSeenAs_2 (post : Int32 → Mem → Prop) : Nat → Int32 → Int32 → Int32 → Mem → Prop
  | 0, _, _, _, _ => False
  | n + 1, x1, x2, x3, M =>
    ((M 18 11) ≤ x3 → (post (1 : Int32) M)) ∧
  (¬ (M 18 11) ≤ x3 → (vp_in x3 24 ∧ (¬ (M 72 x3.toNatClampNeg) = (1 : Int32) → (P_Judge_isSeenAs_69 post (P_Judge_isSeenAs_2 post n) x1 x2 x3 M)) ∧
  ((M 72 x3.toNatClampNeg) = (1 : Int32) → (vp_in x3 24 ∧ vp_in x3 24 ∧ P_R_within (fun r1 M1 =>
  (r1 = 0 → (P_Judge_isSeenAs_69 post (P_Judge_isSeenAs_2 post n) x1 x2 x3 M1)) ∧
  (¬ r1 = 0 → (vp_in x3 24 ∧ P_R_within (fun r2 M2 =>
  (¬ r2 = 0 → (P_Judge_isSeenAs_69 post (P_Judge_isSeenAs_2 post n) x1 x2 x3 M2)) ∧
  (r2 = 0 → (post (0 : Int32) M2))) ((M1 27 x3.toNatClampNeg) - x2) (-1 : Int32) (1 : Int32) M1))) x1 (M 70 x3.toNatClampNeg) (M 71 x3.toNatClampNeg) M))))
theorem k_Judge_isSeenAs_2 {X : FX} {g : GT} {ext : List CD} {A : Nat → Prop} {Z : State → Prop} {post : Int32 → Mem → Prop} (C : Cx X g (layC ++ ext) A cX3_isSeenAs 4 RX3 1) (hr : 0 ≤ X.2.2.2.1.cells ∧ 0 ≤ X.2.2.2.1.slots) (hR : RetZ X g (layC ++ ext) A cX3_isSeenAs 4 0 0 Z post) : ∀ (n : Nat) (x1 x2 x3 : Int32) (M : Mem), P_Judge_isSeenAs_2 post n x1 x2 x3 M → At X g (layC ++ ext) A 4 0 0 Z 2 [(0, .ref (ad g 69)), (1, .int x1), (2, .int x2), (3, .int x3)] [] M := by
  intro n
  induction n with
  | zero =>
    intro x1 x2 x3 M h
    exact h.elim
  | succ n ih =>
    intro x1 x2 x3 M h
    refine a_iload_n C (tk T_cX3_isSeenAs 2 rfl) rfl ?_
    refine a_aload_n C (tk T_cX3_isSeenAs 3 rfl) rfl ?_
    refine a_getR C f_RX3_38 (tk T_cX3_isSeenAs 4 rfl) lc69 rfl ?_
    refine a_getR C f_RX3_61 (tk T_cX3_isSeenAs 5 rfl) lc1 rfl ?_
    refine a_getI C f_RX3_67 (tk T_cX3_isSeenAs 6 rfl) lc18 rfl ?_
    refine a_icmp_ge C 75 (tk T_cX3_isSeenAs 7 rfl) rfl (fun c => ?_) (fun c => ?_)
    · have h := h.1 c
      refine a_iconst C (1 : Int32) (tk T_cX3_isSeenAs 41 rfl) kI_1 ?_
      exact hR _ _ _ _ (tk T_cX3_isSeenAs 42 rfl) ⟨Or.inr rfl, h⟩
    · have h := h.2 c
      refine a_aload_n C (tk T_cX3_isSeenAs 8 rfl) rfl ?_
      refine a_getR C f_RX3_18 (tk T_cX3_isSeenAs 9 rfl) lc69 rfl ?_
      refine a_iload_n C (tk T_cX3_isSeenAs 10 rfl) rfl ?_
      obtain ⟨hb, h⟩ := h
      refine a_iald C (tk T_cX3_isSeenAs 11 rfl) lc72 hb ?_
      refine a_iconst C (1 : Int32) (tk T_cX3_isSeenAs 12 rfl) kI_1 ?_
      refine a_icmp_ne C 69 (tk T_cX3_isSeenAs 13 rfl) rfl (fun c => ?_) (fun c => ?_)
      · have h := h.1 c
        exact a_to (k_Judge_isSeenAs_69 C hr hR ih x1 x2 x3 M h) rfl
      · have h := h.2 c
        refine a_iload_n C (tk T_cX3_isSeenAs 14 rfl) rfl ?_
        refine a_aload_n C (tk T_cX3_isSeenAs 15 rfl) rfl ?_
        refine a_getR C f_RX3_9 (tk T_cX3_isSeenAs 16 rfl) lc69 rfl ?_
        refine a_iload_n C (tk T_cX3_isSeenAs 17 rfl) rfl ?_
        obtain ⟨hb, h⟩ := h
        refine a_iald C (tk T_cX3_isSeenAs 18 rfl) lc70 hb ?_
        refine a_aload_n C (tk T_cX3_isSeenAs 19 rfl) rfl ?_
        refine a_getR C f_RX3_15 (tk T_cX3_isSeenAs 20 rfl) lc69 rfl ?_
        refine a_iload_n C (tk T_cX3_isSeenAs 21 rfl) rfl ?_
        obtain ⟨hb, h⟩ := h
        refine a_iald C (tk T_cX3_isSeenAs 22 rfl) lc71 hb ?_
        refine a_nestI C [.int x1, .int (M 70 x3.toNatClampNeg), .int (M 71 x3.toNatClampNeg)] me_yX11_within lk_RX3_113 (ct_R_within h) (by decide) rfl rfl (Nat.le_of_ble_eq_true rfl) (tk T_cX3_isSeenAs 23 rfl) hr (fun r1 M1 h => ?_)
        refine a_if_eq C 69 (tk T_cX3_isSeenAs 24 rfl) rfl (fun c => ?_) (fun c => ?_)
        · have h := h.1 c
          exact a_to (k_Judge_isSeenAs_69 C hr hR ih x1 x2 x3 M1 h) rfl
        · have h := h.2 c
          refine a_aload_n C (tk T_cX3_isSeenAs 25 rfl) rfl ?_
          refine a_getR C f_RX3_38 (tk T_cX3_isSeenAs 26 rfl) lc69 rfl ?_
          refine a_getR C f_RX3_61 (tk T_cX3_isSeenAs 27 rfl) lc1 rfl ?_
          refine a_getR C f_RX3_200 (tk T_cX3_isSeenAs 28 rfl) lc18 rfl ?_
          refine a_iload_n C (tk T_cX3_isSeenAs 29 rfl) rfl ?_
          obtain ⟨hb, h⟩ := h
          refine a_iald C (tk T_cX3_isSeenAs 30 rfl) lc27 hb ?_
          refine a_iload_n C (tk T_cX3_isSeenAs 31 rfl) rfl ?_
          refine a_isub C (tk T_cX3_isSeenAs 32 rfl) ?_
          refine a_iconst C (-1 : Int32) (tk T_cX3_isSeenAs 33 rfl) kI_m1 ?_
          refine a_iconst C (1 : Int32) (tk T_cX3_isSeenAs 34 rfl) kI_1 ?_
          refine a_nestI C [.int ((M1 27 x3.toNatClampNeg) - x2), .int (-1 : Int32), .int (1 : Int32)] me_yX11_within lk_RX3_113 (ct_R_within h) (by decide) rfl rfl (Nat.le_of_ble_eq_true rfl) (tk T_cX3_isSeenAs 35 rfl) hr (fun r2 M2 h => ?_)
          refine a_if_ne C 69 (tk T_cX3_isSeenAs 36 rfl) rfl (fun c => ?_) (fun c => ?_)
          · have h := h.1 c
            exact a_to (k_Judge_isSeenAs_69 C hr hR ih x1 x2 x3 M2 h) rfl
          · have h := h.2 c
            refine a_iconst C (0 : Int32) (tk T_cX3_isSeenAs 37 rfl) kI_0 ?_
            exact hR _ _ _ _ (tk T_cX3_isSeenAs 38 rfl) ⟨Or.inl rfl, h⟩
def P_Judge_isSeenAs (post : Int32 → Mem → Prop) (x1 x2 : Int32) (M : Mem) : Prop :=
  ∃ j2, P_Judge_isSeenAs_2 post j2 x1 x2 (0 : Int32) M
theorem k_Judge_isSeenAs {X : FX} {g : GT} {ext : List CD} {A : Nat → Prop} {Z : State → Prop} {post : Int32 → Mem → Prop} (C : Cx X g (layC ++ ext) A cX3_isSeenAs 4 RX3 1) (hr : 0 ≤ X.2.2.2.1.cells ∧ 0 ≤ X.2.2.2.1.slots) (hR : RetZ X g (layC ++ ext) A cX3_isSeenAs 4 0 0 Z post) (x1 x2 : Int32) (M : Mem) (h : P_Judge_isSeenAs post x1 x2 M) : At X g (layC ++ ext) A 4 0 0 Z 0 [(0, .ref (ad g 69)), (1, .int x1), (2, .int x2)] [] M := by
  refine a_iconst C (0 : Int32) (tk T_cX3_isSeenAs 0 rfl) kI_0 ?_
  refine a_istore_n C (tk T_cX3_isSeenAs 1 rfl) (by decide) rfl ?_
  obtain ⟨n1, h⟩ := h
  exact a_to (k_Judge_isSeenAs_2 C hr hR n1 x1 x2 (0 : Int32) M h) rfl
theorem ct_Judge_isSeenAs {l : Launch} {g : GT} {ext : List CD} {post : Int32 → Mem → Prop} {x1 x2 : Int32} {M : Mem} (h : P_Judge_isSeenAs post x1 x2 M) : CI l g (layC ++ ext) yX3_isSeenAs cX3_isSeenAs 4 (some .boolean) 1 [.ref (ad g 69), .int x1, .int x2] M post :=
  cz_of (plainFor_of_name (by decide +kernel)) (Nat.le_of_ble_eq_true rfl) (fun X A Z hl C hr hR => by subst hl; exact k_Judge_isSeenAs C hr hR x1 x2 M h)
def T_cX3_amountFitsL : List (Nat × Instr × Nat) := [(0, .iconst 0, 1), (1, .istore_n 3, 1), (2, .iload_n 3, 1), (3, .aload_n 0, 1), (4, .getfield 38, 3), (7, .getfield 123, 3), (10, .getfield 136, 3), (13, .iload_n 1, 1), (14, .iaload, 1), (15, .if_icmp .ge 92, 3), (18, .iload_n 1, 1), (19, .bipush 6, 2), (21, .imul, 1), (22, .iload_n 3, 1), (23, .iadd, 1), (24, .istore 4, 2), (26, .aload_n 0, 1), (27, .getfield 38, 3), (30, .getfield 123, 3), (33, .getfield 146, 3), (36, .iload 4, 2), (38, .iaload, 1), (39, .istore 5, 2), (41, .aload_n 0, 1), (42, .getfield 38, 3), (45, .getfield 61, 3), (48, .aload_n 0, 1), (49, .getfield 51, 3), (52, .aload_n 0, 1), (53, .getfield 38, 3), (56, .getfield 123, 3), (59, .getfield 162, 3), (62, .iload 4, 2), (64, .iaload, 1), (65, .iload 5, 2), (67, .invokevirtual 149, 3), (70, .ifCond .eq 31, 3), (73, .aload_n 0, 1), (74, .aload_n 0, 1), (75, .getfield 38, 3), (78, .getfield 123, 3), (81, .getfield 162, 3), (84, .iload 4, 2), (86, .iaload, 1), (87, .iload 5, 2), (89, .iload_n 2, 1), (90, .invokestatic 194, 3), (93, .invokevirtual 197, 3), (96, .ifCond .ne 5, 3), (99, .iconst 0, 1), (100, .ireturn, 1), (101, .iinc 3 1, 3), (104, .goto (-102), 3), (107, .iconst 1, 1), (108, .ireturn, 1)]
theorem T_cX3_amountFits : tabOK cX3_amountFits T_cX3_amountFitsL = true := by decide +kernel
def P_Judge_amountFits_101 (post : Int32 → Mem → Prop) (R2 : Int32 → Int32 → Int32 → Mem → Prop) (x1 x2 x3 : Int32) (M : Mem) : Prop :=
  R2 x1 x2 (x3 + (1 : Int32)) M
theorem k_Judge_amountFits_101 {X : FX} {g : GT} {ext : List CD} {A : Nat → Prop} {Z : State → Prop} {post : Int32 → Mem → Prop} {R2 : Int32 → Int32 → Int32 → Mem → Prop} (C : Cx X g (layC ++ ext) A cX3_amountFits 6 RX3 2) (hr : 0 ≤ X.2.2.2.1.cells ∧ 0 ≤ X.2.2.2.1.slots) (hR : RetZ X g (layC ++ ext) A cX3_amountFits 6 0 0 Z post) (k2 : ∀ (y1 y2 y3 : Int32) (M : Mem), R2 y1 y2 y3 M → At X g (layC ++ ext) A 6 0 0 Z 2 [(0, .ref (ad g 69)), (1, .int y1), (2, .int y2), (3, .int y3)] [] M) (x1 x2 x3 : Int32) (M : Mem) (h : P_Judge_amountFits_101 post R2 x1 x2 x3 M) : At X g (layC ++ ext) A 6 0 0 Z 101 [(0, .ref (ad g 69)), (1, .int x1), (2, .int x2), (3, .int x3)] [] M := by
  refine a_iinc C (1 : Int32) (tk T_cX3_amountFits 51 rfl) rfl kI_1 (by decide) rfl ?_
  refine a_goto C 2 (tk T_cX3_amountFits 52 rfl) rfl ?_
  exact a_to (k2 x1 x2 (x3 + (1 : Int32)) M h) rfl
def P_Judge_amountFits_2 (post : Int32 → Mem → Prop) : Nat → Int32 → Int32 → Int32 → Mem → Prop
  | 0, _, _, _, _ => False
  | n + 1, x1, x2, x3, M =>
    vp_in x1 6 ∧ ((M 15 x1.toNatClampNeg) ≤ x3 → (post (1 : Int32) M)) ∧
  (¬ (M 15 x1.toNatClampNeg) ≤ x3 → (∀ x4_1, x4_1 = ((x1 * (6 : Int32)) + x3) → vp_in x4_1 36 ∧ vp_in x4_1 36 ∧ P_Shelf_mustShow (fun r2 M2 =>
  (r2 = 0 → (P_Judge_amountFits_101 post (P_Judge_amountFits_2 post n) x1 x2 x3 M2)) ∧
  (¬ r2 = 0 → (vp_in x4_1 36 ∧ P_Judge_shown (fun r3 M3 =>
  P_Judge_isSeenAs (fun r4 M4 =>
  (¬ r4 = 0 → (P_Judge_amountFits_101 post (P_Judge_amountFits_2 post n) x1 x2 x3 M4)) ∧
  (r4 = 0 → (post (0 : Int32) M4))) (M2 16 x4_1.toNatClampNeg) r3 M3) (M 17 x4_1.toNatClampNeg) x2 M2))) (M 69 10) (M 16 x4_1.toNatClampNeg) (M 17 x4_1.toNatClampNeg) M))
theorem k_Judge_amountFits_2 {X : FX} {g : GT} {ext : List CD} {A : Nat → Prop} {Z : State → Prop} {post : Int32 → Mem → Prop} (C : Cx X g (layC ++ ext) A cX3_amountFits 6 RX3 2) (hr : 0 ≤ X.2.2.2.1.cells ∧ 0 ≤ X.2.2.2.1.slots) (hR : RetZ X g (layC ++ ext) A cX3_amountFits 6 0 0 Z post) : ∀ (n : Nat) (x1 x2 x3 : Int32) (M : Mem), P_Judge_amountFits_2 post n x1 x2 x3 M → At X g (layC ++ ext) A 6 0 0 Z 2 [(0, .ref (ad g 69)), (1, .int x1), (2, .int x2), (3, .int x3)] [] M := by
  intro n
  induction n with
  | zero =>
    intro x1 x2 x3 M h
    exact h.elim
  | succ n ih =>
    intro x1 x2 x3 M h
    refine a_iload_n C (tk T_cX3_amountFits 2 rfl) rfl ?_
    refine a_aload_n C (tk T_cX3_amountFits 3 rfl) rfl ?_
    refine a_getR C f_RX3_38 (tk T_cX3_amountFits 4 rfl) lc69 rfl ?_
    refine a_getR C f_RX3_123 (tk T_cX3_amountFits 5 rfl) lc1 rfl ?_
    refine a_getR C f_RX3_136 (tk T_cX3_amountFits 6 rfl) lc13 rfl ?_
    refine a_iload_n C (tk T_cX3_amountFits 7 rfl) rfl ?_
    obtain ⟨hb, h⟩ := h
    refine a_iald C (tk T_cX3_amountFits 8 rfl) lc15 hb ?_
    refine a_icmp_ge C 107 (tk T_cX3_amountFits 9 rfl) rfl (fun c => ?_) (fun c => ?_)
    · have h := h.1 c
      refine a_iconst C (1 : Int32) (tk T_cX3_amountFits 53 rfl) kI_1 ?_
      exact hR _ _ _ _ (tk T_cX3_amountFits 54 rfl) ⟨Or.inr rfl, h⟩
    · have h := h.2 c
      refine a_iload_n C (tk T_cX3_amountFits 10 rfl) rfl ?_
      refine a_bipush C (6 : Int32) (tk T_cX3_amountFits 11 rfl) kB_6 ?_
      refine a_imul C (tk T_cX3_amountFits 12 rfl) ?_
      refine a_iload_n C (tk T_cX3_amountFits 13 rfl) rfl ?_
      refine a_iadd C (tk T_cX3_amountFits 14 rfl) ?_
      refine a_top (fun x4_1 e_x4_1 => ?_)
      have h := h x4_1 e_x4_1
      refine a_istore C (tk T_cX3_amountFits 15 rfl) (by decide) rfl ?_
      refine a_aload_n C (tk T_cX3_amountFits 16 rfl) rfl ?_
      refine a_getR C f_RX3_38 (tk T_cX3_amountFits 17 rfl) lc69 rfl ?_
      refine a_getR C f_RX3_123 (tk T_cX3_amountFits 18 rfl) lc1 rfl ?_
      refine a_getR C f_RX3_146 (tk T_cX3_amountFits 19 rfl) lc13 rfl ?_
      refine a_iload C (tk T_cX3_amountFits 20 rfl) rfl ?_
      obtain ⟨hb, h⟩ := h
      refine a_iald C (tk T_cX3_amountFits 21 rfl) lc17 hb ?_
      refine a_istore C (tk T_cX3_amountFits 22 rfl) (by decide) rfl ?_
      refine a_aload_n C (tk T_cX3_amountFits 23 rfl) rfl ?_
      refine a_getR C f_RX3_38 (tk T_cX3_amountFits 24 rfl) lc69 rfl ?_
      refine a_getR C f_RX3_61 (tk T_cX3_amountFits 25 rfl) lc1 rfl ?_
      refine a_aload_n C (tk T_cX3_amountFits 26 rfl) rfl ?_
      refine a_getI C f_RX3_51 (tk T_cX3_amountFits 27 rfl) lc69 rfl ?_
      refine a_aload_n C (tk T_cX3_amountFits 28 rfl) rfl ?_
      refine a_getR C f_RX3_38 (tk T_cX3_amountFits 29 rfl) lc69 rfl ?_
      refine a_getR C f_RX3_123 (tk T_cX3_amountFits 30 rfl) lc1 rfl ?_
      refine a_getR C f_RX3_162 (tk T_cX3_amountFits 31 rfl) lc13 rfl ?_
      refine a_iload C (tk T_cX3_amountFits 32 rfl) rfl ?_
      obtain ⟨hb, h⟩ := h
      refine a_iald C (tk T_cX3_amountFits 33 rfl) lc16 hb ?_
      refine a_iload C (tk T_cX3_amountFits 34 rfl) rfl ?_
      refine a_callI C [.int (M 69 10), .int (M 16 x4_1.toNatClampNeg), .int (M 17 x4_1.toNatClampNeg)] me_yX9_mustShow lk_RX3_149 (ct_Shelf_mustShow h) (by decide) lc18 rfl rfl rfl (Nat.le_of_ble_eq_true rfl) (tk T_cX3_amountFits 35 rfl) hr (fun r2 M2 h => ?_)
      refine a_if_eq C 101 (tk T_cX3_amountFits 36 rfl) rfl (fun c => ?_) (fun c => ?_)
      · have h := h.1 c
        exact a_to (k_Judge_amountFits_101 C hr hR ih x1 x2 x3 M2 h) rfl
      · have h := h.2 c
        refine a_aload_n C (tk T_cX3_amountFits 37 rfl) rfl ?_
        refine a_aload_n C (tk T_cX3_amountFits 38 rfl) rfl ?_
        refine a_getR C f_RX3_38 (tk T_cX3_amountFits 39 rfl) lc69 rfl ?_
        refine a_getR C f_RX3_123 (tk T_cX3_amountFits 40 rfl) lc1 rfl ?_
        refine a_getR C f_RX3_162 (tk T_cX3_amountFits 41 rfl) lc13 rfl ?_
        refine a_iload C (tk T_cX3_amountFits 42 rfl) rfl ?_
        obtain ⟨hb, h⟩ := h
        refine a_iald C (tk T_cX3_amountFits 43 rfl) lc16 hb ?_
        refine a_iload C (tk T_cX3_amountFits 44 rfl) rfl ?_
        refine a_iload_n C (tk T_cX3_amountFits 45 rfl) rfl ?_
        refine a_statI C [.int (M 17 x4_1.toNatClampNeg), .int x2] me_yX3_shown lk_RX3_194 (ct_Judge_shown h) (by decide) rfl rfl (Nat.le_of_ble_eq_true rfl) (tk T_cX3_amountFits 46 rfl) hr (fun r3 M3 h => ?_)
        refine a_callI C [.int (M2 16 x4_1.toNatClampNeg), .int r3] me_yX3_isSeenAs lk_RX3_197 (ct_Judge_isSeenAs h) (by decide) lc69 rfl rfl rfl (Nat.le_of_ble_eq_true rfl) (tk T_cX3_amountFits 47 rfl) hr (fun r4 M4 h => ?_)
        refine a_if_ne C 101 (tk T_cX3_amountFits 48 rfl) rfl (fun c => ?_) (fun c => ?_)
        · have h := h.1 c
          exact a_to (k_Judge_amountFits_101 C hr hR ih x1 x2 x3 M4 h) rfl
        · have h := h.2 c
          refine a_iconst C (0 : Int32) (tk T_cX3_amountFits 49 rfl) kI_0 ?_
          exact hR _ _ _ _ (tk T_cX3_amountFits 50 rfl) ⟨Or.inl rfl, h⟩
def P_Judge_amountFits (post : Int32 → Mem → Prop) (x1 x2 : Int32) (M : Mem) : Prop :=
  ∃ j2, P_Judge_amountFits_2 post j2 x1 x2 (0 : Int32) M
theorem k_Judge_amountFits {X : FX} {g : GT} {ext : List CD} {A : Nat → Prop} {Z : State → Prop} {post : Int32 → Mem → Prop} (C : Cx X g (layC ++ ext) A cX3_amountFits 6 RX3 2) (hr : 0 ≤ X.2.2.2.1.cells ∧ 0 ≤ X.2.2.2.1.slots) (hR : RetZ X g (layC ++ ext) A cX3_amountFits 6 0 0 Z post) (x1 x2 : Int32) (M : Mem) (h : P_Judge_amountFits post x1 x2 M) : At X g (layC ++ ext) A 6 0 0 Z 0 [(0, .ref (ad g 69)), (1, .int x1), (2, .int x2)] [] M := by
  refine a_iconst C (0 : Int32) (tk T_cX3_amountFits 0 rfl) kI_0 ?_
  refine a_istore_n C (tk T_cX3_amountFits 1 rfl) (by decide) rfl ?_
  obtain ⟨n1, h⟩ := h
  exact a_to (k_Judge_amountFits_2 C hr hR n1 x1 x2 (0 : Int32) M h) rfl
theorem ct_Judge_amountFits {l : Launch} {g : GT} {ext : List CD} {post : Int32 → Mem → Prop} {x1 x2 : Int32} {M : Mem} (h : P_Judge_amountFits post x1 x2 M) : CI l g (layC ++ ext) yX3_amountFits cX3_amountFits 6 (some .boolean) 2 [.ref (ad g 69), .int x1, .int x2] M post :=
  cz_of (plainFor_of_name (by decide +kernel)) (Nat.le_of_ble_eq_true rfl) (fun X A Z hl C hr hR => by subst hl; exact k_Judge_amountFits C hr hR x1 x2 M h)
def T_cX3_countInsideL : List (Nat × Instr × Nat) := [(0, .iconst 0, 1), (1, .istore_n 2, 1), (2, .iload_n 2, 1), (3, .aload_n 0, 1), (4, .getfield 38, 3), (7, .getfield 61, 3), (10, .getfield 67, 3), (13, .if_icmp .ge 21, 3), (16, .aload_n 0, 1), (17, .getfield 18, 3), (20, .iload_n 2, 1), (21, .aload_n 0, 1), (22, .iload_n 1, 1), (23, .iload_n 2, 1), (24, .invokevirtual 158, 3), (27, .iastore, 1), (28, .iinc 2 1, 3), (31, .goto (-29), 3), (34, .return_, 1)]
theorem T_cX3_countInside : tabOK cX3_countInside T_cX3_countInsideL = true := by decide +kernel
def P_Judge_countInside_2 (post : Mem → Prop) : Nat → Int32 → Int32 → Mem → Prop
  | 0, _, _, _ => False
  | n + 1, x1, x2, M =>
    ((M 18 11) ≤ x2 → (post M)) ∧
  (¬ (M 18 11) ≤ x2 → (P_Judge_linesInside (fun r1 M1 =>
  vp_in x2 24 ∧ ∀ M2, M2 = ms M1 72 x2.toNatClampNeg r1 → P_Judge_countInside_2 post n x1 (x2 + (1 : Int32)) M2) x1 x2 M))
theorem k_Judge_countInside_2 {X : FX} {g : GT} {ext : List CD} {A : Nat → Prop} {Z : State → Prop} {post : Mem → Prop} (C : Cx X g (layC ++ ext) A cX3_countInside 3 RX3 2) (hr : 0 ≤ X.2.2.2.1.cells ∧ 0 ≤ X.2.2.2.1.slots) (hR : RetV X g (layC ++ ext) A cX3_countInside 3 0 0 Z post) : ∀ (n : Nat) (x1 x2 : Int32) (M : Mem), P_Judge_countInside_2 post n x1 x2 M → At X g (layC ++ ext) A 3 0 0 Z 2 [(0, .ref (ad g 69)), (1, .int x1), (2, .int x2)] [] M := by
  intro n
  induction n with
  | zero =>
    intro x1 x2 M h
    exact h.elim
  | succ n ih =>
    intro x1 x2 M h
    refine a_iload_n C (tk T_cX3_countInside 2 rfl) rfl ?_
    refine a_aload_n C (tk T_cX3_countInside 3 rfl) rfl ?_
    refine a_getR C f_RX3_38 (tk T_cX3_countInside 4 rfl) lc69 rfl ?_
    refine a_getR C f_RX3_61 (tk T_cX3_countInside 5 rfl) lc1 rfl ?_
    refine a_getI C f_RX3_67 (tk T_cX3_countInside 6 rfl) lc18 rfl ?_
    refine a_icmp_ge C 34 (tk T_cX3_countInside 7 rfl) rfl (fun c => ?_) (fun c => ?_)
    · have h := h.1 c
      exact hR _ _ _ (tk T_cX3_countInside 18 rfl) h
    · have h := h.2 c
      refine a_aload_n C (tk T_cX3_countInside 8 rfl) rfl ?_
      refine a_getR C f_RX3_18 (tk T_cX3_countInside 9 rfl) lc69 rfl ?_
      refine a_iload_n C (tk T_cX3_countInside 10 rfl) rfl ?_
      refine a_aload_n C (tk T_cX3_countInside 11 rfl) rfl ?_
      refine a_iload_n C (tk T_cX3_countInside 12 rfl) rfl ?_
      refine a_iload_n C (tk T_cX3_countInside 13 rfl) rfl ?_
      refine a_callI C [.int x1, .int x2] me_yX3_linesInside lk_RX3_158 (ct_Judge_linesInside h) (by decide) lc69 rfl rfl rfl (Nat.le_of_ble_eq_true rfl) (tk T_cX3_countInside 14 rfl) hr (fun r1 M1 h => ?_)
      obtain ⟨hb, h⟩ := h
      refine a_iast C (tk T_cX3_countInside 15 rfl) lc72 hb ?_
      refine a_mem (fun M2 e_M2 => ?_)
      have h := h M2 e_M2
      refine a_iinc C (1 : Int32) (tk T_cX3_countInside 16 rfl) rfl kI_1 (by decide) rfl ?_
      refine a_goto C 2 (tk T_cX3_countInside 17 rfl) rfl ?_
      exact a_to (ih x1 (x2 + (1 : Int32)) M2 h) rfl
def P_Judge_countInside (post : Mem → Prop) (x1 : Int32) (M : Mem) : Prop :=
  ∃ j2, P_Judge_countInside_2 post j2 x1 (0 : Int32) M
theorem k_Judge_countInside {X : FX} {g : GT} {ext : List CD} {A : Nat → Prop} {Z : State → Prop} {post : Mem → Prop} (C : Cx X g (layC ++ ext) A cX3_countInside 3 RX3 2) (hr : 0 ≤ X.2.2.2.1.cells ∧ 0 ≤ X.2.2.2.1.slots) (hR : RetV X g (layC ++ ext) A cX3_countInside 3 0 0 Z post) (x1 : Int32) (M : Mem) (h : P_Judge_countInside post x1 M) : At X g (layC ++ ext) A 3 0 0 Z 0 [(0, .ref (ad g 69)), (1, .int x1)] [] M := by
  refine a_iconst C (0 : Int32) (tk T_cX3_countInside 0 rfl) kI_0 ?_
  refine a_istore_n C (tk T_cX3_countInside 1 rfl) (by decide) rfl ?_
  obtain ⟨n1, h⟩ := h
  exact a_to (k_Judge_countInside_2 C hr hR n1 x1 (0 : Int32) M h) rfl
theorem ct_Judge_countInside {l : Launch} {g : GT} {ext : List CD} {post : Mem → Prop} {x1 : Int32} {M : Mem} (h : P_Judge_countInside post x1 M) : CV l g (layC ++ ext) yX3_countInside cX3_countInside 3 none 2 [.ref (ad g 69), .int x1] M post :=
  cv_of (plainFor_of_name (by decide +kernel)) (Nat.le_of_ble_eq_true rfl) (fun X A Z hl C hr hR => by subst hl; exact k_Judge_countInside C hr hR x1 M h)
def T_cX3_amountBitsL : List (Nat × Instr × Nat) := [(0, .aload_n 0, 1), (1, .aload_n 0, 1), (2, .getfield 38, 3), (5, .getfield 123, 3), (8, .iload_n 1, 1), (9, .iconst 1, 1), (10, .iload_n 2, 1), (11, .ishl, 1), (12, .ior, 1), (13, .invokevirtual 152, 3), (16, .invokevirtual 188, 3), (19, .iconst 0, 1), (20, .istore_n 3, 1), (21, .iconst 1, 1), (22, .istore 4, 2), (24, .iload 4, 2), (26, .bipush 9, 2), (28, .if_icmp .gt 26, 3), (31, .aload_n 0, 1), (32, .iload_n 2, 1), (33, .iload 4, 2), (35, .invokevirtual 191, 3), (38, .ifCond .eq 10, 3), (41, .iload_n 3, 1), (42, .iconst 1, 1), (43, .iload 4, 2), (45, .ishl, 1), (46, .ior, 1), (47, .istore_n 3, 1), (48, .iinc 4 1, 3), (51, .goto (-27), 3), (54, .iload_n 3, 1), (55, .ireturn, 1)]
theorem T_cX3_amountBits : tabOK cX3_amountBits T_cX3_amountBitsL = true := by decide +kernel
def P_Judge_amountBits_48 (post : Int32 → Mem → Prop) (R24 : Int32 → Int32 → Int32 → Mem → Prop) (x2 x3 x4 : Int32) (M : Mem) : Prop :=
  R24 x2 x3 (x4 + (1 : Int32)) M
theorem k_Judge_amountBits_48 {X : FX} {g : GT} {ext : List CD} {A : Nat → Prop} {Z : State → Prop} {post : Int32 → Mem → Prop} {R24 : Int32 → Int32 → Int32 → Mem → Prop} (C : Cx X g (layC ++ ext) A cX3_amountBits 5 RX3 3) (hr : 0 ≤ X.2.2.2.1.cells ∧ 0 ≤ X.2.2.2.1.slots) (hR : RetI X g (layC ++ ext) A cX3_amountBits 5 0 0 Z post) (k24 : ∀ (y2 y3 y4 : Int32) (M : Mem), R24 y2 y3 y4 M → At X g (layC ++ ext) A 5 0 0 Z 24 [(0, .ref (ad g 69)), (2, .int y2), (3, .int y3), (4, .int y4)] [] M) (x2 x3 x4 : Int32) (M : Mem) (h : P_Judge_amountBits_48 post R24 x2 x3 x4 M) : At X g (layC ++ ext) A 5 0 0 Z 48 [(0, .ref (ad g 69)), (2, .int x2), (3, .int x3), (4, .int x4)] [] M := by
  refine a_iinc C (1 : Int32) (tk T_cX3_amountBits 29 rfl) rfl kI_1 (by decide) rfl ?_
  refine a_goto C 24 (tk T_cX3_amountBits 30 rfl) rfl ?_
  exact a_to (k24 x2 x3 (x4 + (1 : Int32)) M h) rfl
def P_Judge_amountBits_24 (post : Int32 → Mem → Prop) : Nat → Int32 → Int32 → Int32 → Mem → Prop
  | 0, _, _, _, _ => False
  | n + 1, x2, x3, x4, M =>
    ((9 : Int32) < x4 → (post x3 M)) ∧
  (¬ (9 : Int32) < x4 → (P_Judge_amountFits (fun r1 M1 =>
  (r1 = 0 → (P_Judge_amountBits_48 post (P_Judge_amountBits_24 post n) x2 x3 x4 M1)) ∧
  (¬ r1 = 0 → (∀ x3_2, x3_2 = (x3 ||| ((1 : Int32) <<< (x4 &&& 31))) → P_Judge_amountBits_48 post (P_Judge_amountBits_24 post n) x2 x3_2 x4 M1))) x2 x4 M))
theorem k_Judge_amountBits_24 {X : FX} {g : GT} {ext : List CD} {A : Nat → Prop} {Z : State → Prop} {post : Int32 → Mem → Prop} (C : Cx X g (layC ++ ext) A cX3_amountBits 5 RX3 3) (hr : 0 ≤ X.2.2.2.1.cells ∧ 0 ≤ X.2.2.2.1.slots) (hR : RetI X g (layC ++ ext) A cX3_amountBits 5 0 0 Z post) : ∀ (n : Nat) (x2 x3 x4 : Int32) (M : Mem), P_Judge_amountBits_24 post n x2 x3 x4 M → At X g (layC ++ ext) A 5 0 0 Z 24 [(0, .ref (ad g 69)), (2, .int x2), (3, .int x3), (4, .int x4)] [] M := by
  intro n
  induction n with
  | zero =>
    intro x2 x3 x4 M h
    exact h.elim
  | succ n ih =>
    intro x2 x3 x4 M h
    refine a_iload C (tk T_cX3_amountBits 15 rfl) rfl ?_
    refine a_bipush C (9 : Int32) (tk T_cX3_amountBits 16 rfl) kB_9 ?_
    refine a_icmp_gt C 54 (tk T_cX3_amountBits 17 rfl) rfl (fun c => ?_) (fun c => ?_)
    · have h := h.1 c
      refine a_iload_n C (tk T_cX3_amountBits 31 rfl) rfl ?_
      exact hR _ _ _ _ (tk T_cX3_amountBits 32 rfl) h
    · have h := h.2 c
      refine a_aload_n C (tk T_cX3_amountBits 18 rfl) rfl ?_
      refine a_iload_n C (tk T_cX3_amountBits 19 rfl) rfl ?_
      refine a_iload C (tk T_cX3_amountBits 20 rfl) rfl ?_
      refine a_callI C [.int x2, .int x4] me_yX3_amountFits lk_RX3_191 (ct_Judge_amountFits h) (by decide) lc69 rfl rfl rfl (Nat.le_of_ble_eq_true rfl) (tk T_cX3_amountBits 21 rfl) hr (fun r1 M1 h => ?_)
      refine a_if_eq C 48 (tk T_cX3_amountBits 22 rfl) rfl (fun c => ?_) (fun c => ?_)
      · have h := h.1 c
        exact a_to (k_Judge_amountBits_48 C hr hR ih x2 x3 x4 M1 h) rfl
      · have h := h.2 c
        refine a_iload_n C (tk T_cX3_amountBits 23 rfl) rfl ?_
        refine a_iconst C (1 : Int32) (tk T_cX3_amountBits 24 rfl) kI_1 ?_
        refine a_iload C (tk T_cX3_amountBits 25 rfl) rfl ?_
        refine a_ishl C (tk T_cX3_amountBits 26 rfl) ?_
        refine a_ior C (tk T_cX3_amountBits 27 rfl) ?_
        refine a_top (fun x3_2 e_x3_2 => ?_)
        have h := h x3_2 e_x3_2
        refine a_istore_n C (tk T_cX3_amountBits 28 rfl) (by decide) rfl ?_
        exact a_to (k_Judge_amountBits_48 C hr hR ih x2 x3_2 x4 M1 h) rfl
def P_Judge_amountBits (post : Int32 → Mem → Prop) (x1 x2 : Int32) (M : Mem) : Prop :=
  P_Table_withAir (fun r1 M1 =>
  P_Judge_countInside (fun M2 =>
  ∃ j24, P_Judge_amountBits_24 post j24 x2 (0 : Int32) (1 : Int32) M2) r1 M1) (x1 ||| ((1 : Int32) <<< (x2 &&& 31))) M
theorem k_Judge_amountBits {X : FX} {g : GT} {ext : List CD} {A : Nat → Prop} {Z : State → Prop} {post : Int32 → Mem → Prop} (C : Cx X g (layC ++ ext) A cX3_amountBits 5 RX3 3) (hr : 0 ≤ X.2.2.2.1.cells ∧ 0 ≤ X.2.2.2.1.slots) (hR : RetI X g (layC ++ ext) A cX3_amountBits 5 0 0 Z post) (x1 x2 : Int32) (M : Mem) (h : P_Judge_amountBits post x1 x2 M) : At X g (layC ++ ext) A 5 0 0 Z 0 [(0, .ref (ad g 69)), (1, .int x1), (2, .int x2)] [] M := by
  refine a_aload_n C (tk T_cX3_amountBits 0 rfl) rfl ?_
  refine a_aload_n C (tk T_cX3_amountBits 1 rfl) rfl ?_
  refine a_getR C f_RX3_38 (tk T_cX3_amountBits 2 rfl) lc69 rfl ?_
  refine a_getR C f_RX3_123 (tk T_cX3_amountBits 3 rfl) lc1 rfl ?_
  refine a_iload_n C (tk T_cX3_amountBits 4 rfl) rfl ?_
  refine a_iconst C (1 : Int32) (tk T_cX3_amountBits 5 rfl) kI_1 ?_
  refine a_iload_n C (tk T_cX3_amountBits 6 rfl) rfl ?_
  refine a_ishl C (tk T_cX3_amountBits 7 rfl) ?_
  refine a_ior C (tk T_cX3_amountBits 8 rfl) ?_
  refine a_callI C [.int (x1 ||| ((1 : Int32) <<< (x2 &&& 31)))] me_yX10_withAir lk_RX3_152 (ct_Table_withAir h) (by decide) lc13 rfl rfl rfl (Nat.le_of_ble_eq_true rfl) (tk T_cX3_amountBits 9 rfl) hr (fun r1 M1 h => ?_)
  refine a_callV C [.int r1] me_yX3_countInside lk_RX3_188 (ct_Judge_countInside h) (by decide) lc69 rfl rfl rfl (Nat.le_of_ble_eq_true rfl) (tk T_cX3_amountBits 10 rfl) hr (fun M2 h => ?_)
  refine a_iconst C (0 : Int32) (tk T_cX3_amountBits 11 rfl) kI_0 ?_
  refine a_istore_n C (tk T_cX3_amountBits 12 rfl) (by decide) rfl ?_
  refine a_iconst C (1 : Int32) (tk T_cX3_amountBits 13 rfl) kI_1 ?_
  refine a_istore C (tk T_cX3_amountBits 14 rfl) (by decide) rfl ?_
  obtain ⟨n1, h⟩ := h
  exact a_to (k_Judge_amountBits_24 C hr hR n1 x2 (0 : Int32) (1 : Int32) M2 h) rfl
theorem ct_Judge_amountBits {l : Launch} {g : GT} {ext : List CD} {post : Int32 → Mem → Prop} {x1 x2 : Int32} {M : Mem} (h : P_Judge_amountBits post x1 x2 M) : CI l g (layC ++ ext) yX3_amountBits cX3_amountBits 5 (some .int) 3 [.ref (ad g 69), .int x1, .int x2] M post :=
  ci_of (plainFor_of_name (by decide +kernel)) (Nat.le_of_ble_eq_true rfl) (fun X A Z hl C hr hR => by subst hl; exact k_Judge_amountBits C hr hR x1 x2 M h)
def T_cX0_weighL : List (Nat × Instr × Nat) := [(0, .aload_n 0, 1), (1, .getfield 15, 3), (4, .getfield 23, 3), (7, .iload_n 1, 1), (8, .invokevirtual 29, 3), (11, .istore_n 2, 1), (12, .iconst 0, 1), (13, .istore_n 3, 1), (14, .iload_n 3, 1), (15, .aload_n 0, 1), (16, .getfield 15, 3), (19, .getfield 23, 3), (22, .getfield 35, 3), (25, .if_icmp .ge 36, 3), (28, .aload_n 0, 1), (29, .getfield 9, 3), (32, .iload_n 3, 1), (33, .iload_n 2, 1), (34, .iload_n 3, 1), (35, .invokestatic 39, 3), (38, .ifCond .eq 15, 3), (41, .aload_n 0, 1), (42, .getfield 19, 3), (45, .iload_n 1, 1), (46, .iload_n 3, 1), (47, .invokevirtual 43, 3), (50, .goto 4, 3), (53, .iconst 0, 1), (54, .iastore, 1), (55, .iinc 3 1, 3), (58, .goto (-44), 3), (61, .return_, 1)]
theorem T_cX0_weigh : tabOK cX0_weigh T_cX0_weighL = true := by decide +kernel
def P_Bells_weigh_54 (post : Mem → Prop) (R14 : Int32 → Int32 → Int32 → Mem → Prop) (x1 x2 x3 s1 s2 : Int32) (M : Mem) : Prop :=
  vp_in s1 6 ∧ ∀ M1, M1 = ms M 79 s1.toNatClampNeg s2 → R14 x1 x2 (x3 + (1 : Int32)) M1
theorem k_Bells_weigh_54 {X : FX} {g : GT} {ext : List CD} {A : Nat → Prop} {Z : State → Prop} {post : Mem → Prop} {R14 : Int32 → Int32 → Int32 → Mem → Prop} (C : Cx X g (layC ++ ext) A cX0_weigh 4 RX0 4) (hr : 0 ≤ X.2.2.2.1.cells ∧ 0 ≤ X.2.2.2.1.slots) (hR : RetV X g (layC ++ ext) A cX0_weigh 4 0 0 Z post) (k14 : ∀ (y1 y2 y3 : Int32) (M : Mem), R14 y1 y2 y3 M → At X g (layC ++ ext) A 4 0 0 Z 14 [(0, .ref (ad g 78)), (1, .int y1), (2, .int y2), (3, .int y3)] [] M) (x1 x2 x3 s1 s2 : Int32) (M : Mem) (h : P_Bells_weigh_54 post R14 x1 x2 x3 s1 s2 M) : At X g (layC ++ ext) A 4 0 0 Z 54 [(0, .ref (ad g 78)), (1, .int x1), (2, .int x2), (3, .int x3)] [.int s2, .int s1, .ref (ad g 79)] M := by
  obtain ⟨hb, h⟩ := h
  refine a_iast C (tk T_cX0_weigh 28 rfl) lc79 hb ?_
  refine a_mem (fun M1 e_M1 => ?_)
  have h := h M1 e_M1
  refine a_iinc C (1 : Int32) (tk T_cX0_weigh 29 rfl) rfl kI_1 (by decide) rfl ?_
  refine a_goto C 14 (tk T_cX0_weigh 30 rfl) rfl ?_
  exact a_to (k14 x1 x2 (x3 + (1 : Int32)) M1 h) rfl
def P_Bells_weigh_14 (post : Mem → Prop) : Nat → Int32 → Int32 → Int32 → Mem → Prop
  | 0, _, _, _, _ => False
  | n + 1, x1, x2, x3, M =>
    ((M 13 4) ≤ x3 → (post M)) ∧
  (¬ (M 13 4) ≤ x3 → (P_R_has (fun r1 M1 =>
  (r1 = 0 → (P_Bells_weigh_54 post (P_Bells_weigh_14 post n) x1 x2 x3 x3 (0 : Int32) M1)) ∧
  (¬ r1 = 0 → (P_Judge_amountBits (fun r2 M2 =>
  P_Bells_weigh_54 post (P_Bells_weigh_14 post n) x1 x2 x3 x3 r2 M2) x1 x3 M1))) x2 x3 M))
theorem k_Bells_weigh_14 {X : FX} {g : GT} {ext : List CD} {A : Nat → Prop} {Z : State → Prop} {post : Mem → Prop} (C : Cx X g (layC ++ ext) A cX0_weigh 4 RX0 4) (hr : 0 ≤ X.2.2.2.1.cells ∧ 0 ≤ X.2.2.2.1.slots) (hR : RetV X g (layC ++ ext) A cX0_weigh 4 0 0 Z post) : ∀ (n : Nat) (x1 x2 x3 : Int32) (M : Mem), P_Bells_weigh_14 post n x1 x2 x3 M → At X g (layC ++ ext) A 4 0 0 Z 14 [(0, .ref (ad g 78)), (1, .int x1), (2, .int x2), (3, .int x3)] [] M := by
  intro n
  induction n with
  | zero =>
    intro x1 x2 x3 M h
    exact h.elim
  | succ n ih =>
    intro x1 x2 x3 M h
    refine a_iload_n C (tk T_cX0_weigh 8 rfl) rfl ?_
    refine a_aload_n C (tk T_cX0_weigh 9 rfl) rfl ?_
    refine a_getR C f_RX0_15 (tk T_cX0_weigh 10 rfl) lc78 rfl ?_
    refine a_getR C f_RX0_23 (tk T_cX0_weigh 11 rfl) lc1 rfl ?_
    refine a_getI C f_RX0_35 (tk T_cX0_weigh 12 rfl) lc13 rfl ?_
    refine a_icmp_ge C 61 (tk T_cX0_weigh 13 rfl) rfl (fun c => ?_) (fun c => ?_)
    · have h := h.1 c
      exact hR _ _ _ (tk T_cX0_weigh 31 rfl) h
    · have h := h.2 c
      refine a_aload_n C (tk T_cX0_weigh 14 rfl) rfl ?_
      refine a_getR C f_RX0_9 (tk T_cX0_weigh 15 rfl) lc78 rfl ?_
      refine a_iload_n C (tk T_cX0_weigh 16 rfl) rfl ?_
      refine a_iload_n C (tk T_cX0_weigh 17 rfl) rfl ?_
      refine a_iload_n C (tk T_cX0_weigh 18 rfl) rfl ?_
      refine a_nestI C [.int x2, .int x3] me_yX11_has lk_RX0_39 (ct_R_has h) (by decide) rfl rfl (Nat.le_of_ble_eq_true rfl) (tk T_cX0_weigh 19 rfl) hr (fun r1 M1 h => ?_)
      refine a_if_eq C 53 (tk T_cX0_weigh 20 rfl) rfl (fun c => ?_) (fun c => ?_)
      · have h := h.1 c
        refine a_iconst C (0 : Int32) (tk T_cX0_weigh 27 rfl) kI_0 ?_
        exact a_to (k_Bells_weigh_54 C hr hR ih x1 x2 x3 x3 (0 : Int32) M1 h) rfl
      · have h := h.2 c
        refine a_aload_n C (tk T_cX0_weigh 21 rfl) rfl ?_
        refine a_getR C f_RX0_19 (tk T_cX0_weigh 22 rfl) lc78 rfl ?_
        refine a_iload_n C (tk T_cX0_weigh 23 rfl) rfl ?_
        refine a_iload_n C (tk T_cX0_weigh 24 rfl) rfl ?_
        refine a_callI C [.int x1, .int x3] me_yX3_amountBits lk_RX0_43 (ct_Judge_amountBits h) (by decide) lc69 rfl rfl rfl (Nat.le_of_ble_eq_true rfl) (tk T_cX0_weigh 25 rfl) hr (fun r2 M2 h => ?_)
        refine a_goto C 54 (tk T_cX0_weigh 26 rfl) rfl ?_
        exact a_to (k_Bells_weigh_54 C hr hR ih x1 x2 x3 x3 r2 M2 h) rfl
def P_Bells_weigh (post : Mem → Prop) (x1 : Int32) (M : Mem) : Prop :=
  P_Table_withoutAir (fun r1 M1 =>
  ∃ j14, P_Bells_weigh_14 post j14 x1 r1 (0 : Int32) M1) x1 M
theorem k_Bells_weigh {X : FX} {g : GT} {ext : List CD} {A : Nat → Prop} {Z : State → Prop} {post : Mem → Prop} (C : Cx X g (layC ++ ext) A cX0_weigh 4 RX0 4) (hr : 0 ≤ X.2.2.2.1.cells ∧ 0 ≤ X.2.2.2.1.slots) (hR : RetV X g (layC ++ ext) A cX0_weigh 4 0 0 Z post) (x1 : Int32) (M : Mem) (h : P_Bells_weigh post x1 M) : At X g (layC ++ ext) A 4 0 0 Z 0 [(0, .ref (ad g 78)), (1, .int x1)] [] M := by
  refine a_aload_n C (tk T_cX0_weigh 0 rfl) rfl ?_
  refine a_getR C f_RX0_15 (tk T_cX0_weigh 1 rfl) lc78 rfl ?_
  refine a_getR C f_RX0_23 (tk T_cX0_weigh 2 rfl) lc1 rfl ?_
  refine a_iload_n C (tk T_cX0_weigh 3 rfl) rfl ?_
  refine a_callI C [.int x1] me_yX10_withoutAir lk_RX0_29 (ct_Table_withoutAir h) (by decide) lc13 rfl rfl rfl (Nat.le_of_ble_eq_true rfl) (tk T_cX0_weigh 4 rfl) hr (fun r1 M1 h => ?_)
  refine a_istore_n C (tk T_cX0_weigh 5 rfl) (by decide) rfl ?_
  refine a_iconst C (0 : Int32) (tk T_cX0_weigh 6 rfl) kI_0 ?_
  refine a_istore_n C (tk T_cX0_weigh 7 rfl) (by decide) rfl ?_
  obtain ⟨n1, h⟩ := h
  exact a_to (k_Bells_weigh_14 C hr hR n1 x1 r1 (0 : Int32) M1 h) rfl
theorem ct_Bells_weigh {l : Launch} {g : GT} {ext : List CD} {post : Mem → Prop} {x1 : Int32} {M : Mem} (h : P_Bells_weigh post x1 M) : CV l g (layC ++ ext) yX0_weigh cX0_weigh 4 none 4 [.ref (ad g 78), .int x1] M post :=
  cv_of (plainFor_of_name (by decide +kernel)) (Nat.le_of_ble_eq_true rfl) (fun X A Z hl C hr hR => by subst hl; exact k_Bells_weigh C hr hR x1 M h)
def T_cX0_commonPartL : List (Nat × Instr × Nat) := [(0, .iload_n 0, 1), (1, .iload_n 1, 1), (2, .invokestatic 76, 3), (5, .istore_n 2, 1), (6, .iload_n 0, 1), (7, .iload_n 1, 1), (8, .invokestatic 81, 3), (11, .istore_n 3, 1), (12, .iconst 0, 1), (13, .istore 4, 2), (15, .iload 4, 2), (17, .bipush 64, 2), (19, .if_icmp .ge 23, 3), (22, .iload_n 3, 1), (23, .ifCond .eq 19, 3), (26, .iload_n 2, 1), (27, .iload_n 3, 1), (28, .irem, 1), (29, .istore 5, 2), (31, .iload_n 3, 1), (32, .istore_n 2, 1), (33, .iload 5, 2), (35, .istore_n 3, 1), (36, .iinc 4 1, 3), (39, .goto (-24), 3), (42, .iload_n 2, 1), (43, .ireturn, 1)]
theorem T_cX0_commonPart : tabOK cX0_commonPart T_cX0_commonPartL = true := by decide +kernel
def P_Bells_commonPart_42 (post : Int32 → Mem → Prop) (x2 : Int32) (M : Mem) : Prop :=
  post x2 M
theorem k_Bells_commonPart_42 {X : FX} {g : GT} {ext : List CD} {A : Nat → Prop} {Z : State → Prop} {post : Int32 → Mem → Prop} (C : Cx X g (layC ++ ext) A cX0_commonPart 6 RX0 1) (hr : 0 ≤ X.2.2.2.1.cells ∧ 0 ≤ X.2.2.2.1.slots) (hR : RetI X g (layC ++ ext) A cX0_commonPart 6 0 0 Z post) (x2 : Int32) (M : Mem) (h : P_Bells_commonPart_42 post x2 M) : At X g (layC ++ ext) A 6 0 0 Z 42 [(2, .int x2)] [] M := by
  refine a_iload_n C (tk T_cX0_commonPart 25 rfl) rfl ?_
  exact hR _ _ _ _ (tk T_cX0_commonPart 26 rfl) h
def P_Bells_commonPart_15 (post : Int32 → Mem → Prop) : Nat → Int32 → Int32 → Int32 → Mem → Prop
  | 0, _, _, _, _ => False
  | n + 1, x2, x3, x4, M =>
    ((64 : Int32) ≤ x4 → (P_Bells_commonPart_42 post x2 M)) ∧
  (¬ (64 : Int32) ≤ x4 → ((x3 = 0 → (P_Bells_commonPart_42 post x2 M)) ∧
  (¬ x3 = 0 → ((¬ x3 = 0) ∧ ∀ x5_1, x5_1 = (irm x2 x3) → P_Bells_commonPart_15 post n x3 x5_1 (x4 + (1 : Int32)) M))))
theorem k_Bells_commonPart_15 {X : FX} {g : GT} {ext : List CD} {A : Nat → Prop} {Z : State → Prop} {post : Int32 → Mem → Prop} (C : Cx X g (layC ++ ext) A cX0_commonPart 6 RX0 1) (hr : 0 ≤ X.2.2.2.1.cells ∧ 0 ≤ X.2.2.2.1.slots) (hR : RetI X g (layC ++ ext) A cX0_commonPart 6 0 0 Z post) : ∀ (n : Nat) (x2 x3 x4 : Int32) (M : Mem), P_Bells_commonPart_15 post n x2 x3 x4 M → At X g (layC ++ ext) A 6 0 0 Z 15 [(2, .int x2), (3, .int x3), (4, .int x4)] [] M := by
  intro n
  induction n with
  | zero =>
    intro x2 x3 x4 M h
    exact h.elim
  | succ n ih =>
    intro x2 x3 x4 M h
    refine a_iload C (tk T_cX0_commonPart 10 rfl) rfl ?_
    refine a_bipush C (64 : Int32) (tk T_cX0_commonPart 11 rfl) kB_64 ?_
    refine a_icmp_ge C 42 (tk T_cX0_commonPart 12 rfl) rfl (fun c => ?_) (fun c => ?_)
    · have h := h.1 c
      exact a_to (k_Bells_commonPart_42 C hr hR x2 M h) rfl
    · have h := h.2 c
      refine a_iload_n C (tk T_cX0_commonPart 13 rfl) rfl ?_
      refine a_if_eq C 42 (tk T_cX0_commonPart 14 rfl) rfl (fun c => ?_) (fun c => ?_)
      · have h := h.1 c
        exact a_to (k_Bells_commonPart_42 C hr hR x2 M h) rfl
      · have h := h.2 c
        refine a_iload_n C (tk T_cX0_commonPart 15 rfl) rfl ?_
        refine a_iload_n C (tk T_cX0_commonPart 16 rfl) rfl ?_
        obtain ⟨hy, h⟩ := h
        refine a_irem C (tk T_cX0_commonPart 17 rfl) hy ?_
        refine a_top (fun x5_1 e_x5_1 => ?_)
        have h := h x5_1 e_x5_1
        refine a_istore C (tk T_cX0_commonPart 18 rfl) (by decide) rfl ?_
        refine a_iload_n C (tk T_cX0_commonPart 19 rfl) rfl ?_
        refine a_istore_n C (tk T_cX0_commonPart 20 rfl) (by decide) rfl ?_
        refine a_iload C (tk T_cX0_commonPart 21 rfl) rfl ?_
        refine a_istore_n C (tk T_cX0_commonPart 22 rfl) (by decide) rfl ?_
        refine a_iinc C (1 : Int32) (tk T_cX0_commonPart 23 rfl) rfl kI_1 (by decide) rfl ?_
        refine a_goto C 15 (tk T_cX0_commonPart 24 rfl) rfl ?_
        exact a_to (ih x3 x5_1 (x4 + (1 : Int32)) M h) rfl
def P_Bells_commonPart (post : Int32 → Mem → Prop) (x0 x1 : Int32) (M : Mem) : Prop :=
  P_Math_max (fun r1 M1 =>
  P_Math_min (fun r2 M2 =>
  ∃ j15, P_Bells_commonPart_15 post j15 r1 r2 (0 : Int32) M2) x0 x1 M1) x0 x1 M
theorem k_Bells_commonPart {X : FX} {g : GT} {ext : List CD} {A : Nat → Prop} {Z : State → Prop} {post : Int32 → Mem → Prop} (C : Cx X g (layC ++ ext) A cX0_commonPart 6 RX0 1) (hr : 0 ≤ X.2.2.2.1.cells ∧ 0 ≤ X.2.2.2.1.slots) (hR : RetI X g (layC ++ ext) A cX0_commonPart 6 0 0 Z post) (x0 x1 : Int32) (M : Mem) (h : P_Bells_commonPart post x0 x1 M) : At X g (layC ++ ext) A 6 0 0 Z 0 [(0, .int x0), (1, .int x1)] [] M := by
  refine a_iload_n C (tk T_cX0_commonPart 0 rfl) rfl ?_
  refine a_iload_n C (tk T_cX0_commonPart 1 rfl) rfl ?_
  refine a_statI C [.int x0, .int x1] me_yJ9_max_7cf53 lk_RX0_76 (ct_Math_max h) (by decide) rfl rfl (Nat.le_of_ble_eq_true rfl) (tk T_cX0_commonPart 2 rfl) hr (fun r1 M1 h => ?_)
  refine a_istore_n C (tk T_cX0_commonPart 3 rfl) (by decide) rfl ?_
  refine a_iload_n C (tk T_cX0_commonPart 4 rfl) rfl ?_
  refine a_iload_n C (tk T_cX0_commonPart 5 rfl) rfl ?_
  refine a_statI C [.int x0, .int x1] me_yJ9_min_7cf53 lk_RX0_81 (ct_Math_min h) (by decide) rfl rfl (Nat.le_of_ble_eq_true rfl) (tk T_cX0_commonPart 6 rfl) hr (fun r2 M2 h => ?_)
  refine a_istore_n C (tk T_cX0_commonPart 7 rfl) (by decide) rfl ?_
  refine a_iconst C (0 : Int32) (tk T_cX0_commonPart 8 rfl) kI_0 ?_
  refine a_istore C (tk T_cX0_commonPart 9 rfl) (by decide) rfl ?_
  obtain ⟨n1, h⟩ := h
  exact a_to (k_Bells_commonPart_15 C hr hR n1 r1 r2 (0 : Int32) M2 h) rfl
theorem ct_Bells_commonPart {l : Launch} {g : GT} {ext : List CD} {post : Int32 → Mem → Prop} {x0 x1 : Int32} {M : Mem} (h : P_Bells_commonPart post x0 x1 M) : CI l g (layC ++ ext) yX0_commonPart cX0_commonPart 6 (some .int) 1 [.int x0, .int x1] M post :=
  ci_of (plainFor_of_name (by decide +kernel)) (Nat.le_of_ble_eq_true rfl) (fun X A Z hl C hr hR => by subst hl; exact k_Bells_commonPart C hr hR x0 x1 M h)
def T_cX0_amountsFromToL : List (Nat × Instr × Nat) := [(0, .iconst 0, 1), (1, .istore_n 2, 1), (2, .iload_n 0, 1), (3, .istore_n 3, 1), (4, .iload_n 3, 1), (5, .iload_n 1, 1), (6, .if_icmp .gt 21, 3), (9, .iload_n 3, 1), (10, .bipush 9, 2), (12, .if_icmp .gt 15, 3), (15, .iload_n 2, 1), (16, .iconst 1, 1), (17, .iload_n 3, 1), (18, .ishl, 1), (19, .ior, 1), (20, .istore_n 2, 1), (21, .iinc 3 1, 3), (24, .goto (-20), 3), (27, .iload_n 2, 1), (28, .ireturn, 1)]
theorem T_cX0_amountsFromTo : tabOK cX0_amountsFromTo T_cX0_amountsFromToL = true := by decide +kernel
def P_Bells_amountsFromTo_27 (post : Int32 → Mem → Prop) (x2 : Int32) (M : Mem) : Prop :=
  post x2 M
theorem k_Bells_amountsFromTo_27 {X : FX} {g : GT} {ext : List CD} {A : Nat → Prop} {Z : State → Prop} {post : Int32 → Mem → Prop} (C : Cx X g (layC ++ ext) A cX0_amountsFromTo 4 RX0 0) (hr : 0 ≤ X.2.2.2.1.cells ∧ 0 ≤ X.2.2.2.1.slots) (hR : RetI X g (layC ++ ext) A cX0_amountsFromTo 4 0 0 Z post) (x2 : Int32) (M : Mem) (h : P_Bells_amountsFromTo_27 post x2 M) : At X g (layC ++ ext) A 4 0 0 Z 27 [(2, .int x2)] [] M := by
  refine a_iload_n C (tk T_cX0_amountsFromTo 18 rfl) rfl ?_
  exact hR _ _ _ _ (tk T_cX0_amountsFromTo 19 rfl) h
def P_Bells_amountsFromTo_4 (post : Int32 → Mem → Prop) : Nat → Int32 → Int32 → Int32 → Mem → Prop
  | 0, _, _, _, _ => False
  | n + 1, x1, x2, x3, M =>
    (x1 < x3 → (P_Bells_amountsFromTo_27 post x2 M)) ∧
  (¬ x1 < x3 → (((9 : Int32) < x3 → (P_Bells_amountsFromTo_27 post x2 M)) ∧
  (¬ (9 : Int32) < x3 → (∀ x2_1, x2_1 = (x2 ||| ((1 : Int32) <<< (x3 &&& 31))) → P_Bells_amountsFromTo_4 post n x1 x2_1 (x3 + (1 : Int32)) M))))
theorem k_Bells_amountsFromTo_4 {X : FX} {g : GT} {ext : List CD} {A : Nat → Prop} {Z : State → Prop} {post : Int32 → Mem → Prop} (C : Cx X g (layC ++ ext) A cX0_amountsFromTo 4 RX0 0) (hr : 0 ≤ X.2.2.2.1.cells ∧ 0 ≤ X.2.2.2.1.slots) (hR : RetI X g (layC ++ ext) A cX0_amountsFromTo 4 0 0 Z post) : ∀ (n : Nat) (x1 x2 x3 : Int32) (M : Mem), P_Bells_amountsFromTo_4 post n x1 x2 x3 M → At X g (layC ++ ext) A 4 0 0 Z 4 [(1, .int x1), (2, .int x2), (3, .int x3)] [] M := by
  intro n
  induction n with
  | zero =>
    intro x1 x2 x3 M h
    exact h.elim
  | succ n ih =>
    intro x1 x2 x3 M h
    refine a_iload_n C (tk T_cX0_amountsFromTo 4 rfl) rfl ?_
    refine a_iload_n C (tk T_cX0_amountsFromTo 5 rfl) rfl ?_
    refine a_icmp_gt C 27 (tk T_cX0_amountsFromTo 6 rfl) rfl (fun c => ?_) (fun c => ?_)
    · have h := h.1 c
      exact a_to (k_Bells_amountsFromTo_27 C hr hR x2 M h) rfl
    · have h := h.2 c
      refine a_iload_n C (tk T_cX0_amountsFromTo 7 rfl) rfl ?_
      refine a_bipush C (9 : Int32) (tk T_cX0_amountsFromTo 8 rfl) kB_9 ?_
      refine a_icmp_gt C 27 (tk T_cX0_amountsFromTo 9 rfl) rfl (fun c => ?_) (fun c => ?_)
      · have h := h.1 c
        exact a_to (k_Bells_amountsFromTo_27 C hr hR x2 M h) rfl
      · have h := h.2 c
        refine a_iload_n C (tk T_cX0_amountsFromTo 10 rfl) rfl ?_
        refine a_iconst C (1 : Int32) (tk T_cX0_amountsFromTo 11 rfl) kI_1 ?_
        refine a_iload_n C (tk T_cX0_amountsFromTo 12 rfl) rfl ?_
        refine a_ishl C (tk T_cX0_amountsFromTo 13 rfl) ?_
        refine a_ior C (tk T_cX0_amountsFromTo 14 rfl) ?_
        refine a_top (fun x2_1 e_x2_1 => ?_)
        have h := h x2_1 e_x2_1
        refine a_istore_n C (tk T_cX0_amountsFromTo 15 rfl) (by decide) rfl ?_
        refine a_iinc C (1 : Int32) (tk T_cX0_amountsFromTo 16 rfl) rfl kI_1 (by decide) rfl ?_
        refine a_goto C 4 (tk T_cX0_amountsFromTo 17 rfl) rfl ?_
        exact a_to (ih x1 x2_1 (x3 + (1 : Int32)) M h) rfl
def P_Bells_amountsFromTo (post : Int32 → Mem → Prop) (x0 x1 : Int32) (M : Mem) : Prop :=
  ∃ j4, P_Bells_amountsFromTo_4 post j4 x1 (0 : Int32) x0 M
theorem k_Bells_amountsFromTo {X : FX} {g : GT} {ext : List CD} {A : Nat → Prop} {Z : State → Prop} {post : Int32 → Mem → Prop} (C : Cx X g (layC ++ ext) A cX0_amountsFromTo 4 RX0 0) (hr : 0 ≤ X.2.2.2.1.cells ∧ 0 ≤ X.2.2.2.1.slots) (hR : RetI X g (layC ++ ext) A cX0_amountsFromTo 4 0 0 Z post) (x0 x1 : Int32) (M : Mem) (h : P_Bells_amountsFromTo post x0 x1 M) : At X g (layC ++ ext) A 4 0 0 Z 0 [(0, .int x0), (1, .int x1)] [] M := by
  refine a_iconst C (0 : Int32) (tk T_cX0_amountsFromTo 0 rfl) kI_0 ?_
  refine a_istore_n C (tk T_cX0_amountsFromTo 1 rfl) (by decide) rfl ?_
  refine a_iload_n C (tk T_cX0_amountsFromTo 2 rfl) rfl ?_
  refine a_istore_n C (tk T_cX0_amountsFromTo 3 rfl) (by decide) rfl ?_
  obtain ⟨n1, h⟩ := h
  exact a_to (k_Bells_amountsFromTo_4 C hr hR n1 x1 (0 : Int32) x0 M h) rfl
theorem ct_Bells_amountsFromTo {l : Launch} {g : GT} {ext : List CD} {post : Int32 → Mem → Prop} {x0 x1 : Int32} {M : Mem} (h : P_Bells_amountsFromTo post x0 x1 M) : CI l g (layC ++ ext) yX0_amountsFromTo cX0_amountsFromTo 4 (some .int) 0 [.int x0, .int x1] M post :=
  ci_of (plainFor_of_name (by decide +kernel)) (Nat.le_of_ble_eq_true rfl) (fun X A Z hl C hr hR => by subst hl; exact k_Bells_amountsFromTo C hr hR x0 x1 M h)
def T_cX0_reckonL : List (Nat × Instr × Nat) := [(0, .aload_n 0, 1), (1, .getfield 15, 3), (4, .getfield 23, 3), (7, .iload_n 1, 1), (8, .invokevirtual 29, 3), (11, .istore_n 3, 1), (12, .aload_n 0, 1), (13, .iconst 1, 1), (14, .putfield 49, 3), (17, .aload_n 0, 1), (18, .iconst 1, 1), (19, .putfield 52, 3), (22, .iconst 0, 1), (23, .istore 4, 2), (25, .iload 4, 2), (27, .aload_n 0, 1), (28, .getfield 15, 3), (31, .getfield 23, 3), (34, .getfield 35, 3), (37, .if_icmp .ge 130, 3), (40, .iload_n 2, 1), (41, .bipush 6, 2), (43, .imul, 1), (44, .iload 4, 2), (46, .iadd, 1), (47, .istore 5, 2), (49, .iload_n 3, 1), (50, .iload 4, 2), (52, .invokestatic 39, 3), (55, .ifCond .eq 72, 3), (58, .aload_n 0, 1), (59, .getfield 9, 3), (62, .iload 4, 2), (64, .iaload, 1), (65, .aload_n 0, 1), (66, .getfield 15, 3), (69, .getfield 55, 3), (72, .iload 5, 2), (74, .iaload, 1), (75, .aload_n 0, 1), (76, .getfield 15, 3), (79, .getfield 58, 3), (82, .iload 5, 2), (84, .iaload, 1), (85, .invokestatic 61, 3), (88, .iand, 1), (89, .istore 6, 2), (91, .aload_n 0, 1), (92, .dup, 1), (93, .getfield 49, 3), (96, .iload 6, 2), (98, .invokestatic 64, 3), (101, .imul, 1), (102, .putfield 49, 3), (105, .aload_n 0, 1), (106, .dup, 1), (107, .getfield 52, 3), (110, .aload_n 0, 1), (111, .getfield 9, 3), (114, .iload 4, 2), (116, .iaload, 1), (117, .invokestatic 64, 3), (120, .imul, 1), (121, .putfield 52, 3), (124, .goto 37, 3), (127, .aload_n 0, 1), (128, .getfield 15, 3), (131, .getfield 23, 3), (134, .getfield 69, 3), (137, .iload 4, 2), (139, .baload, 1), (140, .ifCond .ne 21, 3), (143, .aload_n 0, 1), (144, .getfield 15, 3), (147, .getfield 55, 3), (150, .iload 5, 2), (152, .iaload, 1), (153, .ifCond .le 8, 3), (156, .aload_n 0, 1), (157, .iconst 0, 1), (158, .putfield 49, 3), (161, .iinc 4 1, 3), (164, .goto (-139), 3), (167, .aload_n 0, 1), (168, .getfield 49, 3), (171, .aload_n 0, 1), (172, .getfield 52, 3), (175, .invokestatic 73, 3), (178, .istore 4, 2), (180, .aload_n 0, 1), (181, .getfield 49, 3), (184, .ifCond .eq 8, 3), (187, .iload 4, 2), (189, .ifCond .ne 14, 3), (192, .aload_n 0, 1), (193, .iconst 0, 1), (194, .putfield 49, 3), (197, .aload_n 0, 1), (198, .iconst 1, 1), (199, .putfield 52, 3), (202, .return_, 1), (203, .aload_n 0, 1), (204, .dup, 1), (205, .getfield 49, 3), (208, .iload 4, 2), (210, .idiv, 1), (211, .putfield 49, 3), (214, .aload_n 0, 1), (215, .dup, 1), (216, .getfield 52, 3), (219, .iload 4, 2), (221, .idiv, 1), (222, .putfield 52, 3), (225, .return_, 1)]
theorem T_cX0_reckon : tabOK cX0_reckon T_cX0_reckonL = true := by decide +kernel
def P_Bells_reckon_192 (post : Mem → Prop) (M : Mem) : Prop :=
  ∀ M1, M1 = ms M 78 3 (0 : Int32) → ∀ M2, M2 = ms M1 78 4 (1 : Int32) → post M2
theorem k_Bells_reckon_192 {X : FX} {g : GT} {ext : List CD} {A : Nat → Prop} {Z : State → Prop} {post : Mem → Prop} (C : Cx X g (layC ++ ext) A cX0_reckon 7 RX0 2) (hr : 0 ≤ X.2.2.2.1.cells ∧ 0 ≤ X.2.2.2.1.slots) (hR : RetV X g (layC ++ ext) A cX0_reckon 7 0 0 Z post)  (M : Mem) (h : P_Bells_reckon_192 post M) : At X g (layC ++ ext) A 7 0 0 Z 192 [(0, .ref (ad g 78))] [] M := by
  refine a_aload_n C (tk T_cX0_reckon 94 rfl) rfl ?_
  refine a_iconst C (0 : Int32) (tk T_cX0_reckon 95 rfl) kI_0 ?_
  refine a_put C f_RX0_49 f_RX0_49p rfl rfl (tk T_cX0_reckon 96 rfl) lc78 rfl ?_
  refine a_mem (fun M1 e_M1 => ?_)
  have h := h M1 e_M1
  refine a_aload_n C (tk T_cX0_reckon 97 rfl) rfl ?_
  refine a_iconst C (1 : Int32) (tk T_cX0_reckon 98 rfl) kI_1 ?_
  refine a_put C f_RX0_52 f_RX0_52p rfl rfl (tk T_cX0_reckon 99 rfl) lc78 rfl ?_
  refine a_mem (fun M2 e_M2 => ?_)
  have h := h M2 e_M2
  exact hR _ _ _ (tk T_cX0_reckon 100 rfl) h
def P_Bells_reckon_161 (post : Mem → Prop) (R25 : Int32 → Int32 → Int32 → Mem → Prop) (x2 x3 x4 : Int32) (M : Mem) : Prop :=
  R25 x2 x3 (x4 + (1 : Int32)) M
theorem k_Bells_reckon_161 {X : FX} {g : GT} {ext : List CD} {A : Nat → Prop} {Z : State → Prop} {post : Mem → Prop} {R25 : Int32 → Int32 → Int32 → Mem → Prop} (C : Cx X g (layC ++ ext) A cX0_reckon 7 RX0 2) (hr : 0 ≤ X.2.2.2.1.cells ∧ 0 ≤ X.2.2.2.1.slots) (hR : RetV X g (layC ++ ext) A cX0_reckon 7 0 0 Z post) (k25 : ∀ (y2 y3 y4 : Int32) (M : Mem), R25 y2 y3 y4 M → At X g (layC ++ ext) A 7 0 0 Z 25 [(0, .ref (ad g 78)), (2, .int y2), (3, .int y3), (4, .int y4)] [] M) (x2 x3 x4 : Int32) (M : Mem) (h : P_Bells_reckon_161 post R25 x2 x3 x4 M) : At X g (layC ++ ext) A 7 0 0 Z 161 [(0, .ref (ad g 78)), (2, .int x2), (3, .int x3), (4, .int x4)] [] M := by
  refine a_iinc C (1 : Int32) (tk T_cX0_reckon 81 rfl) rfl kI_1 (by decide) rfl ?_
  refine a_goto C 25 (tk T_cX0_reckon 82 rfl) rfl ?_
  exact a_to (k25 x2 x3 (x4 + (1 : Int32)) M h) rfl
def P_Bells_reckon_25 (post : Mem → Prop) : Nat → Int32 → Int32 → Int32 → Mem → Prop
  | 0, _, _, _, _ => False
  | n + 1, x2, x3, x4, M =>
    ((M 13 4) ≤ x4 → (P_Bells_commonPart (fun r1 M1 =>
  ((M1 78 3) = 0 → (P_Bells_reckon_192 post M1)) ∧
  (¬ (M1 78 3) = 0 → ((¬ r1 = 0 → ((¬ r1 = 0) ∧ ∀ M2, M2 = ms M1 78 3 ((M1 78 3) / r1) → (¬ r1 = 0) ∧ ∀ M3, M3 = ms M2 78 4 ((M2 78 4) / r1) → post M3)) ∧
  (r1 = 0 → (P_Bells_reckon_192 post M1))))) (M 78 3) (M 78 4) M)) ∧
  (¬ (M 13 4) ≤ x4 → (∀ x5_4, x5_4 = ((x2 * (6 : Int32)) + x4) → P_R_has (fun r5 M5 =>
  (r5 = 0 → (vp_in x4 6 ∧ (¬ (M5 14 x4.toNatClampNeg) = 0 → (P_Bells_reckon_161 post (P_Bells_reckon_25 post n) x2 x3 x4 M5)) ∧
  ((M5 14 x4.toNatClampNeg) = 0 → (vp_in x5_4 24 ∧ ((M5 29 x5_4.toNatClampNeg) ≤ 0 → (P_Bells_reckon_161 post (P_Bells_reckon_25 post n) x2 x3 x4 M5)) ∧
  (¬ (M5 29 x5_4.toNatClampNeg) ≤ 0 → (∀ M6, M6 = ms M5 78 3 (0 : Int32) → P_Bells_reckon_161 post (P_Bells_reckon_25 post n) x2 x3 x4 M6)))))) ∧
  (¬ r5 = 0 → (vp_in x4 6 ∧ vp_in x5_4 24 ∧ vp_in x5_4 24 ∧ P_Bells_amountsFromTo (fun r7 M7 =>
  ∀ x6_8, x6_8 = ((M5 79 x4.toNatClampNeg) &&& r7) → P_Integer_bitCount (fun r9 M9 =>
  ∀ M10, M10 = ms M9 78 3 ((M7 78 3) * r9) → vp_in x4 6 ∧ P_Integer_bitCount (fun r11 M11 =>
  ∀ M12, M12 = ms M11 78 4 ((M10 78 4) * r11) → P_Bells_reckon_161 post (P_Bells_reckon_25 post n) x2 x3 x4 M12) (M10 79 x4.toNatClampNeg) M10) x6_8 M7) (M5 29 x5_4.toNatClampNeg) (M5 30 x5_4.toNatClampNeg) M5))) x3 x4 M))
theorem k_Bells_reckon_25 {X : FX} {g : GT} {ext : List CD} {A : Nat → Prop} {Z : State → Prop} {post : Mem → Prop} (C : Cx X g (layC ++ ext) A cX0_reckon 7 RX0 2) (hr : 0 ≤ X.2.2.2.1.cells ∧ 0 ≤ X.2.2.2.1.slots) (hR : RetV X g (layC ++ ext) A cX0_reckon 7 0 0 Z post) : ∀ (n : Nat) (x2 x3 x4 : Int32) (M : Mem), P_Bells_reckon_25 post n x2 x3 x4 M → At X g (layC ++ ext) A 7 0 0 Z 25 [(0, .ref (ad g 78)), (2, .int x2), (3, .int x3), (4, .int x4)] [] M := by
  intro n
  induction n with
  | zero =>
    intro x2 x3 x4 M h
    exact h.elim
  | succ n ih =>
    intro x2 x3 x4 M h
    refine a_iload C (tk T_cX0_reckon 14 rfl) rfl ?_
    refine a_aload_n C (tk T_cX0_reckon 15 rfl) rfl ?_
    refine a_getR C f_RX0_15 (tk T_cX0_reckon 16 rfl) lc78 rfl ?_
    refine a_getR C f_RX0_23 (tk T_cX0_reckon 17 rfl) lc1 rfl ?_
    refine a_getI C f_RX0_35 (tk T_cX0_reckon 18 rfl) lc13 rfl ?_
    refine a_icmp_ge C 167 (tk T_cX0_reckon 19 rfl) rfl (fun c => ?_) (fun c => ?_)
    · have h := h.1 c
      refine a_aload_n C (tk T_cX0_reckon 83 rfl) rfl ?_
      refine a_getI C f_RX0_49 (tk T_cX0_reckon 84 rfl) lc78 rfl ?_
      refine a_aload_n C (tk T_cX0_reckon 85 rfl) rfl ?_
      refine a_getI C f_RX0_52 (tk T_cX0_reckon 86 rfl) lc78 rfl ?_
      refine a_statI C [.int (M 78 3), .int (M 78 4)] me_yX0_commonPart lk_RX0_73 (ct_Bells_commonPart h) (by decide) rfl rfl (Nat.le_of_ble_eq_true rfl) (tk T_cX0_reckon 87 rfl) hr (fun r1 M1 h => ?_)
      refine a_istore C (tk T_cX0_reckon 88 rfl) (by decide) rfl ?_
      refine a_aload_n C (tk T_cX0_reckon 89 rfl) rfl ?_
      refine a_getI C f_RX0_49 (tk T_cX0_reckon 90 rfl) lc78 rfl ?_
      refine a_if_eq C 192 (tk T_cX0_reckon 91 rfl) rfl (fun c => ?_) (fun c => ?_)
      · have h := h.1 c
        exact a_to (k_Bells_reckon_192 C hr hR M1 h) rfl
      · have h := h.2 c
        refine a_iload C (tk T_cX0_reckon 92 rfl) rfl ?_
        refine a_if_ne C 203 (tk T_cX0_reckon 93 rfl) rfl (fun c => ?_) (fun c => ?_)
        · have h := h.1 c
          refine a_aload_n C (tk T_cX0_reckon 101 rfl) rfl ?_
          refine a_dupr C (tk T_cX0_reckon 102 rfl) ?_
          refine a_getI C f_RX0_49 (tk T_cX0_reckon 103 rfl) lc78 rfl ?_
          refine a_iload C (tk T_cX0_reckon 104 rfl) rfl ?_
          obtain ⟨hy, h⟩ := h
          refine a_idiv C (tk T_cX0_reckon 105 rfl) hy ?_
          refine a_put C f_RX0_49 f_RX0_49p rfl rfl (tk T_cX0_reckon 106 rfl) lc78 rfl ?_
          refine a_mem (fun M2 e_M2 => ?_)
          have h := h M2 e_M2
          refine a_aload_n C (tk T_cX0_reckon 107 rfl) rfl ?_
          refine a_dupr C (tk T_cX0_reckon 108 rfl) ?_
          refine a_getI C f_RX0_52 (tk T_cX0_reckon 109 rfl) lc78 rfl ?_
          refine a_iload C (tk T_cX0_reckon 110 rfl) rfl ?_
          obtain ⟨hy, h⟩ := h
          refine a_idiv C (tk T_cX0_reckon 111 rfl) hy ?_
          refine a_put C f_RX0_52 f_RX0_52p rfl rfl (tk T_cX0_reckon 112 rfl) lc78 rfl ?_
          refine a_mem (fun M3 e_M3 => ?_)
          have h := h M3 e_M3
          exact hR _ _ _ (tk T_cX0_reckon 113 rfl) h
        · have h := h.2 c
          exact a_to (k_Bells_reckon_192 C hr hR M1 h) rfl
    · have h := h.2 c
      refine a_iload_n C (tk T_cX0_reckon 20 rfl) rfl ?_
      refine a_bipush C (6 : Int32) (tk T_cX0_reckon 21 rfl) kB_6 ?_
      refine a_imul C (tk T_cX0_reckon 22 rfl) ?_
      refine a_iload C (tk T_cX0_reckon 23 rfl) rfl ?_
      refine a_iadd C (tk T_cX0_reckon 24 rfl) ?_
      refine a_top (fun x5_4 e_x5_4 => ?_)
      have h := h x5_4 e_x5_4
      refine a_istore C (tk T_cX0_reckon 25 rfl) (by decide) rfl ?_
      refine a_iload_n C (tk T_cX0_reckon 26 rfl) rfl ?_
      refine a_iload C (tk T_cX0_reckon 27 rfl) rfl ?_
      refine a_nestI C [.int x3, .int x4] me_yX11_has lk_RX0_39 (ct_R_has h) (by decide) rfl rfl (Nat.le_of_ble_eq_true rfl) (tk T_cX0_reckon 28 rfl) hr (fun r5 M5 h => ?_)
      refine a_if_eq C 127 (tk T_cX0_reckon 29 rfl) rfl (fun c => ?_) (fun c => ?_)
      · have h := h.1 c
        refine a_aload_n C (tk T_cX0_reckon 65 rfl) rfl ?_
        refine a_getR C f_RX0_15 (tk T_cX0_reckon 66 rfl) lc78 rfl ?_
        refine a_getR C f_RX0_23 (tk T_cX0_reckon 67 rfl) lc1 rfl ?_
        refine a_getR C f_RX0_69 (tk T_cX0_reckon 68 rfl) lc13 rfl ?_
        refine a_iload C (tk T_cX0_reckon 69 rfl) rfl ?_
        obtain ⟨hb, h⟩ := h
        refine a_zald C (tk T_cX0_reckon 70 rfl) lc14 hb ?_
        refine a_if_ne C 161 (tk T_cX0_reckon 71 rfl) rfl (fun c => ?_) (fun c => ?_)
        · have h := h.1 c
          exact a_to (k_Bells_reckon_161 C hr hR ih x2 x3 x4 M5 h) rfl
        · have h := h.2 c
          refine a_aload_n C (tk T_cX0_reckon 72 rfl) rfl ?_
          refine a_getR C f_RX0_15 (tk T_cX0_reckon 73 rfl) lc78 rfl ?_
          refine a_getR C f_RX0_55 (tk T_cX0_reckon 74 rfl) lc1 rfl ?_
          refine a_iload C (tk T_cX0_reckon 75 rfl) rfl ?_
          obtain ⟨hb, h⟩ := h
          refine a_iald C (tk T_cX0_reckon 76 rfl) lc29 hb ?_
          refine a_if_le C 161 (tk T_cX0_reckon 77 rfl) rfl (fun c => ?_) (fun c => ?_)
          · have h := h.1 c
            exact a_to (k_Bells_reckon_161 C hr hR ih x2 x3 x4 M5 h) rfl
          · have h := h.2 c
            refine a_aload_n C (tk T_cX0_reckon 78 rfl) rfl ?_
            refine a_iconst C (0 : Int32) (tk T_cX0_reckon 79 rfl) kI_0 ?_
            refine a_put C f_RX0_49 f_RX0_49p rfl rfl (tk T_cX0_reckon 80 rfl) lc78 rfl ?_
            refine a_mem (fun M6 e_M6 => ?_)
            have h := h M6 e_M6
            exact a_to (k_Bells_reckon_161 C hr hR ih x2 x3 x4 M6 h) rfl
      · have h := h.2 c
        refine a_aload_n C (tk T_cX0_reckon 30 rfl) rfl ?_
        refine a_getR C f_RX0_9 (tk T_cX0_reckon 31 rfl) lc78 rfl ?_
        refine a_iload C (tk T_cX0_reckon 32 rfl) rfl ?_
        obtain ⟨hb, h⟩ := h
        refine a_iald C (tk T_cX0_reckon 33 rfl) lc79 hb ?_
        refine a_aload_n C (tk T_cX0_reckon 34 rfl) rfl ?_
        refine a_getR C f_RX0_15 (tk T_cX0_reckon 35 rfl) lc78 rfl ?_
        refine a_getR C f_RX0_55 (tk T_cX0_reckon 36 rfl) lc1 rfl ?_
        refine a_iload C (tk T_cX0_reckon 37 rfl) rfl ?_
        obtain ⟨hb, h⟩ := h
        refine a_iald C (tk T_cX0_reckon 38 rfl) lc29 hb ?_
        refine a_aload_n C (tk T_cX0_reckon 39 rfl) rfl ?_
        refine a_getR C f_RX0_15 (tk T_cX0_reckon 40 rfl) lc78 rfl ?_
        refine a_getR C f_RX0_58 (tk T_cX0_reckon 41 rfl) lc1 rfl ?_
        refine a_iload C (tk T_cX0_reckon 42 rfl) rfl ?_
        obtain ⟨hb, h⟩ := h
        refine a_iald C (tk T_cX0_reckon 43 rfl) lc30 hb ?_
        refine a_statI C [.int (M5 29 x5_4.toNatClampNeg), .int (M5 30 x5_4.toNatClampNeg)] me_yX0_amountsFromTo lk_RX0_61 (ct_Bells_amountsFromTo h) (by decide) rfl rfl (Nat.le_of_ble_eq_true rfl) (tk T_cX0_reckon 44 rfl) hr (fun r7 M7 h => ?_)
        refine a_iand C (tk T_cX0_reckon 45 rfl) ?_
        refine a_top (fun x6_8 e_x6_8 => ?_)
        have h := h x6_8 e_x6_8
        refine a_istore C (tk T_cX0_reckon 46 rfl) (by decide) rfl ?_
        refine a_aload_n C (tk T_cX0_reckon 47 rfl) rfl ?_
        refine a_dupr C (tk T_cX0_reckon 48 rfl) ?_
        refine a_getI C f_RX0_49 (tk T_cX0_reckon 49 rfl) lc78 rfl ?_
        refine a_iload C (tk T_cX0_reckon 50 rfl) rfl ?_
        refine a_statI C [.int x6_8] me_yJ6_bitCount_0f7a4 lk_RX0_64 (ct_Integer_bitCount h) (by decide) rfl rfl (Nat.le_of_ble_eq_true rfl) (tk T_cX0_reckon 51 rfl) hr (fun r9 M9 h => ?_)
        refine a_imul C (tk T_cX0_reckon 52 rfl) ?_
        refine a_put C f_RX0_49 f_RX0_49p rfl rfl (tk T_cX0_reckon 53 rfl) lc78 rfl ?_
        refine a_mem (fun M10 e_M10 => ?_)
        have h := h M10 e_M10
        refine a_aload_n C (tk T_cX0_reckon 54 rfl) rfl ?_
        refine a_dupr C (tk T_cX0_reckon 55 rfl) ?_
        refine a_getI C f_RX0_52 (tk T_cX0_reckon 56 rfl) lc78 rfl ?_
        refine a_aload_n C (tk T_cX0_reckon 57 rfl) rfl ?_
        refine a_getR C f_RX0_9 (tk T_cX0_reckon 58 rfl) lc78 rfl ?_
        refine a_iload C (tk T_cX0_reckon 59 rfl) rfl ?_
        obtain ⟨hb, h⟩ := h
        refine a_iald C (tk T_cX0_reckon 60 rfl) lc79 hb ?_
        refine a_statI C [.int (M10 79 x4.toNatClampNeg)] me_yJ6_bitCount_0f7a4 lk_RX0_64 (ct_Integer_bitCount h) (by decide) rfl rfl (Nat.le_of_ble_eq_true rfl) (tk T_cX0_reckon 61 rfl) hr (fun r11 M11 h => ?_)
        refine a_imul C (tk T_cX0_reckon 62 rfl) ?_
        refine a_put C f_RX0_52 f_RX0_52p rfl rfl (tk T_cX0_reckon 63 rfl) lc78 rfl ?_
        refine a_mem (fun M12 e_M12 => ?_)
        have h := h M12 e_M12
        refine a_goto C 161 (tk T_cX0_reckon 64 rfl) rfl ?_
        exact a_to (k_Bells_reckon_161 C hr hR ih x2 x3 x4 M12 h) rfl
def P_Bells_reckon (post : Mem → Prop) (x1 x2 : Int32) (M : Mem) : Prop :=
  P_Table_withoutAir (fun r1 M1 =>
  ∀ M2, M2 = ms M1 78 3 (1 : Int32) → ∀ M3, M3 = ms M2 78 4 (1 : Int32) → ∃ j25, P_Bells_reckon_25 post j25 x2 r1 (0 : Int32) M3) x1 M
theorem k_Bells_reckon {X : FX} {g : GT} {ext : List CD} {A : Nat → Prop} {Z : State → Prop} {post : Mem → Prop} (C : Cx X g (layC ++ ext) A cX0_reckon 7 RX0 2) (hr : 0 ≤ X.2.2.2.1.cells ∧ 0 ≤ X.2.2.2.1.slots) (hR : RetV X g (layC ++ ext) A cX0_reckon 7 0 0 Z post) (x1 x2 : Int32) (M : Mem) (h : P_Bells_reckon post x1 x2 M) : At X g (layC ++ ext) A 7 0 0 Z 0 [(0, .ref (ad g 78)), (1, .int x1), (2, .int x2)] [] M := by
  refine a_aload_n C (tk T_cX0_reckon 0 rfl) rfl ?_
  refine a_getR C f_RX0_15 (tk T_cX0_reckon 1 rfl) lc78 rfl ?_
  refine a_getR C f_RX0_23 (tk T_cX0_reckon 2 rfl) lc1 rfl ?_
  refine a_iload_n C (tk T_cX0_reckon 3 rfl) rfl ?_
  refine a_callI C [.int x1] me_yX10_withoutAir lk_RX0_29 (ct_Table_withoutAir h) (by decide) lc13 rfl rfl rfl (Nat.le_of_ble_eq_true rfl) (tk T_cX0_reckon 4 rfl) hr (fun r1 M1 h => ?_)
  refine a_istore_n C (tk T_cX0_reckon 5 rfl) (by decide) rfl ?_
  refine a_aload_n C (tk T_cX0_reckon 6 rfl) rfl ?_
  refine a_iconst C (1 : Int32) (tk T_cX0_reckon 7 rfl) kI_1 ?_
  refine a_put C f_RX0_49 f_RX0_49p rfl rfl (tk T_cX0_reckon 8 rfl) lc78 rfl ?_
  refine a_mem (fun M2 e_M2 => ?_)
  have h := h M2 e_M2
  refine a_aload_n C (tk T_cX0_reckon 9 rfl) rfl ?_
  refine a_iconst C (1 : Int32) (tk T_cX0_reckon 10 rfl) kI_1 ?_
  refine a_put C f_RX0_52 f_RX0_52p rfl rfl (tk T_cX0_reckon 11 rfl) lc78 rfl ?_
  refine a_mem (fun M3 e_M3 => ?_)
  have h := h M3 e_M3
  refine a_iconst C (0 : Int32) (tk T_cX0_reckon 12 rfl) kI_0 ?_
  refine a_istore C (tk T_cX0_reckon 13 rfl) (by decide) rfl ?_
  obtain ⟨n1, h⟩ := h
  exact a_to (k_Bells_reckon_25 C hr hR n1 x2 r1 (0 : Int32) M3 h) rfl
theorem ct_Bells_reckon {l : Launch} {g : GT} {ext : List CD} {post : Mem → Prop} {x1 x2 : Int32} {M : Mem} (h : P_Bells_reckon post x1 x2 M) : CV l g (layC ++ ext) yX0_reckon cX0_reckon 7 none 2 [.ref (ad g 78), .int x1, .int x2] M post :=
  cv_of (plainFor_of_name (by decide +kernel)) (Nat.le_of_ble_eq_true rfl) (fun X A Z hl C hr hR => by subst hl; exact k_Bells_reckon C hr hR x1 x2 M h)
def T_cX0_likeliestL : List (Nat × Instr × Nat) := [(0, .iconst (-1), 1), (1, .istore_n 2, 1), (2, .lconst 0, 1), (3, .lstore_n 3, 1), (4, .lconst 1, 1), (5, .lstore 5, 2), (7, .iconst 0, 1), (8, .istore 7, 2), (10, .iload 7, 2), (12, .aload_n 0, 1), (13, .getfield 15, 3), (16, .getfield 84, 3), (19, .if_icmp .ge 51, 3), (22, .aload_n 0, 1), (23, .iload_n 1, 1), (24, .iload 7, 2), (26, .invokevirtual 87, 3), (29, .aload_n 0, 1), (30, .getfield 49, 3), (33, .i2l, 1), (34, .lload 5, 2), (36, .lmul, 1), (37, .lload_n 3, 1), (38, .aload_n 0, 1), (39, .getfield 52, 3), (42, .i2l, 1), (43, .lmul, 1), (44, .lcmp, 1), (45, .ifCond .le 19, 3), (48, .iload 7, 2), (50, .istore_n 2, 1), (51, .aload_n 0, 1), (52, .getfield 49, 3), (55, .i2l, 1), (56, .lstore_n 3, 1), (57, .aload_n 0, 1), (58, .getfield 52, 3), (61, .i2l, 1), (62, .lstore 5, 2), (64, .iinc 7 1, 3), (67, .goto (-57), 3), (70, .iload_n 2, 1), (71, .ireturn, 1)]
theorem T_cX0_likeliest : tabOK cX0_likeliest T_cX0_likeliestL = true := by decide +kernel
def P_Bells_likeliest_64 (post : Int32 → Mem → Prop) (R10 : Int32 → Int32 → Int64 → Int64 → Int32 → Mem → Prop) (x1 x2 : Int32) (x3 x5 : Int64) (x7 : Int32) (M : Mem) : Prop :=
  R10 x1 x2 x3 x5 (x7 + (1 : Int32)) M
theorem k_Bells_likeliest_64 {X : FX} {g : GT} {ext : List CD} {A : Nat → Prop} {Z : State → Prop} {post : Int32 → Mem → Prop} {R10 : Int32 → Int32 → Int64 → Int64 → Int32 → Mem → Prop} (C : Cx X g (layC ++ ext) A cX0_likeliest 8 RX0 3) (hr : 0 ≤ X.2.2.2.1.cells ∧ 0 ≤ X.2.2.2.1.slots) (hR : RetI X g (layC ++ ext) A cX0_likeliest 8 0 0 Z post) (k10 : ∀ (y1 y2 : Int32) (y3 y5 : Int64) (y7 : Int32) (M : Mem), R10 y1 y2 y3 y5 y7 M → At X g (layC ++ ext) A 8 0 0 Z 10 [(0, .ref (ad g 78)), (1, .int y1), (2, .int y2), (3, .long y3), (5, .long y5), (7, .int y7)] [] M) (x1 x2 : Int32) (x3 x5 : Int64) (x7 : Int32) (M : Mem) (h : P_Bells_likeliest_64 post R10 x1 x2 x3 x5 x7 M) : At X g (layC ++ ext) A 8 0 0 Z 64 [(0, .ref (ad g 78)), (1, .int x1), (2, .int x2), (3, .long x3), (5, .long x5), (7, .int x7)] [] M := by
  refine a_iinc C (1 : Int32) (tk T_cX0_likeliest 39 rfl) rfl kI_1 (by decide) rfl ?_
  refine a_goto C 10 (tk T_cX0_likeliest 40 rfl) rfl ?_
  exact a_to (k10 x1 x2 x3 x5 (x7 + (1 : Int32)) M h) rfl
def P_Bells_likeliest_10 (post : Int32 → Mem → Prop) : Nat → Int32 → Int32 → Int64 → Int64 → Int32 → Mem → Prop
  | 0, _, _, _, _, _, _ => False
  | n + 1, x1, x2, x3, x5, x7, M =>
    ((M 1 7) ≤ x7 → (post x2 M)) ∧
  (¬ (M 1 7) ≤ x7 → (P_Bells_reckon (fun M1 =>
  ((lg_cmp ((M1 78 3).toInt64 * x5) (x3 * (M1 78 4).toInt64)) ≤ 0 → (P_Bells_likeliest_64 post (P_Bells_likeliest_10 post n) x1 x2 x3 x5 x7 M1)) ∧
  (¬ (lg_cmp ((M1 78 3).toInt64 * x5) (x3 * (M1 78 4).toInt64)) ≤ 0 → (∀ x3_2, x3_2 = (M1 78 3).toInt64 → ∀ x5_3, x5_3 = (M1 78 4).toInt64 → P_Bells_likeliest_64 post (P_Bells_likeliest_10 post n) x1 x7 x3_2 x5_3 x7 M1))) x1 x7 M))
theorem k_Bells_likeliest_10 {X : FX} {g : GT} {ext : List CD} {A : Nat → Prop} {Z : State → Prop} {post : Int32 → Mem → Prop} (C : Cx X g (layC ++ ext) A cX0_likeliest 8 RX0 3) (hr : 0 ≤ X.2.2.2.1.cells ∧ 0 ≤ X.2.2.2.1.slots) (hR : RetI X g (layC ++ ext) A cX0_likeliest 8 0 0 Z post) : ∀ (n : Nat) (x1 x2 : Int32) (x3 x5 : Int64) (x7 : Int32) (M : Mem), P_Bells_likeliest_10 post n x1 x2 x3 x5 x7 M → At X g (layC ++ ext) A 8 0 0 Z 10 [(0, .ref (ad g 78)), (1, .int x1), (2, .int x2), (3, .long x3), (5, .long x5), (7, .int x7)] [] M := by
  intro n
  induction n with
  | zero =>
    intro x1 x2 x3 x5 x7 M h
    exact h.elim
  | succ n ih =>
    intro x1 x2 x3 x5 x7 M h
    refine a_iload C (tk T_cX0_likeliest 8 rfl) rfl ?_
    refine a_aload_n C (tk T_cX0_likeliest 9 rfl) rfl ?_
    refine a_getR C f_RX0_15 (tk T_cX0_likeliest 10 rfl) lc78 rfl ?_
    refine a_getI C f_RX0_84 (tk T_cX0_likeliest 11 rfl) lc1 rfl ?_
    refine a_icmp_ge C 70 (tk T_cX0_likeliest 12 rfl) rfl (fun c => ?_) (fun c => ?_)
    · have h := h.1 c
      refine a_iload_n C (tk T_cX0_likeliest 41 rfl) rfl ?_
      exact hR _ _ _ _ (tk T_cX0_likeliest 42 rfl) h
    · have h := h.2 c
      refine a_aload_n C (tk T_cX0_likeliest 13 rfl) rfl ?_
      refine a_iload_n C (tk T_cX0_likeliest 14 rfl) rfl ?_
      refine a_iload C (tk T_cX0_likeliest 15 rfl) rfl ?_
      refine a_callV C [.int x1, .int x7] me_yX0_reckon lk_RX0_87 (ct_Bells_reckon h) (by decide) lc78 rfl rfl rfl (Nat.le_of_ble_eq_true rfl) (tk T_cX0_likeliest 16 rfl) hr (fun M1 h => ?_)
      refine a_aload_n C (tk T_cX0_likeliest 17 rfl) rfl ?_
      refine a_getI C f_RX0_49 (tk T_cX0_likeliest 18 rfl) lc78 rfl ?_
      refine a_i2l C (tk T_cX0_likeliest 19 rfl) ?_
      refine a_lload C (tk T_cX0_likeliest 20 rfl) rfl ?_
      refine a_lmul C (tk T_cX0_likeliest 21 rfl) ?_
      refine a_lload_n C (tk T_cX0_likeliest 22 rfl) rfl ?_
      refine a_aload_n C (tk T_cX0_likeliest 23 rfl) rfl ?_
      refine a_getI C f_RX0_52 (tk T_cX0_likeliest 24 rfl) lc78 rfl ?_
      refine a_i2l C (tk T_cX0_likeliest 25 rfl) ?_
      refine a_lmul C (tk T_cX0_likeliest 26 rfl) ?_
      refine a_lcmp C (tk T_cX0_likeliest 27 rfl) ?_
      refine a_if_le C 64 (tk T_cX0_likeliest 28 rfl) rfl (fun c => ?_) (fun c => ?_)
      · have h := h.1 c
        exact a_to (k_Bells_likeliest_64 C hr hR ih x1 x2 x3 x5 x7 M1 h) rfl
      · have h := h.2 c
        refine a_iload C (tk T_cX0_likeliest 29 rfl) rfl ?_
        refine a_istore_n C (tk T_cX0_likeliest 30 rfl) (by decide) rfl ?_
        refine a_aload_n C (tk T_cX0_likeliest 31 rfl) rfl ?_
        refine a_getI C f_RX0_49 (tk T_cX0_likeliest 32 rfl) lc78 rfl ?_
        refine a_i2l C (tk T_cX0_likeliest 33 rfl) ?_
        refine a_topl (fun x3_2 e_x3_2 => ?_)
        have h := h x3_2 e_x3_2
        refine a_lstore_n C (tk T_cX0_likeliest 34 rfl) (by decide) rfl ?_
        refine a_aload_n C (tk T_cX0_likeliest 35 rfl) rfl ?_
        refine a_getI C f_RX0_52 (tk T_cX0_likeliest 36 rfl) lc78 rfl ?_
        refine a_i2l C (tk T_cX0_likeliest 37 rfl) ?_
        refine a_topl (fun x5_3 e_x5_3 => ?_)
        have h := h x5_3 e_x5_3
        refine a_lstore C (tk T_cX0_likeliest 38 rfl) (by decide) rfl ?_
        exact a_to (k_Bells_likeliest_64 C hr hR ih x1 x7 x3_2 x5_3 x7 M1 h) rfl
def P_Bells_likeliest (post : Int32 → Mem → Prop) (x1 : Int32) (M : Mem) : Prop :=
  ∃ j10, P_Bells_likeliest_10 post j10 x1 (-1 : Int32) (0 : Int64) (1 : Int64) (0 : Int32) M
theorem k_Bells_likeliest {X : FX} {g : GT} {ext : List CD} {A : Nat → Prop} {Z : State → Prop} {post : Int32 → Mem → Prop} (C : Cx X g (layC ++ ext) A cX0_likeliest 8 RX0 3) (hr : 0 ≤ X.2.2.2.1.cells ∧ 0 ≤ X.2.2.2.1.slots) (hR : RetI X g (layC ++ ext) A cX0_likeliest 8 0 0 Z post) (x1 : Int32) (M : Mem) (h : P_Bells_likeliest post x1 M) : At X g (layC ++ ext) A 8 0 0 Z 0 [(0, .ref (ad g 78)), (1, .int x1)] [] M := by
  refine a_iconst C (-1 : Int32) (tk T_cX0_likeliest 0 rfl) kI_m1 ?_
  refine a_istore_n C (tk T_cX0_likeliest 1 rfl) (by decide) rfl ?_
  refine a_lconst C (0 : Int64) (tk T_cX0_likeliest 2 rfl) rfl ?_
  refine a_lstore_n C (tk T_cX0_likeliest 3 rfl) (by decide) rfl ?_
  refine a_lconst C (1 : Int64) (tk T_cX0_likeliest 4 rfl) rfl ?_
  refine a_lstore C (tk T_cX0_likeliest 5 rfl) (by decide) rfl ?_
  refine a_iconst C (0 : Int32) (tk T_cX0_likeliest 6 rfl) kI_0 ?_
  refine a_istore C (tk T_cX0_likeliest 7 rfl) (by decide) rfl ?_
  obtain ⟨n1, h⟩ := h
  exact a_to (k_Bells_likeliest_10 C hr hR n1 x1 (-1 : Int32) (0 : Int64) (1 : Int64) (0 : Int32) M h) rfl
theorem ct_Bells_likeliest {l : Launch} {g : GT} {ext : List CD} {post : Int32 → Mem → Prop} {x1 : Int32} {M : Mem} (h : P_Bells_likeliest post x1 M) : CI l g (layC ++ ext) yX0_likeliest cX0_likeliest 8 (some .int) 3 [.ref (ad g 78), .int x1] M post :=
  ci_of (plainFor_of_name (by decide +kernel)) (Nat.le_of_ble_eq_true rfl) (fun X A Z hl C hr hR => by subst hl; exact k_Bells_likeliest C hr hR x1 M h)
def T_cX0_isBeatenL : List (Nat × Instr × Nat) := [(0, .aload_n 0, 1), (1, .iload_n 1, 1), (2, .iload_n 2, 1), (3, .invokevirtual 87, 3), (6, .aload_n 0, 1), (7, .getfield 49, 3), (10, .i2l, 1), (11, .lstore_n 3, 1), (12, .aload_n 0, 1), (13, .getfield 52, 3), (16, .i2l, 1), (17, .lstore 5, 2), (19, .iconst 0, 1), (20, .istore 7, 2), (22, .iload 7, 2), (24, .aload_n 0, 1), (25, .getfield 15, 3), (28, .getfield 84, 3), (31, .if_icmp .ge 37, 3), (34, .aload_n 0, 1), (35, .iload_n 1, 1), (36, .iload 7, 2), (38, .invokevirtual 87, 3), (41, .aload_n 0, 1), (42, .getfield 49, 3), (45, .i2l, 1), (46, .lload 5, 2), (48, .lmul, 1), (49, .lload_n 3, 1), (50, .aload_n 0, 1), (51, .getfield 52, 3), (54, .i2l, 1), (55, .lmul, 1), (56, .lcmp, 1), (57, .ifCond .le 5, 3), (60, .iconst 1, 1), (61, .ireturn, 1), (62, .iinc 7 1, 3), (65, .goto (-43), 3), (68, .iconst 0, 1), (69, .ireturn, 1)]
theorem T_cX0_isBeaten : tabOK cX0_isBeaten T_cX0_isBeatenL = true := by decide +kernel
def P_Bells_isBeaten_22 (post : Int32 → Mem → Prop) : Nat → Int32 → Int64 → Int64 → Int32 → Mem → Prop
  | 0, _, _, _, _, _ => False
  | n + 1, x1, x3, x5, x7, M =>
    ((M 1 7) ≤ x7 → (post (0 : Int32) M)) ∧
  (¬ (M 1 7) ≤ x7 → (P_Bells_reckon (fun M1 =>
  ((lg_cmp ((M1 78 3).toInt64 * x5) (x3 * (M1 78 4).toInt64)) ≤ 0 → (P_Bells_isBeaten_22 post n x1 x3 x5 (x7 + (1 : Int32)) M1)) ∧
  (¬ (lg_cmp ((M1 78 3).toInt64 * x5) (x3 * (M1 78 4).toInt64)) ≤ 0 → (post (1 : Int32) M1))) x1 x7 M))
theorem k_Bells_isBeaten_22 {X : FX} {g : GT} {ext : List CD} {A : Nat → Prop} {Z : State → Prop} {post : Int32 → Mem → Prop} (C : Cx X g (layC ++ ext) A cX0_isBeaten 8 RX0 3) (hr : 0 ≤ X.2.2.2.1.cells ∧ 0 ≤ X.2.2.2.1.slots) (hR : RetZ X g (layC ++ ext) A cX0_isBeaten 8 0 0 Z post) : ∀ (n : Nat) (x1 : Int32) (x3 x5 : Int64) (x7 : Int32) (M : Mem), P_Bells_isBeaten_22 post n x1 x3 x5 x7 M → At X g (layC ++ ext) A 8 0 0 Z 22 [(0, .ref (ad g 78)), (1, .int x1), (3, .long x3), (5, .long x5), (7, .int x7)] [] M := by
  intro n
  induction n with
  | zero =>
    intro x1 x3 x5 x7 M h
    exact h.elim
  | succ n ih =>
    intro x1 x3 x5 x7 M h
    refine a_iload C (tk T_cX0_isBeaten 14 rfl) rfl ?_
    refine a_aload_n C (tk T_cX0_isBeaten 15 rfl) rfl ?_
    refine a_getR C f_RX0_15 (tk T_cX0_isBeaten 16 rfl) lc78 rfl ?_
    refine a_getI C f_RX0_84 (tk T_cX0_isBeaten 17 rfl) lc1 rfl ?_
    refine a_icmp_ge C 68 (tk T_cX0_isBeaten 18 rfl) rfl (fun c => ?_) (fun c => ?_)
    · have h := h.1 c
      refine a_iconst C (0 : Int32) (tk T_cX0_isBeaten 39 rfl) kI_0 ?_
      exact hR _ _ _ _ (tk T_cX0_isBeaten 40 rfl) ⟨Or.inl rfl, h⟩
    · have h := h.2 c
      refine a_aload_n C (tk T_cX0_isBeaten 19 rfl) rfl ?_
      refine a_iload_n C (tk T_cX0_isBeaten 20 rfl) rfl ?_
      refine a_iload C (tk T_cX0_isBeaten 21 rfl) rfl ?_
      refine a_callV C [.int x1, .int x7] me_yX0_reckon lk_RX0_87 (ct_Bells_reckon h) (by decide) lc78 rfl rfl rfl (Nat.le_of_ble_eq_true rfl) (tk T_cX0_isBeaten 22 rfl) hr (fun M1 h => ?_)
      refine a_aload_n C (tk T_cX0_isBeaten 23 rfl) rfl ?_
      refine a_getI C f_RX0_49 (tk T_cX0_isBeaten 24 rfl) lc78 rfl ?_
      refine a_i2l C (tk T_cX0_isBeaten 25 rfl) ?_
      refine a_lload C (tk T_cX0_isBeaten 26 rfl) rfl ?_
      refine a_lmul C (tk T_cX0_isBeaten 27 rfl) ?_
      refine a_lload_n C (tk T_cX0_isBeaten 28 rfl) rfl ?_
      refine a_aload_n C (tk T_cX0_isBeaten 29 rfl) rfl ?_
      refine a_getI C f_RX0_52 (tk T_cX0_isBeaten 30 rfl) lc78 rfl ?_
      refine a_i2l C (tk T_cX0_isBeaten 31 rfl) ?_
      refine a_lmul C (tk T_cX0_isBeaten 32 rfl) ?_
      refine a_lcmp C (tk T_cX0_isBeaten 33 rfl) ?_
      refine a_if_le C 62 (tk T_cX0_isBeaten 34 rfl) rfl (fun c => ?_) (fun c => ?_)
      · have h := h.1 c
        refine a_iinc C (1 : Int32) (tk T_cX0_isBeaten 37 rfl) rfl kI_1 (by decide) rfl ?_
        refine a_goto C 22 (tk T_cX0_isBeaten 38 rfl) rfl ?_
        exact a_to (ih x1 x3 x5 (x7 + (1 : Int32)) M1 h) rfl
      · have h := h.2 c
        refine a_iconst C (1 : Int32) (tk T_cX0_isBeaten 35 rfl) kI_1 ?_
        exact hR _ _ _ _ (tk T_cX0_isBeaten 36 rfl) ⟨Or.inr rfl, h⟩
def P_Bells_isBeaten (post : Int32 → Mem → Prop) (x1 x2 : Int32) (M : Mem) : Prop :=
  P_Bells_reckon (fun M1 =>
  ∀ x3_2, x3_2 = (M1 78 3).toInt64 → ∀ x5_3, x5_3 = (M1 78 4).toInt64 → ∃ j22, P_Bells_isBeaten_22 post j22 x1 x3_2 x5_3 (0 : Int32) M1) x1 x2 M
theorem k_Bells_isBeaten {X : FX} {g : GT} {ext : List CD} {A : Nat → Prop} {Z : State → Prop} {post : Int32 → Mem → Prop} (C : Cx X g (layC ++ ext) A cX0_isBeaten 8 RX0 3) (hr : 0 ≤ X.2.2.2.1.cells ∧ 0 ≤ X.2.2.2.1.slots) (hR : RetZ X g (layC ++ ext) A cX0_isBeaten 8 0 0 Z post) (x1 x2 : Int32) (M : Mem) (h : P_Bells_isBeaten post x1 x2 M) : At X g (layC ++ ext) A 8 0 0 Z 0 [(0, .ref (ad g 78)), (1, .int x1), (2, .int x2)] [] M := by
  refine a_aload_n C (tk T_cX0_isBeaten 0 rfl) rfl ?_
  refine a_iload_n C (tk T_cX0_isBeaten 1 rfl) rfl ?_
  refine a_iload_n C (tk T_cX0_isBeaten 2 rfl) rfl ?_
  refine a_callV C [.int x1, .int x2] me_yX0_reckon lk_RX0_87 (ct_Bells_reckon h) (by decide) lc78 rfl rfl rfl (Nat.le_of_ble_eq_true rfl) (tk T_cX0_isBeaten 3 rfl) hr (fun M1 h => ?_)
  refine a_aload_n C (tk T_cX0_isBeaten 4 rfl) rfl ?_
  refine a_getI C f_RX0_49 (tk T_cX0_isBeaten 5 rfl) lc78 rfl ?_
  refine a_i2l C (tk T_cX0_isBeaten 6 rfl) ?_
  refine a_topl (fun x3_2 e_x3_2 => ?_)
  have h := h x3_2 e_x3_2
  refine a_lstore_n C (tk T_cX0_isBeaten 7 rfl) (by decide) rfl ?_
  refine a_aload_n C (tk T_cX0_isBeaten 8 rfl) rfl ?_
  refine a_getI C f_RX0_52 (tk T_cX0_isBeaten 9 rfl) lc78 rfl ?_
  refine a_i2l C (tk T_cX0_isBeaten 10 rfl) ?_
  refine a_topl (fun x5_3 e_x5_3 => ?_)
  have h := h x5_3 e_x5_3
  refine a_lstore C (tk T_cX0_isBeaten 11 rfl) (by decide) rfl ?_
  refine a_iconst C (0 : Int32) (tk T_cX0_isBeaten 12 rfl) kI_0 ?_
  refine a_istore C (tk T_cX0_isBeaten 13 rfl) (by decide) rfl ?_
  obtain ⟨n1, h⟩ := h
  exact a_to (k_Bells_isBeaten_22 C hr hR n1 x1 x3_2 x5_3 (0 : Int32) M1 h) rfl
theorem ct_Bells_isBeaten {l : Launch} {g : GT} {ext : List CD} {post : Int32 → Mem → Prop} {x1 x2 : Int32} {M : Mem} (h : P_Bells_isBeaten post x1 x2 M) : CI l g (layC ++ ext) yX0_isBeaten cX0_isBeaten 8 (some .boolean) 3 [.ref (ad g 78), .int x1, .int x2] M post :=
  cz_of (plainFor_of_name (by decide +kernel)) (Nat.le_of_ble_eq_true rfl) (fun X A Z hl C hr hR => by subst hl; exact k_Bells_isBeaten C hr hR x1 x2 M h)
def T_cX3_openL : List (Nat × Instr × Nat) := [(0, .aload_n 0, 1), (1, .getfield 42, 3), (4, .invokevirtual 46, 3), (7, .aload_n 0, 1), (8, .iload_n 1, 1), (9, .putfield 51, 3), (12, .aload_n 0, 1), (13, .iconst 0, 1), (14, .putfield 55, 3), (17, .aload_n 0, 1), (18, .iconst 0, 1), (19, .putfield 58, 3), (22, .iconst 0, 1), (23, .istore_n 2, 1), (24, .iload_n 2, 1), (25, .aload_n 0, 1), (26, .getfield 38, 3), (29, .getfield 61, 3), (32, .getfield 67, 3), (35, .if_icmp .ge 81, 3), (38, .aload_n 0, 1), (39, .iload_n 2, 1), (40, .invokevirtual 72, 3), (43, .aload_n 0, 1), (44, .getfield 38, 3), (47, .getfield 61, 3), (50, .getfield 76, 3), (53, .iload_n 2, 1), (54, .iaload, 1), (55, .aload_n 0, 1), (56, .getfield 51, 3), (59, .if_icmp .ne 51, 3), (62, .aload_n 0, 1), (63, .dup, 1), (64, .getfield 55, 3), (67, .iconst 1, 1), (68, .iload_n 2, 1), (69, .ishl, 1), (70, .ior, 1), (71, .putfield 55, 3), (74, .aload_n 0, 1), (75, .dup, 1), (76, .getfield 58, 3), (79, .aload_n 0, 1), (80, .getfield 38, 3), (83, .getfield 61, 3), (86, .iload_n 2, 1), (87, .invokevirtual 78, 3), (90, .ifCond .eq 9, 3), (93, .iconst 1, 1), (94, .iload_n 2, 1), (95, .ishl, 1), (96, .goto 4, 3), (99, .iconst 0, 1), (100, .ior, 1), (101, .putfield 58, 3), (104, .aload_n 0, 1), (105, .iload_n 2, 1), (106, .iconst 0, 1), (107, .invokevirtual 82, 3), (110, .iinc 2 1, 3), (113, .goto (-89), 3), (116, .return_, 1)]
theorem T_cX3_open : tabOK cX3_open T_cX3_openL = true := by decide +kernel
def P_Judge_open_110 (post : Mem → Prop) (R24 : Int32 → Mem → Prop) (x2 : Int32) (M : Mem) : Prop :=
  R24 (x2 + (1 : Int32)) M
theorem k_Judge_open_110 {X : FX} {g : GT} {ext : List CD} {A : Nat → Prop} {Z : State → Prop} {post : Mem → Prop} {R24 : Int32 → Mem → Prop} (C : Cx X g (layC ++ ext) A cX3_open 3 RX3 5) (hr : 0 ≤ X.2.2.2.1.cells ∧ 0 ≤ X.2.2.2.1.slots) (hR : RetV X g (layC ++ ext) A cX3_open 3 0 0 Z post) (k24 : ∀ (y2 : Int32) (M : Mem), R24 y2 M → At X g (layC ++ ext) A 3 0 0 Z 24 [(0, .ref (ad g 69)), (2, .int y2)] [] M) (x2 : Int32) (M : Mem) (h : P_Judge_open_110 post R24 x2 M) : At X g (layC ++ ext) A 3 0 0 Z 110 [(0, .ref (ad g 69)), (2, .int x2)] [] M := by
  refine a_iinc C (1 : Int32) (tk T_cX3_open 60 rfl) rfl kI_1 (by decide) rfl ?_
  refine a_goto C 24 (tk T_cX3_open 61 rfl) rfl ?_
  exact a_to (k24 (x2 + (1 : Int32)) M h) rfl
def P_Judge_open_100 (post : Mem → Prop) (R24 : Int32 → Mem → Prop) (x2 s1 s2 : Int32) (M : Mem) : Prop :=
  ∀ M1, M1 = ms M 69 12 (s1 ||| s2) → P_Judge_putSpan (fun M2 =>
  P_Judge_open_110 post R24 x2 M2) x2 (0 : Int32) M1
theorem k_Judge_open_100 {X : FX} {g : GT} {ext : List CD} {A : Nat → Prop} {Z : State → Prop} {post : Mem → Prop} {R24 : Int32 → Mem → Prop} (C : Cx X g (layC ++ ext) A cX3_open 3 RX3 5) (hr : 0 ≤ X.2.2.2.1.cells ∧ 0 ≤ X.2.2.2.1.slots) (hR : RetV X g (layC ++ ext) A cX3_open 3 0 0 Z post) (k24 : ∀ (y2 : Int32) (M : Mem), R24 y2 M → At X g (layC ++ ext) A 3 0 0 Z 24 [(0, .ref (ad g 69)), (2, .int y2)] [] M) (x2 s1 s2 : Int32) (M : Mem) (h : P_Judge_open_100 post R24 x2 s1 s2 M) : At X g (layC ++ ext) A 3 0 0 Z 100 [(0, .ref (ad g 69)), (2, .int x2)] [.int s2, .int s1, .ref (ad g 69)] M := by
  refine a_ior C (tk T_cX3_open 54 rfl) ?_
  refine a_put C f_RX3_58 f_RX3_58p rfl rfl (tk T_cX3_open 55 rfl) lc69 rfl ?_
  refine a_mem (fun M1 e_M1 => ?_)
  have h := h M1 e_M1
  refine a_aload_n C (tk T_cX3_open 56 rfl) rfl ?_
  refine a_iload_n C (tk T_cX3_open 57 rfl) rfl ?_
  refine a_iconst C (0 : Int32) (tk T_cX3_open 58 rfl) kI_0 ?_
  refine a_callV C [.int x2, .int (0 : Int32)] me_yX3_putSpan lk_RX3_82 (ct_Judge_putSpan h) (by decide) lc69 rfl rfl rfl (Nat.le_of_ble_eq_true rfl) (tk T_cX3_open 59 rfl) hr (fun M2 h => ?_)
  exact a_to (k_Judge_open_110 C hr hR k24 x2 M2 h) rfl
def P_Judge_open_24 (post : Mem → Prop) : Nat → Int32 → Mem → Prop
  | 0, _, _ => False
  | n + 1, x2, M =>
    ((M 18 11) ≤ x2 → (post M)) ∧
  (¬ (M 18 11) ≤ x2 → (P_Judge_putNoSpan (fun M1 =>
  vp_in x2 24 ∧ (¬ (M1 24 x2.toNatClampNeg) = (M1 69 10) → (P_Judge_open_110 post (P_Judge_open_24 post n) x2 M1)) ∧
  ((M1 24 x2.toNatClampNeg) = (M1 69 10) → (∀ M2, M2 = ms M1 69 11 ((M1 69 11) ||| ((1 : Int32) <<< (x2 &&& 31))) → P_Shelf_mayBeGhost (fun r3 M3 =>
  (r3 = 0 → (P_Judge_open_100 post (P_Judge_open_24 post n) x2 (M2 69 12) (0 : Int32) M3)) ∧
  (¬ r3 = 0 → (P_Judge_open_100 post (P_Judge_open_24 post n) x2 (M2 69 12) ((1 : Int32) <<< (x2 &&& 31)) M3))) x2 M2))) x2 M))
theorem k_Judge_open_24 {X : FX} {g : GT} {ext : List CD} {A : Nat → Prop} {Z : State → Prop} {post : Mem → Prop} (C : Cx X g (layC ++ ext) A cX3_open 3 RX3 5) (hr : 0 ≤ X.2.2.2.1.cells ∧ 0 ≤ X.2.2.2.1.slots) (hR : RetV X g (layC ++ ext) A cX3_open 3 0 0 Z post) : ∀ (n : Nat) (x2 : Int32) (M : Mem), P_Judge_open_24 post n x2 M → At X g (layC ++ ext) A 3 0 0 Z 24 [(0, .ref (ad g 69)), (2, .int x2)] [] M := by
  intro n
  induction n with
  | zero =>
    intro x2 M h
    exact h.elim
  | succ n ih =>
    intro x2 M h
    refine a_iload_n C (tk T_cX3_open 14 rfl) rfl ?_
    refine a_aload_n C (tk T_cX3_open 15 rfl) rfl ?_
    refine a_getR C f_RX3_38 (tk T_cX3_open 16 rfl) lc69 rfl ?_
    refine a_getR C f_RX3_61 (tk T_cX3_open 17 rfl) lc1 rfl ?_
    refine a_getI C f_RX3_67 (tk T_cX3_open 18 rfl) lc18 rfl ?_
    refine a_icmp_ge C 116 (tk T_cX3_open 19 rfl) rfl (fun c => ?_) (fun c => ?_)
    · have h := h.1 c
      exact hR _ _ _ (tk T_cX3_open 62 rfl) h
    · have h := h.2 c
      refine a_aload_n C (tk T_cX3_open 20 rfl) rfl ?_
      refine a_iload_n C (tk T_cX3_open 21 rfl) rfl ?_
      refine a_callV C [.int x2] me_yX3_putNoSpan lk_RX3_72 (ct_Judge_putNoSpan h) (by decide) lc69 rfl rfl rfl (Nat.le_of_ble_eq_true rfl) (tk T_cX3_open 22 rfl) hr (fun M1 h => ?_)
      refine a_aload_n C (tk T_cX3_open 23 rfl) rfl ?_
      refine a_getR C f_RX3_38 (tk T_cX3_open 24 rfl) lc69 rfl ?_
      refine a_getR C f_RX3_61 (tk T_cX3_open 25 rfl) lc1 rfl ?_
      refine a_getR C f_RX3_76 (tk T_cX3_open 26 rfl) lc18 rfl ?_
      refine a_iload_n C (tk T_cX3_open 27 rfl) rfl ?_
      obtain ⟨hb, h⟩ := h
      refine a_iald C (tk T_cX3_open 28 rfl) lc24 hb ?_
      refine a_aload_n C (tk T_cX3_open 29 rfl) rfl ?_
      refine a_getI C f_RX3_51 (tk T_cX3_open 30 rfl) lc69 rfl ?_
      refine a_icmp_ne C 110 (tk T_cX3_open 31 rfl) rfl (fun c => ?_) (fun c => ?_)
      · have h := h.1 c
        exact a_to (k_Judge_open_110 C hr hR ih x2 M1 h) rfl
      · have h := h.2 c
        refine a_aload_n C (tk T_cX3_open 32 rfl) rfl ?_
        refine a_dupr C (tk T_cX3_open 33 rfl) ?_
        refine a_getI C f_RX3_55 (tk T_cX3_open 34 rfl) lc69 rfl ?_
        refine a_iconst C (1 : Int32) (tk T_cX3_open 35 rfl) kI_1 ?_
        refine a_iload_n C (tk T_cX3_open 36 rfl) rfl ?_
        refine a_ishl C (tk T_cX3_open 37 rfl) ?_
        refine a_ior C (tk T_cX3_open 38 rfl) ?_
        refine a_put C f_RX3_55 f_RX3_55p rfl rfl (tk T_cX3_open 39 rfl) lc69 rfl ?_
        refine a_mem (fun M2 e_M2 => ?_)
        have h := h M2 e_M2
        refine a_aload_n C (tk T_cX3_open 40 rfl) rfl ?_
        refine a_dupr C (tk T_cX3_open 41 rfl) ?_
        refine a_getI C f_RX3_58 (tk T_cX3_open 42 rfl) lc69 rfl ?_
        refine a_aload_n C (tk T_cX3_open 43 rfl) rfl ?_
        refine a_getR C f_RX3_38 (tk T_cX3_open 44 rfl) lc69 rfl ?_
        refine a_getR C f_RX3_61 (tk T_cX3_open 45 rfl) lc1 rfl ?_
        refine a_iload_n C (tk T_cX3_open 46 rfl) rfl ?_
        refine a_callI C [.int x2] me_yX9_mayBeGhost lk_RX3_78 (ct_Shelf_mayBeGhost h) (by decide) lc18 rfl rfl rfl (Nat.le_of_ble_eq_true rfl) (tk T_cX3_open 47 rfl) hr (fun r3 M3 h => ?_)
        refine a_if_eq C 99 (tk T_cX3_open 48 rfl) rfl (fun c => ?_) (fun c => ?_)
        · have h := h.1 c
          refine a_iconst C (0 : Int32) (tk T_cX3_open 53 rfl) kI_0 ?_
          exact a_to (k_Judge_open_100 C hr hR ih x2 (M2 69 12) (0 : Int32) M3 h) rfl
        · have h := h.2 c
          refine a_iconst C (1 : Int32) (tk T_cX3_open 49 rfl) kI_1 ?_
          refine a_iload_n C (tk T_cX3_open 50 rfl) rfl ?_
          refine a_ishl C (tk T_cX3_open 51 rfl) ?_
          refine a_goto C 100 (tk T_cX3_open 52 rfl) rfl ?_
          exact a_to (k_Judge_open_100 C hr hR ih x2 (M2 69 12) ((1 : Int32) <<< (x2 &&& 31)) M3 h) rfl
def P_Judge_open (post : Mem → Prop) (x1 : Int32) (M : Mem) : Prop :=
  P_Laws_solve (fun M1 =>
  ∀ M2, M2 = ms M1 69 10 x1 → ∀ M3, M3 = ms M2 69 11 (0 : Int32) → ∀ M4, M4 = ms M3 69 12 (0 : Int32) → ∃ j24, P_Judge_open_24 post j24 (0 : Int32) M4) M
theorem k_Judge_open {X : FX} {g : GT} {ext : List CD} {A : Nat → Prop} {Z : State → Prop} {post : Mem → Prop} (C : Cx X g (layC ++ ext) A cX3_open 3 RX3 5) (hr : 0 ≤ X.2.2.2.1.cells ∧ 0 ≤ X.2.2.2.1.slots) (hR : RetV X g (layC ++ ext) A cX3_open 3 0 0 Z post) (x1 : Int32) (M : Mem) (h : P_Judge_open post x1 M) : At X g (layC ++ ext) A 3 0 0 Z 0 [(0, .ref (ad g 69)), (1, .int x1)] [] M := by
  refine a_aload_n C (tk T_cX3_open 0 rfl) rfl ?_
  refine a_getR C f_RX3_42 (tk T_cX3_open 1 rfl) lc69 rfl ?_
  refine a_callV C [] me_yX5_solve lk_RX3_46 (ct_Laws_solve h) (by decide) lc63 rfl rfl rfl (Nat.le_of_ble_eq_true rfl) (tk T_cX3_open 2 rfl) hr (fun M1 h => ?_)
  refine a_aload_n C (tk T_cX3_open 3 rfl) rfl ?_
  refine a_iload_n C (tk T_cX3_open 4 rfl) rfl ?_
  refine a_put C f_RX3_51 f_RX3_51p rfl rfl (tk T_cX3_open 5 rfl) lc69 rfl ?_
  refine a_mem (fun M2 e_M2 => ?_)
  have h := h M2 e_M2
  refine a_aload_n C (tk T_cX3_open 6 rfl) rfl ?_
  refine a_iconst C (0 : Int32) (tk T_cX3_open 7 rfl) kI_0 ?_
  refine a_put C f_RX3_55 f_RX3_55p rfl rfl (tk T_cX3_open 8 rfl) lc69 rfl ?_
  refine a_mem (fun M3 e_M3 => ?_)
  have h := h M3 e_M3
  refine a_aload_n C (tk T_cX3_open 9 rfl) rfl ?_
  refine a_iconst C (0 : Int32) (tk T_cX3_open 10 rfl) kI_0 ?_
  refine a_put C f_RX3_58 f_RX3_58p rfl rfl (tk T_cX3_open 11 rfl) lc69 rfl ?_
  refine a_mem (fun M4 e_M4 => ?_)
  have h := h M4 e_M4
  refine a_iconst C (0 : Int32) (tk T_cX3_open 12 rfl) kI_0 ?_
  refine a_istore_n C (tk T_cX3_open 13 rfl) (by decide) rfl ?_
  obtain ⟨n1, h⟩ := h
  exact a_to (k_Judge_open_24 C hr hR n1 (0 : Int32) M4 h) rfl
theorem ct_Judge_open {l : Launch} {g : GT} {ext : List CD} {post : Mem → Prop} {x1 : Int32} {M : Mem} (h : P_Judge_open post x1 M) : CV l g (layC ++ ext) yX3_open cX3_open 3 none 5 [.ref (ad g 69), .int x1] M post :=
  cv_of (plainFor_of_name (by decide +kernel)) (Nat.le_of_ble_eq_true rfl) (fun X A Z hl C hr hR => by subst hl; exact k_Judge_open C hr hR x1 M h)
def T_cX3_hasSpanL : List (Nat × Instr × Nat) := [(0, .aload_n 0, 1), (1, .getfield 9, 3), (4, .iload_n 1, 1), (5, .iaload, 1), (6, .aload_n 0, 1), (7, .getfield 15, 3), (10, .iload_n 1, 1), (11, .iaload, 1), (12, .if_icmp .gt 7, 3), (15, .iconst 1, 1), (16, .goto 4, 3), (19, .iconst 0, 1), (20, .ireturn, 1)]
theorem T_cX3_hasSpan : tabOK cX3_hasSpan T_cX3_hasSpanL = true := by decide +kernel
def P_Judge_hasSpan_20 (post : Int32 → Mem → Prop) (s0 : Int32) (M : Mem) : Prop :=
  (s0 = 0 ∨ s0 = 1) ∧ post s0 M
theorem k_Judge_hasSpan_20 {X : FX} {g : GT} {ext : List CD} {A : Nat → Prop} {Z : State → Prop} {post : Int32 → Mem → Prop} (C : Cx X g (layC ++ ext) A cX3_hasSpan 2 RX3 0) (hr : 0 ≤ X.2.2.2.1.cells ∧ 0 ≤ X.2.2.2.1.slots) (hR : RetZ X g (layC ++ ext) A cX3_hasSpan 2 0 0 Z post) (s0 : Int32) (M : Mem) (h : P_Judge_hasSpan_20 post s0 M) : At X g (layC ++ ext) A 2 0 0 Z 20 [] [.int s0] M := by
  exact hR _ _ _ _ (tk T_cX3_hasSpan 12 rfl) h
def P_Judge_hasSpan (post : Int32 → Mem → Prop) (x1 : Int32) (M : Mem) : Prop :=
  vp_in x1 24 ∧ vp_in x1 24 ∧ ((M 71 x1.toNatClampNeg) < (M 70 x1.toNatClampNeg) → (P_Judge_hasSpan_20 post (0 : Int32) M)) ∧
  (¬ (M 71 x1.toNatClampNeg) < (M 70 x1.toNatClampNeg) → (P_Judge_hasSpan_20 post (1 : Int32) M))
theorem k_Judge_hasSpan {X : FX} {g : GT} {ext : List CD} {A : Nat → Prop} {Z : State → Prop} {post : Int32 → Mem → Prop} (C : Cx X g (layC ++ ext) A cX3_hasSpan 2 RX3 0) (hr : 0 ≤ X.2.2.2.1.cells ∧ 0 ≤ X.2.2.2.1.slots) (hR : RetZ X g (layC ++ ext) A cX3_hasSpan 2 0 0 Z post) (x1 : Int32) (M : Mem) (h : P_Judge_hasSpan post x1 M) : At X g (layC ++ ext) A 2 0 0 Z 0 [(0, .ref (ad g 69)), (1, .int x1)] [] M := by
  refine a_aload_n C (tk T_cX3_hasSpan 0 rfl) rfl ?_
  refine a_getR C f_RX3_9 (tk T_cX3_hasSpan 1 rfl) lc69 rfl ?_
  refine a_iload_n C (tk T_cX3_hasSpan 2 rfl) rfl ?_
  obtain ⟨hb, h⟩ := h
  refine a_iald C (tk T_cX3_hasSpan 3 rfl) lc70 hb ?_
  refine a_aload_n C (tk T_cX3_hasSpan 4 rfl) rfl ?_
  refine a_getR C f_RX3_15 (tk T_cX3_hasSpan 5 rfl) lc69 rfl ?_
  refine a_iload_n C (tk T_cX3_hasSpan 6 rfl) rfl ?_
  obtain ⟨hb, h⟩ := h
  refine a_iald C (tk T_cX3_hasSpan 7 rfl) lc71 hb ?_
  refine a_icmp_gt C 19 (tk T_cX3_hasSpan 8 rfl) rfl (fun c => ?_) (fun c => ?_)
  · have h := h.1 c
    refine a_iconst C (0 : Int32) (tk T_cX3_hasSpan 11 rfl) kI_0 ?_
    exact a_to (k_Judge_hasSpan_20 C hr hR (0 : Int32) M h) rfl
  · have h := h.2 c
    refine a_iconst C (1 : Int32) (tk T_cX3_hasSpan 9 rfl) kI_1 ?_
    refine a_goto C 20 (tk T_cX3_hasSpan 10 rfl) rfl ?_
    exact a_to (k_Judge_hasSpan_20 C hr hR (1 : Int32) M h) rfl
theorem ct_Judge_hasSpan {l : Launch} {g : GT} {ext : List CD} {post : Int32 → Mem → Prop} {x1 : Int32} {M : Mem} (h : P_Judge_hasSpan post x1 M) : CI l g (layC ++ ext) yX3_hasSpan cX3_hasSpan 2 (some .boolean) 0 [.ref (ad g 69), .int x1] M post :=
  cz_of (plainFor_of_name (by decide +kernel)) (Nat.le_of_ble_eq_true rfl) (fun X A Z hl C hr hR => by subst hl; exact k_Judge_hasSpan C hr hR x1 M h)
def T_cX3_leftBitsL : List (Nat × Instr × Nat) := [(0, .aload_n 0, 1), (1, .aload_n 0, 1), (2, .getfield 38, 3), (5, .getfield 123, 3), (8, .iload_n 1, 1), (9, .invokevirtual 152, 3), (12, .iload_n 2, 1), (13, .invokevirtual 155, 3), (16, .aload_n 0, 1), (17, .getfield 55, 3), (20, .aload_n 0, 1), (21, .getfield 58, 3), (24, .iconst (-1), 1), (25, .ixor, 1), (26, .iand, 1), (27, .aload_n 0, 1), (28, .getfield 117, 3), (31, .iconst (-1), 1), (32, .ixor, 1), (33, .iand, 1), (34, .ireturn, 1)]
theorem T_cX3_leftBits : tabOK cX3_leftBits T_cX3_leftBitsL = true := by decide +kernel
def P_Judge_leftBits (post : Int32 → Mem → Prop) (x1 x2 : Int32) (M : Mem) : Prop :=
  P_Table_withAir (fun r1 M1 =>
  P_Judge_survey (fun M2 =>
  ∀ v3, v3 = (((M2 69 11) &&& ((M2 69 12) ^^^ (-1 : Int32))) &&& ((M2 69 13) ^^^ (-1 : Int32))) → post v3 M2) r1 x2 M1) x1 M
theorem k_Judge_leftBits {X : FX} {g : GT} {ext : List CD} {A : Nat → Prop} {Z : State → Prop} {post : Int32 → Mem → Prop} (C : Cx X g (layC ++ ext) A cX3_leftBits 3 RX3 3) (hr : 0 ≤ X.2.2.2.1.cells ∧ 0 ≤ X.2.2.2.1.slots) (hR : RetI X g (layC ++ ext) A cX3_leftBits 3 0 0 Z post) (x1 x2 : Int32) (M : Mem) (h : P_Judge_leftBits post x1 x2 M) : At X g (layC ++ ext) A 3 0 0 Z 0 [(0, .ref (ad g 69)), (1, .int x1), (2, .int x2)] [] M := by
  refine a_aload_n C (tk T_cX3_leftBits 0 rfl) rfl ?_
  refine a_aload_n C (tk T_cX3_leftBits 1 rfl) rfl ?_
  refine a_getR C f_RX3_38 (tk T_cX3_leftBits 2 rfl) lc69 rfl ?_
  refine a_getR C f_RX3_123 (tk T_cX3_leftBits 3 rfl) lc1 rfl ?_
  refine a_iload_n C (tk T_cX3_leftBits 4 rfl) rfl ?_
  refine a_callI C [.int x1] me_yX10_withAir lk_RX3_152 (ct_Table_withAir h) (by decide) lc13 rfl rfl rfl (Nat.le_of_ble_eq_true rfl) (tk T_cX3_leftBits 5 rfl) hr (fun r1 M1 h => ?_)
  refine a_iload_n C (tk T_cX3_leftBits 6 rfl) rfl ?_
  refine a_callV C [.int r1, .int x2] me_yX3_survey lk_RX3_155 (ct_Judge_survey h) (by decide) lc69 rfl rfl rfl (Nat.le_of_ble_eq_true rfl) (tk T_cX3_leftBits 7 rfl) hr (fun M2 h => ?_)
  refine a_aload_n C (tk T_cX3_leftBits 8 rfl) rfl ?_
  refine a_getI C f_RX3_55 (tk T_cX3_leftBits 9 rfl) lc69 rfl ?_
  refine a_aload_n C (tk T_cX3_leftBits 10 rfl) rfl ?_
  refine a_getI C f_RX3_58 (tk T_cX3_leftBits 11 rfl) lc69 rfl ?_
  refine a_iconst C (-1 : Int32) (tk T_cX3_leftBits 12 rfl) kI_m1 ?_
  refine a_ixor C (tk T_cX3_leftBits 13 rfl) ?_
  refine a_iand C (tk T_cX3_leftBits 14 rfl) ?_
  refine a_aload_n C (tk T_cX3_leftBits 15 rfl) rfl ?_
  refine a_getI C f_RX3_117 (tk T_cX3_leftBits 16 rfl) lc69 rfl ?_
  refine a_iconst C (-1 : Int32) (tk T_cX3_leftBits 17 rfl) kI_m1 ?_
  refine a_ixor C (tk T_cX3_leftBits 18 rfl) ?_
  refine a_iand C (tk T_cX3_leftBits 19 rfl) ?_
  refine a_top (fun v3 e_v3 => ?_)
  have h := h v3 e_v3
  exact hR _ _ _ _ (tk T_cX3_leftBits 20 rfl) h
theorem ct_Judge_leftBits {l : Launch} {g : GT} {ext : List CD} {post : Int32 → Mem → Prop} {x1 x2 : Int32} {M : Mem} (h : P_Judge_leftBits post x1 x2 M) : CI l g (layC ++ ext) yX3_leftBits cX3_leftBits 3 (some .int) 3 [.ref (ad g 69), .int x1, .int x2] M post :=
  ci_of (plainFor_of_name (by decide +kernel)) (Nat.le_of_ble_eq_true rfl) (fun X A Z hl C hr hR => by subst hl; exact k_Judge_leftBits C hr hR x1 x2 M h)
def T_cX3_isTalliedAsExplainedL : List (Nat × Instr × Nat) := [(0, .aload_n 0, 1), (1, .getfield 55, 3), (4, .aload_n 0, 1), (5, .getfield 58, 3), (8, .iconst (-1), 1), (9, .ixor, 1), (10, .iand, 1), (11, .istore_n 2, 1), (12, .iconst 0, 1), (13, .istore_n 3, 1), (14, .iload_n 3, 1), (15, .aload_n 0, 1), (16, .getfield 38, 3), (19, .getfield 123, 3), (22, .getfield 127, 3), (25, .if_icmp .ge 39, 3), (28, .iload_n 1, 1), (29, .iload_n 3, 1), (30, .invokestatic 132, 3), (33, .ifCond .eq 25, 3), (36, .aload_n 0, 1), (37, .getfield 24, 3), (40, .iload_n 3, 1), (41, .iaload, 1), (42, .ifCond .le 5, 3), (45, .iconst 0, 1), (46, .ireturn, 1), (47, .iload_n 2, 1), (48, .aload_n 0, 1), (49, .getfield 21, 3), (52, .iload_n 3, 1), (53, .iaload, 1), (54, .iconst (-1), 1), (55, .ixor, 1), (56, .iand, 1), (57, .istore_n 2, 1), (58, .iinc 3 1, 3), (61, .goto (-47), 3), (64, .iload_n 2, 1), (65, .ifCond .ne 7, 3), (68, .iconst 1, 1), (69, .goto 4, 3), (72, .iconst 0, 1), (73, .ireturn, 1)]
theorem T_cX3_isTalliedAsExplained : tabOK cX3_isTalliedAsExplained T_cX3_isTalliedAsExplainedL = true := by decide +kernel
def P_Judge_isTalliedAsExplained_73 (post : Int32 → Mem → Prop) (s0 : Int32) (M : Mem) : Prop :=
  (s0 = 0 ∨ s0 = 1) ∧ post s0 M
theorem k_Judge_isTalliedAsExplained_73 {X : FX} {g : GT} {ext : List CD} {A : Nat → Prop} {Z : State → Prop} {post : Int32 → Mem → Prop} (C : Cx X g (layC ++ ext) A cX3_isTalliedAsExplained 4 RX3 1) (hr : 0 ≤ X.2.2.2.1.cells ∧ 0 ≤ X.2.2.2.1.slots) (hR : RetZ X g (layC ++ ext) A cX3_isTalliedAsExplained 4 0 0 Z post) (s0 : Int32) (M : Mem) (h : P_Judge_isTalliedAsExplained_73 post s0 M) : At X g (layC ++ ext) A 4 0 0 Z 73 [] [.int s0] M := by
  exact hR _ _ _ _ (tk T_cX3_isTalliedAsExplained 43 rfl) h
def P_Judge_isTalliedAsExplained_58 (post : Int32 → Mem → Prop) (R14 : Int32 → Int32 → Int32 → Mem → Prop) (x1 x2 x3 : Int32) (M : Mem) : Prop :=
  R14 x1 x2 (x3 + (1 : Int32)) M
theorem k_Judge_isTalliedAsExplained_58 {X : FX} {g : GT} {ext : List CD} {A : Nat → Prop} {Z : State → Prop} {post : Int32 → Mem → Prop} {R14 : Int32 → Int32 → Int32 → Mem → Prop} (C : Cx X g (layC ++ ext) A cX3_isTalliedAsExplained 4 RX3 1) (hr : 0 ≤ X.2.2.2.1.cells ∧ 0 ≤ X.2.2.2.1.slots) (hR : RetZ X g (layC ++ ext) A cX3_isTalliedAsExplained 4 0 0 Z post) (k14 : ∀ (y1 y2 y3 : Int32) (M : Mem), R14 y1 y2 y3 M → At X g (layC ++ ext) A 4 0 0 Z 14 [(0, .ref (ad g 69)), (1, .int y1), (2, .int y2), (3, .int y3)] [] M) (x1 x2 x3 : Int32) (M : Mem) (h : P_Judge_isTalliedAsExplained_58 post R14 x1 x2 x3 M) : At X g (layC ++ ext) A 4 0 0 Z 58 [(0, .ref (ad g 69)), (1, .int x1), (2, .int x2), (3, .int x3)] [] M := by
  refine a_iinc C (1 : Int32) (tk T_cX3_isTalliedAsExplained 36 rfl) rfl kI_1 (by decide) rfl ?_
  refine a_goto C 14 (tk T_cX3_isTalliedAsExplained 37 rfl) rfl ?_
  exact a_to (k14 x1 x2 (x3 + (1 : Int32)) M h) rfl
def P_Judge_isTalliedAsExplained_14 (post : Int32 → Mem → Prop) : Nat → Int32 → Int32 → Int32 → Mem → Prop
  | 0, _, _, _, _ => False
  | n + 1, x1, x2, x3, M =>
    ((M 13 4) ≤ x3 → ((¬ x2 = 0 → (P_Judge_isTalliedAsExplained_73 post (0 : Int32) M)) ∧
  (x2 = 0 → (P_Judge_isTalliedAsExplained_73 post (1 : Int32) M)))) ∧
  (¬ (M 13 4) ≤ x3 → (P_R_has (fun r1 M1 =>
  (r1 = 0 → (P_Judge_isTalliedAsExplained_58 post (P_Judge_isTalliedAsExplained_14 post n) x1 x2 x3 M1)) ∧
  (¬ r1 = 0 → (vp_in x3 6 ∧ ((M1 74 x3.toNatClampNeg) ≤ 0 → (vp_in x3 6 ∧ ∀ x2_2, x2_2 = (x2 &&& ((M1 73 x3.toNatClampNeg) ^^^ (-1 : Int32))) → P_Judge_isTalliedAsExplained_58 post (P_Judge_isTalliedAsExplained_14 post n) x1 x2_2 x3 M1)) ∧
  (¬ (M1 74 x3.toNatClampNeg) ≤ 0 → (post (0 : Int32) M1))))) x1 x3 M))
theorem k_Judge_isTalliedAsExplained_14 {X : FX} {g : GT} {ext : List CD} {A : Nat → Prop} {Z : State → Prop} {post : Int32 → Mem → Prop} (C : Cx X g (layC ++ ext) A cX3_isTalliedAsExplained 4 RX3 1) (hr : 0 ≤ X.2.2.2.1.cells ∧ 0 ≤ X.2.2.2.1.slots) (hR : RetZ X g (layC ++ ext) A cX3_isTalliedAsExplained 4 0 0 Z post) : ∀ (n : Nat) (x1 x2 x3 : Int32) (M : Mem), P_Judge_isTalliedAsExplained_14 post n x1 x2 x3 M → At X g (layC ++ ext) A 4 0 0 Z 14 [(0, .ref (ad g 69)), (1, .int x1), (2, .int x2), (3, .int x3)] [] M := by
  intro n
  induction n with
  | zero =>
    intro x1 x2 x3 M h
    exact h.elim
  | succ n ih =>
    intro x1 x2 x3 M h
    refine a_iload_n C (tk T_cX3_isTalliedAsExplained 10 rfl) rfl ?_
    refine a_aload_n C (tk T_cX3_isTalliedAsExplained 11 rfl) rfl ?_
    refine a_getR C f_RX3_38 (tk T_cX3_isTalliedAsExplained 12 rfl) lc69 rfl ?_
    refine a_getR C f_RX3_123 (tk T_cX3_isTalliedAsExplained 13 rfl) lc1 rfl ?_
    refine a_getI C f_RX3_127 (tk T_cX3_isTalliedAsExplained 14 rfl) lc13 rfl ?_
    refine a_icmp_ge C 64 (tk T_cX3_isTalliedAsExplained 15 rfl) rfl (fun c => ?_) (fun c => ?_)
    · have h := h.1 c
      refine a_iload_n C (tk T_cX3_isTalliedAsExplained 38 rfl) rfl ?_
      refine a_if_ne C 72 (tk T_cX3_isTalliedAsExplained 39 rfl) rfl (fun c => ?_) (fun c => ?_)
      · have h := h.1 c
        refine a_iconst C (0 : Int32) (tk T_cX3_isTalliedAsExplained 42 rfl) kI_0 ?_
        exact a_to (k_Judge_isTalliedAsExplained_73 C hr hR (0 : Int32) M h) rfl
      · have h := h.2 c
        refine a_iconst C (1 : Int32) (tk T_cX3_isTalliedAsExplained 40 rfl) kI_1 ?_
        refine a_goto C 73 (tk T_cX3_isTalliedAsExplained 41 rfl) rfl ?_
        exact a_to (k_Judge_isTalliedAsExplained_73 C hr hR (1 : Int32) M h) rfl
    · have h := h.2 c
      refine a_iload_n C (tk T_cX3_isTalliedAsExplained 16 rfl) rfl ?_
      refine a_iload_n C (tk T_cX3_isTalliedAsExplained 17 rfl) rfl ?_
      refine a_nestI C [.int x1, .int x3] me_yX11_has lk_RX3_132 (ct_R_has h) (by decide) rfl rfl (Nat.le_of_ble_eq_true rfl) (tk T_cX3_isTalliedAsExplained 18 rfl) hr (fun r1 M1 h => ?_)
      refine a_if_eq C 58 (tk T_cX3_isTalliedAsExplained 19 rfl) rfl (fun c => ?_) (fun c => ?_)
      · have h := h.1 c
        exact a_to (k_Judge_isTalliedAsExplained_58 C hr hR ih x1 x2 x3 M1 h) rfl
      · have h := h.2 c
        refine a_aload_n C (tk T_cX3_isTalliedAsExplained 20 rfl) rfl ?_
        refine a_getR C f_RX3_24 (tk T_cX3_isTalliedAsExplained 21 rfl) lc69 rfl ?_
        refine a_iload_n C (tk T_cX3_isTalliedAsExplained 22 rfl) rfl ?_
        obtain ⟨hb, h⟩ := h
        refine a_iald C (tk T_cX3_isTalliedAsExplained 23 rfl) lc74 hb ?_
        refine a_if_le C 47 (tk T_cX3_isTalliedAsExplained 24 rfl) rfl (fun c => ?_) (fun c => ?_)
        · have h := h.1 c
          refine a_iload_n C (tk T_cX3_isTalliedAsExplained 27 rfl) rfl ?_
          refine a_aload_n C (tk T_cX3_isTalliedAsExplained 28 rfl) rfl ?_
          refine a_getR C f_RX3_21 (tk T_cX3_isTalliedAsExplained 29 rfl) lc69 rfl ?_
          refine a_iload_n C (tk T_cX3_isTalliedAsExplained 30 rfl) rfl ?_
          obtain ⟨hb, h⟩ := h
          refine a_iald C (tk T_cX3_isTalliedAsExplained 31 rfl) lc73 hb ?_
          refine a_iconst C (-1 : Int32) (tk T_cX3_isTalliedAsExplained 32 rfl) kI_m1 ?_
          refine a_ixor C (tk T_cX3_isTalliedAsExplained 33 rfl) ?_
          refine a_iand C (tk T_cX3_isTalliedAsExplained 34 rfl) ?_
          refine a_top (fun x2_2 e_x2_2 => ?_)
          have h := h x2_2 e_x2_2
          refine a_istore_n C (tk T_cX3_isTalliedAsExplained 35 rfl) (by decide) rfl ?_
          exact a_to (k_Judge_isTalliedAsExplained_58 C hr hR ih x1 x2_2 x3 M1 h) rfl
        · have h := h.2 c
          refine a_iconst C (0 : Int32) (tk T_cX3_isTalliedAsExplained 25 rfl) kI_0 ?_
          exact hR _ _ _ _ (tk T_cX3_isTalliedAsExplained 26 rfl) ⟨Or.inl rfl, h⟩
def P_Judge_isTalliedAsExplained (post : Int32 → Mem → Prop) (x1 : Int32) (M : Mem) : Prop :=
  ∀ x2_1, x2_1 = ((M 69 11) &&& ((M 69 12) ^^^ (-1 : Int32))) → ∃ j14, P_Judge_isTalliedAsExplained_14 post j14 x1 x2_1 (0 : Int32) M
theorem k_Judge_isTalliedAsExplained {X : FX} {g : GT} {ext : List CD} {A : Nat → Prop} {Z : State → Prop} {post : Int32 → Mem → Prop} (C : Cx X g (layC ++ ext) A cX3_isTalliedAsExplained 4 RX3 1) (hr : 0 ≤ X.2.2.2.1.cells ∧ 0 ≤ X.2.2.2.1.slots) (hR : RetZ X g (layC ++ ext) A cX3_isTalliedAsExplained 4 0 0 Z post) (x1 : Int32) (M : Mem) (h : P_Judge_isTalliedAsExplained post x1 M) : At X g (layC ++ ext) A 4 0 0 Z 0 [(0, .ref (ad g 69)), (1, .int x1)] [] M := by
  refine a_aload_n C (tk T_cX3_isTalliedAsExplained 0 rfl) rfl ?_
  refine a_getI C f_RX3_55 (tk T_cX3_isTalliedAsExplained 1 rfl) lc69 rfl ?_
  refine a_aload_n C (tk T_cX3_isTalliedAsExplained 2 rfl) rfl ?_
  refine a_getI C f_RX3_58 (tk T_cX3_isTalliedAsExplained 3 rfl) lc69 rfl ?_
  refine a_iconst C (-1 : Int32) (tk T_cX3_isTalliedAsExplained 4 rfl) kI_m1 ?_
  refine a_ixor C (tk T_cX3_isTalliedAsExplained 5 rfl) ?_
  refine a_iand C (tk T_cX3_isTalliedAsExplained 6 rfl) ?_
  refine a_top (fun x2_1 e_x2_1 => ?_)
  have h := h x2_1 e_x2_1
  refine a_istore_n C (tk T_cX3_isTalliedAsExplained 7 rfl) (by decide) rfl ?_
  refine a_iconst C (0 : Int32) (tk T_cX3_isTalliedAsExplained 8 rfl) kI_0 ?_
  refine a_istore_n C (tk T_cX3_isTalliedAsExplained 9 rfl) (by decide) rfl ?_
  obtain ⟨n1, h⟩ := h
  exact a_to (k_Judge_isTalliedAsExplained_14 C hr hR n1 x1 x2_1 (0 : Int32) M h) rfl
theorem ct_Judge_isTalliedAsExplained {l : Launch} {g : GT} {ext : List CD} {post : Int32 → Mem → Prop} {x1 : Int32} {M : Mem} (h : P_Judge_isTalliedAsExplained post x1 M) : CI l g (layC ++ ext) yX3_isTalliedAsExplained cX3_isTalliedAsExplained 4 (some .boolean) 1 [.ref (ad g 69), .int x1] M post :=
  cz_of (plainFor_of_name (by decide +kernel)) (Nat.le_of_ble_eq_true rfl) (fun X A Z hl C hr hR => by subst hl; exact k_Judge_isTalliedAsExplained C hr hR x1 M h)
def T_cX3_tallySetsL : List (Nat × Instr × Nat) := [(0, .iconst 0, 1), (1, .istore_n 1, 1), (2, .iload_n 1, 1), (3, .aload_n 0, 1), (4, .getfield 38, 3), (7, .getfield 123, 3), (10, .getfield 127, 3), (13, .if_icmp .ge 37, 3), (16, .aload_n 0, 1), (17, .iconst 1, 1), (18, .iload_n 1, 1), (19, .ishl, 1), (20, .iconst 0, 1), (21, .invokevirtual 155, 3), (24, .aload_n 0, 1), (25, .getfield 21, 3), (28, .iload_n 1, 1), (29, .aload_n 0, 1), (30, .getfield 117, 3), (33, .iastore, 1), (34, .aload_n 0, 1), (35, .getfield 24, 3), (38, .iload_n 1, 1), (39, .aload_n 0, 1), (40, .getfield 120, 3), (43, .iastore, 1), (44, .iinc 1 1, 3), (47, .goto (-45), 3), (50, .aload_n 0, 1), (51, .getfield 38, 3), (54, .getfield 123, 3), (57, .iconst (-1), 1), (58, .invokevirtual 165, 3), (61, .istore_n 1, 1), (62, .aload_n 0, 1), (63, .iconst 0, 1), (64, .putfield 168, 3), (67, .aload_n 0, 1), (68, .iconst (-1), 1), (69, .putfield 171, 3), (72, .aload_n 0, 1), (73, .iload_n 1, 1), (74, .putfield 174, 3), (77, .aload_n 0, 1), (78, .iconst 0, 1), (79, .putfield 177, 3), (82, .iconst 0, 1), (83, .istore_n 2, 1), (84, .iload_n 2, 1), (85, .iload_n 1, 1), (86, .if_icmp .gt 92, 3), (89, .iload_n 2, 1), (90, .iload_n 1, 1), (91, .iconst (-1), 1), (92, .ixor, 1), (93, .iand, 1), (94, .ifCond .ne 78, 3), (97, .aload_n 0, 1), (98, .aload_n 0, 1), (99, .getfield 38, 3), (102, .getfield 123, 3), (105, .iload_n 2, 1), (106, .invokevirtual 152, 3), (109, .invokevirtual 180, 3), (112, .ifCond .eq 60, 3), (115, .aload_n 0, 1), (116, .dup, 1), (117, .getfield 168, 3), (120, .iconst 1, 1), (121, .iadd, 1), (122, .putfield 168, 3), (125, .aload_n 0, 1), (126, .dup, 1), (127, .getfield 174, 3), (130, .iload_n 2, 1), (131, .iand, 1), (132, .putfield 174, 3), (135, .aload_n 0, 1), (136, .dup, 1), (137, .getfield 177, 3), (140, .iload_n 2, 1), (141, .ior, 1), (142, .putfield 177, 3), (145, .aload_n 0, 1), (146, .getfield 171, 3), (149, .iconst (-1), 1), (150, .if_icmp .eq 17, 3), (153, .iload_n 2, 1), (154, .invokestatic 183, 3), (157, .aload_n 0, 1), (158, .getfield 171, 3), (161, .invokestatic 183, 3), (164, .if_icmp .ge 8, 3), (167, .aload_n 0, 1), (168, .iload_n 2, 1), (169, .putfield 171, 3), (172, .iinc 2 1, 3), (175, .goto (-91), 3), (178, .aload_n 0, 1), (179, .getfield 168, 3), (182, .ifCond .ne 8, 3), (185, .aload_n 0, 1), (186, .iconst 0, 1), (187, .putfield 174, 3), (190, .return_, 1)]
theorem T_cX3_tallySets : tabOK cX3_tallySets T_cX3_tallySetsL = true := by decide +kernel
def P_Judge_tallySets_190 (post : Mem → Prop) (M : Mem) : Prop :=
  post M
theorem k_Judge_tallySets_190 {X : FX} {g : GT} {ext : List CD} {A : Nat → Prop} {Z : State → Prop} {post : Mem → Prop} (C : Cx X g (layC ++ ext) A cX3_tallySets 3 RX3 3) (hr : 0 ≤ X.2.2.2.1.cells ∧ 0 ≤ X.2.2.2.1.slots) (hR : RetV X g (layC ++ ext) A cX3_tallySets 3 0 0 Z post)  (M : Mem) (h : P_Judge_tallySets_190 post M) : At X g (layC ++ ext) A 3 0 0 Z 190 [] [] M := by
  exact hR _ _ _ (tk T_cX3_tallySets 104 rfl) h
def P_Judge_tallySets_172 (post : Mem → Prop) (R84 : Int32 → Int32 → Mem → Prop) (x1 x2 : Int32) (M : Mem) : Prop :=
  R84 x1 (x2 + (1 : Int32)) M
theorem k_Judge_tallySets_172 {X : FX} {g : GT} {ext : List CD} {A : Nat → Prop} {Z : State → Prop} {post : Mem → Prop} {R84 : Int32 → Int32 → Mem → Prop} (C : Cx X g (layC ++ ext) A cX3_tallySets 3 RX3 3) (hr : 0 ≤ X.2.2.2.1.cells ∧ 0 ≤ X.2.2.2.1.slots) (hR : RetV X g (layC ++ ext) A cX3_tallySets 3 0 0 Z post) (k84 : ∀ (y1 y2 : Int32) (M : Mem), R84 y1 y2 M → At X g (layC ++ ext) A 3 0 0 Z 84 [(0, .ref (ad g 69)), (1, .int y1), (2, .int y2)] [] M) (x1 x2 : Int32) (M : Mem) (h : P_Judge_tallySets_172 post R84 x1 x2 M) : At X g (layC ++ ext) A 3 0 0 Z 172 [(0, .ref (ad g 69)), (1, .int x1), (2, .int x2)] [] M := by
  refine a_iinc C (1 : Int32) (tk T_cX3_tallySets 96 rfl) rfl kI_1 (by decide) rfl ?_
  refine a_goto C 84 (tk T_cX3_tallySets 97 rfl) rfl ?_
  exact a_to (k84 x1 (x2 + (1 : Int32)) M h) rfl
def P_Judge_tallySets_167 (post : Mem → Prop) (R84 : Int32 → Int32 → Mem → Prop) (x1 x2 : Int32) (M : Mem) : Prop :=
  ∀ M1, M1 = ms M 69 16 x2 → P_Judge_tallySets_172 post R84 x1 x2 M1
theorem k_Judge_tallySets_167 {X : FX} {g : GT} {ext : List CD} {A : Nat → Prop} {Z : State → Prop} {post : Mem → Prop} {R84 : Int32 → Int32 → Mem → Prop} (C : Cx X g (layC ++ ext) A cX3_tallySets 3 RX3 3) (hr : 0 ≤ X.2.2.2.1.cells ∧ 0 ≤ X.2.2.2.1.slots) (hR : RetV X g (layC ++ ext) A cX3_tallySets 3 0 0 Z post) (k84 : ∀ (y1 y2 : Int32) (M : Mem), R84 y1 y2 M → At X g (layC ++ ext) A 3 0 0 Z 84 [(0, .ref (ad g 69)), (1, .int y1), (2, .int y2)] [] M) (x1 x2 : Int32) (M : Mem) (h : P_Judge_tallySets_167 post R84 x1 x2 M) : At X g (layC ++ ext) A 3 0 0 Z 167 [(0, .ref (ad g 69)), (1, .int x1), (2, .int x2)] [] M := by
  refine a_aload_n C (tk T_cX3_tallySets 93 rfl) rfl ?_
  refine a_iload_n C (tk T_cX3_tallySets 94 rfl) rfl ?_
  refine a_put C f_RX3_171 f_RX3_171p rfl rfl (tk T_cX3_tallySets 95 rfl) lc69 rfl ?_
  refine a_mem (fun M1 e_M1 => ?_)
  have h := h M1 e_M1
  exact a_to (k_Judge_tallySets_172 C hr hR k84 x1 x2 M1 h) rfl
def P_Judge_tallySets_84 (post : Mem → Prop) : Nat → Int32 → Int32 → Mem → Prop
  | 0, _, _, _ => False
  | n + 1, x1, x2, M =>
    (x1 < x2 → ((¬ (M 69 15) = 0 → (P_Judge_tallySets_190 post M)) ∧
  ((M 69 15) = 0 → (∀ M1, M1 = ms M 69 17 (0 : Int32) → P_Judge_tallySets_190 post M1)))) ∧
  (¬ x1 < x2 → ((¬ (x2 &&& (x1 ^^^ (-1 : Int32))) = 0 → (P_Judge_tallySets_172 post (P_Judge_tallySets_84 post n) x1 x2 M)) ∧
  ((x2 &&& (x1 ^^^ (-1 : Int32))) = 0 → (P_Table_withAir (fun r2 M2 =>
  P_Judge_isTalliedAsExplained (fun r3 M3 =>
  (r3 = 0 → (P_Judge_tallySets_172 post (P_Judge_tallySets_84 post n) x1 x2 M3)) ∧
  (¬ r3 = 0 → (∀ M4, M4 = ms M3 69 15 ((M3 69 15) + (1 : Int32)) → ∀ M5, M5 = ms M4 69 17 ((M4 69 17) &&& x2) → ∀ M6, M6 = ms M5 69 18 ((M5 69 18) ||| x2) → ((M6 69 16) = (-1 : Int32) → (P_Judge_tallySets_167 post (P_Judge_tallySets_84 post n) x1 x2 M6)) ∧
  (¬ (M6 69 16) = (-1 : Int32) → (P_Integer_bitCount (fun r7 M7 =>
  P_Integer_bitCount (fun r8 M8 =>
  (r8 ≤ r7 → (P_Judge_tallySets_172 post (P_Judge_tallySets_84 post n) x1 x2 M8)) ∧
  (¬ r8 ≤ r7 → (P_Judge_tallySets_167 post (P_Judge_tallySets_84 post n) x1 x2 M8))) (M7 69 16) M7) x2 M6))))) r2 M2) x2 M))))
theorem k_Judge_tallySets_84 {X : FX} {g : GT} {ext : List CD} {A : Nat → Prop} {Z : State → Prop} {post : Mem → Prop} (C : Cx X g (layC ++ ext) A cX3_tallySets 3 RX3 3) (hr : 0 ≤ X.2.2.2.1.cells ∧ 0 ≤ X.2.2.2.1.slots) (hR : RetV X g (layC ++ ext) A cX3_tallySets 3 0 0 Z post) : ∀ (n : Nat) (x1 x2 : Int32) (M : Mem), P_Judge_tallySets_84 post n x1 x2 M → At X g (layC ++ ext) A 3 0 0 Z 84 [(0, .ref (ad g 69)), (1, .int x1), (2, .int x2)] [] M := by
  intro n
  induction n with
  | zero =>
    intro x1 x2 M h
    exact h.elim
  | succ n ih =>
    intro x1 x2 M h
    refine a_iload_n C (tk T_cX3_tallySets 48 rfl) rfl ?_
    refine a_iload_n C (tk T_cX3_tallySets 49 rfl) rfl ?_
    refine a_icmp_gt C 178 (tk T_cX3_tallySets 50 rfl) rfl (fun c => ?_) (fun c => ?_)
    · have h := h.1 c
      refine a_aload_n C (tk T_cX3_tallySets 98 rfl) rfl ?_
      refine a_getI C f_RX3_168 (tk T_cX3_tallySets 99 rfl) lc69 rfl ?_
      refine a_if_ne C 190 (tk T_cX3_tallySets 100 rfl) rfl (fun c => ?_) (fun c => ?_)
      · have h := h.1 c
        exact a_to (k_Judge_tallySets_190 C hr hR M h) rfl
      · have h := h.2 c
        refine a_aload_n C (tk T_cX3_tallySets 101 rfl) rfl ?_
        refine a_iconst C (0 : Int32) (tk T_cX3_tallySets 102 rfl) kI_0 ?_
        refine a_put C f_RX3_174 f_RX3_174p rfl rfl (tk T_cX3_tallySets 103 rfl) lc69 rfl ?_
        refine a_mem (fun M1 e_M1 => ?_)
        have h := h M1 e_M1
        exact a_to (k_Judge_tallySets_190 C hr hR M1 h) rfl
    · have h := h.2 c
      refine a_iload_n C (tk T_cX3_tallySets 51 rfl) rfl ?_
      refine a_iload_n C (tk T_cX3_tallySets 52 rfl) rfl ?_
      refine a_iconst C (-1 : Int32) (tk T_cX3_tallySets 53 rfl) kI_m1 ?_
      refine a_ixor C (tk T_cX3_tallySets 54 rfl) ?_
      refine a_iand C (tk T_cX3_tallySets 55 rfl) ?_
      refine a_if_ne C 172 (tk T_cX3_tallySets 56 rfl) rfl (fun c => ?_) (fun c => ?_)
      · have h := h.1 c
        exact a_to (k_Judge_tallySets_172 C hr hR ih x1 x2 M h) rfl
      · have h := h.2 c
        refine a_aload_n C (tk T_cX3_tallySets 57 rfl) rfl ?_
        refine a_aload_n C (tk T_cX3_tallySets 58 rfl) rfl ?_
        refine a_getR C f_RX3_38 (tk T_cX3_tallySets 59 rfl) lc69 rfl ?_
        refine a_getR C f_RX3_123 (tk T_cX3_tallySets 60 rfl) lc1 rfl ?_
        refine a_iload_n C (tk T_cX3_tallySets 61 rfl) rfl ?_
        refine a_callI C [.int x2] me_yX10_withAir lk_RX3_152 (ct_Table_withAir h) (by decide) lc13 rfl rfl rfl (Nat.le_of_ble_eq_true rfl) (tk T_cX3_tallySets 62 rfl) hr (fun r2 M2 h => ?_)
        refine a_callI C [.int r2] me_yX3_isTalliedAsExplained lk_RX3_180 (ct_Judge_isTalliedAsExplained h) (by decide) lc69 rfl rfl rfl (Nat.le_of_ble_eq_true rfl) (tk T_cX3_tallySets 63 rfl) hr (fun r3 M3 h => ?_)
        refine a_if_eq C 172 (tk T_cX3_tallySets 64 rfl) rfl (fun c => ?_) (fun c => ?_)
        · have h := h.1 c
          exact a_to (k_Judge_tallySets_172 C hr hR ih x1 x2 M3 h) rfl
        · have h := h.2 c
          refine a_aload_n C (tk T_cX3_tallySets 65 rfl) rfl ?_
          refine a_dupr C (tk T_cX3_tallySets 66 rfl) ?_
          refine a_getI C f_RX3_168 (tk T_cX3_tallySets 67 rfl) lc69 rfl ?_
          refine a_iconst C (1 : Int32) (tk T_cX3_tallySets 68 rfl) kI_1 ?_
          refine a_iadd C (tk T_cX3_tallySets 69 rfl) ?_
          refine a_put C f_RX3_168 f_RX3_168p rfl rfl (tk T_cX3_tallySets 70 rfl) lc69 rfl ?_
          refine a_mem (fun M4 e_M4 => ?_)
          have h := h M4 e_M4
          refine a_aload_n C (tk T_cX3_tallySets 71 rfl) rfl ?_
          refine a_dupr C (tk T_cX3_tallySets 72 rfl) ?_
          refine a_getI C f_RX3_174 (tk T_cX3_tallySets 73 rfl) lc69 rfl ?_
          refine a_iload_n C (tk T_cX3_tallySets 74 rfl) rfl ?_
          refine a_iand C (tk T_cX3_tallySets 75 rfl) ?_
          refine a_put C f_RX3_174 f_RX3_174p rfl rfl (tk T_cX3_tallySets 76 rfl) lc69 rfl ?_
          refine a_mem (fun M5 e_M5 => ?_)
          have h := h M5 e_M5
          refine a_aload_n C (tk T_cX3_tallySets 77 rfl) rfl ?_
          refine a_dupr C (tk T_cX3_tallySets 78 rfl) ?_
          refine a_getI C f_RX3_177 (tk T_cX3_tallySets 79 rfl) lc69 rfl ?_
          refine a_iload_n C (tk T_cX3_tallySets 80 rfl) rfl ?_
          refine a_ior C (tk T_cX3_tallySets 81 rfl) ?_
          refine a_put C f_RX3_177 f_RX3_177p rfl rfl (tk T_cX3_tallySets 82 rfl) lc69 rfl ?_
          refine a_mem (fun M6 e_M6 => ?_)
          have h := h M6 e_M6
          refine a_aload_n C (tk T_cX3_tallySets 83 rfl) rfl ?_
          refine a_getI C f_RX3_171 (tk T_cX3_tallySets 84 rfl) lc69 rfl ?_
          refine a_iconst C (-1 : Int32) (tk T_cX3_tallySets 85 rfl) kI_m1 ?_
          refine a_icmp_eq C 167 (tk T_cX3_tallySets 86 rfl) rfl (fun c => ?_) (fun c => ?_)
          · have h := h.1 c
            exact a_to (k_Judge_tallySets_167 C hr hR ih x1 x2 M6 h) rfl
          · have h := h.2 c
            refine a_iload_n C (tk T_cX3_tallySets 87 rfl) rfl ?_
            refine a_statI C [.int x2] me_yJ6_bitCount_0f7a4 lk_RX3_183 (ct_Integer_bitCount h) (by decide) rfl rfl (Nat.le_of_ble_eq_true rfl) (tk T_cX3_tallySets 88 rfl) hr (fun r7 M7 h => ?_)
            refine a_aload_n C (tk T_cX3_tallySets 89 rfl) rfl ?_
            refine a_getI C f_RX3_171 (tk T_cX3_tallySets 90 rfl) lc69 rfl ?_
            refine a_statI C [.int (M7 69 16)] me_yJ6_bitCount_0f7a4 lk_RX3_183 (ct_Integer_bitCount h) (by decide) rfl rfl (Nat.le_of_ble_eq_true rfl) (tk T_cX3_tallySets 91 rfl) hr (fun r8 M8 h => ?_)
            refine a_icmp_ge C 172 (tk T_cX3_tallySets 92 rfl) rfl (fun c => ?_) (fun c => ?_)
            · have h := h.1 c
              exact a_to (k_Judge_tallySets_172 C hr hR ih x1 x2 M8 h) rfl
            · have h := h.2 c
              exact a_to (k_Judge_tallySets_167 C hr hR ih x1 x2 M8 h) rfl
def P_Judge_tallySets_2 (post : Mem → Prop) : Nat → Int32 → Mem → Prop
  | 0, _, _ => False
  | n + 1, x1, M =>
    ((M 13 4) ≤ x1 → (P_Table_withoutAir (fun r1 M1 =>
  ∀ M2, M2 = ms M1 69 15 (0 : Int32) → ∀ M3, M3 = ms M2 69 16 (-1 : Int32) → ∀ M4, M4 = ms M3 69 17 r1 → ∀ M5, M5 = ms M4 69 18 (0 : Int32) → ∃ j84, P_Judge_tallySets_84 post j84 r1 (0 : Int32) M5) (-1 : Int32) M)) ∧
  (¬ (M 13 4) ≤ x1 → (P_Judge_survey (fun M6 =>
  vp_in x1 6 ∧ ∀ M7, M7 = ms M6 73 x1.toNatClampNeg (M6 69 13) → vp_in x1 6 ∧ ∀ M8, M8 = ms M7 74 x1.toNatClampNeg (M7 69 14) → P_Judge_tallySets_2 post n (x1 + (1 : Int32)) M8) ((1 : Int32) <<< (x1 &&& 31)) (0 : Int32) M))
theorem k_Judge_tallySets_2 {X : FX} {g : GT} {ext : List CD} {A : Nat → Prop} {Z : State → Prop} {post : Mem → Prop} (C : Cx X g (layC ++ ext) A cX3_tallySets 3 RX3 3) (hr : 0 ≤ X.2.2.2.1.cells ∧ 0 ≤ X.2.2.2.1.slots) (hR : RetV X g (layC ++ ext) A cX3_tallySets 3 0 0 Z post) : ∀ (n : Nat) (x1 : Int32) (M : Mem), P_Judge_tallySets_2 post n x1 M → At X g (layC ++ ext) A 3 0 0 Z 2 [(0, .ref (ad g 69)), (1, .int x1)] [] M := by
  intro n
  induction n with
  | zero =>
    intro x1 M h
    exact h.elim
  | succ n ih =>
    intro x1 M h
    refine a_iload_n C (tk T_cX3_tallySets 2 rfl) rfl ?_
    refine a_aload_n C (tk T_cX3_tallySets 3 rfl) rfl ?_
    refine a_getR C f_RX3_38 (tk T_cX3_tallySets 4 rfl) lc69 rfl ?_
    refine a_getR C f_RX3_123 (tk T_cX3_tallySets 5 rfl) lc1 rfl ?_
    refine a_getI C f_RX3_127 (tk T_cX3_tallySets 6 rfl) lc13 rfl ?_
    refine a_icmp_ge C 50 (tk T_cX3_tallySets 7 rfl) rfl (fun c => ?_) (fun c => ?_)
    · have h := h.1 c
      refine a_aload_n C (tk T_cX3_tallySets 28 rfl) rfl ?_
      refine a_getR C f_RX3_38 (tk T_cX3_tallySets 29 rfl) lc69 rfl ?_
      refine a_getR C f_RX3_123 (tk T_cX3_tallySets 30 rfl) lc1 rfl ?_
      refine a_iconst C (-1 : Int32) (tk T_cX3_tallySets 31 rfl) kI_m1 ?_
      refine a_callI C [.int (-1 : Int32)] me_yX10_withoutAir lk_RX3_165 (ct_Table_withoutAir h) (by decide) lc13 rfl rfl rfl (Nat.le_of_ble_eq_true rfl) (tk T_cX3_tallySets 32 rfl) hr (fun r1 M1 h => ?_)
      refine a_istore_n C (tk T_cX3_tallySets 33 rfl) (by decide) rfl ?_
      refine a_aload_n C (tk T_cX3_tallySets 34 rfl) rfl ?_
      refine a_iconst C (0 : Int32) (tk T_cX3_tallySets 35 rfl) kI_0 ?_
      refine a_put C f_RX3_168 f_RX3_168p rfl rfl (tk T_cX3_tallySets 36 rfl) lc69 rfl ?_
      refine a_mem (fun M2 e_M2 => ?_)
      have h := h M2 e_M2
      refine a_aload_n C (tk T_cX3_tallySets 37 rfl) rfl ?_
      refine a_iconst C (-1 : Int32) (tk T_cX3_tallySets 38 rfl) kI_m1 ?_
      refine a_put C f_RX3_171 f_RX3_171p rfl rfl (tk T_cX3_tallySets 39 rfl) lc69 rfl ?_
      refine a_mem (fun M3 e_M3 => ?_)
      have h := h M3 e_M3
      refine a_aload_n C (tk T_cX3_tallySets 40 rfl) rfl ?_
      refine a_iload_n C (tk T_cX3_tallySets 41 rfl) rfl ?_
      refine a_put C f_RX3_174 f_RX3_174p rfl rfl (tk T_cX3_tallySets 42 rfl) lc69 rfl ?_
      refine a_mem (fun M4 e_M4 => ?_)
      have h := h M4 e_M4
      refine a_aload_n C (tk T_cX3_tallySets 43 rfl) rfl ?_
      refine a_iconst C (0 : Int32) (tk T_cX3_tallySets 44 rfl) kI_0 ?_
      refine a_put C f_RX3_177 f_RX3_177p rfl rfl (tk T_cX3_tallySets 45 rfl) lc69 rfl ?_
      refine a_mem (fun M5 e_M5 => ?_)
      have h := h M5 e_M5
      refine a_iconst C (0 : Int32) (tk T_cX3_tallySets 46 rfl) kI_0 ?_
      refine a_istore_n C (tk T_cX3_tallySets 47 rfl) (by decide) rfl ?_
      obtain ⟨n1, h⟩ := h
      exact a_to (k_Judge_tallySets_84 C hr hR n1 r1 (0 : Int32) M5 h) rfl
    · have h := h.2 c
      refine a_aload_n C (tk T_cX3_tallySets 8 rfl) rfl ?_
      refine a_iconst C (1 : Int32) (tk T_cX3_tallySets 9 rfl) kI_1 ?_
      refine a_iload_n C (tk T_cX3_tallySets 10 rfl) rfl ?_
      refine a_ishl C (tk T_cX3_tallySets 11 rfl) ?_
      refine a_iconst C (0 : Int32) (tk T_cX3_tallySets 12 rfl) kI_0 ?_
      refine a_callV C [.int ((1 : Int32) <<< (x1 &&& 31)), .int (0 : Int32)] me_yX3_survey lk_RX3_155 (ct_Judge_survey h) (by decide) lc69 rfl rfl rfl (Nat.le_of_ble_eq_true rfl) (tk T_cX3_tallySets 13 rfl) hr (fun M6 h => ?_)
      refine a_aload_n C (tk T_cX3_tallySets 14 rfl) rfl ?_
      refine a_getR C f_RX3_21 (tk T_cX3_tallySets 15 rfl) lc69 rfl ?_
      refine a_iload_n C (tk T_cX3_tallySets 16 rfl) rfl ?_
      refine a_aload_n C (tk T_cX3_tallySets 17 rfl) rfl ?_
      refine a_getI C f_RX3_117 (tk T_cX3_tallySets 18 rfl) lc69 rfl ?_
      obtain ⟨hb, h⟩ := h
      refine a_iast C (tk T_cX3_tallySets 19 rfl) lc73 hb ?_
      refine a_mem (fun M7 e_M7 => ?_)
      have h := h M7 e_M7
      refine a_aload_n C (tk T_cX3_tallySets 20 rfl) rfl ?_
      refine a_getR C f_RX3_24 (tk T_cX3_tallySets 21 rfl) lc69 rfl ?_
      refine a_iload_n C (tk T_cX3_tallySets 22 rfl) rfl ?_
      refine a_aload_n C (tk T_cX3_tallySets 23 rfl) rfl ?_
      refine a_getI C f_RX3_120 (tk T_cX3_tallySets 24 rfl) lc69 rfl ?_
      obtain ⟨hb, h⟩ := h
      refine a_iast C (tk T_cX3_tallySets 25 rfl) lc74 hb ?_
      refine a_mem (fun M8 e_M8 => ?_)
      have h := h M8 e_M8
      refine a_iinc C (1 : Int32) (tk T_cX3_tallySets 26 rfl) rfl kI_1 (by decide) rfl ?_
      refine a_goto C 2 (tk T_cX3_tallySets 27 rfl) rfl ?_
      exact a_to (ih (x1 + (1 : Int32)) M8 h) rfl
def P_Judge_tallySets (post : Mem → Prop) (M : Mem) : Prop :=
  ∃ j2, P_Judge_tallySets_2 post j2 (0 : Int32) M
theorem k_Judge_tallySets {X : FX} {g : GT} {ext : List CD} {A : Nat → Prop} {Z : State → Prop} {post : Mem → Prop} (C : Cx X g (layC ++ ext) A cX3_tallySets 3 RX3 3) (hr : 0 ≤ X.2.2.2.1.cells ∧ 0 ≤ X.2.2.2.1.slots) (hR : RetV X g (layC ++ ext) A cX3_tallySets 3 0 0 Z post) (M : Mem) (h : P_Judge_tallySets post M) : At X g (layC ++ ext) A 3 0 0 Z 0 [(0, .ref (ad g 69))] [] M := by
  refine a_iconst C (0 : Int32) (tk T_cX3_tallySets 0 rfl) kI_0 ?_
  refine a_istore_n C (tk T_cX3_tallySets 1 rfl) (by decide) rfl ?_
  obtain ⟨n1, h⟩ := h
  exact a_to (k_Judge_tallySets_2 C hr hR n1 (0 : Int32) M h) rfl
theorem ct_Judge_tallySets {l : Launch} {g : GT} {ext : List CD} {post : Mem → Prop} {M : Mem} (h : P_Judge_tallySets post M) : CV l g (layC ++ ext) yX3_tallySets cX3_tallySets 3 none 3 [.ref (ad g 69)] M post :=
  cv_of (plainFor_of_name (by decide +kernel)) (Nat.le_of_ble_eq_true rfl) (fun X A Z hl C hr hR => by subst hl; exact k_Judge_tallySets C hr hR  M h)
def T_cX3_wideBitsL : List (Nat × Instr × Nat) := [(0, .aload_n 0, 1), (1, .aload_n 0, 1), (2, .getfield 38, 3), (5, .getfield 123, 3), (8, .iload_n 1, 1), (9, .invokevirtual 152, 3), (12, .invokevirtual 188, 3), (15, .iconst 0, 1), (16, .istore_n 2, 1), (17, .iconst 0, 1), (18, .istore_n 3, 1), (19, .iload_n 3, 1), (20, .aload_n 0, 1), (21, .getfield 38, 3), (24, .getfield 61, 3), (27, .getfield 67, 3), (30, .if_icmp .ge 66, 3), (33, .aload_n 0, 1), (34, .getfield 55, 3), (37, .iload_n 3, 1), (38, .invokestatic 132, 3), (41, .ifCond .eq 49, 3), (44, .aload_n 0, 1), (45, .getfield 38, 3), (48, .getfield 61, 3), (51, .getfield 209, 3), (54, .iload_n 3, 1), (55, .iaload, 1), (56, .aload_n 0, 1), (57, .getfield 38, 3), (60, .getfield 61, 3), (63, .getfield 212, 3), (66, .aload_n 0, 1), (67, .getfield 51, 3), (70, .iaload, 1), (71, .if_icmp .le 19, 3), (74, .aload_n 0, 1), (75, .getfield 18, 3), (78, .iload_n 3, 1), (79, .iaload, 1), (80, .iconst 2, 1), (81, .if_icmp .ge 9, 3), (84, .iload_n 2, 1), (85, .iconst 1, 1), (86, .iload_n 3, 1), (87, .ishl, 1), (88, .ior, 1), (89, .istore_n 2, 1), (90, .iinc 3 1, 3), (93, .goto (-74), 3), (96, .iload_n 2, 1), (97, .ireturn, 1)]
theorem T_cX3_wideBits : tabOK cX3_wideBits T_cX3_wideBitsL = true := by decide +kernel
def P_Judge_wideBits_90 (post : Int32 → Mem → Prop) (R19 : Int32 → Int32 → Mem → Prop) (x2 x3 : Int32) (M : Mem) : Prop :=
  R19 x2 (x3 + (1 : Int32)) M
theorem k_Judge_wideBits_90 {X : FX} {g : GT} {ext : List CD} {A : Nat → Prop} {Z : State → Prop} {post : Int32 → Mem → Prop} {R19 : Int32 → Int32 → Mem → Prop} (C : Cx X g (layC ++ ext) A cX3_wideBits 4 RX3 3) (hr : 0 ≤ X.2.2.2.1.cells ∧ 0 ≤ X.2.2.2.1.slots) (hR : RetI X g (layC ++ ext) A cX3_wideBits 4 0 0 Z post) (k19 : ∀ (y2 y3 : Int32) (M : Mem), R19 y2 y3 M → At X g (layC ++ ext) A 4 0 0 Z 19 [(0, .ref (ad g 69)), (2, .int y2), (3, .int y3)] [] M) (x2 x3 : Int32) (M : Mem) (h : P_Judge_wideBits_90 post R19 x2 x3 M) : At X g (layC ++ ext) A 4 0 0 Z 90 [(0, .ref (ad g 69)), (2, .int x2), (3, .int x3)] [] M := by
  refine a_iinc C (1 : Int32) (tk T_cX3_wideBits 48 rfl) rfl kI_1 (by decide) rfl ?_
  refine a_goto C 19 (tk T_cX3_wideBits 49 rfl) rfl ?_
  exact a_to (k19 x2 (x3 + (1 : Int32)) M h) rfl
def P_Judge_wideBits_19 (post : Int32 → Mem → Prop) : Nat → Int32 → Int32 → Mem → Prop
  | 0, _, _, _ => False
  | n + 1, x2, x3, M =>
    ((M 18 11) ≤ x3 → (post x2 M)) ∧
  (¬ (M 18 11) ≤ x3 → (P_R_has (fun r1 M1 =>
  (r1 = 0 → (P_Judge_wideBits_90 post (P_Judge_wideBits_19 post n) x2 x3 M1)) ∧
  (¬ r1 = 0 → (vp_in x3 24 ∧ vp_in (M1 69 10) 3 ∧ ((M1 28 x3.toNatClampNeg) ≤ (M1 20 (M1 69 10).toNatClampNeg) → (P_Judge_wideBits_90 post (P_Judge_wideBits_19 post n) x2 x3 M1)) ∧
  (¬ (M1 28 x3.toNatClampNeg) ≤ (M1 20 (M1 69 10).toNatClampNeg) → (vp_in x3 24 ∧ ((2 : Int32) ≤ (M1 72 x3.toNatClampNeg) → (P_Judge_wideBits_90 post (P_Judge_wideBits_19 post n) x2 x3 M1)) ∧
  (¬ (2 : Int32) ≤ (M1 72 x3.toNatClampNeg) → (∀ x2_2, x2_2 = (x2 ||| ((1 : Int32) <<< (x3 &&& 31))) → P_Judge_wideBits_90 post (P_Judge_wideBits_19 post n) x2_2 x3 M1))))))) (M 69 11) x3 M))
theorem k_Judge_wideBits_19 {X : FX} {g : GT} {ext : List CD} {A : Nat → Prop} {Z : State → Prop} {post : Int32 → Mem → Prop} (C : Cx X g (layC ++ ext) A cX3_wideBits 4 RX3 3) (hr : 0 ≤ X.2.2.2.1.cells ∧ 0 ≤ X.2.2.2.1.slots) (hR : RetI X g (layC ++ ext) A cX3_wideBits 4 0 0 Z post) : ∀ (n : Nat) (x2 x3 : Int32) (M : Mem), P_Judge_wideBits_19 post n x2 x3 M → At X g (layC ++ ext) A 4 0 0 Z 19 [(0, .ref (ad g 69)), (2, .int x2), (3, .int x3)] [] M := by
  intro n
  induction n with
  | zero =>
    intro x2 x3 M h
    exact h.elim
  | succ n ih =>
    intro x2 x3 M h
    refine a_iload_n C (tk T_cX3_wideBits 11 rfl) rfl ?_
    refine a_aload_n C (tk T_cX3_wideBits 12 rfl) rfl ?_
    refine a_getR C f_RX3_38 (tk T_cX3_wideBits 13 rfl) lc69 rfl ?_
    refine a_getR C f_RX3_61 (tk T_cX3_wideBits 14 rfl) lc1 rfl ?_
    refine a_getI C f_RX3_67 (tk T_cX3_wideBits 15 rfl) lc18 rfl ?_
    refine a_icmp_ge C 96 (tk T_cX3_wideBits 16 rfl) rfl (fun c => ?_) (fun c => ?_)
    · have h := h.1 c
      refine a_iload_n C (tk T_cX3_wideBits 50 rfl) rfl ?_
      exact hR _ _ _ _ (tk T_cX3_wideBits 51 rfl) h
    · have h := h.2 c
      refine a_aload_n C (tk T_cX3_wideBits 17 rfl) rfl ?_
      refine a_getI C f_RX3_55 (tk T_cX3_wideBits 18 rfl) lc69 rfl ?_
      refine a_iload_n C (tk T_cX3_wideBits 19 rfl) rfl ?_
      refine a_nestI C [.int (M 69 11), .int x3] me_yX11_has lk_RX3_132 (ct_R_has h) (by decide) rfl rfl (Nat.le_of_ble_eq_true rfl) (tk T_cX3_wideBits 20 rfl) hr (fun r1 M1 h => ?_)
      refine a_if_eq C 90 (tk T_cX3_wideBits 21 rfl) rfl (fun c => ?_) (fun c => ?_)
      · have h := h.1 c
        exact a_to (k_Judge_wideBits_90 C hr hR ih x2 x3 M1 h) rfl
      · have h := h.2 c
        refine a_aload_n C (tk T_cX3_wideBits 22 rfl) rfl ?_
        refine a_getR C f_RX3_38 (tk T_cX3_wideBits 23 rfl) lc69 rfl ?_
        refine a_getR C f_RX3_61 (tk T_cX3_wideBits 24 rfl) lc1 rfl ?_
        refine a_getR C f_RX3_209 (tk T_cX3_wideBits 25 rfl) lc18 rfl ?_
        refine a_iload_n C (tk T_cX3_wideBits 26 rfl) rfl ?_
        obtain ⟨hb, h⟩ := h
        refine a_iald C (tk T_cX3_wideBits 27 rfl) lc28 hb ?_
        refine a_aload_n C (tk T_cX3_wideBits 28 rfl) rfl ?_
        refine a_getR C f_RX3_38 (tk T_cX3_wideBits 29 rfl) lc69 rfl ?_
        refine a_getR C f_RX3_61 (tk T_cX3_wideBits 30 rfl) lc1 rfl ?_
        refine a_getR C f_RX3_212 (tk T_cX3_wideBits 31 rfl) lc18 rfl ?_
        refine a_aload_n C (tk T_cX3_wideBits 32 rfl) rfl ?_
        refine a_getI C f_RX3_51 (tk T_cX3_wideBits 33 rfl) lc69 rfl ?_
        obtain ⟨hb, h⟩ := h
        refine a_iald C (tk T_cX3_wideBits 34 rfl) lc20 hb ?_
        refine a_icmp_le C 90 (tk T_cX3_wideBits 35 rfl) rfl (fun c => ?_) (fun c => ?_)
        · have h := h.1 c
          exact a_to (k_Judge_wideBits_90 C hr hR ih x2 x3 M1 h) rfl
        · have h := h.2 c
          refine a_aload_n C (tk T_cX3_wideBits 36 rfl) rfl ?_
          refine a_getR C f_RX3_18 (tk T_cX3_wideBits 37 rfl) lc69 rfl ?_
          refine a_iload_n C (tk T_cX3_wideBits 38 rfl) rfl ?_
          obtain ⟨hb, h⟩ := h
          refine a_iald C (tk T_cX3_wideBits 39 rfl) lc72 hb ?_
          refine a_iconst C (2 : Int32) (tk T_cX3_wideBits 40 rfl) kI_2 ?_
          refine a_icmp_ge C 90 (tk T_cX3_wideBits 41 rfl) rfl (fun c => ?_) (fun c => ?_)
          · have h := h.1 c
            exact a_to (k_Judge_wideBits_90 C hr hR ih x2 x3 M1 h) rfl
          · have h := h.2 c
            refine a_iload_n C (tk T_cX3_wideBits 42 rfl) rfl ?_
            refine a_iconst C (1 : Int32) (tk T_cX3_wideBits 43 rfl) kI_1 ?_
            refine a_iload_n C (tk T_cX3_wideBits 44 rfl) rfl ?_
            refine a_ishl C (tk T_cX3_wideBits 45 rfl) ?_
            refine a_ior C (tk T_cX3_wideBits 46 rfl) ?_
            refine a_top (fun x2_2 e_x2_2 => ?_)
            have h := h x2_2 e_x2_2
            refine a_istore_n C (tk T_cX3_wideBits 47 rfl) (by decide) rfl ?_
            exact a_to (k_Judge_wideBits_90 C hr hR ih x2_2 x3 M1 h) rfl
def P_Judge_wideBits (post : Int32 → Mem → Prop) (x1 : Int32) (M : Mem) : Prop :=
  P_Table_withAir (fun r1 M1 =>
  P_Judge_countInside (fun M2 =>
  ∃ j19, P_Judge_wideBits_19 post j19 (0 : Int32) (0 : Int32) M2) r1 M1) x1 M
theorem k_Judge_wideBits {X : FX} {g : GT} {ext : List CD} {A : Nat → Prop} {Z : State → Prop} {post : Int32 → Mem → Prop} (C : Cx X g (layC ++ ext) A cX3_wideBits 4 RX3 3) (hr : 0 ≤ X.2.2.2.1.cells ∧ 0 ≤ X.2.2.2.1.slots) (hR : RetI X g (layC ++ ext) A cX3_wideBits 4 0 0 Z post) (x1 : Int32) (M : Mem) (h : P_Judge_wideBits post x1 M) : At X g (layC ++ ext) A 4 0 0 Z 0 [(0, .ref (ad g 69)), (1, .int x1)] [] M := by
  refine a_aload_n C (tk T_cX3_wideBits 0 rfl) rfl ?_
  refine a_aload_n C (tk T_cX3_wideBits 1 rfl) rfl ?_
  refine a_getR C f_RX3_38 (tk T_cX3_wideBits 2 rfl) lc69 rfl ?_
  refine a_getR C f_RX3_123 (tk T_cX3_wideBits 3 rfl) lc1 rfl ?_
  refine a_iload_n C (tk T_cX3_wideBits 4 rfl) rfl ?_
  refine a_callI C [.int x1] me_yX10_withAir lk_RX3_152 (ct_Table_withAir h) (by decide) lc13 rfl rfl rfl (Nat.le_of_ble_eq_true rfl) (tk T_cX3_wideBits 5 rfl) hr (fun r1 M1 h => ?_)
  refine a_callV C [.int r1] me_yX3_countInside lk_RX3_188 (ct_Judge_countInside h) (by decide) lc69 rfl rfl rfl (Nat.le_of_ble_eq_true rfl) (tk T_cX3_wideBits 6 rfl) hr (fun M2 h => ?_)
  refine a_iconst C (0 : Int32) (tk T_cX3_wideBits 7 rfl) kI_0 ?_
  refine a_istore_n C (tk T_cX3_wideBits 8 rfl) (by decide) rfl ?_
  refine a_iconst C (0 : Int32) (tk T_cX3_wideBits 9 rfl) kI_0 ?_
  refine a_istore_n C (tk T_cX3_wideBits 10 rfl) (by decide) rfl ?_
  obtain ⟨n1, h⟩ := h
  exact a_to (k_Judge_wideBits_19 C hr hR n1 (0 : Int32) (0 : Int32) M2 h) rfl
theorem ct_Judge_wideBits {l : Launch} {g : GT} {ext : List CD} {post : Int32 → Mem → Prop} {x1 : Int32} {M : Mem} (h : P_Judge_wideBits post x1 M) : CI l g (layC ++ ext) yX3_wideBits cX3_wideBits 4 (some .int) 3 [.ref (ad g 69), .int x1] M post :=
  ci_of (plainFor_of_name (by decide +kernel)) (Nat.le_of_ble_eq_true rfl) (fun X A Z hl C hr hR => by subst hl; exact k_Judge_wideBits C hr hR x1 M h)
