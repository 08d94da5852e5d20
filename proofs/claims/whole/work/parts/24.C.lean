def T_cX11_imageL : List (Nat × Instr × Nat) := [(0, .aload_n 0, 1), (1, .getfield 16, 3), (4, .aload_n 0, 1), (5, .getfield 10, 3), (8, .invokevirtual 405, 3), (11, .aload_n 0, 1), (12, .iconst 1, 1), (13, .putfield 408, 3), (16, .return_, 1)]
theorem T_cX11_image : tabOK cX11_image T_cX11_imageL = true := by decide +kernel
def P_R_image (ext : List CD) (post : Mem → Prop) (M : Mem) : Prop :=
  P_Desk_become ext (fun M1 =>
  ∀ M2, M2 = ms M1 0 7 (1 : Int32) → post M2) M
theorem k_R_image {X : FX} {g : GT} {ext : List CD} {A : Nat → Prop} {Z : State → Prop} {post : Mem → Prop} (C : Cx X g (layC ++ ext) A cX11_image 1 RX11 2) (hr : 0 ≤ X.2.2.2.1.cells ∧ 0 ≤ X.2.2.2.1.slots) (hR : RetV X g (layC ++ ext) A cX11_image 1 0 0 Z post) (M : Mem) (h : P_R_image ext post M) : AtX X g (layC ++ ext) A 1 0 0 Z 0 [(0, .ref (ad g 0))] [] M := by
  refine a_aload_n C (tk T_cX11_image 0 rfl) rfl ?_
  refine a_getR C f_RX11_16 (tk T_cX11_image 1 rfl) lc0 rfl ?_
  refine a_aload_n C (tk T_cX11_image 2 rfl) rfl ?_
  refine a_getR C f_RX11_10 (tk T_cX11_image 3 rfl) lc0 rfl ?_
  refine a_callV C [.ref (ad g 1)] me_yX2_become lk_RX11_405 (ct_Desk_become h) (by decide) lc32 rfl rfl rfl (Nat.le_of_ble_eq_true rfl) (tk T_cX11_image 4 rfl) hr (fun M1 h => ?_)
  refine a_aload_n C (tk T_cX11_image 5 rfl) rfl ?_
  refine a_iconst C (1 : Int32) (tk T_cX11_image 6 rfl) kI_1 ?_
  refine a_put C f_RX11_408 f_RX11_408p (nar_z (Or.inr rfl)) (fit_z (Or.inr rfl)) (tk T_cX11_image 7 rfl) lc0 rfl ?_
  refine a_mem (fun M2 e_M2 => ?_)
  have h := h M2 e_M2
  exact hR _ _ _ (tk T_cX11_image 8 rfl) h
theorem ct_R_image {l : Launch} {g : GT} {ext : List CD} {post : Mem → Prop} {M : Mem} (h : P_R_image ext post M) : CV l g (layC ++ ext) yX11_image cX11_image 1 none 2 [.ref (ad g 0)] M post :=
  cv_of (plainFor_of_name (by decide +kernel)) (Nat.le_of_ble_eq_true rfl) (fun X A Z hl C hr hR => by subst hl; exact k_R_image C hr hR  M h)
def P_Screw_become_2_33_2 (post : Mem → Prop) : Nat → Int32 → Mem → Prop
  | 0, _, _ => False
  | n + 1, x2, M =>
    ((8 : Int32) ≤ x2 → (∀ M1, M1 = ms M 2 5 (M 33 5) → ∀ M2, M2 = ms M1 2 6 (M1 33 6) → ∀ M3, M3 = ms M2 2 7 (M2 33 7) → ∀ M4, M4 = ms M3 2 8 (M3 33 8) → ∀ M5, M5 = ms M4 2 9 (M4 33 9) → post M5)) ∧
  (¬ (8 : Int32) ≤ x2 → (vp_in x2 8 ∧ vp_in x2 8 ∧ ∀ M6, M6 = ms M 3 x2.toNatClampNeg (M 34 x2.toNatClampNeg) → vp_in x2 8 ∧ vp_in x2 8 ∧ ∀ M7, M7 = ms M6 4 x2.toNatClampNeg (vp_nar .boolean (M6 35 x2.toNatClampNeg)) → vp_in x2 8 ∧ vp_in x2 8 ∧ ∀ M8, M8 = ms M7 5 x2.toNatClampNeg (M7 36 x2.toNatClampNeg) → vp_in x2 8 ∧ vp_in x2 8 ∧ ∀ M9, M9 = ms M8 6 x2.toNatClampNeg (vp_nar .boolean (M8 37 x2.toNatClampNeg)) → vp_in x2 8 ∧ vp_in x2 8 ∧ ∀ M10, M10 = ms M9 7 x2.toNatClampNeg (M9 38 x2.toNatClampNeg) → P_Screw_become_2_33_2 post n (x2 + (1 : Int32)) M10))
theorem k_Screw_become_2_33_2 {X : FX} {g : GT} {ext : List CD} {A : Nat → Prop} {Z : State → Prop} {post : Mem → Prop} (C : Cx X g (layC ++ ext) A cX8_become 3 RX8 0) (hr : 0 ≤ X.2.2.2.1.cells ∧ 0 ≤ X.2.2.2.1.slots) (hR : RetV X g (layC ++ ext) A cX8_become 3 0 0 Z post) : ∀ (n : Nat) (x2 : Int32) (M : Mem), P_Screw_become_2_33_2 post n x2 M → AtX X g (layC ++ ext) A 3 0 0 Z 2 [(0, .ref (ad g 2)), (1, .ref (ad g 33)), (2, .int x2)] [] M := by
  intro n
  induction n with
  | zero =>
    intro x2 M h
    exact h.elim
  | succ n ih =>
    intro x2 M h
    refine a_iload_n C (tk T_cX8_become 2 rfl) rfl ?_
    refine a_bipush C (8 : Int32) (tk T_cX8_become 3 rfl) kB_8 ?_
    refine a_icmp_ge C 74 (tk T_cX8_become 4 rfl) rfl (fun c => ?_) (fun c => ?_)
    · have h := h.1 c
      refine a_aload_n C (tk T_cX8_become 47 rfl) rfl ?_
      refine a_aload_n C (tk T_cX8_become 48 rfl) rfl ?_
      refine a_getI C f_RX8_32 (tk T_cX8_become 49 rfl) lc33 rfl ?_
      refine a_put C f_RX8_32 f_RX8_32p rfl rfl (tk T_cX8_become 50 rfl) lc2 rfl ?_
      refine a_mem (fun M1 e_M1 => ?_)
      have h := h M1 e_M1
      refine a_aload_n C (tk T_cX8_become 51 rfl) rfl ?_
      refine a_aload_n C (tk T_cX8_become 52 rfl) rfl ?_
      refine a_getI C f_RX8_28 (tk T_cX8_become 53 rfl) lc33 rfl ?_
      refine a_put C f_RX8_28 f_RX8_28p rfl rfl (tk T_cX8_become 54 rfl) lc2 rfl ?_
      refine a_mem (fun M2 e_M2 => ?_)
      have h := h M2 e_M2
      refine a_aload_n C (tk T_cX8_become 55 rfl) rfl ?_
      refine a_aload_n C (tk T_cX8_become 56 rfl) rfl ?_
      refine a_getI C f_RX8_35 (tk T_cX8_become 57 rfl) lc33 rfl ?_
      refine a_put C f_RX8_35 f_RX8_35p rfl rfl (tk T_cX8_become 58 rfl) lc2 rfl ?_
      refine a_mem (fun M3 e_M3 => ?_)
      have h := h M3 e_M3
      refine a_aload_n C (tk T_cX8_become 59 rfl) rfl ?_
      refine a_aload_n C (tk T_cX8_become 60 rfl) rfl ?_
      refine a_getI C f_RX8_38 (tk T_cX8_become 61 rfl) lc33 rfl ?_
      refine a_put C f_RX8_38 f_RX8_38p rfl rfl (tk T_cX8_become 62 rfl) lc2 rfl ?_
      refine a_mem (fun M4 e_M4 => ?_)
      have h := h M4 e_M4
      refine a_aload_n C (tk T_cX8_become 63 rfl) rfl ?_
      refine a_aload_n C (tk T_cX8_become 64 rfl) rfl ?_
      refine a_getI C f_RX8_41 (tk T_cX8_become 65 rfl) lc33 rfl ?_
      refine a_put C f_RX8_41 f_RX8_41p rfl rfl (tk T_cX8_become 66 rfl) lc2 rfl ?_
      refine a_mem (fun M5 e_M5 => ?_)
      have h := h M5 e_M5
      exact hR _ _ _ (tk T_cX8_become 67 rfl) h
    · have h := h.2 c
      refine a_aload_n C (tk T_cX8_become 5 rfl) rfl ?_
      refine a_getR C f_RX8_9 (tk T_cX8_become 6 rfl) lc2 rfl ?_
      refine a_iload_n C (tk T_cX8_become 7 rfl) rfl ?_
      refine a_aload_n C (tk T_cX8_become 8 rfl) rfl ?_
      refine a_getR C f_RX8_9 (tk T_cX8_become 9 rfl) lc33 rfl ?_
      refine a_iload_n C (tk T_cX8_become 10 rfl) rfl ?_
      obtain ⟨hb, h⟩ := h
      refine a_iald C (tk T_cX8_become 11 rfl) lc34 hb ?_
      obtain ⟨hb, h⟩ := h
      refine a_iast C (tk T_cX8_become 12 rfl) lc3 hb ?_
      refine a_mem (fun M6 e_M6 => ?_)
      have h := h M6 e_M6
      refine a_aload_n C (tk T_cX8_become 13 rfl) rfl ?_
      refine a_getR C f_RX8_15 (tk T_cX8_become 14 rfl) lc2 rfl ?_
      refine a_iload_n C (tk T_cX8_become 15 rfl) rfl ?_
      refine a_aload_n C (tk T_cX8_become 16 rfl) rfl ?_
      refine a_getR C f_RX8_15 (tk T_cX8_become 17 rfl) lc33 rfl ?_
      refine a_iload_n C (tk T_cX8_become 18 rfl) rfl ?_
      obtain ⟨hb, h⟩ := h
      refine a_zald C (tk T_cX8_become 19 rfl) lc35 hb ?_
      obtain ⟨hb, h⟩ := h
      refine a_zast C (tk T_cX8_become 20 rfl) lc4 hb ?_
      refine a_mem (fun M7 e_M7 => ?_)
      have h := h M7 e_M7
      refine a_aload_n C (tk T_cX8_become 21 rfl) rfl ?_
      refine a_getR C f_RX8_19 (tk T_cX8_become 22 rfl) lc2 rfl ?_
      refine a_iload_n C (tk T_cX8_become 23 rfl) rfl ?_
      refine a_aload_n C (tk T_cX8_become 24 rfl) rfl ?_
      refine a_getR C f_RX8_19 (tk T_cX8_become 25 rfl) lc33 rfl ?_
      refine a_iload_n C (tk T_cX8_become 26 rfl) rfl ?_
      obtain ⟨hb, h⟩ := h
      refine a_iald C (tk T_cX8_become 27 rfl) lc36 hb ?_
      obtain ⟨hb, h⟩ := h
      refine a_iast C (tk T_cX8_become 28 rfl) lc5 hb ?_
      refine a_mem (fun M8 e_M8 => ?_)
      have h := h M8 e_M8
      refine a_aload_n C (tk T_cX8_become 29 rfl) rfl ?_
      refine a_getR C f_RX8_22 (tk T_cX8_become 30 rfl) lc2 rfl ?_
      refine a_iload_n C (tk T_cX8_become 31 rfl) rfl ?_
      refine a_aload_n C (tk T_cX8_become 32 rfl) rfl ?_
      refine a_getR C f_RX8_22 (tk T_cX8_become 33 rfl) lc33 rfl ?_
      refine a_iload_n C (tk T_cX8_become 34 rfl) rfl ?_
      obtain ⟨hb, h⟩ := h
      refine a_zald C (tk T_cX8_become 35 rfl) lc37 hb ?_
      obtain ⟨hb, h⟩ := h
      refine a_zast C (tk T_cX8_become 36 rfl) lc6 hb ?_
      refine a_mem (fun M9 e_M9 => ?_)
      have h := h M9 e_M9
      refine a_aload_n C (tk T_cX8_become 37 rfl) rfl ?_
      refine a_getR C f_RX8_25 (tk T_cX8_become 38 rfl) lc2 rfl ?_
      refine a_iload_n C (tk T_cX8_become 39 rfl) rfl ?_
      refine a_aload_n C (tk T_cX8_become 40 rfl) rfl ?_
      refine a_getR C f_RX8_25 (tk T_cX8_become 41 rfl) lc33 rfl ?_
      refine a_iload_n C (tk T_cX8_become 42 rfl) rfl ?_
      obtain ⟨hb, h⟩ := h
      refine a_iald C (tk T_cX8_become 43 rfl) lc38 hb ?_
      obtain ⟨hb, h⟩ := h
      refine a_iast C (tk T_cX8_become 44 rfl) lc7 hb ?_
      refine a_mem (fun M10 e_M10 => ?_)
      have h := h M10 e_M10
      refine a_iinc C (1 : Int32) (tk T_cX8_become 45 rfl) rfl kI_1 (by decide) rfl ?_
      refine a_goto C 2 (tk T_cX8_become 46 rfl) rfl ?_
      exact a_to (ih (x2 + (1 : Int32)) M10 h) rfl
def P_Screw_become_2_33 (post : Mem → Prop) (M : Mem) : Prop :=
  ∃ j2, P_Screw_become_2_33_2 post j2 (0 : Int32) M
theorem k_Screw_become_2_33 {X : FX} {g : GT} {ext : List CD} {A : Nat → Prop} {Z : State → Prop} {post : Mem → Prop} (C : Cx X g (layC ++ ext) A cX8_become 3 RX8 0) (hr : 0 ≤ X.2.2.2.1.cells ∧ 0 ≤ X.2.2.2.1.slots) (hR : RetV X g (layC ++ ext) A cX8_become 3 0 0 Z post) (M : Mem) (h : P_Screw_become_2_33 post M) : AtX X g (layC ++ ext) A 3 0 0 Z 0 [(0, .ref (ad g 2)), (1, .ref (ad g 33))] [] M := by
  refine a_iconst C (0 : Int32) (tk T_cX8_become 0 rfl) kI_0 ?_
  refine a_istore_n C (tk T_cX8_become 1 rfl) (by decide) rfl ?_
  obtain ⟨n1, h⟩ := h
  exact a_to (k_Screw_become_2_33_2 C hr hR n1 (0 : Int32) M h) rfl
theorem ct_Screw_become_2_33 {l : Launch} {g : GT} {ext : List CD} {post : Mem → Prop} {M : Mem} (h : P_Screw_become_2_33 post M) : CV l g (layC ++ ext) yX8_become cX8_become 3 none 0 [.ref (ad g 2), .ref (ad g 33)] M post :=
  cv_of (plainFor_of_name (by decide +kernel)) (Nat.le_of_ble_eq_true rfl) (fun X A Z hl C hr hR => by subst hl; exact k_Screw_become_2_33 C hr hR  M h)
def P_Knowns_become_8_39_2 (post : Mem → Prop) : Nat → Int32 → Mem → Prop
  | 0, _, _ => False
  | n + 1, x2, M =>
    ((10 : Int32) ≤ x2 → (∀ M1, M1 = ms M 8 4 (M 39 4) → ∀ M2, M2 = ms M1 8 5 (M1 39 5) → post M2)) ∧
  (¬ (10 : Int32) ≤ x2 → (vp_in x2 10 ∧ vp_in x2 10 ∧ ∀ M3, M3 = ms M 9 x2.toNatClampNeg (M 40 x2.toNatClampNeg) → vp_in x2 10 ∧ vp_in x2 10 ∧ ∀ M4, M4 = ms M3 10 x2.toNatClampNeg (vp_nar .boolean (M3 41 x2.toNatClampNeg)) → vp_in x2 10 ∧ vp_in x2 10 ∧ ∀ M5, M5 = ms M4 11 x2.toNatClampNeg (M4 42 x2.toNatClampNeg) → vp_in x2 10 ∧ vp_in x2 10 ∧ ∀ M6, M6 = ms M5 12 x2.toNatClampNeg (vp_nar .boolean (M5 43 x2.toNatClampNeg)) → P_Knowns_become_8_39_2 post n (x2 + (1 : Int32)) M6))
theorem k_Knowns_become_8_39_2 {X : FX} {g : GT} {ext : List CD} {A : Nat → Prop} {Z : State → Prop} {post : Mem → Prop} (C : Cx X g (layC ++ ext) A cX4_become 3 RX4 0) (hr : 0 ≤ X.2.2.2.1.cells ∧ 0 ≤ X.2.2.2.1.slots) (hR : RetV X g (layC ++ ext) A cX4_become 3 0 0 Z post) : ∀ (n : Nat) (x2 : Int32) (M : Mem), P_Knowns_become_8_39_2 post n x2 M → AtX X g (layC ++ ext) A 3 0 0 Z 2 [(0, .ref (ad g 8)), (1, .ref (ad g 39)), (2, .int x2)] [] M := by
  intro n
  induction n with
  | zero =>
    intro x2 M h
    exact h.elim
  | succ n ih =>
    intro x2 M h
    refine a_iload_n C (tk T_cX4_become 2 rfl) rfl ?_
    refine a_bipush C (10 : Int32) (tk T_cX4_become 3 rfl) kB_10 ?_
    refine a_icmp_ge C 62 (tk T_cX4_become 4 rfl) rfl (fun c => ?_) (fun c => ?_)
    · have h := h.1 c
      refine a_aload_n C (tk T_cX4_become 39 rfl) rfl ?_
      refine a_aload_n C (tk T_cX4_become 40 rfl) rfl ?_
      refine a_getI C f_RX4_29 (tk T_cX4_become 41 rfl) lc39 rfl ?_
      refine a_put C f_RX4_29 f_RX4_29p rfl rfl (tk T_cX4_become 42 rfl) lc8 rfl ?_
      refine a_mem (fun M1 e_M1 => ?_)
      have h := h M1 e_M1
      refine a_aload_n C (tk T_cX4_become 43 rfl) rfl ?_
      refine a_aload_n C (tk T_cX4_become 44 rfl) rfl ?_
      refine a_getI C f_RX4_25 (tk T_cX4_become 45 rfl) lc39 rfl ?_
      refine a_put C f_RX4_25 f_RX4_25p rfl rfl (tk T_cX4_become 46 rfl) lc8 rfl ?_
      refine a_mem (fun M2 e_M2 => ?_)
      have h := h M2 e_M2
      exact hR _ _ _ (tk T_cX4_become 47 rfl) h
    · have h := h.2 c
      refine a_aload_n C (tk T_cX4_become 5 rfl) rfl ?_
      refine a_getR C f_RX4_9 (tk T_cX4_become 6 rfl) lc8 rfl ?_
      refine a_iload_n C (tk T_cX4_become 7 rfl) rfl ?_
      refine a_aload_n C (tk T_cX4_become 8 rfl) rfl ?_
      refine a_getR C f_RX4_9 (tk T_cX4_become 9 rfl) lc39 rfl ?_
      refine a_iload_n C (tk T_cX4_become 10 rfl) rfl ?_
      obtain ⟨hb, h⟩ := h
      refine a_iald C (tk T_cX4_become 11 rfl) lc40 hb ?_
      obtain ⟨hb, h⟩ := h
      refine a_iast C (tk T_cX4_become 12 rfl) lc9 hb ?_
      refine a_mem (fun M3 e_M3 => ?_)
      have h := h M3 e_M3
      refine a_aload_n C (tk T_cX4_become 13 rfl) rfl ?_
      refine a_getR C f_RX4_15 (tk T_cX4_become 14 rfl) lc8 rfl ?_
      refine a_iload_n C (tk T_cX4_become 15 rfl) rfl ?_
      refine a_aload_n C (tk T_cX4_become 16 rfl) rfl ?_
      refine a_getR C f_RX4_15 (tk T_cX4_become 17 rfl) lc39 rfl ?_
      refine a_iload_n C (tk T_cX4_become 18 rfl) rfl ?_
      obtain ⟨hb, h⟩ := h
      refine a_zald C (tk T_cX4_become 19 rfl) lc41 hb ?_
      obtain ⟨hb, h⟩ := h
      refine a_zast C (tk T_cX4_become 20 rfl) lc10 hb ?_
      refine a_mem (fun M4 e_M4 => ?_)
      have h := h M4 e_M4
      refine a_aload_n C (tk T_cX4_become 21 rfl) rfl ?_
      refine a_getR C f_RX4_19 (tk T_cX4_become 22 rfl) lc8 rfl ?_
      refine a_iload_n C (tk T_cX4_become 23 rfl) rfl ?_
      refine a_aload_n C (tk T_cX4_become 24 rfl) rfl ?_
      refine a_getR C f_RX4_19 (tk T_cX4_become 25 rfl) lc39 rfl ?_
      refine a_iload_n C (tk T_cX4_become 26 rfl) rfl ?_
      obtain ⟨hb, h⟩ := h
      refine a_iald C (tk T_cX4_become 27 rfl) lc42 hb ?_
      obtain ⟨hb, h⟩ := h
      refine a_iast C (tk T_cX4_become 28 rfl) lc11 hb ?_
      refine a_mem (fun M5 e_M5 => ?_)
      have h := h M5 e_M5
      refine a_aload_n C (tk T_cX4_become 29 rfl) rfl ?_
      refine a_getR C f_RX4_22 (tk T_cX4_become 30 rfl) lc8 rfl ?_
      refine a_iload_n C (tk T_cX4_become 31 rfl) rfl ?_
      refine a_aload_n C (tk T_cX4_become 32 rfl) rfl ?_
      refine a_getR C f_RX4_22 (tk T_cX4_become 33 rfl) lc39 rfl ?_
      refine a_iload_n C (tk T_cX4_become 34 rfl) rfl ?_
      obtain ⟨hb, h⟩ := h
      refine a_zald C (tk T_cX4_become 35 rfl) lc43 hb ?_
      obtain ⟨hb, h⟩ := h
      refine a_zast C (tk T_cX4_become 36 rfl) lc12 hb ?_
      refine a_mem (fun M6 e_M6 => ?_)
      have h := h M6 e_M6
      refine a_iinc C (1 : Int32) (tk T_cX4_become 37 rfl) rfl kI_1 (by decide) rfl ?_
      refine a_goto C 2 (tk T_cX4_become 38 rfl) rfl ?_
      exact a_to (ih (x2 + (1 : Int32)) M6 h) rfl
def P_Knowns_become_8_39 (post : Mem → Prop) (M : Mem) : Prop :=
  ∃ j2, P_Knowns_become_8_39_2 post j2 (0 : Int32) M
theorem k_Knowns_become_8_39 {X : FX} {g : GT} {ext : List CD} {A : Nat → Prop} {Z : State → Prop} {post : Mem → Prop} (C : Cx X g (layC ++ ext) A cX4_become 3 RX4 0) (hr : 0 ≤ X.2.2.2.1.cells ∧ 0 ≤ X.2.2.2.1.slots) (hR : RetV X g (layC ++ ext) A cX4_become 3 0 0 Z post) (M : Mem) (h : P_Knowns_become_8_39 post M) : AtX X g (layC ++ ext) A 3 0 0 Z 0 [(0, .ref (ad g 8)), (1, .ref (ad g 39))] [] M := by
  refine a_iconst C (0 : Int32) (tk T_cX4_become 0 rfl) kI_0 ?_
  refine a_istore_n C (tk T_cX4_become 1 rfl) (by decide) rfl ?_
  obtain ⟨n1, h⟩ := h
  exact a_to (k_Knowns_become_8_39_2 C hr hR n1 (0 : Int32) M h) rfl
theorem ct_Knowns_become_8_39 {l : Launch} {g : GT} {ext : List CD} {post : Mem → Prop} {M : Mem} (h : P_Knowns_become_8_39 post M) : CV l g (layC ++ ext) yX4_become cX4_become 3 none 0 [.ref (ad g 8), .ref (ad g 39)] M post :=
  cv_of (plainFor_of_name (by decide +kernel)) (Nat.le_of_ble_eq_true rfl) (fun X A Z hl C hr hR => by subst hl; exact k_Knowns_become_8_39 C hr hR  M h)
def P_Table_become_13_44_40 (post : Mem → Prop) : Nat → Int32 → Mem → Prop
  | 0, _, _ => False
  | n + 1, x2, M =>
    ((36 : Int32) ≤ x2 → (∀ M1, M1 = ms M 13 4 (M 44 4) → post M1)) ∧
  (¬ (36 : Int32) ≤ x2 → (vp_in x2 36 ∧ vp_in x2 36 ∧ ∀ M2, M2 = ms M 16 x2.toNatClampNeg (M 47 x2.toNatClampNeg) → vp_in x2 36 ∧ vp_in x2 36 ∧ ∀ M3, M3 = ms M2 17 x2.toNatClampNeg (M2 48 x2.toNatClampNeg) → P_Table_become_13_44_40 post n (x2 + (1 : Int32)) M3))
theorem k_Table_become_13_44_40 {X : FX} {g : GT} {ext : List CD} {A : Nat → Prop} {Z : State → Prop} {post : Mem → Prop} (C : Cx X g (layC ++ ext) A cX10_become 3 RX10 0) (hr : 0 ≤ X.2.2.2.1.cells ∧ 0 ≤ X.2.2.2.1.slots) (hR : RetV X g (layC ++ ext) A cX10_become 3 0 0 Z post) : ∀ (n : Nat) (x2 : Int32) (M : Mem), P_Table_become_13_44_40 post n x2 M → AtX X g (layC ++ ext) A 3 0 0 Z 40 [(0, .ref (ad g 13)), (1, .ref (ad g 44)), (2, .int x2)] [] M := by
  intro n
  induction n with
  | zero =>
    intro x2 M h
    exact h.elim
  | succ n ih =>
    intro x2 M h
    refine a_iload_n C (tk T_cX10_become 25 rfl) rfl ?_
    refine a_bipush C (36 : Int32) (tk T_cX10_become 26 rfl) kB_36 ?_
    refine a_icmp_ge C 76 (tk T_cX10_become 27 rfl) rfl (fun c => ?_) (fun c => ?_)
    · have h := h.1 c
      refine a_aload_n C (tk T_cX10_become 46 rfl) rfl ?_
      refine a_aload_n C (tk T_cX10_become 47 rfl) rfl ?_
      refine a_getI C f_RX10_25 (tk T_cX10_become 48 rfl) lc44 rfl ?_
      refine a_put C f_RX10_25 f_RX10_25p rfl rfl (tk T_cX10_become 49 rfl) lc13 rfl ?_
      refine a_mem (fun M1 e_M1 => ?_)
      have h := h M1 e_M1
      exact hR _ _ _ (tk T_cX10_become 50 rfl) h
    · have h := h.2 c
      refine a_aload_n C (tk T_cX10_become 28 rfl) rfl ?_
      refine a_getR C f_RX10_19 (tk T_cX10_become 29 rfl) lc13 rfl ?_
      refine a_iload_n C (tk T_cX10_become 30 rfl) rfl ?_
      refine a_aload_n C (tk T_cX10_become 31 rfl) rfl ?_
      refine a_getR C f_RX10_19 (tk T_cX10_become 32 rfl) lc44 rfl ?_
      refine a_iload_n C (tk T_cX10_become 33 rfl) rfl ?_
      obtain ⟨hb, h⟩ := h
      refine a_iald C (tk T_cX10_become 34 rfl) lc47 hb ?_
      obtain ⟨hb, h⟩ := h
      refine a_iast C (tk T_cX10_become 35 rfl) lc16 hb ?_
      refine a_mem (fun M2 e_M2 => ?_)
      have h := h M2 e_M2
      refine a_aload_n C (tk T_cX10_become 36 rfl) rfl ?_
      refine a_getR C f_RX10_22 (tk T_cX10_become 37 rfl) lc13 rfl ?_
      refine a_iload_n C (tk T_cX10_become 38 rfl) rfl ?_
      refine a_aload_n C (tk T_cX10_become 39 rfl) rfl ?_
      refine a_getR C f_RX10_22 (tk T_cX10_become 40 rfl) lc44 rfl ?_
      refine a_iload_n C (tk T_cX10_become 41 rfl) rfl ?_
      obtain ⟨hb, h⟩ := h
      refine a_iald C (tk T_cX10_become 42 rfl) lc48 hb ?_
      obtain ⟨hb, h⟩ := h
      refine a_iast C (tk T_cX10_become 43 rfl) lc17 hb ?_
      refine a_mem (fun M3 e_M3 => ?_)
      have h := h M3 e_M3
      refine a_iinc C (1 : Int32) (tk T_cX10_become 44 rfl) rfl kI_1 (by decide) rfl ?_
      refine a_goto C 40 (tk T_cX10_become 45 rfl) rfl ?_
      exact a_to (ih (x2 + (1 : Int32)) M3 h) rfl
def P_Table_become_13_44_2 (post : Mem → Prop) : Nat → Int32 → Mem → Prop
  | 0, _, _ => False
  | n + 1, x2, M =>
    ((6 : Int32) ≤ x2 → (∃ j40, P_Table_become_13_44_40 post j40 (0 : Int32) M)) ∧
  (¬ (6 : Int32) ≤ x2 → (vp_in x2 6 ∧ vp_in x2 6 ∧ ∀ M1, M1 = ms M 14 x2.toNatClampNeg (vp_nar .boolean (M 45 x2.toNatClampNeg)) → vp_in x2 6 ∧ vp_in x2 6 ∧ ∀ M2, M2 = ms M1 15 x2.toNatClampNeg (M1 46 x2.toNatClampNeg) → P_Table_become_13_44_2 post n (x2 + (1 : Int32)) M2))
theorem k_Table_become_13_44_2 {X : FX} {g : GT} {ext : List CD} {A : Nat → Prop} {Z : State → Prop} {post : Mem → Prop} (C : Cx X g (layC ++ ext) A cX10_become 3 RX10 0) (hr : 0 ≤ X.2.2.2.1.cells ∧ 0 ≤ X.2.2.2.1.slots) (hR : RetV X g (layC ++ ext) A cX10_become 3 0 0 Z post) : ∀ (n : Nat) (x2 : Int32) (M : Mem), P_Table_become_13_44_2 post n x2 M → AtX X g (layC ++ ext) A 3 0 0 Z 2 [(0, .ref (ad g 13)), (1, .ref (ad g 44)), (2, .int x2)] [] M := by
  intro n
  induction n with
  | zero =>
    intro x2 M h
    exact h.elim
  | succ n ih =>
    intro x2 M h
    refine a_iload_n C (tk T_cX10_become 2 rfl) rfl ?_
    refine a_bipush C (6 : Int32) (tk T_cX10_become 3 rfl) kB_6 ?_
    refine a_icmp_ge C 38 (tk T_cX10_become 4 rfl) rfl (fun c => ?_) (fun c => ?_)
    · have h := h.1 c
      refine a_iconst C (0 : Int32) (tk T_cX10_become 23 rfl) kI_0 ?_
      refine a_istore_n C (tk T_cX10_become 24 rfl) (by decide) rfl ?_
      obtain ⟨n1, h⟩ := h
      exact a_to (k_Table_become_13_44_40 C hr hR n1 (0 : Int32) M h) rfl
    · have h := h.2 c
      refine a_aload_n C (tk T_cX10_become 5 rfl) rfl ?_
      refine a_getR C f_RX10_9 (tk T_cX10_become 6 rfl) lc13 rfl ?_
      refine a_iload_n C (tk T_cX10_become 7 rfl) rfl ?_
      refine a_aload_n C (tk T_cX10_become 8 rfl) rfl ?_
      refine a_getR C f_RX10_9 (tk T_cX10_become 9 rfl) lc44 rfl ?_
      refine a_iload_n C (tk T_cX10_become 10 rfl) rfl ?_
      obtain ⟨hb, h⟩ := h
      refine a_zald C (tk T_cX10_become 11 rfl) lc45 hb ?_
      obtain ⟨hb, h⟩ := h
      refine a_zast C (tk T_cX10_become 12 rfl) lc14 hb ?_
      refine a_mem (fun M1 e_M1 => ?_)
      have h := h M1 e_M1
      refine a_aload_n C (tk T_cX10_become 13 rfl) rfl ?_
      refine a_getR C f_RX10_15 (tk T_cX10_become 14 rfl) lc13 rfl ?_
      refine a_iload_n C (tk T_cX10_become 15 rfl) rfl ?_
      refine a_aload_n C (tk T_cX10_become 16 rfl) rfl ?_
      refine a_getR C f_RX10_15 (tk T_cX10_become 17 rfl) lc44 rfl ?_
      refine a_iload_n C (tk T_cX10_become 18 rfl) rfl ?_
      obtain ⟨hb, h⟩ := h
      refine a_iald C (tk T_cX10_become 19 rfl) lc46 hb ?_
      obtain ⟨hb, h⟩ := h
      refine a_iast C (tk T_cX10_become 20 rfl) lc15 hb ?_
      refine a_mem (fun M2 e_M2 => ?_)
      have h := h M2 e_M2
      refine a_iinc C (1 : Int32) (tk T_cX10_become 21 rfl) rfl kI_1 (by decide) rfl ?_
      refine a_goto C 2 (tk T_cX10_become 22 rfl) rfl ?_
      exact a_to (ih (x2 + (1 : Int32)) M2 h) rfl
def P_Table_become_13_44 (post : Mem → Prop) (M : Mem) : Prop :=
  ∃ j2, P_Table_become_13_44_2 post j2 (0 : Int32) M
theorem k_Table_become_13_44 {X : FX} {g : GT} {ext : List CD} {A : Nat → Prop} {Z : State → Prop} {post : Mem → Prop} (C : Cx X g (layC ++ ext) A cX10_become 3 RX10 0) (hr : 0 ≤ X.2.2.2.1.cells ∧ 0 ≤ X.2.2.2.1.slots) (hR : RetV X g (layC ++ ext) A cX10_become 3 0 0 Z post) (M : Mem) (h : P_Table_become_13_44 post M) : AtX X g (layC ++ ext) A 3 0 0 Z 0 [(0, .ref (ad g 13)), (1, .ref (ad g 44))] [] M := by
  refine a_iconst C (0 : Int32) (tk T_cX10_become 0 rfl) kI_0 ?_
  refine a_istore_n C (tk T_cX10_become 1 rfl) (by decide) rfl ?_
  obtain ⟨n1, h⟩ := h
  exact a_to (k_Table_become_13_44_2 C hr hR n1 (0 : Int32) M h) rfl
theorem ct_Table_become_13_44 {l : Launch} {g : GT} {ext : List CD} {post : Mem → Prop} {M : Mem} (h : P_Table_become_13_44 post M) : CV l g (layC ++ ext) yX10_become cX10_become 3 none 0 [.ref (ad g 13), .ref (ad g 44)] M post :=
  cv_of (plainFor_of_name (by decide +kernel)) (Nat.le_of_ble_eq_true rfl) (fun X A Z hl C hr hR => by subst hl; exact k_Table_become_13_44 C hr hR  M h)
def P_Shelf_become_18_49_83 (post : Mem → Prop) : Nat → Int32 → Mem → Prop
  | 0, _, _ => False
  | n + 1, x2, M =>
    ((24 : Int32) ≤ x2 → (∀ M1, M1 = ms M 18 11 (M 49 11) → post M1)) ∧
  (¬ (24 : Int32) ≤ x2 → (vp_in x2 24 ∧ vp_in x2 24 ∧ ∀ M2, M2 = ms M 24 x2.toNatClampNeg (M 55 x2.toNatClampNeg) → vp_in x2 24 ∧ vp_in x2 24 ∧ ∀ M3, M3 = ms M2 25 x2.toNatClampNeg (M2 56 x2.toNatClampNeg) → vp_in x2 24 ∧ vp_in x2 24 ∧ ∀ M4, M4 = ms M3 26 x2.toNatClampNeg (vp_nar .boolean (M3 57 x2.toNatClampNeg)) → vp_in x2 24 ∧ vp_in x2 24 ∧ ∀ M5, M5 = ms M4 27 x2.toNatClampNeg (M4 58 x2.toNatClampNeg) → vp_in x2 24 ∧ vp_in x2 24 ∧ ∀ M6, M6 = ms M5 28 x2.toNatClampNeg (M5 59 x2.toNatClampNeg) → P_Shelf_become_18_49_83 post n (x2 + (1 : Int32)) M6))
theorem k_Shelf_become_18_49_83 {X : FX} {g : GT} {ext : List CD} {A : Nat → Prop} {Z : State → Prop} {post : Mem → Prop} (C : Cx X g (layC ++ ext) A cX9_become 3 RX9 0) (hr : 0 ≤ X.2.2.2.1.cells ∧ 0 ≤ X.2.2.2.1.slots) (hR : RetV X g (layC ++ ext) A cX9_become 3 0 0 Z post) : ∀ (n : Nat) (x2 : Int32) (M : Mem), P_Shelf_become_18_49_83 post n x2 M → AtX X g (layC ++ ext) A 3 0 0 Z 83 [(0, .ref (ad g 18)), (1, .ref (ad g 49)), (2, .int x2)] [] M := by
  intro n
  induction n with
  | zero =>
    intro x2 M h
    exact h.elim
  | succ n ih =>
    intro x2 M h
    refine a_iload_n C (tk T_cX9_become 53 rfl) rfl ?_
    refine a_bipush C (24 : Int32) (tk T_cX9_become 54 rfl) kB_24 ?_
    refine a_icmp_ge C 155 (tk T_cX9_become 55 rfl) rfl (fun c => ?_) (fun c => ?_)
    · have h := h.1 c
      refine a_aload_n C (tk T_cX9_become 98 rfl) rfl ?_
      refine a_aload_n C (tk T_cX9_become 99 rfl) rfl ?_
      refine a_getI C f_RX9_47 (tk T_cX9_become 100 rfl) lc49 rfl ?_
      refine a_put C f_RX9_47 f_RX9_47p rfl rfl (tk T_cX9_become 101 rfl) lc18 rfl ?_
      refine a_mem (fun M1 e_M1 => ?_)
      have h := h M1 e_M1
      exact hR _ _ _ (tk T_cX9_become 102 rfl) h
    · have h := h.2 c
      refine a_aload_n C (tk T_cX9_become 56 rfl) rfl ?_
      refine a_getR C f_RX9_27 (tk T_cX9_become 57 rfl) lc18 rfl ?_
      refine a_iload_n C (tk T_cX9_become 58 rfl) rfl ?_
      refine a_aload_n C (tk T_cX9_become 59 rfl) rfl ?_
      refine a_getR C f_RX9_27 (tk T_cX9_become 60 rfl) lc49 rfl ?_
      refine a_iload_n C (tk T_cX9_become 61 rfl) rfl ?_
      obtain ⟨hb, h⟩ := h
      refine a_iald C (tk T_cX9_become 62 rfl) lc55 hb ?_
      obtain ⟨hb, h⟩ := h
      refine a_iast C (tk T_cX9_become 63 rfl) lc24 hb ?_
      refine a_mem (fun M2 e_M2 => ?_)
      have h := h M2 e_M2
      refine a_aload_n C (tk T_cX9_become 64 rfl) rfl ?_
      refine a_getR C f_RX9_30 (tk T_cX9_become 65 rfl) lc18 rfl ?_
      refine a_iload_n C (tk T_cX9_become 66 rfl) rfl ?_
      refine a_aload_n C (tk T_cX9_become 67 rfl) rfl ?_
      refine a_getR C f_RX9_30 (tk T_cX9_become 68 rfl) lc49 rfl ?_
      refine a_iload_n C (tk T_cX9_become 69 rfl) rfl ?_
      obtain ⟨hb, h⟩ := h
      refine a_iald C (tk T_cX9_become 70 rfl) lc56 hb ?_
      obtain ⟨hb, h⟩ := h
      refine a_iast C (tk T_cX9_become 71 rfl) lc25 hb ?_
      refine a_mem (fun M3 e_M3 => ?_)
      have h := h M3 e_M3
      refine a_aload_n C (tk T_cX9_become 72 rfl) rfl ?_
      refine a_getR C f_RX9_33 (tk T_cX9_become 73 rfl) lc18 rfl ?_
      refine a_iload_n C (tk T_cX9_become 74 rfl) rfl ?_
      refine a_aload_n C (tk T_cX9_become 75 rfl) rfl ?_
      refine a_getR C f_RX9_33 (tk T_cX9_become 76 rfl) lc49 rfl ?_
      refine a_iload_n C (tk T_cX9_become 77 rfl) rfl ?_
      obtain ⟨hb, h⟩ := h
      refine a_zald C (tk T_cX9_become 78 rfl) lc57 hb ?_
      obtain ⟨hb, h⟩ := h
      refine a_zast C (tk T_cX9_become 79 rfl) lc26 hb ?_
      refine a_mem (fun M4 e_M4 => ?_)
      have h := h M4 e_M4
      refine a_aload_n C (tk T_cX9_become 80 rfl) rfl ?_
      refine a_getR C f_RX9_37 (tk T_cX9_become 81 rfl) lc18 rfl ?_
      refine a_iload_n C (tk T_cX9_become 82 rfl) rfl ?_
      refine a_aload_n C (tk T_cX9_become 83 rfl) rfl ?_
      refine a_getR C f_RX9_37 (tk T_cX9_become 84 rfl) lc49 rfl ?_
      refine a_iload_n C (tk T_cX9_become 85 rfl) rfl ?_
      obtain ⟨hb, h⟩ := h
      refine a_iald C (tk T_cX9_become 86 rfl) lc58 hb ?_
      obtain ⟨hb, h⟩ := h
      refine a_iast C (tk T_cX9_become 87 rfl) lc27 hb ?_
      refine a_mem (fun M5 e_M5 => ?_)
      have h := h M5 e_M5
      refine a_aload_n C (tk T_cX9_become 88 rfl) rfl ?_
      refine a_getR C f_RX9_40 (tk T_cX9_become 89 rfl) lc18 rfl ?_
      refine a_iload_n C (tk T_cX9_become 90 rfl) rfl ?_
      refine a_aload_n C (tk T_cX9_become 91 rfl) rfl ?_
      refine a_getR C f_RX9_40 (tk T_cX9_become 92 rfl) lc49 rfl ?_
      refine a_iload_n C (tk T_cX9_become 93 rfl) rfl ?_
      obtain ⟨hb, h⟩ := h
      refine a_iald C (tk T_cX9_become 94 rfl) lc59 hb ?_
      obtain ⟨hb, h⟩ := h
      refine a_iast C (tk T_cX9_become 95 rfl) lc28 hb ?_
      refine a_mem (fun M6 e_M6 => ?_)
      have h := h M6 e_M6
      refine a_iinc C (1 : Int32) (tk T_cX9_become 96 rfl) rfl kI_1 (by decide) rfl ?_
      refine a_goto C 83 (tk T_cX9_become 97 rfl) rfl ?_
      exact a_to (ih (x2 + (1 : Int32)) M6 h) rfl
def P_Shelf_become_18_49_2 (post : Mem → Prop) : Nat → Int32 → Mem → Prop
  | 0, _, _ => False
  | n + 1, x2, M =>
    ((3 : Int32) ≤ x2 → (∀ M1, M1 = ms M 18 5 (M 49 5) → ∃ j83, P_Shelf_become_18_49_83 post j83 (0 : Int32) M1)) ∧
  (¬ (3 : Int32) ≤ x2 → (vp_in x2 3 ∧ vp_in x2 3 ∧ ∀ M2, M2 = ms M 19 x2.toNatClampNeg (M 50 x2.toNatClampNeg) → vp_in x2 3 ∧ vp_in x2 3 ∧ ∀ M3, M3 = ms M2 20 x2.toNatClampNeg (M2 51 x2.toNatClampNeg) → vp_in x2 3 ∧ vp_in x2 3 ∧ ∀ M4, M4 = ms M3 21 x2.toNatClampNeg (M3 52 x2.toNatClampNeg) → vp_in x2 3 ∧ vp_in x2 3 ∧ ∀ M5, M5 = ms M4 22 x2.toNatClampNeg (M4 53 x2.toNatClampNeg) → vp_in x2 3 ∧ vp_in x2 3 ∧ ∀ M6, M6 = ms M5 23 x2.toNatClampNeg (M5 54 x2.toNatClampNeg) → P_Shelf_become_18_49_2 post n (x2 + (1 : Int32)) M6))
theorem k_Shelf_become_18_49_2 {X : FX} {g : GT} {ext : List CD} {A : Nat → Prop} {Z : State → Prop} {post : Mem → Prop} (C : Cx X g (layC ++ ext) A cX9_become 3 RX9 0) (hr : 0 ≤ X.2.2.2.1.cells ∧ 0 ≤ X.2.2.2.1.slots) (hR : RetV X g (layC ++ ext) A cX9_become 3 0 0 Z post) : ∀ (n : Nat) (x2 : Int32) (M : Mem), P_Shelf_become_18_49_2 post n x2 M → AtX X g (layC ++ ext) A 3 0 0 Z 2 [(0, .ref (ad g 18)), (1, .ref (ad g 49)), (2, .int x2)] [] M := by
  intro n
  induction n with
  | zero =>
    intro x2 M h
    exact h.elim
  | succ n ih =>
    intro x2 M h
    refine a_iload_n C (tk T_cX9_become 2 rfl) rfl ?_
    refine a_iconst C (3 : Int32) (tk T_cX9_become 3 rfl) kI_3 ?_
    refine a_icmp_ge C 73 (tk T_cX9_become 4 rfl) rfl (fun c => ?_) (fun c => ?_)
    · have h := h.1 c
      refine a_aload_n C (tk T_cX9_become 47 rfl) rfl ?_
      refine a_aload_n C (tk T_cX9_become 48 rfl) rfl ?_
      refine a_getI C f_RX9_43 (tk T_cX9_become 49 rfl) lc49 rfl ?_
      refine a_put C f_RX9_43 f_RX9_43p rfl rfl (tk T_cX9_become 50 rfl) lc18 rfl ?_
      refine a_mem (fun M1 e_M1 => ?_)
      have h := h M1 e_M1
      refine a_iconst C (0 : Int32) (tk T_cX9_become 51 rfl) kI_0 ?_
      refine a_istore_n C (tk T_cX9_become 52 rfl) (by decide) rfl ?_
      obtain ⟨n1, h⟩ := h
      exact a_to (k_Shelf_become_18_49_83 C hr hR n1 (0 : Int32) M1 h) rfl
    · have h := h.2 c
      refine a_aload_n C (tk T_cX9_become 5 rfl) rfl ?_
      refine a_getR C f_RX9_9 (tk T_cX9_become 6 rfl) lc18 rfl ?_
      refine a_iload_n C (tk T_cX9_become 7 rfl) rfl ?_
      refine a_aload_n C (tk T_cX9_become 8 rfl) rfl ?_
      refine a_getR C f_RX9_9 (tk T_cX9_become 9 rfl) lc49 rfl ?_
      refine a_iload_n C (tk T_cX9_become 10 rfl) rfl ?_
      obtain ⟨hb, h⟩ := h
      refine a_iald C (tk T_cX9_become 11 rfl) lc50 hb ?_
      obtain ⟨hb, h⟩ := h
      refine a_iast C (tk T_cX9_become 12 rfl) lc19 hb ?_
      refine a_mem (fun M2 e_M2 => ?_)
      have h := h M2 e_M2
      refine a_aload_n C (tk T_cX9_become 13 rfl) rfl ?_
      refine a_getR C f_RX9_15 (tk T_cX9_become 14 rfl) lc18 rfl ?_
      refine a_iload_n C (tk T_cX9_become 15 rfl) rfl ?_
      refine a_aload_n C (tk T_cX9_become 16 rfl) rfl ?_
      refine a_getR C f_RX9_15 (tk T_cX9_become 17 rfl) lc49 rfl ?_
      refine a_iload_n C (tk T_cX9_become 18 rfl) rfl ?_
      obtain ⟨hb, h⟩ := h
      refine a_iald C (tk T_cX9_become 19 rfl) lc51 hb ?_
      obtain ⟨hb, h⟩ := h
      refine a_iast C (tk T_cX9_become 20 rfl) lc20 hb ?_
      refine a_mem (fun M3 e_M3 => ?_)
      have h := h M3 e_M3
      refine a_aload_n C (tk T_cX9_become 21 rfl) rfl ?_
      refine a_getR C f_RX9_18 (tk T_cX9_become 22 rfl) lc18 rfl ?_
      refine a_iload_n C (tk T_cX9_become 23 rfl) rfl ?_
      refine a_aload_n C (tk T_cX9_become 24 rfl) rfl ?_
      refine a_getR C f_RX9_18 (tk T_cX9_become 25 rfl) lc49 rfl ?_
      refine a_iload_n C (tk T_cX9_become 26 rfl) rfl ?_
      obtain ⟨hb, h⟩ := h
      refine a_iald C (tk T_cX9_become 27 rfl) lc52 hb ?_
      obtain ⟨hb, h⟩ := h
      refine a_iast C (tk T_cX9_become 28 rfl) lc21 hb ?_
      refine a_mem (fun M4 e_M4 => ?_)
      have h := h M4 e_M4
      refine a_aload_n C (tk T_cX9_become 29 rfl) rfl ?_
      refine a_getR C f_RX9_21 (tk T_cX9_become 30 rfl) lc18 rfl ?_
      refine a_iload_n C (tk T_cX9_become 31 rfl) rfl ?_
      refine a_aload_n C (tk T_cX9_become 32 rfl) rfl ?_
      refine a_getR C f_RX9_21 (tk T_cX9_become 33 rfl) lc49 rfl ?_
      refine a_iload_n C (tk T_cX9_become 34 rfl) rfl ?_
      obtain ⟨hb, h⟩ := h
      refine a_iald C (tk T_cX9_become 35 rfl) lc53 hb ?_
      obtain ⟨hb, h⟩ := h
      refine a_iast C (tk T_cX9_become 36 rfl) lc22 hb ?_
      refine a_mem (fun M5 e_M5 => ?_)
      have h := h M5 e_M5
      refine a_aload_n C (tk T_cX9_become 37 rfl) rfl ?_
      refine a_getR C f_RX9_24 (tk T_cX9_become 38 rfl) lc18 rfl ?_
      refine a_iload_n C (tk T_cX9_become 39 rfl) rfl ?_
      refine a_aload_n C (tk T_cX9_become 40 rfl) rfl ?_
      refine a_getR C f_RX9_24 (tk T_cX9_become 41 rfl) lc49 rfl ?_
      refine a_iload_n C (tk T_cX9_become 42 rfl) rfl ?_
      obtain ⟨hb, h⟩ := h
      refine a_iald C (tk T_cX9_become 43 rfl) lc54 hb ?_
      obtain ⟨hb, h⟩ := h
      refine a_iast C (tk T_cX9_become 44 rfl) lc23 hb ?_
      refine a_mem (fun M6 e_M6 => ?_)
      have h := h M6 e_M6
      refine a_iinc C (1 : Int32) (tk T_cX9_become 45 rfl) rfl kI_1 (by decide) rfl ?_
      refine a_goto C 2 (tk T_cX9_become 46 rfl) rfl ?_
      exact a_to (ih (x2 + (1 : Int32)) M6 h) rfl
def P_Shelf_become_18_49 (post : Mem → Prop) (M : Mem) : Prop :=
  ∃ j2, P_Shelf_become_18_49_2 post j2 (0 : Int32) M
theorem k_Shelf_become_18_49 {X : FX} {g : GT} {ext : List CD} {A : Nat → Prop} {Z : State → Prop} {post : Mem → Prop} (C : Cx X g (layC ++ ext) A cX9_become 3 RX9 0) (hr : 0 ≤ X.2.2.2.1.cells ∧ 0 ≤ X.2.2.2.1.slots) (hR : RetV X g (layC ++ ext) A cX9_become 3 0 0 Z post) (M : Mem) (h : P_Shelf_become_18_49 post M) : AtX X g (layC ++ ext) A 3 0 0 Z 0 [(0, .ref (ad g 18)), (1, .ref (ad g 49))] [] M := by
  refine a_iconst C (0 : Int32) (tk T_cX9_become 0 rfl) kI_0 ?_
  refine a_istore_n C (tk T_cX9_become 1 rfl) (by decide) rfl ?_
  obtain ⟨n1, h⟩ := h
  exact a_to (k_Shelf_become_18_49_2 C hr hR n1 (0 : Int32) M h) rfl
theorem ct_Shelf_become_18_49 {l : Launch} {g : GT} {ext : List CD} {post : Mem → Prop} {M : Mem} (h : P_Shelf_become_18_49 post M) : CV l g (layC ++ ext) yX9_become cX9_become 3 none 0 [.ref (ad g 18), .ref (ad g 49)] M post :=
  cv_of (plainFor_of_name (by decide +kernel)) (Nat.le_of_ble_eq_true rfl) (fun X A Z hl C hr hR => by subst hl; exact k_Shelf_become_18_49 C hr hR  M h)
def P_Desk_become_1_32_84 (ext : List CD) (post : Mem → Prop) : Nat → Int32 → Mem → Prop
  | 0, _, _ => False
  | n + 1, x2, M =>
    ((6 : Int32) ≤ x2 → (∀ M1, M1 = ms M 1 7 (M 32 7) → ∀ M2, M2 = ms M1 1 8 (M1 32 8) → post M2)) ∧
  (¬ (6 : Int32) ≤ x2 → (vp_in x2 6 ∧ vp_in x2 6 ∧ ((M 62 x2.toNatClampNeg) = 0 ∨ ∃ fl, (layC ++ ext)[(M 62 x2.toNatClampNeg).toNatClampNeg]? = some (4, 1, fl)) ∧ ∀ M3, M3 = ms M 31 x2.toNatClampNeg (M 62 x2.toNatClampNeg) → P_Desk_become_1_32_84 ext post n (x2 + (1 : Int32)) M3))
theorem k_Desk_become_1_32_84 {X : FX} {g : GT} {ext : List CD} {A : Nat → Prop} {Z : State → Prop} {post : Mem → Prop} (C : Cx X g (layC ++ ext) A cX2_become 3 RX2 1) (hr : 0 ≤ X.2.2.2.1.cells ∧ 0 ≤ X.2.2.2.1.slots) (hR : RetV X g (layC ++ ext) A cX2_become 3 0 0 Z post) : ∀ (n : Nat) (x2 : Int32) (M : Mem), P_Desk_become_1_32_84 ext post n x2 M → AtX X g (layC ++ ext) A 3 0 0 Z 84 [(0, .ref (ad g 1)), (1, .ref (ad g 32)), (2, .int x2)] [] M := by
  intro n
  induction n with
  | zero =>
    intro x2 M h
    exact h.elim
  | succ n ih =>
    intro x2 M h
    refine a_iload_n C (tk T_cX2_become 45 rfl) rfl ?_
    refine a_bipush C (6 : Int32) (tk T_cX2_become 46 rfl) kB_6 ?_
    refine a_icmp_ge C 108 (tk T_cX2_become 47 rfl) rfl (fun c => ?_) (fun c => ?_)
    · have h := h.1 c
      refine a_aload_n C (tk T_cX2_become 58 rfl) rfl ?_
      refine a_aload_n C (tk T_cX2_become 59 rfl) rfl ?_
      refine a_getI C f_RX2_65 (tk T_cX2_become 60 rfl) lc32 rfl ?_
      refine a_put C f_RX2_65 f_RX2_65p rfl rfl (tk T_cX2_become 61 rfl) lc1 rfl ?_
      refine a_mem (fun M1 e_M1 => ?_)
      have h := h M1 e_M1
      refine a_aload_n C (tk T_cX2_become 62 rfl) rfl ?_
      refine a_aload_n C (tk T_cX2_become 63 rfl) rfl ?_
      refine a_getI C f_RX2_69 (tk T_cX2_become 64 rfl) lc32 rfl ?_
      refine a_put C f_RX2_69 f_RX2_69p rfl rfl (tk T_cX2_become 65 rfl) lc1 rfl ?_
      refine a_mem (fun M2 e_M2 => ?_)
      have h := h M2 e_M2
      exact hR _ _ _ (tk T_cX2_become 66 rfl) h
    · have h := h.2 c
      refine a_aload_n C (tk T_cX2_become 48 rfl) rfl ?_
      refine a_getR C f_RX2_48 (tk T_cX2_become 49 rfl) lc1 rfl ?_
      refine a_iload_n C (tk T_cX2_become 50 rfl) rfl ?_
      refine a_aload_n C (tk T_cX2_become 51 rfl) rfl ?_
      refine a_getR C f_RX2_48 (tk T_cX2_become 52 rfl) lc32 rfl ?_
      refine a_iload_n C (tk T_cX2_become 53 rfl) rfl ?_
      obtain ⟨hb, h⟩ := h
      refine a_aald C (tk T_cX2_become 54 rfl) lc62 hb ?_
      obtain ⟨hb, hx, h⟩ := h
      refine a_aast C (tk T_cX2_become 55 rfl) lc31 hb hx ?_
      refine a_mem (fun M3 e_M3 => ?_)
      have h := h M3 e_M3
      refine a_iinc C (1 : Int32) (tk T_cX2_become 56 rfl) rfl kI_1 (by decide) rfl ?_
      refine a_goto C 84 (tk T_cX2_become 57 rfl) rfl ?_
      exact a_to (ih (x2 + (1 : Int32)) M3 h) rfl
def P_Desk_become_1_32_46 (ext : List CD) (post : Mem → Prop) : Nat → Int32 → Mem → Prop
  | 0, _, _ => False
  | n + 1, x2, M =>
    ((24 : Int32) ≤ x2 → (∃ j84, P_Desk_become_1_32_84 ext post j84 (0 : Int32) M)) ∧
  (¬ (24 : Int32) ≤ x2 → (vp_in x2 24 ∧ vp_in x2 24 ∧ ∀ M1, M1 = ms M 29 x2.toNatClampNeg (M 60 x2.toNatClampNeg) → vp_in x2 24 ∧ vp_in x2 24 ∧ ∀ M2, M2 = ms M1 30 x2.toNatClampNeg (M1 61 x2.toNatClampNeg) → P_Desk_become_1_32_46 ext post n (x2 + (1 : Int32)) M2))
theorem k_Desk_become_1_32_46 {X : FX} {g : GT} {ext : List CD} {A : Nat → Prop} {Z : State → Prop} {post : Mem → Prop} (C : Cx X g (layC ++ ext) A cX2_become 3 RX2 1) (hr : 0 ≤ X.2.2.2.1.cells ∧ 0 ≤ X.2.2.2.1.slots) (hR : RetV X g (layC ++ ext) A cX2_become 3 0 0 Z post) : ∀ (n : Nat) (x2 : Int32) (M : Mem), P_Desk_become_1_32_46 ext post n x2 M → AtX X g (layC ++ ext) A 3 0 0 Z 46 [(0, .ref (ad g 1)), (1, .ref (ad g 32)), (2, .int x2)] [] M := by
  intro n
  induction n with
  | zero =>
    intro x2 M h
    exact h.elim
  | succ n ih =>
    intro x2 M h
    refine a_iload_n C (tk T_cX2_become 22 rfl) rfl ?_
    refine a_bipush C (24 : Int32) (tk T_cX2_become 23 rfl) kB_24 ?_
    refine a_icmp_ge C 82 (tk T_cX2_become 24 rfl) rfl (fun c => ?_) (fun c => ?_)
    · have h := h.1 c
      refine a_iconst C (0 : Int32) (tk T_cX2_become 43 rfl) kI_0 ?_
      refine a_istore_n C (tk T_cX2_become 44 rfl) (by decide) rfl ?_
      obtain ⟨n1, h⟩ := h
      exact a_to (k_Desk_become_1_32_84 C hr hR n1 (0 : Int32) M h) rfl
    · have h := h.2 c
      refine a_aload_n C (tk T_cX2_become 25 rfl) rfl ?_
      refine a_getR C f_RX2_39 (tk T_cX2_become 26 rfl) lc1 rfl ?_
      refine a_iload_n C (tk T_cX2_become 27 rfl) rfl ?_
      refine a_aload_n C (tk T_cX2_become 28 rfl) rfl ?_
      refine a_getR C f_RX2_39 (tk T_cX2_become 29 rfl) lc32 rfl ?_
      refine a_iload_n C (tk T_cX2_become 30 rfl) rfl ?_
      obtain ⟨hb, h⟩ := h
      refine a_iald C (tk T_cX2_become 31 rfl) lc60 hb ?_
      obtain ⟨hb, h⟩ := h
      refine a_iast C (tk T_cX2_become 32 rfl) lc29 hb ?_
      refine a_mem (fun M1 e_M1 => ?_)
      have h := h M1 e_M1
      refine a_aload_n C (tk T_cX2_become 33 rfl) rfl ?_
      refine a_getR C f_RX2_43 (tk T_cX2_become 34 rfl) lc1 rfl ?_
      refine a_iload_n C (tk T_cX2_become 35 rfl) rfl ?_
      refine a_aload_n C (tk T_cX2_become 36 rfl) rfl ?_
      refine a_getR C f_RX2_43 (tk T_cX2_become 37 rfl) lc32 rfl ?_
      refine a_iload_n C (tk T_cX2_become 38 rfl) rfl ?_
      obtain ⟨hb, h⟩ := h
      refine a_iald C (tk T_cX2_become 39 rfl) lc61 hb ?_
      obtain ⟨hb, h⟩ := h
      refine a_iast C (tk T_cX2_become 40 rfl) lc30 hb ?_
      refine a_mem (fun M2 e_M2 => ?_)
      have h := h M2 e_M2
      refine a_iinc C (1 : Int32) (tk T_cX2_become 41 rfl) rfl kI_1 (by decide) rfl ?_
      refine a_goto C 46 (tk T_cX2_become 42 rfl) rfl ?_
      exact a_to (ih (x2 + (1 : Int32)) M2 h) rfl
def P_Desk_become_1_32 (ext : List CD) (post : Mem → Prop) (M : Mem) : Prop :=
  P_Screw_become_2_33 (fun M1 =>
  P_Knowns_become_8_39 (fun M2 =>
  P_Table_become_13_44 (fun M3 =>
  P_Shelf_become_18_49 (fun M4 =>
  ∃ j46, P_Desk_become_1_32_46 ext post j46 (0 : Int32) M4) M3) M2) M1) M
theorem k_Desk_become_1_32 {X : FX} {g : GT} {ext : List CD} {A : Nat → Prop} {Z : State → Prop} {post : Mem → Prop} (C : Cx X g (layC ++ ext) A cX2_become 3 RX2 1) (hr : 0 ≤ X.2.2.2.1.cells ∧ 0 ≤ X.2.2.2.1.slots) (hR : RetV X g (layC ++ ext) A cX2_become 3 0 0 Z post) (M : Mem) (h : P_Desk_become_1_32 ext post M) : AtX X g (layC ++ ext) A 3 0 0 Z 0 [(0, .ref (ad g 1)), (1, .ref (ad g 32))] [] M := by
  refine a_aload_n C (tk T_cX2_become 0 rfl) rfl ?_
  refine a_getR C f_RX2_12 (tk T_cX2_become 1 rfl) lc1 rfl ?_
  refine a_aload_n C (tk T_cX2_become 2 rfl) rfl ?_
  refine a_getR C f_RX2_12 (tk T_cX2_become 3 rfl) lc32 rfl ?_
  refine a_callV C [.ref (ad g 33)] me_yX8_become lk_RX2_52 (ct_Screw_become_2_33 h) (by decide) lc2 rfl rfl rfl (Nat.le_of_ble_eq_true rfl) (tk T_cX2_become 4 rfl) hr (fun M1 h => ?_)
  refine a_aload_n C (tk T_cX2_become 5 rfl) rfl ?_
  refine a_getR C f_RX2_21 (tk T_cX2_become 6 rfl) lc1 rfl ?_
  refine a_aload_n C (tk T_cX2_become 7 rfl) rfl ?_
  refine a_getR C f_RX2_21 (tk T_cX2_become 8 rfl) lc32 rfl ?_
  refine a_callV C [.ref (ad g 39)] me_yX4_become lk_RX2_56 (ct_Knowns_become_8_39 h) (by decide) lc8 rfl rfl rfl (Nat.le_of_ble_eq_true rfl) (tk T_cX2_become 9 rfl) hr (fun M2 h => ?_)
  refine a_aload_n C (tk T_cX2_become 10 rfl) rfl ?_
  refine a_getR C f_RX2_28 (tk T_cX2_become 11 rfl) lc1 rfl ?_
  refine a_aload_n C (tk T_cX2_become 12 rfl) rfl ?_
  refine a_getR C f_RX2_28 (tk T_cX2_become 13 rfl) lc32 rfl ?_
  refine a_callV C [.ref (ad g 44)] me_yX10_become lk_RX2_59 (ct_Table_become_13_44 h) (by decide) lc13 rfl rfl rfl (Nat.le_of_ble_eq_true rfl) (tk T_cX2_become 14 rfl) hr (fun M3 h => ?_)
  refine a_aload_n C (tk T_cX2_become 15 rfl) rfl ?_
  refine a_getR C f_RX2_35 (tk T_cX2_become 16 rfl) lc1 rfl ?_
  refine a_aload_n C (tk T_cX2_become 17 rfl) rfl ?_
  refine a_getR C f_RX2_35 (tk T_cX2_become 18 rfl) lc32 rfl ?_
  refine a_callV C [.ref (ad g 49)] me_yX9_become lk_RX2_62 (ct_Shelf_become_18_49 h) (by decide) lc18 rfl rfl rfl (Nat.le_of_ble_eq_true rfl) (tk T_cX2_become 19 rfl) hr (fun M4 h => ?_)
  refine a_iconst C (0 : Int32) (tk T_cX2_become 20 rfl) kI_0 ?_
  refine a_istore_n C (tk T_cX2_become 21 rfl) (by decide) rfl ?_
  obtain ⟨n1, h⟩ := h
  exact a_to (k_Desk_become_1_32_46 C hr hR n1 (0 : Int32) M4 h) rfl
theorem ct_Desk_become_1_32 {l : Launch} {g : GT} {ext : List CD} {post : Mem → Prop} {M : Mem} (h : P_Desk_become_1_32 ext post M) : CV l g (layC ++ ext) yX2_become cX2_become 3 none 1 [.ref (ad g 1), .ref (ad g 32)] M post :=
  cv_of (plainFor_of_name (by decide +kernel)) (Nat.le_of_ble_eq_true rfl) (fun X A Z hl C hr hR => by subst hl; exact k_Desk_become_1_32 C hr hR  M h)
def T_cX11_backL : List (Nat × Instr × Nat) := [(0, .aload_n 0, 1), (1, .getfield 408, 3), (4, .ifCond .ne 5, 3), (7, .iconst 0, 1), (8, .ireturn, 1), (9, .aload_n 0, 1), (10, .getfield 10, 3), (13, .aload_n 0, 1), (14, .getfield 16, 3), (17, .invokevirtual 405, 3), (20, .aload_n 0, 1), (21, .getfield 24, 3), (24, .invokevirtual 94, 3), (27, .iconst 1, 1), (28, .ireturn, 1)]
theorem T_cX11_back : tabOK cX11_back T_cX11_backL = true := by decide +kernel
def P_R_back (ext : List CD) (post : Int32 → Mem → Prop) (M : Mem) : Prop :=
  (¬ (M 0 7) = 0 → (P_Desk_become_1_32 ext (fun M1 =>
  P_Laws_forget (fun M2 =>
  post (1 : Int32) M2) M1) M)) ∧
  ((M 0 7) = 0 → (post (0 : Int32) M))
theorem k_R_back {X : FX} {g : GT} {ext : List CD} {A : Nat → Prop} {Z : State → Prop} {post : Int32 → Mem → Prop} (C : Cx X g (layC ++ ext) A cX11_back 1 RX11 2) (hr : 0 ≤ X.2.2.2.1.cells ∧ 0 ≤ X.2.2.2.1.slots) (hR : RetZ X g (layC ++ ext) A cX11_back 1 0 0 Z post) (M : Mem) (h : P_R_back ext post M) : AtX X g (layC ++ ext) A 1 0 0 Z 0 [(0, .ref (ad g 0))] [] M := by
  refine a_aload_n C (tk T_cX11_back 0 rfl) rfl ?_
  refine a_getI C f_RX11_408 (tk T_cX11_back 1 rfl) lc0 rfl ?_
  refine a_if_ne C 9 (tk T_cX11_back 2 rfl) rfl (fun c => ?_) (fun c => ?_)
  · have h := h.1 c
    refine a_aload_n C (tk T_cX11_back 5 rfl) rfl ?_
    refine a_getR C f_RX11_10 (tk T_cX11_back 6 rfl) lc0 rfl ?_
    refine a_aload_n C (tk T_cX11_back 7 rfl) rfl ?_
    refine a_getR C f_RX11_16 (tk T_cX11_back 8 rfl) lc0 rfl ?_
    refine a_callV C [.ref (ad g 32)] me_yX2_become lk_RX11_405 (ct_Desk_become_1_32 h) (by decide) lc1 rfl rfl rfl (Nat.le_of_ble_eq_true rfl) (tk T_cX11_back 9 rfl) hr (fun M1 h => ?_)
    refine a_aload_n C (tk T_cX11_back 10 rfl) rfl ?_
    refine a_getR C f_RX11_24 (tk T_cX11_back 11 rfl) lc0 rfl ?_
    refine a_callV C [] me_yX5_forget lk_RX11_94 (ct_Laws_forget h) (by decide) lc63 rfl rfl rfl (Nat.le_of_ble_eq_true rfl) (tk T_cX11_back 12 rfl) hr (fun M2 h => ?_)
    refine a_iconst C (1 : Int32) (tk T_cX11_back 13 rfl) kI_1 ?_
    exact hR _ _ _ _ (tk T_cX11_back 14 rfl) ⟨Or.inr rfl, h⟩
  · have h := h.2 c
    refine a_iconst C (0 : Int32) (tk T_cX11_back 3 rfl) kI_0 ?_
    exact hR _ _ _ _ (tk T_cX11_back 4 rfl) ⟨Or.inl rfl, h⟩
theorem ct_R_back {l : Launch} {g : GT} {ext : List CD} {post : Int32 → Mem → Prop} {M : Mem} (h : P_R_back ext post M) : CI l g (layC ++ ext) yX11_back cX11_back 1 (some .boolean) 2 [.ref (ad g 0)] M post :=
  cz_of (plainFor_of_name (by decide +kernel)) (Nat.le_of_ble_eq_true rfl) (fun X A Z hl C hr hR => by subst hl; exact k_R_back C hr hR  M h)
def T_cX10_allLinesL : List (Nat × Instr × Nat) := [(0, .iconst 0, 1), (1, .istore_n 1, 1), (2, .iconst 0, 1), (3, .istore_n 2, 1), (4, .iload_n 2, 1), (5, .aload_n 0, 1), (6, .getfield 25, 3), (9, .if_icmp .ge 18, 3), (12, .iload_n 1, 1), (13, .aload_n 0, 1), (14, .getfield 15, 3), (17, .iload_n 2, 1), (18, .iaload, 1), (19, .iadd, 1), (20, .istore_n 1, 1), (21, .iinc 2 1, 3), (24, .goto (-20), 3), (27, .iload_n 1, 1), (28, .ireturn, 1)]
theorem T_cX10_allLines : tabOK cX10_allLines T_cX10_allLinesL = true := by decide +kernel
def P_Table_allLines_4 (post : Int32 → Mem → Prop) : Nat → Int32 → Int32 → Mem → Prop
  | 0, _, _, _ => False
  | n + 1, x1, x2, M =>
    ((M 13 4) ≤ x2 → (post x1 M)) ∧
  (¬ (M 13 4) ≤ x2 → (vp_in x2 6 ∧ ∀ x1_1, x1_1 = (x1 + (M 15 x2.toNatClampNeg)) → P_Table_allLines_4 post n x1_1 (x2 + (1 : Int32)) M))
theorem k_Table_allLines_4 {X : FX} {g : GT} {ext : List CD} {A : Nat → Prop} {Z : State → Prop} {post : Int32 → Mem → Prop} (C : Cx X g (layC ++ ext) A cX10_allLines 3 RX10 0) (hr : 0 ≤ X.2.2.2.1.cells ∧ 0 ≤ X.2.2.2.1.slots) (hR : RetI X g (layC ++ ext) A cX10_allLines 3 0 0 Z post) : ∀ (n : Nat) (x1 x2 : Int32) (M : Mem), P_Table_allLines_4 post n x1 x2 M → AtX X g (layC ++ ext) A 3 0 0 Z 4 [(0, .ref (ad g 13)), (1, .int x1), (2, .int x2)] [] M := by
  intro n
  induction n with
  | zero =>
    intro x1 x2 M h
    exact h.elim
  | succ n ih =>
    intro x1 x2 M h
    refine a_iload_n C (tk T_cX10_allLines 4 rfl) rfl ?_
    refine a_aload_n C (tk T_cX10_allLines 5 rfl) rfl ?_
    refine a_getI C f_RX10_25 (tk T_cX10_allLines 6 rfl) lc13 rfl ?_
    refine a_icmp_ge C 27 (tk T_cX10_allLines 7 rfl) rfl (fun c => ?_) (fun c => ?_)
    · have h := h.1 c
      refine a_iload_n C (tk T_cX10_allLines 17 rfl) rfl ?_
      exact hR _ _ _ _ (tk T_cX10_allLines 18 rfl) h
    · have h := h.2 c
      refine a_iload_n C (tk T_cX10_allLines 8 rfl) rfl ?_
      refine a_aload_n C (tk T_cX10_allLines 9 rfl) rfl ?_
      refine a_getR C f_RX10_15 (tk T_cX10_allLines 10 rfl) lc13 rfl ?_
      refine a_iload_n C (tk T_cX10_allLines 11 rfl) rfl ?_
      obtain ⟨hb, h⟩ := h
      refine a_iald C (tk T_cX10_allLines 12 rfl) lc15 hb ?_
      refine a_iadd C (tk T_cX10_allLines 13 rfl) ?_
      refine a_top (fun x1_1 e_x1_1 => ?_)
      have h := h x1_1 e_x1_1
      refine a_istore_n C (tk T_cX10_allLines 14 rfl) (by decide) rfl ?_
      refine a_iinc C (1 : Int32) (tk T_cX10_allLines 15 rfl) rfl kI_1 (by decide) rfl ?_
      refine a_goto C 4 (tk T_cX10_allLines 16 rfl) rfl ?_
      exact a_to (ih x1_1 (x2 + (1 : Int32)) M h) rfl
def P_Table_allLines (post : Int32 → Mem → Prop) (M : Mem) : Prop :=
  ∃ j4, P_Table_allLines_4 post j4 (0 : Int32) (0 : Int32) M
theorem k_Table_allLines {X : FX} {g : GT} {ext : List CD} {A : Nat → Prop} {Z : State → Prop} {post : Int32 → Mem → Prop} (C : Cx X g (layC ++ ext) A cX10_allLines 3 RX10 0) (hr : 0 ≤ X.2.2.2.1.cells ∧ 0 ≤ X.2.2.2.1.slots) (hR : RetI X g (layC ++ ext) A cX10_allLines 3 0 0 Z post) (M : Mem) (h : P_Table_allLines post M) : AtX X g (layC ++ ext) A 3 0 0 Z 0 [(0, .ref (ad g 13))] [] M := by
  refine a_iconst C (0 : Int32) (tk T_cX10_allLines 0 rfl) kI_0 ?_
  refine a_istore_n C (tk T_cX10_allLines 1 rfl) (by decide) rfl ?_
  refine a_iconst C (0 : Int32) (tk T_cX10_allLines 2 rfl) kI_0 ?_
  refine a_istore_n C (tk T_cX10_allLines 3 rfl) (by decide) rfl ?_
  obtain ⟨n1, h⟩ := h
  exact a_to (k_Table_allLines_4 C hr hR n1 (0 : Int32) (0 : Int32) M h) rfl
theorem ct_Table_allLines {l : Launch} {g : GT} {ext : List CD} {post : Int32 → Mem → Prop} {M : Mem} (h : P_Table_allLines post M) : CI l g (layC ++ ext) yX10_allLines cX10_allLines 3 (some .int) 0 [.ref (ad g 13)] M post :=
  ci_of (plainFor_of_name (by decide +kernel)) (Nat.le_of_ble_eq_true rfl) (fun X A Z hl C hr hR => by subst hl; exact k_Table_allLines C hr hR  M h)
def T_cX9_allGhostsL : List (Nat × Instr × Nat) := [(0, .iconst 0, 1), (1, .istore_n 1, 1), (2, .iconst 0, 1), (3, .istore_n 2, 1), (4, .iload_n 2, 1), (5, .aload_n 0, 1), (6, .getfield 47, 3), (9, .if_icmp .ge 20, 3), (12, .aload_n 0, 1), (13, .iload_n 2, 1), (14, .invokevirtual 60, 3), (17, .ifCond .eq 6, 3), (20, .iinc 1 1, 3), (23, .iinc 2 1, 3), (26, .goto (-22), 3), (29, .iload_n 1, 1), (30, .ireturn, 1)]
theorem T_cX9_allGhosts : tabOK cX9_allGhosts T_cX9_allGhostsL = true := by decide +kernel
def P_Shelf_allGhosts_23 (post : Int32 → Mem → Prop) (R4 : Int32 → Int32 → Mem → Prop) (x1 x2 : Int32) (M : Mem) : Prop :=
  R4 x1 (x2 + (1 : Int32)) M
theorem k_Shelf_allGhosts_23 {X : FX} {g : GT} {ext : List CD} {A : Nat → Prop} {Z : State → Prop} {post : Int32 → Mem → Prop} {R4 : Int32 → Int32 → Mem → Prop} (C : Cx X g (layC ++ ext) A cX9_allGhosts 3 RX9 2) (hr : 0 ≤ X.2.2.2.1.cells ∧ 0 ≤ X.2.2.2.1.slots) (hR : RetI X g (layC ++ ext) A cX9_allGhosts 3 0 0 Z post) (k4 : ∀ (y1 y2 : Int32) (M : Mem), R4 y1 y2 M → AtX X g (layC ++ ext) A 3 0 0 Z 4 [(0, .ref (ad g 18)), (1, .int y1), (2, .int y2)] [] M) (x1 x2 : Int32) (M : Mem) (h : P_Shelf_allGhosts_23 post R4 x1 x2 M) : AtX X g (layC ++ ext) A 3 0 0 Z 23 [(0, .ref (ad g 18)), (1, .int x1), (2, .int x2)] [] M := by
  refine a_iinc C (1 : Int32) (tk T_cX9_allGhosts 13 rfl) rfl kI_1 (by decide) rfl ?_
  refine a_goto C 4 (tk T_cX9_allGhosts 14 rfl) rfl ?_
  exact a_to (k4 x1 (x2 + (1 : Int32)) M h) rfl
def P_Shelf_allGhosts_4 (post : Int32 → Mem → Prop) : Nat → Int32 → Int32 → Mem → Prop
  | 0, _, _, _ => False
  | n + 1, x1, x2, M =>
    ((M 18 11) ≤ x2 → (post x1 M)) ∧
  (¬ (M 18 11) ≤ x2 → (P_Shelf_mayBeGhost (fun r1 M1 =>
  (r1 = 0 → (P_Shelf_allGhosts_23 post (P_Shelf_allGhosts_4 post n) x1 x2 M1)) ∧
  (¬ r1 = 0 → (P_Shelf_allGhosts_23 post (P_Shelf_allGhosts_4 post n) (x1 + (1 : Int32)) x2 M1))) x2 M))
theorem k_Shelf_allGhosts_4 {X : FX} {g : GT} {ext : List CD} {A : Nat → Prop} {Z : State → Prop} {post : Int32 → Mem → Prop} (C : Cx X g (layC ++ ext) A cX9_allGhosts 3 RX9 2) (hr : 0 ≤ X.2.2.2.1.cells ∧ 0 ≤ X.2.2.2.1.slots) (hR : RetI X g (layC ++ ext) A cX9_allGhosts 3 0 0 Z post) : ∀ (n : Nat) (x1 x2 : Int32) (M : Mem), P_Shelf_allGhosts_4 post n x1 x2 M → AtX X g (layC ++ ext) A 3 0 0 Z 4 [(0, .ref (ad g 18)), (1, .int x1), (2, .int x2)] [] M := by
  intro n
  induction n with
  | zero =>
    intro x1 x2 M h
    exact h.elim
  | succ n ih =>
    intro x1 x2 M h
    refine a_iload_n C (tk T_cX9_allGhosts 4 rfl) rfl ?_
    refine a_aload_n C (tk T_cX9_allGhosts 5 rfl) rfl ?_
    refine a_getI C f_RX9_47 (tk T_cX9_allGhosts 6 rfl) lc18 rfl ?_
    refine a_icmp_ge C 29 (tk T_cX9_allGhosts 7 rfl) rfl (fun c => ?_) (fun c => ?_)
    · have h := h.1 c
      refine a_iload_n C (tk T_cX9_allGhosts 15 rfl) rfl ?_
      exact hR _ _ _ _ (tk T_cX9_allGhosts 16 rfl) h
    · have h := h.2 c
      refine a_aload_n C (tk T_cX9_allGhosts 8 rfl) rfl ?_
      refine a_iload_n C (tk T_cX9_allGhosts 9 rfl) rfl ?_
      refine a_callI C [.int x2] me_yX9_mayBeGhost lk_RX9_60 (ct_Shelf_mayBeGhost h) (by decide) lc18 rfl rfl rfl (Nat.le_of_ble_eq_true rfl) (tk T_cX9_allGhosts 10 rfl) hr (fun r1 M1 h => ?_)
      refine a_if_eq C 23 (tk T_cX9_allGhosts 11 rfl) rfl (fun c => ?_) (fun c => ?_)
      · have h := h.1 c
        exact a_to (k_Shelf_allGhosts_23 C hr hR ih x1 x2 M1 h) rfl
      · have h := h.2 c
        refine a_iinc C (1 : Int32) (tk T_cX9_allGhosts 12 rfl) rfl kI_1 (by decide) rfl ?_
        exact a_to (k_Shelf_allGhosts_23 C hr hR ih (x1 + (1 : Int32)) x2 M1 h) rfl
def P_Shelf_allGhosts (post : Int32 → Mem → Prop) (M : Mem) : Prop :=
  ∃ j4, P_Shelf_allGhosts_4 post j4 (0 : Int32) (0 : Int32) M
theorem k_Shelf_allGhosts {X : FX} {g : GT} {ext : List CD} {A : Nat → Prop} {Z : State → Prop} {post : Int32 → Mem → Prop} (C : Cx X g (layC ++ ext) A cX9_allGhosts 3 RX9 2) (hr : 0 ≤ X.2.2.2.1.cells ∧ 0 ≤ X.2.2.2.1.slots) (hR : RetI X g (layC ++ ext) A cX9_allGhosts 3 0 0 Z post) (M : Mem) (h : P_Shelf_allGhosts post M) : AtX X g (layC ++ ext) A 3 0 0 Z 0 [(0, .ref (ad g 18))] [] M := by
  refine a_iconst C (0 : Int32) (tk T_cX9_allGhosts 0 rfl) kI_0 ?_
  refine a_istore_n C (tk T_cX9_allGhosts 1 rfl) (by decide) rfl ?_
  refine a_iconst C (0 : Int32) (tk T_cX9_allGhosts 2 rfl) kI_0 ?_
  refine a_istore_n C (tk T_cX9_allGhosts 3 rfl) (by decide) rfl ?_
  obtain ⟨n1, h⟩ := h
  exact a_to (k_Shelf_allGhosts_4 C hr hR n1 (0 : Int32) (0 : Int32) M h) rfl
theorem ct_Shelf_allGhosts {l : Launch} {g : GT} {ext : List CD} {post : Int32 → Mem → Prop} {M : Mem} (h : P_Shelf_allGhosts post M) : CI l g (layC ++ ext) yX9_allGhosts cX9_allGhosts 3 (some .int) 2 [.ref (ad g 18)] M post :=
  ci_of (plainFor_of_name (by decide +kernel)) (Nat.le_of_ble_eq_true rfl) (fun X A Z hl C hr hR => by subst hl; exact k_Shelf_allGhosts C hr hR  M h)
def T_cX11_countL : List (Nat × Instr × Nat) := [(0, .iload_n 1, 1), (1, .tableswitch 195 0 10 #[59, 70, 81, 92, 103, 114, 125, 136, 144, 155, 187], 59), (60, .aload_n 0, 1), (61, .getfield 10, 3), (64, .getfield 76, 3), (67, .getfield 101, 3), (70, .ireturn, 1), (71, .aload_n 0, 1), (72, .getfield 10, 3), (75, .getfield 132, 3), (78, .getfield 145, 3), (81, .ireturn, 1), (82, .aload_n 0, 1), (83, .getfield 10, 3), (86, .getfield 188, 3), (89, .getfield 192, 3), (92, .ireturn, 1), (93, .aload_n 0, 1), (94, .getfield 10, 3), (97, .getfield 188, 3), (100, .invokevirtual 412, 3), (103, .ireturn, 1), (104, .aload_n 0, 1), (105, .getfield 10, 3), (108, .getfield 208, 3), (111, .getfield 212, 3), (114, .ireturn, 1), (115, .aload_n 0, 1), (116, .getfield 10, 3), (119, .getfield 208, 3), (122, .getfield 235, 3), (125, .ireturn, 1), (126, .aload_n 0, 1), (127, .getfield 10, 3), (130, .getfield 208, 3), (133, .invokevirtual 415, 3), (136, .ireturn, 1), (137, .aload_n 0, 1), (138, .getfield 10, 3), (141, .getfield 382, 3), (144, .ireturn, 1), (145, .aload_n 0, 1), (146, .getfield 10, 3), (149, .getfield 132, 3), (152, .getfield 136, 3), (155, .ireturn, 1), (156, .aload_n 0, 1), (157, .getfield 24, 3), (160, .invokevirtual 160, 3), (163, .aload_n 0, 1), (164, .getfield 24, 3), (167, .getfield 163, 3), (170, .ifCond .le 16, 3), (173, .aload_n 0, 1), (174, .getfield 10, 3), (177, .getfield 208, 3), (180, .getfield 235, 3), (183, .goto 4, 3), (186, .iconst 0, 1), (187, .ireturn, 1), (188, .aload_n 0, 1), (189, .getfield 10, 3), (192, .getfield 342, 3), (195, .ireturn, 1), (196, .iconst (-1), 1), (197, .ireturn, 1)]
theorem T_cX11_count : tabOK cX11_count T_cX11_countL = true := by decide +kernel
def P_R_count_187 (post : Int32 → Mem → Prop) (s0 : Int32) (M : Mem) : Prop :=
  post s0 M
theorem k_R_count_187 {X : FX} {g : GT} {ext : List CD} {A : Nat → Prop} {Z : State → Prop} {post : Int32 → Mem → Prop} (C : Cx X g (layC ++ ext) A cX11_count 2 RX11 5) (hr : 0 ≤ X.2.2.2.1.cells ∧ 0 ≤ X.2.2.2.1.slots) (hR : RetI X g (layC ++ ext) A cX11_count 2 0 0 Z post) (s0 : Int32) (M : Mem) (h : P_R_count_187 post s0 M) : AtX X g (layC ++ ext) A 2 0 0 Z 187 [] [.int s0] M := by
  exact hR _ _ _ _ (tk T_cX11_count 59 rfl) h
def P_R_count (post : Int32 → Mem → Prop) (x1 : Int32) (M : Mem) : Prop :=
  (x1 = (0 : Int32) → (post (M 2 5) M)) ∧
  (¬ x1 = (0 : Int32) → (x1 = (1 : Int32) → (post (M 8 4) M)) ∧
  (¬ x1 = (1 : Int32) → (x1 = (2 : Int32) → (post (M 13 4) M)) ∧
  (¬ x1 = (2 : Int32) → (x1 = (3 : Int32) → (P_Table_allLines (fun r1 M1 =>
  post r1 M1) M)) ∧
  (¬ x1 = (3 : Int32) → (x1 = (4 : Int32) → (post (M 18 5) M)) ∧
  (¬ x1 = (4 : Int32) → (x1 = (5 : Int32) → (post (M 18 11) M)) ∧
  (¬ x1 = (5 : Int32) → (x1 = (6 : Int32) → (P_Shelf_allGhosts (fun r2 M2 =>
  post r2 M2) M)) ∧
  (¬ x1 = (6 : Int32) → (x1 = (7 : Int32) → (post (M 1 8) M)) ∧
  (¬ x1 = (7 : Int32) → (x1 = (8 : Int32) → (post (M 8 5) M)) ∧
  (¬ x1 = (8 : Int32) → (x1 = (9 : Int32) → (P_Laws_solve (fun M3 =>
  ((M3 63 8) ≤ 0 → (P_R_count_187 post (0 : Int32) M3)) ∧
  (¬ (M3 63 8) ≤ 0 → (P_R_count_187 post (M3 18 11) M3))) M)) ∧
  (¬ x1 = (9 : Int32) → (x1 = (10 : Int32) → (post (M 1 7) M)) ∧
  (¬ x1 = (10 : Int32) → (post (-1 : Int32) M))))))))))))
theorem k_R_count {X : FX} {g : GT} {ext : List CD} {A : Nat → Prop} {Z : State → Prop} {post : Int32 → Mem → Prop} (C : Cx X g (layC ++ ext) A cX11_count 2 RX11 5) (hr : 0 ≤ X.2.2.2.1.cells ∧ 0 ≤ X.2.2.2.1.slots) (hR : RetI X g (layC ++ ext) A cX11_count 2 0 0 Z post) (x1 : Int32) (M : Mem) (h : P_R_count post x1 M) : AtX X g (layC ++ ext) A 2 0 0 Z 0 [(0, .ref (ad g 0)), (1, .int x1)] [] M := by
  refine a_iload_n C (tk T_cX11_count 0 rfl) rfl ?_
  refine a_case (0 : Int32) (fun c => ?_) (fun c0 => ?_)
  · have h := h.1 c
    refine a_tswI C (59) 60 (tk T_cX11_count 1 rfl) (by decide) rfl ?_
    refine a_aload_n C (tk T_cX11_count 2 rfl) rfl ?_
    refine a_getR C f_RX11_10 (tk T_cX11_count 3 rfl) lc0 rfl ?_
    refine a_getR C f_RX11_76 (tk T_cX11_count 4 rfl) lc1 rfl ?_
    refine a_getI C f_RX11_101 (tk T_cX11_count 5 rfl) lc2 rfl ?_
    exact hR _ _ _ _ (tk T_cX11_count 6 rfl) h
  · have h := h.2 c0
    refine a_case (1 : Int32) (fun c => ?_) (fun c1 => ?_)
    · have h := h.1 c
      refine a_tswI C (70) 71 (tk T_cX11_count 1 rfl) (by decide) rfl ?_
      refine a_aload_n C (tk T_cX11_count 7 rfl) rfl ?_
      refine a_getR C f_RX11_10 (tk T_cX11_count 8 rfl) lc0 rfl ?_
      refine a_getR C f_RX11_132 (tk T_cX11_count 9 rfl) lc1 rfl ?_
      refine a_getI C f_RX11_145 (tk T_cX11_count 10 rfl) lc8 rfl ?_
      exact hR _ _ _ _ (tk T_cX11_count 11 rfl) h
    · have h := h.2 c1
      refine a_case (2 : Int32) (fun c => ?_) (fun c2 => ?_)
      · have h := h.1 c
        refine a_tswI C (81) 82 (tk T_cX11_count 1 rfl) (by decide) rfl ?_
        refine a_aload_n C (tk T_cX11_count 12 rfl) rfl ?_
        refine a_getR C f_RX11_10 (tk T_cX11_count 13 rfl) lc0 rfl ?_
        refine a_getR C f_RX11_188 (tk T_cX11_count 14 rfl) lc1 rfl ?_
        refine a_getI C f_RX11_192 (tk T_cX11_count 15 rfl) lc13 rfl ?_
        exact hR _ _ _ _ (tk T_cX11_count 16 rfl) h
      · have h := h.2 c2
        refine a_case (3 : Int32) (fun c => ?_) (fun c3 => ?_)
        · have h := h.1 c
          refine a_tswI C (92) 93 (tk T_cX11_count 1 rfl) (by decide) rfl ?_
          refine a_aload_n C (tk T_cX11_count 17 rfl) rfl ?_
          refine a_getR C f_RX11_10 (tk T_cX11_count 18 rfl) lc0 rfl ?_
          refine a_getR C f_RX11_188 (tk T_cX11_count 19 rfl) lc1 rfl ?_
          refine a_callI C [] me_yX10_allLines lk_RX11_412 (ct_Table_allLines h) (by decide) lc13 rfl rfl rfl (Nat.le_of_ble_eq_true rfl) (tk T_cX11_count 20 rfl) hr (fun r1 M1 h => ?_)
          exact hR _ _ _ _ (tk T_cX11_count 21 rfl) h
        · have h := h.2 c3
          refine a_case (4 : Int32) (fun c => ?_) (fun c4 => ?_)
          · have h := h.1 c
            refine a_tswI C (103) 104 (tk T_cX11_count 1 rfl) (by decide) rfl ?_
            refine a_aload_n C (tk T_cX11_count 22 rfl) rfl ?_
            refine a_getR C f_RX11_10 (tk T_cX11_count 23 rfl) lc0 rfl ?_
            refine a_getR C f_RX11_208 (tk T_cX11_count 24 rfl) lc1 rfl ?_
            refine a_getI C f_RX11_212 (tk T_cX11_count 25 rfl) lc18 rfl ?_
            exact hR _ _ _ _ (tk T_cX11_count 26 rfl) h
          · have h := h.2 c4
            refine a_case (5 : Int32) (fun c => ?_) (fun c5 => ?_)
            · have h := h.1 c
              refine a_tswI C (114) 115 (tk T_cX11_count 1 rfl) (by decide) rfl ?_
              refine a_aload_n C (tk T_cX11_count 27 rfl) rfl ?_
              refine a_getR C f_RX11_10 (tk T_cX11_count 28 rfl) lc0 rfl ?_
              refine a_getR C f_RX11_208 (tk T_cX11_count 29 rfl) lc1 rfl ?_
              refine a_getI C f_RX11_235 (tk T_cX11_count 30 rfl) lc18 rfl ?_
              exact hR _ _ _ _ (tk T_cX11_count 31 rfl) h
            · have h := h.2 c5
              refine a_case (6 : Int32) (fun c => ?_) (fun c6 => ?_)
              · have h := h.1 c
                refine a_tswI C (125) 126 (tk T_cX11_count 1 rfl) (by decide) rfl ?_
                refine a_aload_n C (tk T_cX11_count 32 rfl) rfl ?_
                refine a_getR C f_RX11_10 (tk T_cX11_count 33 rfl) lc0 rfl ?_
                refine a_getR C f_RX11_208 (tk T_cX11_count 34 rfl) lc1 rfl ?_
                refine a_callI C [] me_yX9_allGhosts lk_RX11_415 (ct_Shelf_allGhosts h) (by decide) lc18 rfl rfl rfl (Nat.le_of_ble_eq_true rfl) (tk T_cX11_count 35 rfl) hr (fun r2 M2 h => ?_)
                exact hR _ _ _ _ (tk T_cX11_count 36 rfl) h
              · have h := h.2 c6
                refine a_case (7 : Int32) (fun c => ?_) (fun c7 => ?_)
                · have h := h.1 c
                  refine a_tswI C (136) 137 (tk T_cX11_count 1 rfl) (by decide) rfl ?_
                  refine a_aload_n C (tk T_cX11_count 37 rfl) rfl ?_
                  refine a_getR C f_RX11_10 (tk T_cX11_count 38 rfl) lc0 rfl ?_
                  refine a_getI C f_RX11_382 (tk T_cX11_count 39 rfl) lc1 rfl ?_
                  exact hR _ _ _ _ (tk T_cX11_count 40 rfl) h
                · have h := h.2 c7
                  refine a_case (8 : Int32) (fun c => ?_) (fun c8 => ?_)
                  · have h := h.1 c
                    refine a_tswI C (144) 145 (tk T_cX11_count 1 rfl) (by decide) rfl ?_
                    refine a_aload_n C (tk T_cX11_count 41 rfl) rfl ?_
                    refine a_getR C f_RX11_10 (tk T_cX11_count 42 rfl) lc0 rfl ?_
                    refine a_getR C f_RX11_132 (tk T_cX11_count 43 rfl) lc1 rfl ?_
                    refine a_getI C f_RX11_136 (tk T_cX11_count 44 rfl) lc8 rfl ?_
                    exact hR _ _ _ _ (tk T_cX11_count 45 rfl) h
                  · have h := h.2 c8
                    refine a_case (9 : Int32) (fun c => ?_) (fun c9 => ?_)
                    · have h := h.1 c
                      refine a_tswI C (155) 156 (tk T_cX11_count 1 rfl) (by decide) rfl ?_
                      refine a_aload_n C (tk T_cX11_count 46 rfl) rfl ?_
                      refine a_getR C f_RX11_24 (tk T_cX11_count 47 rfl) lc0 rfl ?_
                      refine a_callV C [] me_yX5_solve lk_RX11_160 (ct_Laws_solve h) (by decide) lc63 rfl rfl rfl (Nat.le_of_ble_eq_true rfl) (tk T_cX11_count 48 rfl) hr (fun M3 h => ?_)
                      refine a_aload_n C (tk T_cX11_count 49 rfl) rfl ?_
                      refine a_getR C f_RX11_24 (tk T_cX11_count 50 rfl) lc0 rfl ?_
                      refine a_getI C f_RX11_163 (tk T_cX11_count 51 rfl) lc63 rfl ?_
                      refine a_if_le C 186 (tk T_cX11_count 52 rfl) rfl (fun c => ?_) (fun c => ?_)
                      · have h := h.1 c
                        refine a_iconst C (0 : Int32) (tk T_cX11_count 58 rfl) kI_0 ?_
                        exact a_to (k_R_count_187 C hr hR (0 : Int32) M3 h) rfl
                      · have h := h.2 c
                        refine a_aload_n C (tk T_cX11_count 53 rfl) rfl ?_
                        refine a_getR C f_RX11_10 (tk T_cX11_count 54 rfl) lc0 rfl ?_
                        refine a_getR C f_RX11_208 (tk T_cX11_count 55 rfl) lc1 rfl ?_
                        refine a_getI C f_RX11_235 (tk T_cX11_count 56 rfl) lc18 rfl ?_
                        refine a_goto C 187 (tk T_cX11_count 57 rfl) rfl ?_
                        exact a_to (k_R_count_187 C hr hR (M3 18 11) M3 h) rfl
                    · have h := h.2 c9
                      refine a_case (10 : Int32) (fun c => ?_) (fun c10 => ?_)
                      · have h := h.1 c
                        refine a_tswI C (187) 188 (tk T_cX11_count 1 rfl) (by decide) rfl ?_
                        refine a_aload_n C (tk T_cX11_count 60 rfl) rfl ?_
                        refine a_getR C f_RX11_10 (tk T_cX11_count 61 rfl) lc0 rfl ?_
                        refine a_getI C f_RX11_342 (tk T_cX11_count 62 rfl) lc1 rfl ?_
                        exact hR _ _ _ _ (tk T_cX11_count 63 rfl) h
                      · have h := h.2 c10
                        have d0 := ne_toInt (z := 0) c0 (by decide)
                        have d1 := ne_toInt (z := 1) c1 (by decide)
                        have d2 := ne_toInt (z := 2) c2 (by decide)
                        have d3 := ne_toInt (z := 3) c3 (by decide)
                        have d4 := ne_toInt (z := 4) c4 (by decide)
                        have d5 := ne_toInt (z := 5) c5 (by decide)
                        have d6 := ne_toInt (z := 6) c6 (by decide)
                        have d7 := ne_toInt (z := 7) c7 (by decide)
                        have d8 := ne_toInt (z := 8) c8 (by decide)
                        have d9 := ne_toInt (z := 9) c9 (by decide)
                        have d10 := ne_toInt (z := 10) c10 (by decide)
                        refine a_tswO C 196 (tk T_cX11_count 1 rfl) (by omega) rfl ?_
                        refine a_iconst C (-1 : Int32) (tk T_cX11_count 64 rfl) kI_m1 ?_
                        exact hR _ _ _ _ (tk T_cX11_count 65 rfl) h
theorem ct_R_count {l : Launch} {g : GT} {ext : List CD} {post : Int32 → Mem → Prop} {x1 : Int32} {M : Mem} (h : P_R_count post x1 M) : CI l g (layC ++ ext) yX11_count cX11_count 2 (some .int) 5 [.ref (ad g 0), .int x1] M post :=
  ci_of (plainFor_of_name (by decide +kernel)) (Nat.le_of_ble_eq_true rfl) (fun X A Z hl C hr hR => by subst hl; exact k_R_count C hr hR x1 M h)
def T_cX6_isDigitL : List (Nat × Instr × Nat) := [(0, .iload_n 1, 1), (1, .ifCond .lt 31, 3), (4, .iload_n 1, 1), (5, .aload_n 0, 1), (6, .getfield 29, 3), (9, .if_icmp .ge 23, 3), (12, .aload_n 0, 1), (13, .getfield 9, 3), (16, .iload_n 1, 1), (17, .baload, 1), (18, .bipush 48, 2), (20, .bipush 57, 2), (22, .invokestatic 69, 3), (25, .ifCond .eq 7, 3), (28, .iconst 1, 1), (29, .goto 4, 3), (32, .iconst 0, 1), (33, .ireturn, 1)]
theorem T_cX6_isDigit : tabOK cX6_isDigit T_cX6_isDigitL = true := by decide +kernel
def P_Reader_isDigit_33 (post : Int32 → Mem → Prop) (s0 : Int32) (M : Mem) : Prop :=
  (s0 = 0 ∨ s0 = 1) ∧ post s0 M
theorem k_Reader_isDigit_33 {X : FX} {g : GT} {ext : List CD} {A : Nat → Prop} {Z : State → Prop} {post : Int32 → Mem → Prop} (C : Cx X g (layC ++ ext) A cX6_isDigit 2 RX6 1) (hr : 0 ≤ X.2.2.2.1.cells ∧ 0 ≤ X.2.2.2.1.slots) (hR : RetZ X g (layC ++ ext) A cX6_isDigit 2 0 0 Z post) (s0 : Int32) (M : Mem) (h : P_Reader_isDigit_33 post s0 M) : AtX X g (layC ++ ext) A 2 0 0 Z 33 [] [.int s0] M := by
  exact hR _ _ _ _ (tk T_cX6_isDigit 17 rfl) h
def P_Reader_isDigit_32 (post : Int32 → Mem → Prop) (M : Mem) : Prop :=
  P_Reader_isDigit_33 post (0 : Int32) M
theorem k_Reader_isDigit_32 {X : FX} {g : GT} {ext : List CD} {A : Nat → Prop} {Z : State → Prop} {post : Int32 → Mem → Prop} (C : Cx X g (layC ++ ext) A cX6_isDigit 2 RX6 1) (hr : 0 ≤ X.2.2.2.1.cells ∧ 0 ≤ X.2.2.2.1.slots) (hR : RetZ X g (layC ++ ext) A cX6_isDigit 2 0 0 Z post)  (M : Mem) (h : P_Reader_isDigit_32 post M) : AtX X g (layC ++ ext) A 2 0 0 Z 32 [] [] M := by
  refine a_iconst C (0 : Int32) (tk T_cX6_isDigit 16 rfl) kI_0 ?_
  exact a_to (k_Reader_isDigit_33 C hr hR (0 : Int32) M h) rfl
def P_Reader_isDigit (post : Int32 → Mem → Prop) (x1 : Int32) (M : Mem) : Prop :=
  (x1 < 0 → (P_Reader_isDigit_32 post M)) ∧
  (¬ x1 < 0 → (((M 84 4) ≤ x1 → (P_Reader_isDigit_32 post M)) ∧
  (¬ (M 84 4) ≤ x1 → (vp_in x1 400 ∧ P_R_within (fun r1 M1 =>
  (r1 = 0 → (P_Reader_isDigit_32 post M1)) ∧
  (¬ r1 = 0 → (P_Reader_isDigit_33 post (1 : Int32) M1))) (M 85 x1.toNatClampNeg) (48 : Int32) (57 : Int32) M))))
theorem k_Reader_isDigit {X : FX} {g : GT} {ext : List CD} {A : Nat → Prop} {Z : State → Prop} {post : Int32 → Mem → Prop} (C : Cx X g (layC ++ ext) A cX6_isDigit 2 RX6 1) (hr : 0 ≤ X.2.2.2.1.cells ∧ 0 ≤ X.2.2.2.1.slots) (hR : RetZ X g (layC ++ ext) A cX6_isDigit 2 0 0 Z post) (x1 : Int32) (M : Mem) (h : P_Reader_isDigit post x1 M) : AtX X g (layC ++ ext) A 2 0 0 Z 0 [(0, .ref (ad g 84)), (1, .int x1)] [] M := by
  refine a_iload_n C (tk T_cX6_isDigit 0 rfl) rfl ?_
  refine a_if_lt C 32 (tk T_cX6_isDigit 1 rfl) rfl (fun c => ?_) (fun c => ?_)
  · have h := h.1 c
    exact a_to (k_Reader_isDigit_32 C hr hR M h) rfl
  · have h := h.2 c
    refine a_iload_n C (tk T_cX6_isDigit 2 rfl) rfl ?_
    refine a_aload_n C (tk T_cX6_isDigit 3 rfl) rfl ?_
    refine a_getI C f_RX6_29 (tk T_cX6_isDigit 4 rfl) lc84 rfl ?_
    refine a_icmp_ge C 32 (tk T_cX6_isDigit 5 rfl) rfl (fun c => ?_) (fun c => ?_)
    · have h := h.1 c
      exact a_to (k_Reader_isDigit_32 C hr hR M h) rfl
    · have h := h.2 c
      refine a_aload_n C (tk T_cX6_isDigit 6 rfl) rfl ?_
      refine a_getR C f_RX6_9 (tk T_cX6_isDigit 7 rfl) lc84 rfl ?_
      refine a_iload_n C (tk T_cX6_isDigit 8 rfl) rfl ?_
      obtain ⟨hb, h⟩ := h
      refine a_bald C (tk T_cX6_isDigit 9 rfl) lc85 hb ?_
      refine a_bipush C (48 : Int32) (tk T_cX6_isDigit 10 rfl) kB_48 ?_
      refine a_bipush C (57 : Int32) (tk T_cX6_isDigit 11 rfl) kB_57 ?_
      refine a_nestI C [.int (M 85 x1.toNatClampNeg), .int (48 : Int32), .int (57 : Int32)] me_yX11_within lk_RX6_69 (ct_R_within h) (by decide) rfl rfl (Nat.le_of_ble_eq_true rfl) (tk T_cX6_isDigit 12 rfl) hr (fun r1 M1 h => ?_)
      refine a_if_eq C 32 (tk T_cX6_isDigit 13 rfl) rfl (fun c => ?_) (fun c => ?_)
      · have h := h.1 c
        exact a_to (k_Reader_isDigit_32 C hr hR M1 h) rfl
      · have h := h.2 c
        refine a_iconst C (1 : Int32) (tk T_cX6_isDigit 14 rfl) kI_1 ?_
        refine a_goto C 33 (tk T_cX6_isDigit 15 rfl) rfl ?_
        exact a_to (k_Reader_isDigit_33 C hr hR (1 : Int32) M1 h) rfl
theorem ct_Reader_isDigit {l : Launch} {g : GT} {ext : List CD} {post : Int32 → Mem → Prop} {x1 : Int32} {M : Mem} (h : P_Reader_isDigit post x1 M) : CI l g (layC ++ ext) yX6_isDigit cX6_isDigit 2 (some .boolean) 1 [.ref (ad g 84), .int x1] M post :=
  cz_of (plainFor_of_name (by decide +kernel)) (Nat.le_of_ble_eq_true rfl) (fun X A Z hl C hr hR => by subst hl; exact k_Reader_isDigit C hr hR x1 M h)
def T_cX6_isLetterL : List (Nat × Instr × Nat) := [(0, .iload_n 1, 1), (1, .ifCond .lt 31, 3), (4, .iload_n 1, 1), (5, .aload_n 0, 1), (6, .getfield 29, 3), (9, .if_icmp .ge 23, 3), (12, .aload_n 0, 1), (13, .getfield 9, 3), (16, .iload_n 1, 1), (17, .baload, 1), (18, .bipush 97, 2), (20, .bipush 122, 2), (22, .invokestatic 69, 3), (25, .ifCond .eq 7, 3), (28, .iconst 1, 1), (29, .goto 4, 3), (32, .iconst 0, 1), (33, .ireturn, 1)]
theorem T_cX6_isLetter : tabOK cX6_isLetter T_cX6_isLetterL = true := by decide +kernel
def P_Reader_isLetter_33 (post : Int32 → Mem → Prop) (s0 : Int32) (M : Mem) : Prop :=
  (s0 = 0 ∨ s0 = 1) ∧ post s0 M
theorem k_Reader_isLetter_33 {X : FX} {g : GT} {ext : List CD} {A : Nat → Prop} {Z : State → Prop} {post : Int32 → Mem → Prop} (C : Cx X g (layC ++ ext) A cX6_isLetter 2 RX6 1) (hr : 0 ≤ X.2.2.2.1.cells ∧ 0 ≤ X.2.2.2.1.slots) (hR : RetZ X g (layC ++ ext) A cX6_isLetter 2 0 0 Z post) (s0 : Int32) (M : Mem) (h : P_Reader_isLetter_33 post s0 M) : AtX X g (layC ++ ext) A 2 0 0 Z 33 [] [.int s0] M := by
  exact hR _ _ _ _ (tk T_cX6_isLetter 17 rfl) h
def P_Reader_isLetter_32 (post : Int32 → Mem → Prop) (M : Mem) : Prop :=
  P_Reader_isLetter_33 post (0 : Int32) M
theorem k_Reader_isLetter_32 {X : FX} {g : GT} {ext : List CD} {A : Nat → Prop} {Z : State → Prop} {post : Int32 → Mem → Prop} (C : Cx X g (layC ++ ext) A cX6_isLetter 2 RX6 1) (hr : 0 ≤ X.2.2.2.1.cells ∧ 0 ≤ X.2.2.2.1.slots) (hR : RetZ X g (layC ++ ext) A cX6_isLetter 2 0 0 Z post)  (M : Mem) (h : P_Reader_isLetter_32 post M) : AtX X g (layC ++ ext) A 2 0 0 Z 32 [] [] M := by
  refine a_iconst C (0 : Int32) (tk T_cX6_isLetter 16 rfl) kI_0 ?_
  exact a_to (k_Reader_isLetter_33 C hr hR (0 : Int32) M h) rfl
def P_Reader_isLetter (post : Int32 → Mem → Prop) (x1 : Int32) (M : Mem) : Prop :=
  (x1 < 0 → (P_Reader_isLetter_32 post M)) ∧
  (¬ x1 < 0 → (((M 84 4) ≤ x1 → (P_Reader_isLetter_32 post M)) ∧
  (¬ (M 84 4) ≤ x1 → (vp_in x1 400 ∧ P_R_within (fun r1 M1 =>
  (r1 = 0 → (P_Reader_isLetter_32 post M1)) ∧
  (¬ r1 = 0 → (P_Reader_isLetter_33 post (1 : Int32) M1))) (M 85 x1.toNatClampNeg) (97 : Int32) (122 : Int32) M))))
theorem k_Reader_isLetter {X : FX} {g : GT} {ext : List CD} {A : Nat → Prop} {Z : State → Prop} {post : Int32 → Mem → Prop} (C : Cx X g (layC ++ ext) A cX6_isLetter 2 RX6 1) (hr : 0 ≤ X.2.2.2.1.cells ∧ 0 ≤ X.2.2.2.1.slots) (hR : RetZ X g (layC ++ ext) A cX6_isLetter 2 0 0 Z post) (x1 : Int32) (M : Mem) (h : P_Reader_isLetter post x1 M) : AtX X g (layC ++ ext) A 2 0 0 Z 0 [(0, .ref (ad g 84)), (1, .int x1)] [] M := by
  refine a_iload_n C (tk T_cX6_isLetter 0 rfl) rfl ?_
  refine a_if_lt C 32 (tk T_cX6_isLetter 1 rfl) rfl (fun c => ?_) (fun c => ?_)
  · have h := h.1 c
    exact a_to (k_Reader_isLetter_32 C hr hR M h) rfl
  · have h := h.2 c
    refine a_iload_n C (tk T_cX6_isLetter 2 rfl) rfl ?_
    refine a_aload_n C (tk T_cX6_isLetter 3 rfl) rfl ?_
    refine a_getI C f_RX6_29 (tk T_cX6_isLetter 4 rfl) lc84 rfl ?_
    refine a_icmp_ge C 32 (tk T_cX6_isLetter 5 rfl) rfl (fun c => ?_) (fun c => ?_)
    · have h := h.1 c
      exact a_to (k_Reader_isLetter_32 C hr hR M h) rfl
    · have h := h.2 c
      refine a_aload_n C (tk T_cX6_isLetter 6 rfl) rfl ?_
      refine a_getR C f_RX6_9 (tk T_cX6_isLetter 7 rfl) lc84 rfl ?_
      refine a_iload_n C (tk T_cX6_isLetter 8 rfl) rfl ?_
      obtain ⟨hb, h⟩ := h
      refine a_bald C (tk T_cX6_isLetter 9 rfl) lc85 hb ?_
      refine a_bipush C (97 : Int32) (tk T_cX6_isLetter 10 rfl) kB_97 ?_
      refine a_bipush C (122 : Int32) (tk T_cX6_isLetter 11 rfl) kB_122 ?_
      refine a_nestI C [.int (M 85 x1.toNatClampNeg), .int (97 : Int32), .int (122 : Int32)] me_yX11_within lk_RX6_69 (ct_R_within h) (by decide) rfl rfl (Nat.le_of_ble_eq_true rfl) (tk T_cX6_isLetter 12 rfl) hr (fun r1 M1 h => ?_)
      refine a_if_eq C 32 (tk T_cX6_isLetter 13 rfl) rfl (fun c => ?_) (fun c => ?_)
      · have h := h.1 c
        exact a_to (k_Reader_isLetter_32 C hr hR M1 h) rfl
      · have h := h.2 c
        refine a_iconst C (1 : Int32) (tk T_cX6_isLetter 14 rfl) kI_1 ?_
        refine a_goto C 33 (tk T_cX6_isLetter 15 rfl) rfl ?_
        exact a_to (k_Reader_isLetter_33 C hr hR (1 : Int32) M1 h) rfl
theorem ct_Reader_isLetter {l : Launch} {g : GT} {ext : List CD} {post : Int32 → Mem → Prop} {x1 : Int32} {M : Mem} (h : P_Reader_isLetter post x1 M) : CI l g (layC ++ ext) yX6_isLetter cX6_isLetter 2 (some .boolean) 1 [.ref (ad g 84), .int x1] M post :=
  cz_of (plainFor_of_name (by decide +kernel)) (Nat.le_of_ble_eq_true rfl) (fun X A Z hl C hr hR => by subst hl; exact k_Reader_isLetter C hr hR x1 M h)
def T_cX6_signEndL : List (Nat × Instr × Nat) := [(0, .iload_n 1, 1), (1, .iconst 1, 1), (2, .iadd, 1), (3, .istore_n 2, 1), (4, .aload_n 0, 1), (5, .iload_n 1, 1), (6, .invokevirtual 63, 3), (9, .istore_n 3, 1), (10, .aload_n 0, 1), (11, .iload_n 1, 1), (12, .invokevirtual 66, 3), (15, .istore 4, 2), (17, .iconst 0, 1), (18, .istore 5, 2), (20, .iload 5, 2), (22, .sipush 400, 3), (25, .if_icmp .ge 37, 3), (28, .iload_n 3, 1), (29, .ifCond .eq 11, 3), (32, .aload_n 0, 1), (33, .iload_n 2, 1), (34, .invokevirtual 63, 3), (37, .ifCond .ne 16, 3), (40, .iload 4, 2), (42, .ifCond .eq 20, 3), (45, .aload_n 0, 1), (46, .iload_n 2, 1), (47, .invokevirtual 66, 3), (50, .ifCond .eq 12, 3), (53, .iinc 2 1, 3), (56, .iinc 5 1, 3), (59, .goto (-39), 3), (62, .iload_n 2, 1), (63, .ireturn, 1)]
theorem T_cX6_signEnd : tabOK cX6_signEnd T_cX6_signEndL = true := by decide +kernel
def P_Reader_signEnd_62 (post : Int32 → Mem → Prop) (x2 : Int32) (M : Mem) : Prop :=
  post x2 M
theorem k_Reader_signEnd_62 {X : FX} {g : GT} {ext : List CD} {A : Nat → Prop} {Z : State → Prop} {post : Int32 → Mem → Prop} (C : Cx X g (layC ++ ext) A cX6_signEnd 6 RX6 2) (hr : 0 ≤ X.2.2.2.1.cells ∧ 0 ≤ X.2.2.2.1.slots) (hR : RetI X g (layC ++ ext) A cX6_signEnd 6 0 0 Z post) (x2 : Int32) (M : Mem) (h : P_Reader_signEnd_62 post x2 M) : AtX X g (layC ++ ext) A 6 0 0 Z 62 [(2, .int x2)] [] M := by
  refine a_iload_n C (tk T_cX6_signEnd 32 rfl) rfl ?_
  exact hR _ _ _ _ (tk T_cX6_signEnd 33 rfl) h
def P_Reader_signEnd_53 (post : Int32 → Mem → Prop) (R20 : Int32 → Int32 → Int32 → Int32 → Mem → Prop) (x2 x3 x4 x5 : Int32) (M : Mem) : Prop :=
  R20 (x2 + (1 : Int32)) x3 x4 (x5 + (1 : Int32)) M
theorem k_Reader_signEnd_53 {X : FX} {g : GT} {ext : List CD} {A : Nat → Prop} {Z : State → Prop} {post : Int32 → Mem → Prop} {R20 : Int32 → Int32 → Int32 → Int32 → Mem → Prop} (C : Cx X g (layC ++ ext) A cX6_signEnd 6 RX6 2) (hr : 0 ≤ X.2.2.2.1.cells ∧ 0 ≤ X.2.2.2.1.slots) (hR : RetI X g (layC ++ ext) A cX6_signEnd 6 0 0 Z post) (k20 : ∀ (y2 y3 y4 y5 : Int32) (M : Mem), R20 y2 y3 y4 y5 M → AtX X g (layC ++ ext) A 6 0 0 Z 20 [(0, .ref (ad g 84)), (2, .int y2), (3, .int y3), (4, .int y4), (5, .int y5)] [] M) (x2 x3 x4 x5 : Int32) (M : Mem) (h : P_Reader_signEnd_53 post R20 x2 x3 x4 x5 M) : AtX X g (layC ++ ext) A 6 0 0 Z 53 [(0, .ref (ad g 84)), (2, .int x2), (3, .int x3), (4, .int x4), (5, .int x5)] [] M := by
  refine a_iinc C (1 : Int32) (tk T_cX6_signEnd 29 rfl) rfl kI_1 (by decide) rfl ?_
  refine a_iinc C (1 : Int32) (tk T_cX6_signEnd 30 rfl) rfl kI_1 (by decide) rfl ?_
  refine a_goto C 20 (tk T_cX6_signEnd 31 rfl) rfl ?_
  exact a_to (k20 (x2 + (1 : Int32)) x3 x4 (x5 + (1 : Int32)) M h) rfl
def P_Reader_signEnd_40 (post : Int32 → Mem → Prop) (R20 : Int32 → Int32 → Int32 → Int32 → Mem → Prop) (x2 x3 x4 x5 : Int32) (M : Mem) : Prop :=
  (x4 = 0 → (P_Reader_signEnd_62 post x2 M)) ∧
  (¬ x4 = 0 → (P_Reader_isDigit (fun r1 M1 =>
  (r1 = 0 → (P_Reader_signEnd_62 post x2 M1)) ∧
  (¬ r1 = 0 → (P_Reader_signEnd_53 post R20 x2 x3 x4 x5 M1))) x2 M))
theorem k_Reader_signEnd_40 {X : FX} {g : GT} {ext : List CD} {A : Nat → Prop} {Z : State → Prop} {post : Int32 → Mem → Prop} {R20 : Int32 → Int32 → Int32 → Int32 → Mem → Prop} (C : Cx X g (layC ++ ext) A cX6_signEnd 6 RX6 2) (hr : 0 ≤ X.2.2.2.1.cells ∧ 0 ≤ X.2.2.2.1.slots) (hR : RetI X g (layC ++ ext) A cX6_signEnd 6 0 0 Z post) (k20 : ∀ (y2 y3 y4 y5 : Int32) (M : Mem), R20 y2 y3 y4 y5 M → AtX X g (layC ++ ext) A 6 0 0 Z 20 [(0, .ref (ad g 84)), (2, .int y2), (3, .int y3), (4, .int y4), (5, .int y5)] [] M) (x2 x3 x4 x5 : Int32) (M : Mem) (h : P_Reader_signEnd_40 post R20 x2 x3 x4 x5 M) : AtX X g (layC ++ ext) A 6 0 0 Z 40 [(0, .ref (ad g 84)), (2, .int x2), (3, .int x3), (4, .int x4), (5, .int x5)] [] M := by
  refine a_iload C (tk T_cX6_signEnd 23 rfl) rfl ?_
  refine a_if_eq C 62 (tk T_cX6_signEnd 24 rfl) rfl (fun c => ?_) (fun c => ?_)
  · have h := h.1 c
    exact a_to (k_Reader_signEnd_62 C hr hR x2 M h) rfl
  · have h := h.2 c
    refine a_aload_n C (tk T_cX6_signEnd 25 rfl) rfl ?_
    refine a_iload_n C (tk T_cX6_signEnd 26 rfl) rfl ?_
    refine a_callI C [.int x2] me_yX6_isDigit lk_RX6_66 (ct_Reader_isDigit h) (by decide) lc84 rfl rfl rfl (Nat.le_of_ble_eq_true rfl) (tk T_cX6_signEnd 27 rfl) hr (fun r1 M1 h => ?_)
    refine a_if_eq C 62 (tk T_cX6_signEnd 28 rfl) rfl (fun c => ?_) (fun c => ?_)
    · have h := h.1 c
      exact a_to (k_Reader_signEnd_62 C hr hR x2 M1 h) rfl
    · have h := h.2 c
      exact a_to (k_Reader_signEnd_53 C hr hR k20 x2 x3 x4 x5 M1 h) rfl
def P_Reader_signEnd_20 (post : Int32 → Mem → Prop) : Nat → Int32 → Int32 → Int32 → Int32 → Mem → Prop
  | 0, _, _, _, _, _ => False
  | n + 1, x2, x3, x4, x5, M =>
    ((400 : Int32) ≤ x5 → (P_Reader_signEnd_62 post x2 M)) ∧
  (¬ (400 : Int32) ≤ x5 → ((x3 = 0 → (P_Reader_signEnd_40 post (P_Reader_signEnd_20 post n) x2 x3 x4 x5 M)) ∧
  (¬ x3 = 0 → (P_Reader_isLetter (fun r1 M1 =>
  (¬ r1 = 0 → (P_Reader_signEnd_53 post (P_Reader_signEnd_20 post n) x2 x3 x4 x5 M1)) ∧
  (r1 = 0 → (P_Reader_signEnd_40 post (P_Reader_signEnd_20 post n) x2 x3 x4 x5 M1))) x2 M))))
theorem k_Reader_signEnd_20 {X : FX} {g : GT} {ext : List CD} {A : Nat → Prop} {Z : State → Prop} {post : Int32 → Mem → Prop} (C : Cx X g (layC ++ ext) A cX6_signEnd 6 RX6 2) (hr : 0 ≤ X.2.2.2.1.cells ∧ 0 ≤ X.2.2.2.1.slots) (hR : RetI X g (layC ++ ext) A cX6_signEnd 6 0 0 Z post) : ∀ (n : Nat) (x2 x3 x4 x5 : Int32) (M : Mem), P_Reader_signEnd_20 post n x2 x3 x4 x5 M → AtX X g (layC ++ ext) A 6 0 0 Z 20 [(0, .ref (ad g 84)), (2, .int x2), (3, .int x3), (4, .int x4), (5, .int x5)] [] M := by
  intro n
  induction n with
  | zero =>
    intro x2 x3 x4 x5 M h
    exact h.elim
  | succ n ih =>
    intro x2 x3 x4 x5 M h
    refine a_iload C (tk T_cX6_signEnd 14 rfl) rfl ?_
    refine a_sipush C (400 : Int32) (tk T_cX6_signEnd 15 rfl) kS_400 ?_
    refine a_icmp_ge C 62 (tk T_cX6_signEnd 16 rfl) rfl (fun c => ?_) (fun c => ?_)
    · have h := h.1 c
      exact a_to (k_Reader_signEnd_62 C hr hR x2 M h) rfl
    · have h := h.2 c
      refine a_iload_n C (tk T_cX6_signEnd 17 rfl) rfl ?_
      refine a_if_eq C 40 (tk T_cX6_signEnd 18 rfl) rfl (fun c => ?_) (fun c => ?_)
      · have h := h.1 c
        exact a_to (k_Reader_signEnd_40 C hr hR ih x2 x3 x4 x5 M h) rfl
      · have h := h.2 c
        refine a_aload_n C (tk T_cX6_signEnd 19 rfl) rfl ?_
        refine a_iload_n C (tk T_cX6_signEnd 20 rfl) rfl ?_
        refine a_callI C [.int x2] me_yX6_isLetter lk_RX6_63 (ct_Reader_isLetter h) (by decide) lc84 rfl rfl rfl (Nat.le_of_ble_eq_true rfl) (tk T_cX6_signEnd 21 rfl) hr (fun r1 M1 h => ?_)
        refine a_if_ne C 53 (tk T_cX6_signEnd 22 rfl) rfl (fun c => ?_) (fun c => ?_)
        · have h := h.1 c
          exact a_to (k_Reader_signEnd_53 C hr hR ih x2 x3 x4 x5 M1 h) rfl
        · have h := h.2 c
          exact a_to (k_Reader_signEnd_40 C hr hR ih x2 x3 x4 x5 M1 h) rfl
def P_Reader_signEnd (post : Int32 → Mem → Prop) (x1 : Int32) (M : Mem) : Prop :=
  ∀ x2_1, x2_1 = (x1 + (1 : Int32)) → P_Reader_isLetter (fun r2 M2 =>
  P_Reader_isDigit (fun r3 M3 =>
  ∃ j20, P_Reader_signEnd_20 post j20 x2_1 r2 r3 (0 : Int32) M3) x1 M2) x1 M
theorem k_Reader_signEnd {X : FX} {g : GT} {ext : List CD} {A : Nat → Prop} {Z : State → Prop} {post : Int32 → Mem → Prop} (C : Cx X g (layC ++ ext) A cX6_signEnd 6 RX6 2) (hr : 0 ≤ X.2.2.2.1.cells ∧ 0 ≤ X.2.2.2.1.slots) (hR : RetI X g (layC ++ ext) A cX6_signEnd 6 0 0 Z post) (x1 : Int32) (M : Mem) (h : P_Reader_signEnd post x1 M) : AtX X g (layC ++ ext) A 6 0 0 Z 0 [(0, .ref (ad g 84)), (1, .int x1)] [] M := by
  refine a_iload_n C (tk T_cX6_signEnd 0 rfl) rfl ?_
  refine a_iconst C (1 : Int32) (tk T_cX6_signEnd 1 rfl) kI_1 ?_
  refine a_iadd C (tk T_cX6_signEnd 2 rfl) ?_
  refine a_top (fun x2_1 e_x2_1 => ?_)
  have h := h x2_1 e_x2_1
  refine a_istore_n C (tk T_cX6_signEnd 3 rfl) (by decide) rfl ?_
  refine a_aload_n C (tk T_cX6_signEnd 4 rfl) rfl ?_
  refine a_iload_n C (tk T_cX6_signEnd 5 rfl) rfl ?_
  refine a_callI C [.int x1] me_yX6_isLetter lk_RX6_63 (ct_Reader_isLetter h) (by decide) lc84 rfl rfl rfl (Nat.le_of_ble_eq_true rfl) (tk T_cX6_signEnd 6 rfl) hr (fun r2 M2 h => ?_)
  refine a_istore_n C (tk T_cX6_signEnd 7 rfl) (by decide) rfl ?_
  refine a_aload_n C (tk T_cX6_signEnd 8 rfl) rfl ?_
  refine a_iload_n C (tk T_cX6_signEnd 9 rfl) rfl ?_
  refine a_callI C [.int x1] me_yX6_isDigit lk_RX6_66 (ct_Reader_isDigit h) (by decide) lc84 rfl rfl rfl (Nat.le_of_ble_eq_true rfl) (tk T_cX6_signEnd 10 rfl) hr (fun r3 M3 h => ?_)
  refine a_istore C (tk T_cX6_signEnd 11 rfl) (by decide) rfl ?_
  refine a_iconst C (0 : Int32) (tk T_cX6_signEnd 12 rfl) kI_0 ?_
  refine a_istore C (tk T_cX6_signEnd 13 rfl) (by decide) rfl ?_
  obtain ⟨n1, h⟩ := h
  exact a_to (k_Reader_signEnd_20 C hr hR n1 x2_1 r2 r3 (0 : Int32) M3 h) rfl
theorem ct_Reader_signEnd {l : Launch} {g : GT} {ext : List CD} {post : Int32 → Mem → Prop} {x1 : Int32} {M : Mem} (h : P_Reader_signEnd post x1 M) : CI l g (layC ++ ext) yX6_signEnd cX6_signEnd 6 (some .int) 2 [.ref (ad g 84), .int x1] M post :=
  ci_of (plainFor_of_name (by decide +kernel)) (Nat.le_of_ble_eq_true rfl) (fun X A Z hl C hr hR => by subst hl; exact k_Reader_signEnd C hr hR x1 M h)
def T_cX6_valueOfL : List (Nat × Instr × Nat) := [(0, .iconst 0, 1), (1, .istore_n 3, 1), (2, .iload_n 1, 1), (3, .istore 4, 2), (5, .iload 4, 2), (7, .iload_n 2, 1), (8, .if_icmp .ge 34, 3), (11, .aload_n 0, 1), (12, .iload 4, 2), (14, .invokevirtual 66, 3), (17, .ifCond .eq 25, 3), (20, .bipush 10, 2), (22, .iload_n 3, 1), (23, .imul, 1), (24, .aload_n 0, 1), (25, .getfield 9, 3), (28, .iload 4, 2), (30, .baload, 1), (31, .iadd, 1), (32, .bipush 48, 2), (34, .isub, 1), (35, .istore_n 3, 1), (36, .iinc 4 1, 3), (39, .goto (-34), 3), (42, .iload_n 3, 1), (43, .ireturn, 1)]
theorem T_cX6_valueOf : tabOK cX6_valueOf T_cX6_valueOfL = true := by decide +kernel
def P_Reader_valueOf_42 (post : Int32 → Mem → Prop) (x3 : Int32) (M : Mem) : Prop :=
  post x3 M
theorem k_Reader_valueOf_42 {X : FX} {g : GT} {ext : List CD} {A : Nat → Prop} {Z : State → Prop} {post : Int32 → Mem → Prop} (C : Cx X g (layC ++ ext) A cX6_valueOf 5 RX6 2) (hr : 0 ≤ X.2.2.2.1.cells ∧ 0 ≤ X.2.2.2.1.slots) (hR : RetI X g (layC ++ ext) A cX6_valueOf 5 0 0 Z post) (x3 : Int32) (M : Mem) (h : P_Reader_valueOf_42 post x3 M) : AtX X g (layC ++ ext) A 5 0 0 Z 42 [(3, .int x3)] [] M := by
  refine a_iload_n C (tk T_cX6_valueOf 24 rfl) rfl ?_
  exact hR _ _ _ _ (tk T_cX6_valueOf 25 rfl) h
def P_Reader_valueOf_5 (post : Int32 → Mem → Prop) : Nat → Int32 → Int32 → Int32 → Mem → Prop
  | 0, _, _, _, _ => False
  | n + 1, x2, x3, x4, M =>
    (x2 ≤ x4 → (P_Reader_valueOf_42 post x3 M)) ∧
  (¬ x2 ≤ x4 → (P_Reader_isDigit (fun r1 M1 =>
  (r1 = 0 → (P_Reader_valueOf_42 post x3 M1)) ∧
  (¬ r1 = 0 → (vp_in x4 400 ∧ ∀ v2, v2 = ((((10 : Int32) * x3) + (M1 85 x4.toNatClampNeg)) - (48 : Int32)) → P_Reader_valueOf_5 post n x2 v2 (x4 + (1 : Int32)) M1))) x4 M))
theorem k_Reader_valueOf_5 {X : FX} {g : GT} {ext : List CD} {A : Nat → Prop} {Z : State → Prop} {post : Int32 → Mem → Prop} (C : Cx X g (layC ++ ext) A cX6_valueOf 5 RX6 2) (hr : 0 ≤ X.2.2.2.1.cells ∧ 0 ≤ X.2.2.2.1.slots) (hR : RetI X g (layC ++ ext) A cX6_valueOf 5 0 0 Z post) : ∀ (n : Nat) (x2 x3 x4 : Int32) (M : Mem), P_Reader_valueOf_5 post n x2 x3 x4 M → AtX X g (layC ++ ext) A 5 0 0 Z 5 [(0, .ref (ad g 84)), (2, .int x2), (3, .int x3), (4, .int x4)] [] M := by
  intro n
  induction n with
  | zero =>
    intro x2 x3 x4 M h
    exact h.elim
  | succ n ih =>
    intro x2 x3 x4 M h
    refine a_iload C (tk T_cX6_valueOf 4 rfl) rfl ?_
    refine a_iload_n C (tk T_cX6_valueOf 5 rfl) rfl ?_
    refine a_icmp_ge C 42 (tk T_cX6_valueOf 6 rfl) rfl (fun c => ?_) (fun c => ?_)
    · have h := h.1 c
      exact a_to (k_Reader_valueOf_42 C hr hR x3 M h) rfl
    · have h := h.2 c
      refine a_aload_n C (tk T_cX6_valueOf 7 rfl) rfl ?_
      refine a_iload C (tk T_cX6_valueOf 8 rfl) rfl ?_
      refine a_callI C [.int x4] me_yX6_isDigit lk_RX6_66 (ct_Reader_isDigit h) (by decide) lc84 rfl rfl rfl (Nat.le_of_ble_eq_true rfl) (tk T_cX6_valueOf 9 rfl) hr (fun r1 M1 h => ?_)
      refine a_if_eq C 42 (tk T_cX6_valueOf 10 rfl) rfl (fun c => ?_) (fun c => ?_)
      · have h := h.1 c
        exact a_to (k_Reader_valueOf_42 C hr hR x3 M1 h) rfl
      · have h := h.2 c
        refine a_bipush C (10 : Int32) (tk T_cX6_valueOf 11 rfl) kB_10 ?_
        refine a_iload_n C (tk T_cX6_valueOf 12 rfl) rfl ?_
        refine a_imul C (tk T_cX6_valueOf 13 rfl) ?_
        refine a_aload_n C (tk T_cX6_valueOf 14 rfl) rfl ?_
        refine a_getR C f_RX6_9 (tk T_cX6_valueOf 15 rfl) lc84 rfl ?_
        refine a_iload C (tk T_cX6_valueOf 16 rfl) rfl ?_
        obtain ⟨hb, h⟩ := h
        refine a_bald C (tk T_cX6_valueOf 17 rfl) lc85 hb ?_
        refine a_iadd C (tk T_cX6_valueOf 18 rfl) ?_
        refine a_bipush C (48 : Int32) (tk T_cX6_valueOf 19 rfl) kB_48 ?_
        refine a_isub C (tk T_cX6_valueOf 20 rfl) ?_
        refine a_top (fun v2 e_v2 => ?_)
        have h := h v2 e_v2
        refine a_istore_n C (tk T_cX6_valueOf 21 rfl) (by decide) rfl ?_
        refine a_iinc C (1 : Int32) (tk T_cX6_valueOf 22 rfl) rfl kI_1 (by decide) rfl ?_
        refine a_goto C 5 (tk T_cX6_valueOf 23 rfl) rfl ?_
        exact a_to (ih x2 v2 (x4 + (1 : Int32)) M1 h) rfl
def P_Reader_valueOf (post : Int32 → Mem → Prop) (x1 x2 : Int32) (M : Mem) : Prop :=
  ∃ j5, P_Reader_valueOf_5 post j5 x2 (0 : Int32) x1 M
theorem k_Reader_valueOf {X : FX} {g : GT} {ext : List CD} {A : Nat → Prop} {Z : State → Prop} {post : Int32 → Mem → Prop} (C : Cx X g (layC ++ ext) A cX6_valueOf 5 RX6 2) (hr : 0 ≤ X.2.2.2.1.cells ∧ 0 ≤ X.2.2.2.1.slots) (hR : RetI X g (layC ++ ext) A cX6_valueOf 5 0 0 Z post) (x1 x2 : Int32) (M : Mem) (h : P_Reader_valueOf post x1 x2 M) : AtX X g (layC ++ ext) A 5 0 0 Z 0 [(0, .ref (ad g 84)), (1, .int x1), (2, .int x2)] [] M := by
  refine a_iconst C (0 : Int32) (tk T_cX6_valueOf 0 rfl) kI_0 ?_
  refine a_istore_n C (tk T_cX6_valueOf 1 rfl) (by decide) rfl ?_
  refine a_iload_n C (tk T_cX6_valueOf 2 rfl) rfl ?_
  refine a_istore C (tk T_cX6_valueOf 3 rfl) (by decide) rfl ?_
  obtain ⟨n1, h⟩ := h
  exact a_to (k_Reader_valueOf_5 C hr hR n1 x2 (0 : Int32) x1 M h) rfl
theorem ct_Reader_valueOf {l : Launch} {g : GT} {ext : List CD} {post : Int32 → Mem → Prop} {x1 x2 : Int32} {M : Mem} (h : P_Reader_valueOf post x1 x2 M) : CI l g (layC ++ ext) yX6_valueOf cX6_valueOf 5 (some .int) 2 [.ref (ad g 84), .int x1, .int x2] M post :=
  ci_of (plainFor_of_name (by decide +kernel)) (Nat.le_of_ble_eq_true rfl) (fun X A Z hl C hr hR => by subst hl; exact k_Reader_valueOf C hr hR x1 x2 M h)
def T_cX6_codedL : List (Nat × Instr × Nat) := [(0, .iload_n 0, 1), (1, .bipush 32, 2), (3, .iload_n 1, 1), (4, .imul, 1), (5, .iadd, 1), (6, .ireturn, 1)]
theorem T_cX6_coded : tabOK cX6_coded T_cX6_codedL = true := by decide +kernel
def P_Reader_coded (post : Int32 → Mem → Prop) (x0 x1 : Int32) (M : Mem) : Prop :=
  post (x0 + ((32 : Int32) * x1)) M
theorem k_Reader_coded {X : FX} {g : GT} {ext : List CD} {A : Nat → Prop} {Z : State → Prop} {post : Int32 → Mem → Prop} (C : Cx X g (layC ++ ext) A cX6_coded 2 RX6 0) (hr : 0 ≤ X.2.2.2.1.cells ∧ 0 ≤ X.2.2.2.1.slots) (hR : RetI X g (layC ++ ext) A cX6_coded 2 0 0 Z post) (x0 x1 : Int32) (M : Mem) (h : P_Reader_coded post x0 x1 M) : AtX X g (layC ++ ext) A 2 0 0 Z 0 [(0, .int x0), (1, .int x1)] [] M := by
  refine a_iload_n C (tk T_cX6_coded 0 rfl) rfl ?_
  refine a_bipush C (32 : Int32) (tk T_cX6_coded 1 rfl) kB_32 ?_
  refine a_iload_n C (tk T_cX6_coded 2 rfl) rfl ?_
  refine a_imul C (tk T_cX6_coded 3 rfl) ?_
  refine a_iadd C (tk T_cX6_coded 4 rfl) ?_
  exact hR _ _ _ _ (tk T_cX6_coded 5 rfl) h
theorem ct_Reader_coded {l : Launch} {g : GT} {ext : List CD} {post : Int32 → Mem → Prop} {x0 x1 : Int32} {M : Mem} (h : P_Reader_coded post x0 x1 M) : CI l g (layC ++ ext) yX6_coded cX6_coded 2 (some .int) 0 [.int x0, .int x1] M post :=
  ci_of (plainFor_of_name (by decide +kernel)) (Nat.le_of_ble_eq_true rfl) (fun X A Z hl C hr hR => by subst hl; exact k_Reader_coded C hr hR x0 x1 M h)
def T_cX6_isWordL : List (Nat × Instr × Nat) := [(0, .iload_n 2, 1), (1, .iload_n 1, 1), (2, .isub, 1), (3, .aload_n 3, 1), (4, .invokevirtual 111, 3), (7, .if_icmp .ne 14, 3), (10, .iload_n 1, 1), (11, .ifCond .lt 10, 3), (14, .iload_n 2, 1), (15, .sipush 400, 3), (18, .if_icmp .le 5, 3), (21, .iconst 0, 1), (22, .ireturn, 1), (23, .iconst 0, 1), (24, .istore 4, 2), (26, .iload 4, 2), (28, .aload_n 3, 1), (29, .invokevirtual 111, 3), (32, .if_icmp .ge 29, 3), (35, .aload_n 0, 1), (36, .getfield 9, 3), (39, .iload_n 1, 1), (40, .iload 4, 2), (42, .iadd, 1), (43, .baload, 1), (44, .aload_n 3, 1), (45, .iload 4, 2), (47, .invokevirtual 116, 3), (50, .if_icmp .eq 5, 3), (53, .iconst 0, 1), (54, .ireturn, 1), (55, .iinc 4 1, 3), (58, .goto (-32), 3), (61, .iconst 1, 1), (62, .ireturn, 1)]
theorem T_cX6_isWord : tabOK cX6_isWord T_cX6_isWordL = true := by decide +kernel
def P_Reader_isWord_w0_26 (post : Int32 → Mem → Prop) : Nat → Int32 → Int32 → Mem → Prop
  | 0, _, _, _ => False
  | n + 1, x1, x4, M =>
    P_len 0 (fun r1 M1 =>
  (r1 ≤ x4 → (post (1 : Int32) M1)) ∧
  (¬ r1 ≤ x4 → (vp_in (x1 + x4) 400 ∧ P_chr 0 (fun r2 M2 =>
  ((M1 85 (x1 + x4).toNatClampNeg) = r2 → (P_Reader_isWord_w0_26 post n x1 (x4 + (1 : Int32)) M2)) ∧
  (¬ (M1 85 (x1 + x4).toNatClampNeg) = r2 → (post (0 : Int32) M2))) x4 M1))) M
theorem k_Reader_isWord_w0_26 {X : FX} {g : GT} {ext : List CD} {A : Nat → Prop} {Z : State → Prop} {post : Int32 → Mem → Prop} {sk : Nat → Nat} (C : CxX X g (layC ++ ext) A cX6_isWord 5 RX6 4 0 sk) (hr : 0 ≤ X.2.2.2.1.cells ∧ 0 ≤ X.2.2.2.1.slots) (hR : RetZ X g (layC ++ ext) A cX6_isWord 5 0 0 Z post) : ∀ (n : Nat) (x1 x4 : Int32) (M : Mem), P_Reader_isWord_w0_26 post n x1 x4 M → AtX X g (layC ++ ext) A 5 0 0 Z 26 [(0, .ref (ad g 84)), (3, .ref (sk (10 + 0))), (1, .int x1), (4, .int x4)] [] M := by
  intro n
  induction n with
  | zero =>
    intro x1 x4 M h
    exact h.elim
  | succ n ih =>
    intro x1 x4 M h
    refine a_iload C.1 (tk T_cX6_isWord 15 rfl) rfl ?_
    refine a_aload_n C.1 (tk T_cX6_isWord 16 rfl) rfl ?_
    refine s_strI C [] me_yJ0_length_8abf5 rfl lk_RX6_111 (ct_lenP (o := 10) (j := 0) ⟨Or.inl rfl, by decide⟩ h) (by decide) (wok.at (o := 10) (j := 0) ⟨Or.inl rfl, by decide⟩ C.2.1.2.2.2.2.2.2.2).1 rfl rfl (Nat.le_of_ble_eq_true rfl) (tk T_cX6_isWord 17 rfl) hr (fun r1 M1 h => ?_)
    refine a_icmp_ge C.1 61 (tk T_cX6_isWord 18 rfl) rfl (fun c => ?_) (fun c => ?_)
    · have h := h.1 c
      refine a_iconst C.1 (1 : Int32) (tk T_cX6_isWord 33 rfl) kI_1 ?_
      exact hR _ _ _ _ (tk T_cX6_isWord 34 rfl) ⟨Or.inr rfl, h⟩
    · have h := h.2 c
      refine a_aload_n C.1 (tk T_cX6_isWord 19 rfl) rfl ?_
      refine a_getR C.1 f_RX6_9 (tk T_cX6_isWord 20 rfl) lc84 rfl ?_
      refine a_iload_n C.1 (tk T_cX6_isWord 21 rfl) rfl ?_
      refine a_iload C.1 (tk T_cX6_isWord 22 rfl) rfl ?_
      refine a_iadd C.1 (tk T_cX6_isWord 23 rfl) ?_
      obtain ⟨hb, h⟩ := h
      refine a_bald C.1 (tk T_cX6_isWord 24 rfl) lc85 hb ?_
      refine a_aload_n C.1 (tk T_cX6_isWord 25 rfl) rfl ?_
      refine a_iload C.1 (tk T_cX6_isWord 26 rfl) rfl ?_
      refine s_strI C [.int x4] me_yJ0_charAt_5068e rfl lk_RX6_116 (ct_chrP (o := 10) (j := 0) ⟨Or.inl rfl, by decide⟩ h) (by decide) (wok.at (o := 10) (j := 0) ⟨Or.inl rfl, by decide⟩ C.2.1.2.2.2.2.2.2.2).1 rfl rfl (Nat.le_of_ble_eq_true rfl) (tk T_cX6_isWord 27 rfl) hr (fun r2 M2 h => ?_)
      refine a_icmp_eq C.1 55 (tk T_cX6_isWord 28 rfl) rfl (fun c => ?_) (fun c => ?_)
      · have h := h.1 c
        refine a_iinc C.1 (1 : Int32) (tk T_cX6_isWord 31 rfl) rfl kI_1 (by decide) rfl ?_
        refine a_goto C.1 26 (tk T_cX6_isWord 32 rfl) rfl ?_
        exact a_to (ih x1 (x4 + (1 : Int32)) M2 h) rfl
      · have h := h.2 c
        refine a_iconst C.1 (0 : Int32) (tk T_cX6_isWord 29 rfl) kI_0 ?_
        exact hR _ _ _ _ (tk T_cX6_isWord 30 rfl) ⟨Or.inl rfl, h⟩
def P_Reader_isWord_w0_21 (post : Int32 → Mem → Prop) (M : Mem) : Prop :=
  post (0 : Int32) M
theorem k_Reader_isWord_w0_21 {X : FX} {g : GT} {ext : List CD} {A : Nat → Prop} {Z : State → Prop} {post : Int32 → Mem → Prop} {sk : Nat → Nat} (C : CxX X g (layC ++ ext) A cX6_isWord 5 RX6 4 0 sk) (hr : 0 ≤ X.2.2.2.1.cells ∧ 0 ≤ X.2.2.2.1.slots) (hR : RetZ X g (layC ++ ext) A cX6_isWord 5 0 0 Z post)  (M : Mem) (h : P_Reader_isWord_w0_21 post M) : AtX X g (layC ++ ext) A 5 0 0 Z 21 [] [] M := by
  refine a_iconst C.1 (0 : Int32) (tk T_cX6_isWord 11 rfl) kI_0 ?_
  exact hR _ _ _ _ (tk T_cX6_isWord 12 rfl) ⟨Or.inl rfl, h⟩
def P_Reader_isWord_w0 (post : Int32 → Mem → Prop) (x1 x2 : Int32) (M : Mem) : Prop :=
  P_len 0 (fun r1 M1 =>
  (¬ (x2 - x1) = r1 → (P_Reader_isWord_w0_21 post M1)) ∧
  ((x2 - x1) = r1 → ((x1 < 0 → (P_Reader_isWord_w0_21 post M1)) ∧
  (¬ x1 < 0 → ((x2 ≤ (400 : Int32) → (∃ j26, P_Reader_isWord_w0_26 post j26 x1 (0 : Int32) M1)) ∧
  (¬ x2 ≤ (400 : Int32) → (P_Reader_isWord_w0_21 post M1))))))) M
theorem k_Reader_isWord_w0 {X : FX} {g : GT} {ext : List CD} {A : Nat → Prop} {Z : State → Prop} {post : Int32 → Mem → Prop} {sk : Nat → Nat} (C : CxX X g (layC ++ ext) A cX6_isWord 5 RX6 4 0 sk) (hr : 0 ≤ X.2.2.2.1.cells ∧ 0 ≤ X.2.2.2.1.slots) (hR : RetZ X g (layC ++ ext) A cX6_isWord 5 0 0 Z post) (x1 x2 : Int32) (M : Mem) (h : P_Reader_isWord_w0 post x1 x2 M) : AtX X g (layC ++ ext) A 5 0 0 Z 0 [(0, .ref (ad g 84)), (1, .int x1), (2, .int x2), (3, .ref (sk (10 + 0)))] [] M := by
  refine a_iload_n C.1 (tk T_cX6_isWord 0 rfl) rfl ?_
  refine a_iload_n C.1 (tk T_cX6_isWord 1 rfl) rfl ?_
  refine a_isub C.1 (tk T_cX6_isWord 2 rfl) ?_
  refine a_aload_n C.1 (tk T_cX6_isWord 3 rfl) rfl ?_
  refine s_strI C [] me_yJ0_length_8abf5 rfl lk_RX6_111 (ct_lenP (o := 10) (j := 0) ⟨Or.inl rfl, by decide⟩ h) (by decide) (wok.at (o := 10) (j := 0) ⟨Or.inl rfl, by decide⟩ C.2.1.2.2.2.2.2.2.2).1 rfl rfl (Nat.le_of_ble_eq_true rfl) (tk T_cX6_isWord 4 rfl) hr (fun r1 M1 h => ?_)
  refine a_icmp_ne C.1 21 (tk T_cX6_isWord 5 rfl) rfl (fun c => ?_) (fun c => ?_)
  · have h := h.1 c
    exact a_to (k_Reader_isWord_w0_21 C hr hR M1 h) rfl
  · have h := h.2 c
    refine a_iload_n C.1 (tk T_cX6_isWord 6 rfl) rfl ?_
    refine a_if_lt C.1 21 (tk T_cX6_isWord 7 rfl) rfl (fun c => ?_) (fun c => ?_)
    · have h := h.1 c
      exact a_to (k_Reader_isWord_w0_21 C hr hR M1 h) rfl
    · have h := h.2 c
      refine a_iload_n C.1 (tk T_cX6_isWord 8 rfl) rfl ?_
      refine a_sipush C.1 (400 : Int32) (tk T_cX6_isWord 9 rfl) kS_400 ?_
      refine a_icmp_le C.1 23 (tk T_cX6_isWord 10 rfl) rfl (fun c => ?_) (fun c => ?_)
      · have h := h.1 c
        refine a_iconst C.1 (0 : Int32) (tk T_cX6_isWord 13 rfl) kI_0 ?_
        refine a_istore C.1 (tk T_cX6_isWord 14 rfl) (by decide) rfl ?_
        obtain ⟨n1, h⟩ := h
        exact a_to (k_Reader_isWord_w0_26 C hr hR n1 x1 (0 : Int32) M1 h) rfl
      · have h := h.2 c
        exact a_to (k_Reader_isWord_w0_21 C hr hR M1 h) rfl
theorem ct_Reader_isWord_w0 {l : Launch} {g : GT} {ext : List CD} {sk : Nat → Nat} {post : Int32 → Mem → Prop} {x1 x2 : Int32} {M : Mem} (h : P_Reader_isWord_w0 post x1 x2 M) : SI l g (layC ++ ext) sk yX6_isWord cX6_isWord 5 (some .boolean) 4 [.ref (ad g 84), .int x1, .int x2, .ref (sk (10 + 0))] M post :=
  st_of (plainFor_of_name (by decide +kernel)) (Nat.le_of_ble_eq_true rfl) (fun X A Z hl C hr hR => by subst hl; exact k_Reader_isWord_w0 C hr (fun v M pc lv hd hp => hR v M pc lv hd (nar_z hp.1) hp.2) x1 x2 M h)
def P_Reader_isWord_w1_26 (post : Int32 → Mem → Prop) : Nat → Int32 → Int32 → Mem → Prop
  | 0, _, _, _ => False
  | n + 1, x1, x4, M =>
    P_len 1 (fun r1 M1 =>
  (r1 ≤ x4 → (post (1 : Int32) M1)) ∧
  (¬ r1 ≤ x4 → (vp_in (x1 + x4) 400 ∧ P_chr 1 (fun r2 M2 =>
  ((M1 85 (x1 + x4).toNatClampNeg) = r2 → (P_Reader_isWord_w1_26 post n x1 (x4 + (1 : Int32)) M2)) ∧
  (¬ (M1 85 (x1 + x4).toNatClampNeg) = r2 → (post (0 : Int32) M2))) x4 M1))) M
theorem k_Reader_isWord_w1_26 {X : FX} {g : GT} {ext : List CD} {A : Nat → Prop} {Z : State → Prop} {post : Int32 → Mem → Prop} {sk : Nat → Nat} (C : CxX X g (layC ++ ext) A cX6_isWord 5 RX6 4 0 sk) (hr : 0 ≤ X.2.2.2.1.cells ∧ 0 ≤ X.2.2.2.1.slots) (hR : RetZ X g (layC ++ ext) A cX6_isWord 5 0 0 Z post) : ∀ (n : Nat) (x1 x4 : Int32) (M : Mem), P_Reader_isWord_w1_26 post n x1 x4 M → AtX X g (layC ++ ext) A 5 0 0 Z 26 [(0, .ref (ad g 84)), (3, .ref (sk (10 + 1))), (1, .int x1), (4, .int x4)] [] M := by
  intro n
  induction n with
  | zero =>
    intro x1 x4 M h
    exact h.elim
  | succ n ih =>
    intro x1 x4 M h
    refine a_iload C.1 (tk T_cX6_isWord 15 rfl) rfl ?_
    refine a_aload_n C.1 (tk T_cX6_isWord 16 rfl) rfl ?_
    refine s_strI C [] me_yJ0_length_8abf5 rfl lk_RX6_111 (ct_lenP (o := 10) (j := 1) ⟨Or.inl rfl, by decide⟩ h) (by decide) (wok.at (o := 10) (j := 1) ⟨Or.inl rfl, by decide⟩ C.2.1.2.2.2.2.2.2.2).1 rfl rfl (Nat.le_of_ble_eq_true rfl) (tk T_cX6_isWord 17 rfl) hr (fun r1 M1 h => ?_)
    refine a_icmp_ge C.1 61 (tk T_cX6_isWord 18 rfl) rfl (fun c => ?_) (fun c => ?_)
    · have h := h.1 c
      refine a_iconst C.1 (1 : Int32) (tk T_cX6_isWord 33 rfl) kI_1 ?_
      exact hR _ _ _ _ (tk T_cX6_isWord 34 rfl) ⟨Or.inr rfl, h⟩
    · have h := h.2 c
      refine a_aload_n C.1 (tk T_cX6_isWord 19 rfl) rfl ?_
      refine a_getR C.1 f_RX6_9 (tk T_cX6_isWord 20 rfl) lc84 rfl ?_
      refine a_iload_n C.1 (tk T_cX6_isWord 21 rfl) rfl ?_
      refine a_iload C.1 (tk T_cX6_isWord 22 rfl) rfl ?_
      refine a_iadd C.1 (tk T_cX6_isWord 23 rfl) ?_
      obtain ⟨hb, h⟩ := h
      refine a_bald C.1 (tk T_cX6_isWord 24 rfl) lc85 hb ?_
      refine a_aload_n C.1 (tk T_cX6_isWord 25 rfl) rfl ?_
      refine a_iload C.1 (tk T_cX6_isWord 26 rfl) rfl ?_
      refine s_strI C [.int x4] me_yJ0_charAt_5068e rfl lk_RX6_116 (ct_chrP (o := 10) (j := 1) ⟨Or.inl rfl, by decide⟩ h) (by decide) (wok.at (o := 10) (j := 1) ⟨Or.inl rfl, by decide⟩ C.2.1.2.2.2.2.2.2.2).1 rfl rfl (Nat.le_of_ble_eq_true rfl) (tk T_cX6_isWord 27 rfl) hr (fun r2 M2 h => ?_)
      refine a_icmp_eq C.1 55 (tk T_cX6_isWord 28 rfl) rfl (fun c => ?_) (fun c => ?_)
      · have h := h.1 c
        refine a_iinc C.1 (1 : Int32) (tk T_cX6_isWord 31 rfl) rfl kI_1 (by decide) rfl ?_
        refine a_goto C.1 26 (tk T_cX6_isWord 32 rfl) rfl ?_
        exact a_to (ih x1 (x4 + (1 : Int32)) M2 h) rfl
      · have h := h.2 c
        refine a_iconst C.1 (0 : Int32) (tk T_cX6_isWord 29 rfl) kI_0 ?_
        exact hR _ _ _ _ (tk T_cX6_isWord 30 rfl) ⟨Or.inl rfl, h⟩
def P_Reader_isWord_w1_21 (post : Int32 → Mem → Prop) (M : Mem) : Prop :=
  post (0 : Int32) M
theorem k_Reader_isWord_w1_21 {X : FX} {g : GT} {ext : List CD} {A : Nat → Prop} {Z : State → Prop} {post : Int32 → Mem → Prop} {sk : Nat → Nat} (C : CxX X g (layC ++ ext) A cX6_isWord 5 RX6 4 0 sk) (hr : 0 ≤ X.2.2.2.1.cells ∧ 0 ≤ X.2.2.2.1.slots) (hR : RetZ X g (layC ++ ext) A cX6_isWord 5 0 0 Z post)  (M : Mem) (h : P_Reader_isWord_w1_21 post M) : AtX X g (layC ++ ext) A 5 0 0 Z 21 [] [] M := by
  refine a_iconst C.1 (0 : Int32) (tk T_cX6_isWord 11 rfl) kI_0 ?_
  exact hR _ _ _ _ (tk T_cX6_isWord 12 rfl) ⟨Or.inl rfl, h⟩
def P_Reader_isWord_w1 (post : Int32 → Mem → Prop) (x1 x2 : Int32) (M : Mem) : Prop :=
  P_len 1 (fun r1 M1 =>
  (¬ (x2 - x1) = r1 → (P_Reader_isWord_w1_21 post M1)) ∧
  ((x2 - x1) = r1 → ((x1 < 0 → (P_Reader_isWord_w1_21 post M1)) ∧
  (¬ x1 < 0 → ((x2 ≤ (400 : Int32) → (∃ j26, P_Reader_isWord_w1_26 post j26 x1 (0 : Int32) M1)) ∧
  (¬ x2 ≤ (400 : Int32) → (P_Reader_isWord_w1_21 post M1))))))) M
theorem k_Reader_isWord_w1 {X : FX} {g : GT} {ext : List CD} {A : Nat → Prop} {Z : State → Prop} {post : Int32 → Mem → Prop} {sk : Nat → Nat} (C : CxX X g (layC ++ ext) A cX6_isWord 5 RX6 4 0 sk) (hr : 0 ≤ X.2.2.2.1.cells ∧ 0 ≤ X.2.2.2.1.slots) (hR : RetZ X g (layC ++ ext) A cX6_isWord 5 0 0 Z post) (x1 x2 : Int32) (M : Mem) (h : P_Reader_isWord_w1 post x1 x2 M) : AtX X g (layC ++ ext) A 5 0 0 Z 0 [(0, .ref (ad g 84)), (1, .int x1), (2, .int x2), (3, .ref (sk (10 + 1)))] [] M := by
  refine a_iload_n C.1 (tk T_cX6_isWord 0 rfl) rfl ?_
  refine a_iload_n C.1 (tk T_cX6_isWord 1 rfl) rfl ?_
  refine a_isub C.1 (tk T_cX6_isWord 2 rfl) ?_
  refine a_aload_n C.1 (tk T_cX6_isWord 3 rfl) rfl ?_
  refine s_strI C [] me_yJ0_length_8abf5 rfl lk_RX6_111 (ct_lenP (o := 10) (j := 1) ⟨Or.inl rfl, by decide⟩ h) (by decide) (wok.at (o := 10) (j := 1) ⟨Or.inl rfl, by decide⟩ C.2.1.2.2.2.2.2.2.2).1 rfl rfl (Nat.le_of_ble_eq_true rfl) (tk T_cX6_isWord 4 rfl) hr (fun r1 M1 h => ?_)
  refine a_icmp_ne C.1 21 (tk T_cX6_isWord 5 rfl) rfl (fun c => ?_) (fun c => ?_)
  · have h := h.1 c
    exact a_to (k_Reader_isWord_w1_21 C hr hR M1 h) rfl
  · have h := h.2 c
    refine a_iload_n C.1 (tk T_cX6_isWord 6 rfl) rfl ?_
    refine a_if_lt C.1 21 (tk T_cX6_isWord 7 rfl) rfl (fun c => ?_) (fun c => ?_)
    · have h := h.1 c
      exact a_to (k_Reader_isWord_w1_21 C hr hR M1 h) rfl
    · have h := h.2 c
      refine a_iload_n C.1 (tk T_cX6_isWord 8 rfl) rfl ?_
      refine a_sipush C.1 (400 : Int32) (tk T_cX6_isWord 9 rfl) kS_400 ?_
      refine a_icmp_le C.1 23 (tk T_cX6_isWord 10 rfl) rfl (fun c => ?_) (fun c => ?_)
      · have h := h.1 c
        refine a_iconst C.1 (0 : Int32) (tk T_cX6_isWord 13 rfl) kI_0 ?_
        refine a_istore C.1 (tk T_cX6_isWord 14 rfl) (by decide) rfl ?_
        obtain ⟨n1, h⟩ := h
        exact a_to (k_Reader_isWord_w1_26 C hr hR n1 x1 (0 : Int32) M1 h) rfl
      · have h := h.2 c
        exact a_to (k_Reader_isWord_w1_21 C hr hR M1 h) rfl
theorem ct_Reader_isWord_w1 {l : Launch} {g : GT} {ext : List CD} {sk : Nat → Nat} {post : Int32 → Mem → Prop} {x1 x2 : Int32} {M : Mem} (h : P_Reader_isWord_w1 post x1 x2 M) : SI l g (layC ++ ext) sk yX6_isWord cX6_isWord 5 (some .boolean) 4 [.ref (ad g 84), .int x1, .int x2, .ref (sk (10 + 1))] M post :=
  st_of (plainFor_of_name (by decide +kernel)) (Nat.le_of_ble_eq_true rfl) (fun X A Z hl C hr hR => by subst hl; exact k_Reader_isWord_w1 C hr (fun v M pc lv hd hp => hR v M pc lv hd (nar_z hp.1) hp.2) x1 x2 M h)
def P_Reader_isWord_w2_26 (post : Int32 → Mem → Prop) : Nat → Int32 → Int32 → Mem → Prop
  | 0, _, _, _ => False
  | n + 1, x1, x4, M =>
    P_len 2 (fun r1 M1 =>
  (r1 ≤ x4 → (post (1 : Int32) M1)) ∧
  (¬ r1 ≤ x4 → (vp_in (x1 + x4) 400 ∧ P_chr 2 (fun r2 M2 =>
  ((M1 85 (x1 + x4).toNatClampNeg) = r2 → (P_Reader_isWord_w2_26 post n x1 (x4 + (1 : Int32)) M2)) ∧
  (¬ (M1 85 (x1 + x4).toNatClampNeg) = r2 → (post (0 : Int32) M2))) x4 M1))) M
theorem k_Reader_isWord_w2_26 {X : FX} {g : GT} {ext : List CD} {A : Nat → Prop} {Z : State → Prop} {post : Int32 → Mem → Prop} {sk : Nat → Nat} (C : CxX X g (layC ++ ext) A cX6_isWord 5 RX6 4 0 sk) (hr : 0 ≤ X.2.2.2.1.cells ∧ 0 ≤ X.2.2.2.1.slots) (hR : RetZ X g (layC ++ ext) A cX6_isWord 5 0 0 Z post) : ∀ (n : Nat) (x1 x4 : Int32) (M : Mem), P_Reader_isWord_w2_26 post n x1 x4 M → AtX X g (layC ++ ext) A 5 0 0 Z 26 [(0, .ref (ad g 84)), (3, .ref (sk (10 + 2))), (1, .int x1), (4, .int x4)] [] M := by
  intro n
  induction n with
  | zero =>
    intro x1 x4 M h
    exact h.elim
  | succ n ih =>
    intro x1 x4 M h
    refine a_iload C.1 (tk T_cX6_isWord 15 rfl) rfl ?_
    refine a_aload_n C.1 (tk T_cX6_isWord 16 rfl) rfl ?_
    refine s_strI C [] me_yJ0_length_8abf5 rfl lk_RX6_111 (ct_lenP (o := 10) (j := 2) ⟨Or.inl rfl, by decide⟩ h) (by decide) (wok.at (o := 10) (j := 2) ⟨Or.inl rfl, by decide⟩ C.2.1.2.2.2.2.2.2.2).1 rfl rfl (Nat.le_of_ble_eq_true rfl) (tk T_cX6_isWord 17 rfl) hr (fun r1 M1 h => ?_)
    refine a_icmp_ge C.1 61 (tk T_cX6_isWord 18 rfl) rfl (fun c => ?_) (fun c => ?_)
    · have h := h.1 c
      refine a_iconst C.1 (1 : Int32) (tk T_cX6_isWord 33 rfl) kI_1 ?_
      exact hR _ _ _ _ (tk T_cX6_isWord 34 rfl) ⟨Or.inr rfl, h⟩
    · have h := h.2 c
      refine a_aload_n C.1 (tk T_cX6_isWord 19 rfl) rfl ?_
      refine a_getR C.1 f_RX6_9 (tk T_cX6_isWord 20 rfl) lc84 rfl ?_
      refine a_iload_n C.1 (tk T_cX6_isWord 21 rfl) rfl ?_
      refine a_iload C.1 (tk T_cX6_isWord 22 rfl) rfl ?_
      refine a_iadd C.1 (tk T_cX6_isWord 23 rfl) ?_
      obtain ⟨hb, h⟩ := h
      refine a_bald C.1 (tk T_cX6_isWord 24 rfl) lc85 hb ?_
      refine a_aload_n C.1 (tk T_cX6_isWord 25 rfl) rfl ?_
      refine a_iload C.1 (tk T_cX6_isWord 26 rfl) rfl ?_
      refine s_strI C [.int x4] me_yJ0_charAt_5068e rfl lk_RX6_116 (ct_chrP (o := 10) (j := 2) ⟨Or.inl rfl, by decide⟩ h) (by decide) (wok.at (o := 10) (j := 2) ⟨Or.inl rfl, by decide⟩ C.2.1.2.2.2.2.2.2.2).1 rfl rfl (Nat.le_of_ble_eq_true rfl) (tk T_cX6_isWord 27 rfl) hr (fun r2 M2 h => ?_)
      refine a_icmp_eq C.1 55 (tk T_cX6_isWord 28 rfl) rfl (fun c => ?_) (fun c => ?_)
      · have h := h.1 c
        refine a_iinc C.1 (1 : Int32) (tk T_cX6_isWord 31 rfl) rfl kI_1 (by decide) rfl ?_
        refine a_goto C.1 26 (tk T_cX6_isWord 32 rfl) rfl ?_
        exact a_to (ih x1 (x4 + (1 : Int32)) M2 h) rfl
      · have h := h.2 c
        refine a_iconst C.1 (0 : Int32) (tk T_cX6_isWord 29 rfl) kI_0 ?_
        exact hR _ _ _ _ (tk T_cX6_isWord 30 rfl) ⟨Or.inl rfl, h⟩
def P_Reader_isWord_w2_21 (post : Int32 → Mem → Prop) (M : Mem) : Prop :=
  post (0 : Int32) M
theorem k_Reader_isWord_w2_21 {X : FX} {g : GT} {ext : List CD} {A : Nat → Prop} {Z : State → Prop} {post : Int32 → Mem → Prop} {sk : Nat → Nat} (C : CxX X g (layC ++ ext) A cX6_isWord 5 RX6 4 0 sk) (hr : 0 ≤ X.2.2.2.1.cells ∧ 0 ≤ X.2.2.2.1.slots) (hR : RetZ X g (layC ++ ext) A cX6_isWord 5 0 0 Z post)  (M : Mem) (h : P_Reader_isWord_w2_21 post M) : AtX X g (layC ++ ext) A 5 0 0 Z 21 [] [] M := by
  refine a_iconst C.1 (0 : Int32) (tk T_cX6_isWord 11 rfl) kI_0 ?_
  exact hR _ _ _ _ (tk T_cX6_isWord 12 rfl) ⟨Or.inl rfl, h⟩
def P_Reader_isWord_w2 (post : Int32 → Mem → Prop) (x1 x2 : Int32) (M : Mem) : Prop :=
  P_len 2 (fun r1 M1 =>
  (¬ (x2 - x1) = r1 → (P_Reader_isWord_w2_21 post M1)) ∧
  ((x2 - x1) = r1 → ((x1 < 0 → (P_Reader_isWord_w2_21 post M1)) ∧
  (¬ x1 < 0 → ((x2 ≤ (400 : Int32) → (∃ j26, P_Reader_isWord_w2_26 post j26 x1 (0 : Int32) M1)) ∧
  (¬ x2 ≤ (400 : Int32) → (P_Reader_isWord_w2_21 post M1))))))) M
theorem k_Reader_isWord_w2 {X : FX} {g : GT} {ext : List CD} {A : Nat → Prop} {Z : State → Prop} {post : Int32 → Mem → Prop} {sk : Nat → Nat} (C : CxX X g (layC ++ ext) A cX6_isWord 5 RX6 4 0 sk) (hr : 0 ≤ X.2.2.2.1.cells ∧ 0 ≤ X.2.2.2.1.slots) (hR : RetZ X g (layC ++ ext) A cX6_isWord 5 0 0 Z post) (x1 x2 : Int32) (M : Mem) (h : P_Reader_isWord_w2 post x1 x2 M) : AtX X g (layC ++ ext) A 5 0 0 Z 0 [(0, .ref (ad g 84)), (1, .int x1), (2, .int x2), (3, .ref (sk (10 + 2)))] [] M := by
  refine a_iload_n C.1 (tk T_cX6_isWord 0 rfl) rfl ?_
  refine a_iload_n C.1 (tk T_cX6_isWord 1 rfl) rfl ?_
  refine a_isub C.1 (tk T_cX6_isWord 2 rfl) ?_
  refine a_aload_n C.1 (tk T_cX6_isWord 3 rfl) rfl ?_
  refine s_strI C [] me_yJ0_length_8abf5 rfl lk_RX6_111 (ct_lenP (o := 10) (j := 2) ⟨Or.inl rfl, by decide⟩ h) (by decide) (wok.at (o := 10) (j := 2) ⟨Or.inl rfl, by decide⟩ C.2.1.2.2.2.2.2.2.2).1 rfl rfl (Nat.le_of_ble_eq_true rfl) (tk T_cX6_isWord 4 rfl) hr (fun r1 M1 h => ?_)
  refine a_icmp_ne C.1 21 (tk T_cX6_isWord 5 rfl) rfl (fun c => ?_) (fun c => ?_)
  · have h := h.1 c
    exact a_to (k_Reader_isWord_w2_21 C hr hR M1 h) rfl
  · have h := h.2 c
    refine a_iload_n C.1 (tk T_cX6_isWord 6 rfl) rfl ?_
    refine a_if_lt C.1 21 (tk T_cX6_isWord 7 rfl) rfl (fun c => ?_) (fun c => ?_)
    · have h := h.1 c
      exact a_to (k_Reader_isWord_w2_21 C hr hR M1 h) rfl
    · have h := h.2 c
      refine a_iload_n C.1 (tk T_cX6_isWord 8 rfl) rfl ?_
      refine a_sipush C.1 (400 : Int32) (tk T_cX6_isWord 9 rfl) kS_400 ?_
      refine a_icmp_le C.1 23 (tk T_cX6_isWord 10 rfl) rfl (fun c => ?_) (fun c => ?_)
      · have h := h.1 c
        refine a_iconst C.1 (0 : Int32) (tk T_cX6_isWord 13 rfl) kI_0 ?_
        refine a_istore C.1 (tk T_cX6_isWord 14 rfl) (by decide) rfl ?_
        obtain ⟨n1, h⟩ := h
        exact a_to (k_Reader_isWord_w2_26 C hr hR n1 x1 (0 : Int32) M1 h) rfl
      · have h := h.2 c
        exact a_to (k_Reader_isWord_w2_21 C hr hR M1 h) rfl
theorem ct_Reader_isWord_w2 {l : Launch} {g : GT} {ext : List CD} {sk : Nat → Nat} {post : Int32 → Mem → Prop} {x1 x2 : Int32} {M : Mem} (h : P_Reader_isWord_w2 post x1 x2 M) : SI l g (layC ++ ext) sk yX6_isWord cX6_isWord 5 (some .boolean) 4 [.ref (ad g 84), .int x1, .int x2, .ref (sk (10 + 2))] M post :=
  st_of (plainFor_of_name (by decide +kernel)) (Nat.le_of_ble_eq_true rfl) (fun X A Z hl C hr hR => by subst hl; exact k_Reader_isWord_w2 C hr (fun v M pc lv hd hp => hR v M pc lv hd (nar_z hp.1) hp.2) x1 x2 M h)
def P_Reader_isWord_w3_26 (post : Int32 → Mem → Prop) : Nat → Int32 → Int32 → Mem → Prop
  | 0, _, _, _ => False
  | n + 1, x1, x4, M =>
    P_len 3 (fun r1 M1 =>
  (r1 ≤ x4 → (post (1 : Int32) M1)) ∧
  (¬ r1 ≤ x4 → (vp_in (x1 + x4) 400 ∧ P_chr 3 (fun r2 M2 =>
  ((M1 85 (x1 + x4).toNatClampNeg) = r2 → (P_Reader_isWord_w3_26 post n x1 (x4 + (1 : Int32)) M2)) ∧
  (¬ (M1 85 (x1 + x4).toNatClampNeg) = r2 → (post (0 : Int32) M2))) x4 M1))) M
theorem k_Reader_isWord_w3_26 {X : FX} {g : GT} {ext : List CD} {A : Nat → Prop} {Z : State → Prop} {post : Int32 → Mem → Prop} {sk : Nat → Nat} (C : CxX X g (layC ++ ext) A cX6_isWord 5 RX6 4 0 sk) (hr : 0 ≤ X.2.2.2.1.cells ∧ 0 ≤ X.2.2.2.1.slots) (hR : RetZ X g (layC ++ ext) A cX6_isWord 5 0 0 Z post) : ∀ (n : Nat) (x1 x4 : Int32) (M : Mem), P_Reader_isWord_w3_26 post n x1 x4 M → AtX X g (layC ++ ext) A 5 0 0 Z 26 [(0, .ref (ad g 84)), (3, .ref (sk (10 + 3))), (1, .int x1), (4, .int x4)] [] M := by
  intro n
  induction n with
  | zero =>
    intro x1 x4 M h
    exact h.elim
  | succ n ih =>
    intro x1 x4 M h
    refine a_iload C.1 (tk T_cX6_isWord 15 rfl) rfl ?_
    refine a_aload_n C.1 (tk T_cX6_isWord 16 rfl) rfl ?_
    refine s_strI C [] me_yJ0_length_8abf5 rfl lk_RX6_111 (ct_lenP (o := 10) (j := 3) ⟨Or.inl rfl, by decide⟩ h) (by decide) (wok.at (o := 10) (j := 3) ⟨Or.inl rfl, by decide⟩ C.2.1.2.2.2.2.2.2.2).1 rfl rfl (Nat.le_of_ble_eq_true rfl) (tk T_cX6_isWord 17 rfl) hr (fun r1 M1 h => ?_)
    refine a_icmp_ge C.1 61 (tk T_cX6_isWord 18 rfl) rfl (fun c => ?_) (fun c => ?_)
    · have h := h.1 c
      refine a_iconst C.1 (1 : Int32) (tk T_cX6_isWord 33 rfl) kI_1 ?_
      exact hR _ _ _ _ (tk T_cX6_isWord 34 rfl) ⟨Or.inr rfl, h⟩
    · have h := h.2 c
      refine a_aload_n C.1 (tk T_cX6_isWord 19 rfl) rfl ?_
      refine a_getR C.1 f_RX6_9 (tk T_cX6_isWord 20 rfl) lc84 rfl ?_
      refine a_iload_n C.1 (tk T_cX6_isWord 21 rfl) rfl ?_
      refine a_iload C.1 (tk T_cX6_isWord 22 rfl) rfl ?_
      refine a_iadd C.1 (tk T_cX6_isWord 23 rfl) ?_
      obtain ⟨hb, h⟩ := h
      refine a_bald C.1 (tk T_cX6_isWord 24 rfl) lc85 hb ?_
      refine a_aload_n C.1 (tk T_cX6_isWord 25 rfl) rfl ?_
      refine a_iload C.1 (tk T_cX6_isWord 26 rfl) rfl ?_
      refine s_strI C [.int x4] me_yJ0_charAt_5068e rfl lk_RX6_116 (ct_chrP (o := 10) (j := 3) ⟨Or.inl rfl, by decide⟩ h) (by decide) (wok.at (o := 10) (j := 3) ⟨Or.inl rfl, by decide⟩ C.2.1.2.2.2.2.2.2.2).1 rfl rfl (Nat.le_of_ble_eq_true rfl) (tk T_cX6_isWord 27 rfl) hr (fun r2 M2 h => ?_)
      refine a_icmp_eq C.1 55 (tk T_cX6_isWord 28 rfl) rfl (fun c => ?_) (fun c => ?_)
      · have h := h.1 c
        refine a_iinc C.1 (1 : Int32) (tk T_cX6_isWord 31 rfl) rfl kI_1 (by decide) rfl ?_
        refine a_goto C.1 26 (tk T_cX6_isWord 32 rfl) rfl ?_
        exact a_to (ih x1 (x4 + (1 : Int32)) M2 h) rfl
      · have h := h.2 c
        refine a_iconst C.1 (0 : Int32) (tk T_cX6_isWord 29 rfl) kI_0 ?_
        exact hR _ _ _ _ (tk T_cX6_isWord 30 rfl) ⟨Or.inl rfl, h⟩
def P_Reader_isWord_w3_21 (post : Int32 → Mem → Prop) (M : Mem) : Prop :=
  post (0 : Int32) M
theorem k_Reader_isWord_w3_21 {X : FX} {g : GT} {ext : List CD} {A : Nat → Prop} {Z : State → Prop} {post : Int32 → Mem → Prop} {sk : Nat → Nat} (C : CxX X g (layC ++ ext) A cX6_isWord 5 RX6 4 0 sk) (hr : 0 ≤ X.2.2.2.1.cells ∧ 0 ≤ X.2.2.2.1.slots) (hR : RetZ X g (layC ++ ext) A cX6_isWord 5 0 0 Z post)  (M : Mem) (h : P_Reader_isWord_w3_21 post M) : AtX X g (layC ++ ext) A 5 0 0 Z 21 [] [] M := by
  refine a_iconst C.1 (0 : Int32) (tk T_cX6_isWord 11 rfl) kI_0 ?_
  exact hR _ _ _ _ (tk T_cX6_isWord 12 rfl) ⟨Or.inl rfl, h⟩
def P_Reader_isWord_w3 (post : Int32 → Mem → Prop) (x1 x2 : Int32) (M : Mem) : Prop :=
  P_len 3 (fun r1 M1 =>
  (¬ (x2 - x1) = r1 → (P_Reader_isWord_w3_21 post M1)) ∧
  ((x2 - x1) = r1 → ((x1 < 0 → (P_Reader_isWord_w3_21 post M1)) ∧
  (¬ x1 < 0 → ((x2 ≤ (400 : Int32) → (∃ j26, P_Reader_isWord_w3_26 post j26 x1 (0 : Int32) M1)) ∧
  (¬ x2 ≤ (400 : Int32) → (P_Reader_isWord_w3_21 post M1))))))) M
theorem k_Reader_isWord_w3 {X : FX} {g : GT} {ext : List CD} {A : Nat → Prop} {Z : State → Prop} {post : Int32 → Mem → Prop} {sk : Nat → Nat} (C : CxX X g (layC ++ ext) A cX6_isWord 5 RX6 4 0 sk) (hr : 0 ≤ X.2.2.2.1.cells ∧ 0 ≤ X.2.2.2.1.slots) (hR : RetZ X g (layC ++ ext) A cX6_isWord 5 0 0 Z post) (x1 x2 : Int32) (M : Mem) (h : P_Reader_isWord_w3 post x1 x2 M) : AtX X g (layC ++ ext) A 5 0 0 Z 0 [(0, .ref (ad g 84)), (1, .int x1), (2, .int x2), (3, .ref (sk (10 + 3)))] [] M := by
  refine a_iload_n C.1 (tk T_cX6_isWord 0 rfl) rfl ?_
  refine a_iload_n C.1 (tk T_cX6_isWord 1 rfl) rfl ?_
  refine a_isub C.1 (tk T_cX6_isWord 2 rfl) ?_
  refine a_aload_n C.1 (tk T_cX6_isWord 3 rfl) rfl ?_
  refine s_strI C [] me_yJ0_length_8abf5 rfl lk_RX6_111 (ct_lenP (o := 10) (j := 3) ⟨Or.inl rfl, by decide⟩ h) (by decide) (wok.at (o := 10) (j := 3) ⟨Or.inl rfl, by decide⟩ C.2.1.2.2.2.2.2.2.2).1 rfl rfl (Nat.le_of_ble_eq_true rfl) (tk T_cX6_isWord 4 rfl) hr (fun r1 M1 h => ?_)
  refine a_icmp_ne C.1 21 (tk T_cX6_isWord 5 rfl) rfl (fun c => ?_) (fun c => ?_)
  · have h := h.1 c
    exact a_to (k_Reader_isWord_w3_21 C hr hR M1 h) rfl
  · have h := h.2 c
    refine a_iload_n C.1 (tk T_cX6_isWord 6 rfl) rfl ?_
    refine a_if_lt C.1 21 (tk T_cX6_isWord 7 rfl) rfl (fun c => ?_) (fun c => ?_)
    · have h := h.1 c
      exact a_to (k_Reader_isWord_w3_21 C hr hR M1 h) rfl
    · have h := h.2 c
      refine a_iload_n C.1 (tk T_cX6_isWord 8 rfl) rfl ?_
      refine a_sipush C.1 (400 : Int32) (tk T_cX6_isWord 9 rfl) kS_400 ?_
      refine a_icmp_le C.1 23 (tk T_cX6_isWord 10 rfl) rfl (fun c => ?_) (fun c => ?_)
      · have h := h.1 c
        refine a_iconst C.1 (0 : Int32) (tk T_cX6_isWord 13 rfl) kI_0 ?_
        refine a_istore C.1 (tk T_cX6_isWord 14 rfl) (by decide) rfl ?_
        obtain ⟨n1, h⟩ := h
        exact a_to (k_Reader_isWord_w3_26 C hr hR n1 x1 (0 : Int32) M1 h) rfl
      · have h := h.2 c
        exact a_to (k_Reader_isWord_w3_21 C hr hR M1 h) rfl
theorem ct_Reader_isWord_w3 {l : Launch} {g : GT} {ext : List CD} {sk : Nat → Nat} {post : Int32 → Mem → Prop} {x1 x2 : Int32} {M : Mem} (h : P_Reader_isWord_w3 post x1 x2 M) : SI l g (layC ++ ext) sk yX6_isWord cX6_isWord 5 (some .boolean) 4 [.ref (ad g 84), .int x1, .int x2, .ref (sk (10 + 3))] M post :=
  st_of (plainFor_of_name (by decide +kernel)) (Nat.le_of_ble_eq_true rfl) (fun X A Z hl C hr hR => by subst hl; exact k_Reader_isWord_w3 C hr (fun v M pc lv hd hp => hR v M pc lv hd (nar_z hp.1) hp.2) x1 x2 M h)
def P_Reader_isWord_w4_26 (post : Int32 → Mem → Prop) : Nat → Int32 → Int32 → Mem → Prop
  | 0, _, _, _ => False
  | n + 1, x1, x4, M =>
    P_len 4 (fun r1 M1 =>
  (r1 ≤ x4 → (post (1 : Int32) M1)) ∧
  (¬ r1 ≤ x4 → (vp_in (x1 + x4) 400 ∧ P_chr 4 (fun r2 M2 =>
  ((M1 85 (x1 + x4).toNatClampNeg) = r2 → (P_Reader_isWord_w4_26 post n x1 (x4 + (1 : Int32)) M2)) ∧
  (¬ (M1 85 (x1 + x4).toNatClampNeg) = r2 → (post (0 : Int32) M2))) x4 M1))) M
theorem k_Reader_isWord_w4_26 {X : FX} {g : GT} {ext : List CD} {A : Nat → Prop} {Z : State → Prop} {post : Int32 → Mem → Prop} {sk : Nat → Nat} (C : CxX X g (layC ++ ext) A cX6_isWord 5 RX6 4 0 sk) (hr : 0 ≤ X.2.2.2.1.cells ∧ 0 ≤ X.2.2.2.1.slots) (hR : RetZ X g (layC ++ ext) A cX6_isWord 5 0 0 Z post) : ∀ (n : Nat) (x1 x4 : Int32) (M : Mem), P_Reader_isWord_w4_26 post n x1 x4 M → AtX X g (layC ++ ext) A 5 0 0 Z 26 [(0, .ref (ad g 84)), (3, .ref (sk (10 + 4))), (1, .int x1), (4, .int x4)] [] M := by
  intro n
  induction n with
  | zero =>
    intro x1 x4 M h
    exact h.elim
  | succ n ih =>
    intro x1 x4 M h
    refine a_iload C.1 (tk T_cX6_isWord 15 rfl) rfl ?_
    refine a_aload_n C.1 (tk T_cX6_isWord 16 rfl) rfl ?_
    refine s_strI C [] me_yJ0_length_8abf5 rfl lk_RX6_111 (ct_lenP (o := 10) (j := 4) ⟨Or.inl rfl, by decide⟩ h) (by decide) (wok.at (o := 10) (j := 4) ⟨Or.inl rfl, by decide⟩ C.2.1.2.2.2.2.2.2.2).1 rfl rfl (Nat.le_of_ble_eq_true rfl) (tk T_cX6_isWord 17 rfl) hr (fun r1 M1 h => ?_)
    refine a_icmp_ge C.1 61 (tk T_cX6_isWord 18 rfl) rfl (fun c => ?_) (fun c => ?_)
    · have h := h.1 c
      refine a_iconst C.1 (1 : Int32) (tk T_cX6_isWord 33 rfl) kI_1 ?_
      exact hR _ _ _ _ (tk T_cX6_isWord 34 rfl) ⟨Or.inr rfl, h⟩
    · have h := h.2 c
      refine a_aload_n C.1 (tk T_cX6_isWord 19 rfl) rfl ?_
      refine a_getR C.1 f_RX6_9 (tk T_cX6_isWord 20 rfl) lc84 rfl ?_
      refine a_iload_n C.1 (tk T_cX6_isWord 21 rfl) rfl ?_
      refine a_iload C.1 (tk T_cX6_isWord 22 rfl) rfl ?_
      refine a_iadd C.1 (tk T_cX6_isWord 23 rfl) ?_
      obtain ⟨hb, h⟩ := h
      refine a_bald C.1 (tk T_cX6_isWord 24 rfl) lc85 hb ?_
      refine a_aload_n C.1 (tk T_cX6_isWord 25 rfl) rfl ?_
      refine a_iload C.1 (tk T_cX6_isWord 26 rfl) rfl ?_
      refine s_strI C [.int x4] me_yJ0_charAt_5068e rfl lk_RX6_116 (ct_chrP (o := 10) (j := 4) ⟨Or.inl rfl, by decide⟩ h) (by decide) (wok.at (o := 10) (j := 4) ⟨Or.inl rfl, by decide⟩ C.2.1.2.2.2.2.2.2.2).1 rfl rfl (Nat.le_of_ble_eq_true rfl) (tk T_cX6_isWord 27 rfl) hr (fun r2 M2 h => ?_)
      refine a_icmp_eq C.1 55 (tk T_cX6_isWord 28 rfl) rfl (fun c => ?_) (fun c => ?_)
      · have h := h.1 c
        refine a_iinc C.1 (1 : Int32) (tk T_cX6_isWord 31 rfl) rfl kI_1 (by decide) rfl ?_
        refine a_goto C.1 26 (tk T_cX6_isWord 32 rfl) rfl ?_
        exact a_to (ih x1 (x4 + (1 : Int32)) M2 h) rfl
      · have h := h.2 c
        refine a_iconst C.1 (0 : Int32) (tk T_cX6_isWord 29 rfl) kI_0 ?_
        exact hR _ _ _ _ (tk T_cX6_isWord 30 rfl) ⟨Or.inl rfl, h⟩
def P_Reader_isWord_w4_21 (post : Int32 → Mem → Prop) (M : Mem) : Prop :=
  post (0 : Int32) M
theorem k_Reader_isWord_w4_21 {X : FX} {g : GT} {ext : List CD} {A : Nat → Prop} {Z : State → Prop} {post : Int32 → Mem → Prop} {sk : Nat → Nat} (C : CxX X g (layC ++ ext) A cX6_isWord 5 RX6 4 0 sk) (hr : 0 ≤ X.2.2.2.1.cells ∧ 0 ≤ X.2.2.2.1.slots) (hR : RetZ X g (layC ++ ext) A cX6_isWord 5 0 0 Z post)  (M : Mem) (h : P_Reader_isWord_w4_21 post M) : AtX X g (layC ++ ext) A 5 0 0 Z 21 [] [] M := by
  refine a_iconst C.1 (0 : Int32) (tk T_cX6_isWord 11 rfl) kI_0 ?_
  exact hR _ _ _ _ (tk T_cX6_isWord 12 rfl) ⟨Or.inl rfl, h⟩
def P_Reader_isWord_w4 (post : Int32 → Mem → Prop) (x1 x2 : Int32) (M : Mem) : Prop :=
  P_len 4 (fun r1 M1 =>
  (¬ (x2 - x1) = r1 → (P_Reader_isWord_w4_21 post M1)) ∧
  ((x2 - x1) = r1 → ((x1 < 0 → (P_Reader_isWord_w4_21 post M1)) ∧
  (¬ x1 < 0 → ((x2 ≤ (400 : Int32) → (∃ j26, P_Reader_isWord_w4_26 post j26 x1 (0 : Int32) M1)) ∧
  (¬ x2 ≤ (400 : Int32) → (P_Reader_isWord_w4_21 post M1))))))) M
theorem k_Reader_isWord_w4 {X : FX} {g : GT} {ext : List CD} {A : Nat → Prop} {Z : State → Prop} {post : Int32 → Mem → Prop} {sk : Nat → Nat} (C : CxX X g (layC ++ ext) A cX6_isWord 5 RX6 4 0 sk) (hr : 0 ≤ X.2.2.2.1.cells ∧ 0 ≤ X.2.2.2.1.slots) (hR : RetZ X g (layC ++ ext) A cX6_isWord 5 0 0 Z post) (x1 x2 : Int32) (M : Mem) (h : P_Reader_isWord_w4 post x1 x2 M) : AtX X g (layC ++ ext) A 5 0 0 Z 0 [(0, .ref (ad g 84)), (1, .int x1), (2, .int x2), (3, .ref (sk (10 + 4)))] [] M := by
  refine a_iload_n C.1 (tk T_cX6_isWord 0 rfl) rfl ?_
  refine a_iload_n C.1 (tk T_cX6_isWord 1 rfl) rfl ?_
  refine a_isub C.1 (tk T_cX6_isWord 2 rfl) ?_
  refine a_aload_n C.1 (tk T_cX6_isWord 3 rfl) rfl ?_
  refine s_strI C [] me_yJ0_length_8abf5 rfl lk_RX6_111 (ct_lenP (o := 10) (j := 4) ⟨Or.inl rfl, by decide⟩ h) (by decide) (wok.at (o := 10) (j := 4) ⟨Or.inl rfl, by decide⟩ C.2.1.2.2.2.2.2.2.2).1 rfl rfl (Nat.le_of_ble_eq_true rfl) (tk T_cX6_isWord 4 rfl) hr (fun r1 M1 h => ?_)
  refine a_icmp_ne C.1 21 (tk T_cX6_isWord 5 rfl) rfl (fun c => ?_) (fun c => ?_)
  · have h := h.1 c
    exact a_to (k_Reader_isWord_w4_21 C hr hR M1 h) rfl
  · have h := h.2 c
    refine a_iload_n C.1 (tk T_cX6_isWord 6 rfl) rfl ?_
    refine a_if_lt C.1 21 (tk T_cX6_isWord 7 rfl) rfl (fun c => ?_) (fun c => ?_)
    · have h := h.1 c
      exact a_to (k_Reader_isWord_w4_21 C hr hR M1 h) rfl
    · have h := h.2 c
      refine a_iload_n C.1 (tk T_cX6_isWord 8 rfl) rfl ?_
      refine a_sipush C.1 (400 : Int32) (tk T_cX6_isWord 9 rfl) kS_400 ?_
      refine a_icmp_le C.1 23 (tk T_cX6_isWord 10 rfl) rfl (fun c => ?_) (fun c => ?_)
      · have h := h.1 c
        refine a_iconst C.1 (0 : Int32) (tk T_cX6_isWord 13 rfl) kI_0 ?_
        refine a_istore C.1 (tk T_cX6_isWord 14 rfl) (by decide) rfl ?_
        obtain ⟨n1, h⟩ := h
        exact a_to (k_Reader_isWord_w4_26 C hr hR n1 x1 (0 : Int32) M1 h) rfl
      · have h := h.2 c
        exact a_to (k_Reader_isWord_w4_21 C hr hR M1 h) rfl
theorem ct_Reader_isWord_w4 {l : Launch} {g : GT} {ext : List CD} {sk : Nat → Nat} {post : Int32 → Mem → Prop} {x1 x2 : Int32} {M : Mem} (h : P_Reader_isWord_w4 post x1 x2 M) : SI l g (layC ++ ext) sk yX6_isWord cX6_isWord 5 (some .boolean) 4 [.ref (ad g 84), .int x1, .int x2, .ref (sk (10 + 4))] M post :=
  st_of (plainFor_of_name (by decide +kernel)) (Nat.le_of_ble_eq_true rfl) (fun X A Z hl C hr hR => by subst hl; exact k_Reader_isWord_w4 C hr (fun v M pc lv hd hp => hR v M pc lv hd (nar_z hp.1) hp.2) x1 x2 M h)
def P_Reader_isWord_w5_26 (post : Int32 → Mem → Prop) : Nat → Int32 → Int32 → Mem → Prop
  | 0, _, _, _ => False
  | n + 1, x1, x4, M =>
    P_len 5 (fun r1 M1 =>
  (r1 ≤ x4 → (post (1 : Int32) M1)) ∧
  (¬ r1 ≤ x4 → (vp_in (x1 + x4) 400 ∧ P_chr 5 (fun r2 M2 =>
  ((M1 85 (x1 + x4).toNatClampNeg) = r2 → (P_Reader_isWord_w5_26 post n x1 (x4 + (1 : Int32)) M2)) ∧
  (¬ (M1 85 (x1 + x4).toNatClampNeg) = r2 → (post (0 : Int32) M2))) x4 M1))) M
theorem k_Reader_isWord_w5_26 {X : FX} {g : GT} {ext : List CD} {A : Nat → Prop} {Z : State → Prop} {post : Int32 → Mem → Prop} {sk : Nat → Nat} (C : CxX X g (layC ++ ext) A cX6_isWord 5 RX6 4 0 sk) (hr : 0 ≤ X.2.2.2.1.cells ∧ 0 ≤ X.2.2.2.1.slots) (hR : RetZ X g (layC ++ ext) A cX6_isWord 5 0 0 Z post) : ∀ (n : Nat) (x1 x4 : Int32) (M : Mem), P_Reader_isWord_w5_26 post n x1 x4 M → AtX X g (layC ++ ext) A 5 0 0 Z 26 [(0, .ref (ad g 84)), (3, .ref (sk (10 + 5))), (1, .int x1), (4, .int x4)] [] M := by
  intro n
  induction n with
  | zero =>
    intro x1 x4 M h
    exact h.elim
  | succ n ih =>
    intro x1 x4 M h
    refine a_iload C.1 (tk T_cX6_isWord 15 rfl) rfl ?_
    refine a_aload_n C.1 (tk T_cX6_isWord 16 rfl) rfl ?_
    refine s_strI C [] me_yJ0_length_8abf5 rfl lk_RX6_111 (ct_lenP (o := 10) (j := 5) ⟨Or.inl rfl, by decide⟩ h) (by decide) (wok.at (o := 10) (j := 5) ⟨Or.inl rfl, by decide⟩ C.2.1.2.2.2.2.2.2.2).1 rfl rfl (Nat.le_of_ble_eq_true rfl) (tk T_cX6_isWord 17 rfl) hr (fun r1 M1 h => ?_)
    refine a_icmp_ge C.1 61 (tk T_cX6_isWord 18 rfl) rfl (fun c => ?_) (fun c => ?_)
    · have h := h.1 c
      refine a_iconst C.1 (1 : Int32) (tk T_cX6_isWord 33 rfl) kI_1 ?_
      exact hR _ _ _ _ (tk T_cX6_isWord 34 rfl) ⟨Or.inr rfl, h⟩
    · have h := h.2 c
      refine a_aload_n C.1 (tk T_cX6_isWord 19 rfl) rfl ?_
      refine a_getR C.1 f_RX6_9 (tk T_cX6_isWord 20 rfl) lc84 rfl ?_
      refine a_iload_n C.1 (tk T_cX6_isWord 21 rfl) rfl ?_
      refine a_iload C.1 (tk T_cX6_isWord 22 rfl) rfl ?_
      refine a_iadd C.1 (tk T_cX6_isWord 23 rfl) ?_
      obtain ⟨hb, h⟩ := h
      refine a_bald C.1 (tk T_cX6_isWord 24 rfl) lc85 hb ?_
      refine a_aload_n C.1 (tk T_cX6_isWord 25 rfl) rfl ?_
      refine a_iload C.1 (tk T_cX6_isWord 26 rfl) rfl ?_
      refine s_strI C [.int x4] me_yJ0_charAt_5068e rfl lk_RX6_116 (ct_chrP (o := 10) (j := 5) ⟨Or.inl rfl, by decide⟩ h) (by decide) (wok.at (o := 10) (j := 5) ⟨Or.inl rfl, by decide⟩ C.2.1.2.2.2.2.2.2.2).1 rfl rfl (Nat.le_of_ble_eq_true rfl) (tk T_cX6_isWord 27 rfl) hr (fun r2 M2 h => ?_)
      refine a_icmp_eq C.1 55 (tk T_cX6_isWord 28 rfl) rfl (fun c => ?_) (fun c => ?_)
      · have h := h.1 c
        refine a_iinc C.1 (1 : Int32) (tk T_cX6_isWord 31 rfl) rfl kI_1 (by decide) rfl ?_
        refine a_goto C.1 26 (tk T_cX6_isWord 32 rfl) rfl ?_
        exact a_to (ih x1 (x4 + (1 : Int32)) M2 h) rfl
      · have h := h.2 c
        refine a_iconst C.1 (0 : Int32) (tk T_cX6_isWord 29 rfl) kI_0 ?_
        exact hR _ _ _ _ (tk T_cX6_isWord 30 rfl) ⟨Or.inl rfl, h⟩
def P_Reader_isWord_w5_21 (post : Int32 → Mem → Prop) (M : Mem) : Prop :=
  post (0 : Int32) M
theorem k_Reader_isWord_w5_21 {X : FX} {g : GT} {ext : List CD} {A : Nat → Prop} {Z : State → Prop} {post : Int32 → Mem → Prop} {sk : Nat → Nat} (C : CxX X g (layC ++ ext) A cX6_isWord 5 RX6 4 0 sk) (hr : 0 ≤ X.2.2.2.1.cells ∧ 0 ≤ X.2.2.2.1.slots) (hR : RetZ X g (layC ++ ext) A cX6_isWord 5 0 0 Z post)  (M : Mem) (h : P_Reader_isWord_w5_21 post M) : AtX X g (layC ++ ext) A 5 0 0 Z 21 [] [] M := by
  refine a_iconst C.1 (0 : Int32) (tk T_cX6_isWord 11 rfl) kI_0 ?_
  exact hR _ _ _ _ (tk T_cX6_isWord 12 rfl) ⟨Or.inl rfl, h⟩
def P_Reader_isWord_w5 (post : Int32 → Mem → Prop) (x1 x2 : Int32) (M : Mem) : Prop :=
  P_len 5 (fun r1 M1 =>
  (¬ (x2 - x1) = r1 → (P_Reader_isWord_w5_21 post M1)) ∧
  ((x2 - x1) = r1 → ((x1 < 0 → (P_Reader_isWord_w5_21 post M1)) ∧
  (¬ x1 < 0 → ((x2 ≤ (400 : Int32) → (∃ j26, P_Reader_isWord_w5_26 post j26 x1 (0 : Int32) M1)) ∧
  (¬ x2 ≤ (400 : Int32) → (P_Reader_isWord_w5_21 post M1))))))) M
theorem k_Reader_isWord_w5 {X : FX} {g : GT} {ext : List CD} {A : Nat → Prop} {Z : State → Prop} {post : Int32 → Mem → Prop} {sk : Nat → Nat} (C : CxX X g (layC ++ ext) A cX6_isWord 5 RX6 4 0 sk) (hr : 0 ≤ X.2.2.2.1.cells ∧ 0 ≤ X.2.2.2.1.slots) (hR : RetZ X g (layC ++ ext) A cX6_isWord 5 0 0 Z post) (x1 x2 : Int32) (M : Mem) (h : P_Reader_isWord_w5 post x1 x2 M) : AtX X g (layC ++ ext) A 5 0 0 Z 0 [(0, .ref (ad g 84)), (1, .int x1), (2, .int x2), (3, .ref (sk (10 + 5)))] [] M := by
  refine a_iload_n C.1 (tk T_cX6_isWord 0 rfl) rfl ?_
  refine a_iload_n C.1 (tk T_cX6_isWord 1 rfl) rfl ?_
  refine a_isub C.1 (tk T_cX6_isWord 2 rfl) ?_
  refine a_aload_n C.1 (tk T_cX6_isWord 3 rfl) rfl ?_
  refine s_strI C [] me_yJ0_length_8abf5 rfl lk_RX6_111 (ct_lenP (o := 10) (j := 5) ⟨Or.inl rfl, by decide⟩ h) (by decide) (wok.at (o := 10) (j := 5) ⟨Or.inl rfl, by decide⟩ C.2.1.2.2.2.2.2.2.2).1 rfl rfl (Nat.le_of_ble_eq_true rfl) (tk T_cX6_isWord 4 rfl) hr (fun r1 M1 h => ?_)
  refine a_icmp_ne C.1 21 (tk T_cX6_isWord 5 rfl) rfl (fun c => ?_) (fun c => ?_)
  · have h := h.1 c
    exact a_to (k_Reader_isWord_w5_21 C hr hR M1 h) rfl
  · have h := h.2 c
    refine a_iload_n C.1 (tk T_cX6_isWord 6 rfl) rfl ?_
    refine a_if_lt C.1 21 (tk T_cX6_isWord 7 rfl) rfl (fun c => ?_) (fun c => ?_)
    · have h := h.1 c
      exact a_to (k_Reader_isWord_w5_21 C hr hR M1 h) rfl
    · have h := h.2 c
      refine a_iload_n C.1 (tk T_cX6_isWord 8 rfl) rfl ?_
      refine a_sipush C.1 (400 : Int32) (tk T_cX6_isWord 9 rfl) kS_400 ?_
      refine a_icmp_le C.1 23 (tk T_cX6_isWord 10 rfl) rfl (fun c => ?_) (fun c => ?_)
      · have h := h.1 c
        refine a_iconst C.1 (0 : Int32) (tk T_cX6_isWord 13 rfl) kI_0 ?_
        refine a_istore C.1 (tk T_cX6_isWord 14 rfl) (by decide) rfl ?_
        obtain ⟨n1, h⟩ := h
        exact a_to (k_Reader_isWord_w5_26 C hr hR n1 x1 (0 : Int32) M1 h) rfl
      · have h := h.2 c
        exact a_to (k_Reader_isWord_w5_21 C hr hR M1 h) rfl
theorem ct_Reader_isWord_w5 {l : Launch} {g : GT} {ext : List CD} {sk : Nat → Nat} {post : Int32 → Mem → Prop} {x1 x2 : Int32} {M : Mem} (h : P_Reader_isWord_w5 post x1 x2 M) : SI l g (layC ++ ext) sk yX6_isWord cX6_isWord 5 (some .boolean) 4 [.ref (ad g 84), .int x1, .int x2, .ref (sk (10 + 5))] M post :=
  st_of (plainFor_of_name (by decide +kernel)) (Nat.le_of_ble_eq_true rfl) (fun X A Z hl C hr hR => by subst hl; exact k_Reader_isWord_w5 C hr (fun v M pc lv hd hp => hR v M pc lv hd (nar_z hp.1) hp.2) x1 x2 M h)
def P_Reader_isWord_w6_26 (post : Int32 → Mem → Prop) : Nat → Int32 → Int32 → Mem → Prop
  | 0, _, _, _ => False
  | n + 1, x1, x4, M =>
    P_len 6 (fun r1 M1 =>
  (r1 ≤ x4 → (post (1 : Int32) M1)) ∧
  (¬ r1 ≤ x4 → (vp_in (x1 + x4) 400 ∧ P_chr 6 (fun r2 M2 =>
  ((M1 85 (x1 + x4).toNatClampNeg) = r2 → (P_Reader_isWord_w6_26 post n x1 (x4 + (1 : Int32)) M2)) ∧
  (¬ (M1 85 (x1 + x4).toNatClampNeg) = r2 → (post (0 : Int32) M2))) x4 M1))) M
theorem k_Reader_isWord_w6_26 {X : FX} {g : GT} {ext : List CD} {A : Nat → Prop} {Z : State → Prop} {post : Int32 → Mem → Prop} {sk : Nat → Nat} (C : CxX X g (layC ++ ext) A cX6_isWord 5 RX6 4 0 sk) (hr : 0 ≤ X.2.2.2.1.cells ∧ 0 ≤ X.2.2.2.1.slots) (hR : RetZ X g (layC ++ ext) A cX6_isWord 5 0 0 Z post) : ∀ (n : Nat) (x1 x4 : Int32) (M : Mem), P_Reader_isWord_w6_26 post n x1 x4 M → AtX X g (layC ++ ext) A 5 0 0 Z 26 [(0, .ref (ad g 84)), (3, .ref (sk (10 + 6))), (1, .int x1), (4, .int x4)] [] M := by
  intro n
  induction n with
  | zero =>
    intro x1 x4 M h
    exact h.elim
  | succ n ih =>
    intro x1 x4 M h
    refine a_iload C.1 (tk T_cX6_isWord 15 rfl) rfl ?_
    refine a_aload_n C.1 (tk T_cX6_isWord 16 rfl) rfl ?_
    refine s_strI C [] me_yJ0_length_8abf5 rfl lk_RX6_111 (ct_lenP (o := 10) (j := 6) ⟨Or.inl rfl, by decide⟩ h) (by decide) (wok.at (o := 10) (j := 6) ⟨Or.inl rfl, by decide⟩ C.2.1.2.2.2.2.2.2.2).1 rfl rfl (Nat.le_of_ble_eq_true rfl) (tk T_cX6_isWord 17 rfl) hr (fun r1 M1 h => ?_)
    refine a_icmp_ge C.1 61 (tk T_cX6_isWord 18 rfl) rfl (fun c => ?_) (fun c => ?_)
    · have h := h.1 c
      refine a_iconst C.1 (1 : Int32) (tk T_cX6_isWord 33 rfl) kI_1 ?_
      exact hR _ _ _ _ (tk T_cX6_isWord 34 rfl) ⟨Or.inr rfl, h⟩
    · have h := h.2 c
      refine a_aload_n C.1 (tk T_cX6_isWord 19 rfl) rfl ?_
      refine a_getR C.1 f_RX6_9 (tk T_cX6_isWord 20 rfl) lc84 rfl ?_
      refine a_iload_n C.1 (tk T_cX6_isWord 21 rfl) rfl ?_
      refine a_iload C.1 (tk T_cX6_isWord 22 rfl) rfl ?_
      refine a_iadd C.1 (tk T_cX6_isWord 23 rfl) ?_
      obtain ⟨hb, h⟩ := h
      refine a_bald C.1 (tk T_cX6_isWord 24 rfl) lc85 hb ?_
      refine a_aload_n C.1 (tk T_cX6_isWord 25 rfl) rfl ?_
      refine a_iload C.1 (tk T_cX6_isWord 26 rfl) rfl ?_
      refine s_strI C [.int x4] me_yJ0_charAt_5068e rfl lk_RX6_116 (ct_chrP (o := 10) (j := 6) ⟨Or.inl rfl, by decide⟩ h) (by decide) (wok.at (o := 10) (j := 6) ⟨Or.inl rfl, by decide⟩ C.2.1.2.2.2.2.2.2.2).1 rfl rfl (Nat.le_of_ble_eq_true rfl) (tk T_cX6_isWord 27 rfl) hr (fun r2 M2 h => ?_)
      refine a_icmp_eq C.1 55 (tk T_cX6_isWord 28 rfl) rfl (fun c => ?_) (fun c => ?_)
      · have h := h.1 c
        refine a_iinc C.1 (1 : Int32) (tk T_cX6_isWord 31 rfl) rfl kI_1 (by decide) rfl ?_
        refine a_goto C.1 26 (tk T_cX6_isWord 32 rfl) rfl ?_
        exact a_to (ih x1 (x4 + (1 : Int32)) M2 h) rfl
      · have h := h.2 c
        refine a_iconst C.1 (0 : Int32) (tk T_cX6_isWord 29 rfl) kI_0 ?_
        exact hR _ _ _ _ (tk T_cX6_isWord 30 rfl) ⟨Or.inl rfl, h⟩
def P_Reader_isWord_w6_21 (post : Int32 → Mem → Prop) (M : Mem) : Prop :=
  post (0 : Int32) M
theorem k_Reader_isWord_w6_21 {X : FX} {g : GT} {ext : List CD} {A : Nat → Prop} {Z : State → Prop} {post : Int32 → Mem → Prop} {sk : Nat → Nat} (C : CxX X g (layC ++ ext) A cX6_isWord 5 RX6 4 0 sk) (hr : 0 ≤ X.2.2.2.1.cells ∧ 0 ≤ X.2.2.2.1.slots) (hR : RetZ X g (layC ++ ext) A cX6_isWord 5 0 0 Z post)  (M : Mem) (h : P_Reader_isWord_w6_21 post M) : AtX X g (layC ++ ext) A 5 0 0 Z 21 [] [] M := by
  refine a_iconst C.1 (0 : Int32) (tk T_cX6_isWord 11 rfl) kI_0 ?_
  exact hR _ _ _ _ (tk T_cX6_isWord 12 rfl) ⟨Or.inl rfl, h⟩
def P_Reader_isWord_w6 (post : Int32 → Mem → Prop) (x1 x2 : Int32) (M : Mem) : Prop :=
  P_len 6 (fun r1 M1 =>
  (¬ (x2 - x1) = r1 → (P_Reader_isWord_w6_21 post M1)) ∧
  ((x2 - x1) = r1 → ((x1 < 0 → (P_Reader_isWord_w6_21 post M1)) ∧
  (¬ x1 < 0 → ((x2 ≤ (400 : Int32) → (∃ j26, P_Reader_isWord_w6_26 post j26 x1 (0 : Int32) M1)) ∧
  (¬ x2 ≤ (400 : Int32) → (P_Reader_isWord_w6_21 post M1))))))) M
theorem k_Reader_isWord_w6 {X : FX} {g : GT} {ext : List CD} {A : Nat → Prop} {Z : State → Prop} {post : Int32 → Mem → Prop} {sk : Nat → Nat} (C : CxX X g (layC ++ ext) A cX6_isWord 5 RX6 4 0 sk) (hr : 0 ≤ X.2.2.2.1.cells ∧ 0 ≤ X.2.2.2.1.slots) (hR : RetZ X g (layC ++ ext) A cX6_isWord 5 0 0 Z post) (x1 x2 : Int32) (M : Mem) (h : P_Reader_isWord_w6 post x1 x2 M) : AtX X g (layC ++ ext) A 5 0 0 Z 0 [(0, .ref (ad g 84)), (1, .int x1), (2, .int x2), (3, .ref (sk (10 + 6)))] [] M := by
  refine a_iload_n C.1 (tk T_cX6_isWord 0 rfl) rfl ?_
  refine a_iload_n C.1 (tk T_cX6_isWord 1 rfl) rfl ?_
  refine a_isub C.1 (tk T_cX6_isWord 2 rfl) ?_
  refine a_aload_n C.1 (tk T_cX6_isWord 3 rfl) rfl ?_
  refine s_strI C [] me_yJ0_length_8abf5 rfl lk_RX6_111 (ct_lenP (o := 10) (j := 6) ⟨Or.inl rfl, by decide⟩ h) (by decide) (wok.at (o := 10) (j := 6) ⟨Or.inl rfl, by decide⟩ C.2.1.2.2.2.2.2.2.2).1 rfl rfl (Nat.le_of_ble_eq_true rfl) (tk T_cX6_isWord 4 rfl) hr (fun r1 M1 h => ?_)
  refine a_icmp_ne C.1 21 (tk T_cX6_isWord 5 rfl) rfl (fun c => ?_) (fun c => ?_)
  · have h := h.1 c
    exact a_to (k_Reader_isWord_w6_21 C hr hR M1 h) rfl
  · have h := h.2 c
    refine a_iload_n C.1 (tk T_cX6_isWord 6 rfl) rfl ?_
    refine a_if_lt C.1 21 (tk T_cX6_isWord 7 rfl) rfl (fun c => ?_) (fun c => ?_)
    · have h := h.1 c
      exact a_to (k_Reader_isWord_w6_21 C hr hR M1 h) rfl
    · have h := h.2 c
      refine a_iload_n C.1 (tk T_cX6_isWord 8 rfl) rfl ?_
      refine a_sipush C.1 (400 : Int32) (tk T_cX6_isWord 9 rfl) kS_400 ?_
      refine a_icmp_le C.1 23 (tk T_cX6_isWord 10 rfl) rfl (fun c => ?_) (fun c => ?_)
      · have h := h.1 c
        refine a_iconst C.1 (0 : Int32) (tk T_cX6_isWord 13 rfl) kI_0 ?_
        refine a_istore C.1 (tk T_cX6_isWord 14 rfl) (by decide) rfl ?_
        obtain ⟨n1, h⟩ := h
        exact a_to (k_Reader_isWord_w6_26 C hr hR n1 x1 (0 : Int32) M1 h) rfl
      · have h := h.2 c
        exact a_to (k_Reader_isWord_w6_21 C hr hR M1 h) rfl
theorem ct_Reader_isWord_w6 {l : Launch} {g : GT} {ext : List CD} {sk : Nat → Nat} {post : Int32 → Mem → Prop} {x1 x2 : Int32} {M : Mem} (h : P_Reader_isWord_w6 post x1 x2 M) : SI l g (layC ++ ext) sk yX6_isWord cX6_isWord 5 (some .boolean) 4 [.ref (ad g 84), .int x1, .int x2, .ref (sk (10 + 6))] M post :=
  st_of (plainFor_of_name (by decide +kernel)) (Nat.le_of_ble_eq_true rfl) (fun X A Z hl C hr hR => by subst hl; exact k_Reader_isWord_w6 C hr (fun v M pc lv hd hp => hR v M pc lv hd (nar_z hp.1) hp.2) x1 x2 M h)
def P_Reader_isWord_w7_26 (post : Int32 → Mem → Prop) : Nat → Int32 → Int32 → Mem → Prop
  | 0, _, _, _ => False
  | n + 1, x1, x4, M =>
    P_len 7 (fun r1 M1 =>
  (r1 ≤ x4 → (post (1 : Int32) M1)) ∧
  (¬ r1 ≤ x4 → (vp_in (x1 + x4) 400 ∧ P_chr 7 (fun r2 M2 =>
  ((M1 85 (x1 + x4).toNatClampNeg) = r2 → (P_Reader_isWord_w7_26 post n x1 (x4 + (1 : Int32)) M2)) ∧
  (¬ (M1 85 (x1 + x4).toNatClampNeg) = r2 → (post (0 : Int32) M2))) x4 M1))) M
theorem k_Reader_isWord_w7_26 {X : FX} {g : GT} {ext : List CD} {A : Nat → Prop} {Z : State → Prop} {post : Int32 → Mem → Prop} {sk : Nat → Nat} (C : CxX X g (layC ++ ext) A cX6_isWord 5 RX6 4 0 sk) (hr : 0 ≤ X.2.2.2.1.cells ∧ 0 ≤ X.2.2.2.1.slots) (hR : RetZ X g (layC ++ ext) A cX6_isWord 5 0 0 Z post) : ∀ (n : Nat) (x1 x4 : Int32) (M : Mem), P_Reader_isWord_w7_26 post n x1 x4 M → AtX X g (layC ++ ext) A 5 0 0 Z 26 [(0, .ref (ad g 84)), (3, .ref (sk (10 + 7))), (1, .int x1), (4, .int x4)] [] M := by
  intro n
  induction n with
  | zero =>
    intro x1 x4 M h
    exact h.elim
  | succ n ih =>
    intro x1 x4 M h
    refine a_iload C.1 (tk T_cX6_isWord 15 rfl) rfl ?_
    refine a_aload_n C.1 (tk T_cX6_isWord 16 rfl) rfl ?_
    refine s_strI C [] me_yJ0_length_8abf5 rfl lk_RX6_111 (ct_lenP (o := 10) (j := 7) ⟨Or.inl rfl, by decide⟩ h) (by decide) (wok.at (o := 10) (j := 7) ⟨Or.inl rfl, by decide⟩ C.2.1.2.2.2.2.2.2.2).1 rfl rfl (Nat.le_of_ble_eq_true rfl) (tk T_cX6_isWord 17 rfl) hr (fun r1 M1 h => ?_)
    refine a_icmp_ge C.1 61 (tk T_cX6_isWord 18 rfl) rfl (fun c => ?_) (fun c => ?_)
    · have h := h.1 c
      refine a_iconst C.1 (1 : Int32) (tk T_cX6_isWord 33 rfl) kI_1 ?_
      exact hR _ _ _ _ (tk T_cX6_isWord 34 rfl) ⟨Or.inr rfl, h⟩
    · have h := h.2 c
      refine a_aload_n C.1 (tk T_cX6_isWord 19 rfl) rfl ?_
      refine a_getR C.1 f_RX6_9 (tk T_cX6_isWord 20 rfl) lc84 rfl ?_
      refine a_iload_n C.1 (tk T_cX6_isWord 21 rfl) rfl ?_
      refine a_iload C.1 (tk T_cX6_isWord 22 rfl) rfl ?_
      refine a_iadd C.1 (tk T_cX6_isWord 23 rfl) ?_
      obtain ⟨hb, h⟩ := h
      refine a_bald C.1 (tk T_cX6_isWord 24 rfl) lc85 hb ?_
      refine a_aload_n C.1 (tk T_cX6_isWord 25 rfl) rfl ?_
      refine a_iload C.1 (tk T_cX6_isWord 26 rfl) rfl ?_
      refine s_strI C [.int x4] me_yJ0_charAt_5068e rfl lk_RX6_116 (ct_chrP (o := 10) (j := 7) ⟨Or.inl rfl, by decide⟩ h) (by decide) (wok.at (o := 10) (j := 7) ⟨Or.inl rfl, by decide⟩ C.2.1.2.2.2.2.2.2.2).1 rfl rfl (Nat.le_of_ble_eq_true rfl) (tk T_cX6_isWord 27 rfl) hr (fun r2 M2 h => ?_)
      refine a_icmp_eq C.1 55 (tk T_cX6_isWord 28 rfl) rfl (fun c => ?_) (fun c => ?_)
      · have h := h.1 c
        refine a_iinc C.1 (1 : Int32) (tk T_cX6_isWord 31 rfl) rfl kI_1 (by decide) rfl ?_
        refine a_goto C.1 26 (tk T_cX6_isWord 32 rfl) rfl ?_
        exact a_to (ih x1 (x4 + (1 : Int32)) M2 h) rfl
      · have h := h.2 c
        refine a_iconst C.1 (0 : Int32) (tk T_cX6_isWord 29 rfl) kI_0 ?_
        exact hR _ _ _ _ (tk T_cX6_isWord 30 rfl) ⟨Or.inl rfl, h⟩
def P_Reader_isWord_w7_21 (post : Int32 → Mem → Prop) (M : Mem) : Prop :=
  post (0 : Int32) M
theorem k_Reader_isWord_w7_21 {X : FX} {g : GT} {ext : List CD} {A : Nat → Prop} {Z : State → Prop} {post : Int32 → Mem → Prop} {sk : Nat → Nat} (C : CxX X g (layC ++ ext) A cX6_isWord 5 RX6 4 0 sk) (hr : 0 ≤ X.2.2.2.1.cells ∧ 0 ≤ X.2.2.2.1.slots) (hR : RetZ X g (layC ++ ext) A cX6_isWord 5 0 0 Z post)  (M : Mem) (h : P_Reader_isWord_w7_21 post M) : AtX X g (layC ++ ext) A 5 0 0 Z 21 [] [] M := by
  refine a_iconst C.1 (0 : Int32) (tk T_cX6_isWord 11 rfl) kI_0 ?_
  exact hR _ _ _ _ (tk T_cX6_isWord 12 rfl) ⟨Or.inl rfl, h⟩
def P_Reader_isWord_w7 (post : Int32 → Mem → Prop) (x1 x2 : Int32) (M : Mem) : Prop :=
  P_len 7 (fun r1 M1 =>
  (¬ (x2 - x1) = r1 → (P_Reader_isWord_w7_21 post M1)) ∧
  ((x2 - x1) = r1 → ((x1 < 0 → (P_Reader_isWord_w7_21 post M1)) ∧
  (¬ x1 < 0 → ((x2 ≤ (400 : Int32) → (∃ j26, P_Reader_isWord_w7_26 post j26 x1 (0 : Int32) M1)) ∧
  (¬ x2 ≤ (400 : Int32) → (P_Reader_isWord_w7_21 post M1))))))) M
theorem k_Reader_isWord_w7 {X : FX} {g : GT} {ext : List CD} {A : Nat → Prop} {Z : State → Prop} {post : Int32 → Mem → Prop} {sk : Nat → Nat} (C : CxX X g (layC ++ ext) A cX6_isWord 5 RX6 4 0 sk) (hr : 0 ≤ X.2.2.2.1.cells ∧ 0 ≤ X.2.2.2.1.slots) (hR : RetZ X g (layC ++ ext) A cX6_isWord 5 0 0 Z post) (x1 x2 : Int32) (M : Mem) (h : P_Reader_isWord_w7 post x1 x2 M) : AtX X g (layC ++ ext) A 5 0 0 Z 0 [(0, .ref (ad g 84)), (1, .int x1), (2, .int x2), (3, .ref (sk (10 + 7)))] [] M := by
  refine a_iload_n C.1 (tk T_cX6_isWord 0 rfl) rfl ?_
  refine a_iload_n C.1 (tk T_cX6_isWord 1 rfl) rfl ?_
  refine a_isub C.1 (tk T_cX6_isWord 2 rfl) ?_
  refine a_aload_n C.1 (tk T_cX6_isWord 3 rfl) rfl ?_
  refine s_strI C [] me_yJ0_length_8abf5 rfl lk_RX6_111 (ct_lenP (o := 10) (j := 7) ⟨Or.inl rfl, by decide⟩ h) (by decide) (wok.at (o := 10) (j := 7) ⟨Or.inl rfl, by decide⟩ C.2.1.2.2.2.2.2.2.2).1 rfl rfl (Nat.le_of_ble_eq_true rfl) (tk T_cX6_isWord 4 rfl) hr (fun r1 M1 h => ?_)
  refine a_icmp_ne C.1 21 (tk T_cX6_isWord 5 rfl) rfl (fun c => ?_) (fun c => ?_)
  · have h := h.1 c
    exact a_to (k_Reader_isWord_w7_21 C hr hR M1 h) rfl
  · have h := h.2 c
    refine a_iload_n C.1 (tk T_cX6_isWord 6 rfl) rfl ?_
    refine a_if_lt C.1 21 (tk T_cX6_isWord 7 rfl) rfl (fun c => ?_) (fun c => ?_)
    · have h := h.1 c
      exact a_to (k_Reader_isWord_w7_21 C hr hR M1 h) rfl
    · have h := h.2 c
      refine a_iload_n C.1 (tk T_cX6_isWord 8 rfl) rfl ?_
      refine a_sipush C.1 (400 : Int32) (tk T_cX6_isWord 9 rfl) kS_400 ?_
      refine a_icmp_le C.1 23 (tk T_cX6_isWord 10 rfl) rfl (fun c => ?_) (fun c => ?_)
      · have h := h.1 c
        refine a_iconst C.1 (0 : Int32) (tk T_cX6_isWord 13 rfl) kI_0 ?_
        refine a_istore C.1 (tk T_cX6_isWord 14 rfl) (by decide) rfl ?_
        obtain ⟨n1, h⟩ := h
        exact a_to (k_Reader_isWord_w7_26 C hr hR n1 x1 (0 : Int32) M1 h) rfl
      · have h := h.2 c
        exact a_to (k_Reader_isWord_w7_21 C hr hR M1 h) rfl
theorem ct_Reader_isWord_w7 {l : Launch} {g : GT} {ext : List CD} {sk : Nat → Nat} {post : Int32 → Mem → Prop} {x1 x2 : Int32} {M : Mem} (h : P_Reader_isWord_w7 post x1 x2 M) : SI l g (layC ++ ext) sk yX6_isWord cX6_isWord 5 (some .boolean) 4 [.ref (ad g 84), .int x1, .int x2, .ref (sk (10 + 7))] M post :=
  st_of (plainFor_of_name (by decide +kernel)) (Nat.le_of_ble_eq_true rfl) (fun X A Z hl C hr hR => by subst hl; exact k_Reader_isWord_w7 C hr (fun v M pc lv hd hp => hR v M pc lv hd (nar_z hp.1) hp.2) x1 x2 M h)
def P_Reader_isWord_w8_26 (post : Int32 → Mem → Prop) : Nat → Int32 → Int32 → Mem → Prop
  | 0, _, _, _ => False
  | n + 1, x1, x4, M =>
    P_len 8 (fun r1 M1 =>
  (r1 ≤ x4 → (post (1 : Int32) M1)) ∧
  (¬ r1 ≤ x4 → (vp_in (x1 + x4) 400 ∧ P_chr 8 (fun r2 M2 =>
  ((M1 85 (x1 + x4).toNatClampNeg) = r2 → (P_Reader_isWord_w8_26 post n x1 (x4 + (1 : Int32)) M2)) ∧
  (¬ (M1 85 (x1 + x4).toNatClampNeg) = r2 → (post (0 : Int32) M2))) x4 M1))) M
theorem k_Reader_isWord_w8_26 {X : FX} {g : GT} {ext : List CD} {A : Nat → Prop} {Z : State → Prop} {post : Int32 → Mem → Prop} {sk : Nat → Nat} (C : CxX X g (layC ++ ext) A cX6_isWord 5 RX6 4 0 sk) (hr : 0 ≤ X.2.2.2.1.cells ∧ 0 ≤ X.2.2.2.1.slots) (hR : RetZ X g (layC ++ ext) A cX6_isWord 5 0 0 Z post) : ∀ (n : Nat) (x1 x4 : Int32) (M : Mem), P_Reader_isWord_w8_26 post n x1 x4 M → AtX X g (layC ++ ext) A 5 0 0 Z 26 [(0, .ref (ad g 84)), (3, .ref (sk (10 + 8))), (1, .int x1), (4, .int x4)] [] M := by
  intro n
  induction n with
  | zero =>
    intro x1 x4 M h
    exact h.elim
  | succ n ih =>
    intro x1 x4 M h
    refine a_iload C.1 (tk T_cX6_isWord 15 rfl) rfl ?_
    refine a_aload_n C.1 (tk T_cX6_isWord 16 rfl) rfl ?_
    refine s_strI C [] me_yJ0_length_8abf5 rfl lk_RX6_111 (ct_lenP (o := 10) (j := 8) ⟨Or.inl rfl, by decide⟩ h) (by decide) (wok.at (o := 10) (j := 8) ⟨Or.inl rfl, by decide⟩ C.2.1.2.2.2.2.2.2.2).1 rfl rfl (Nat.le_of_ble_eq_true rfl) (tk T_cX6_isWord 17 rfl) hr (fun r1 M1 h => ?_)
    refine a_icmp_ge C.1 61 (tk T_cX6_isWord 18 rfl) rfl (fun c => ?_) (fun c => ?_)
    · have h := h.1 c
      refine a_iconst C.1 (1 : Int32) (tk T_cX6_isWord 33 rfl) kI_1 ?_
      exact hR _ _ _ _ (tk T_cX6_isWord 34 rfl) ⟨Or.inr rfl, h⟩
    · have h := h.2 c
      refine a_aload_n C.1 (tk T_cX6_isWord 19 rfl) rfl ?_
      refine a_getR C.1 f_RX6_9 (tk T_cX6_isWord 20 rfl) lc84 rfl ?_
      refine a_iload_n C.1 (tk T_cX6_isWord 21 rfl) rfl ?_
      refine a_iload C.1 (tk T_cX6_isWord 22 rfl) rfl ?_
      refine a_iadd C.1 (tk T_cX6_isWord 23 rfl) ?_
      obtain ⟨hb, h⟩ := h
      refine a_bald C.1 (tk T_cX6_isWord 24 rfl) lc85 hb ?_
      refine a_aload_n C.1 (tk T_cX6_isWord 25 rfl) rfl ?_
      refine a_iload C.1 (tk T_cX6_isWord 26 rfl) rfl ?_
      refine s_strI C [.int x4] me_yJ0_charAt_5068e rfl lk_RX6_116 (ct_chrP (o := 10) (j := 8) ⟨Or.inl rfl, by decide⟩ h) (by decide) (wok.at (o := 10) (j := 8) ⟨Or.inl rfl, by decide⟩ C.2.1.2.2.2.2.2.2.2).1 rfl rfl (Nat.le_of_ble_eq_true rfl) (tk T_cX6_isWord 27 rfl) hr (fun r2 M2 h => ?_)
      refine a_icmp_eq C.1 55 (tk T_cX6_isWord 28 rfl) rfl (fun c => ?_) (fun c => ?_)
      · have h := h.1 c
        refine a_iinc C.1 (1 : Int32) (tk T_cX6_isWord 31 rfl) rfl kI_1 (by decide) rfl ?_
        refine a_goto C.1 26 (tk T_cX6_isWord 32 rfl) rfl ?_
        exact a_to (ih x1 (x4 + (1 : Int32)) M2 h) rfl
      · have h := h.2 c
        refine a_iconst C.1 (0 : Int32) (tk T_cX6_isWord 29 rfl) kI_0 ?_
        exact hR _ _ _ _ (tk T_cX6_isWord 30 rfl) ⟨Or.inl rfl, h⟩
def P_Reader_isWord_w8_21 (post : Int32 → Mem → Prop) (M : Mem) : Prop :=
  post (0 : Int32) M
theorem k_Reader_isWord_w8_21 {X : FX} {g : GT} {ext : List CD} {A : Nat → Prop} {Z : State → Prop} {post : Int32 → Mem → Prop} {sk : Nat → Nat} (C : CxX X g (layC ++ ext) A cX6_isWord 5 RX6 4 0 sk) (hr : 0 ≤ X.2.2.2.1.cells ∧ 0 ≤ X.2.2.2.1.slots) (hR : RetZ X g (layC ++ ext) A cX6_isWord 5 0 0 Z post)  (M : Mem) (h : P_Reader_isWord_w8_21 post M) : AtX X g (layC ++ ext) A 5 0 0 Z 21 [] [] M := by
  refine a_iconst C.1 (0 : Int32) (tk T_cX6_isWord 11 rfl) kI_0 ?_
  exact hR _ _ _ _ (tk T_cX6_isWord 12 rfl) ⟨Or.inl rfl, h⟩
def P_Reader_isWord_w8 (post : Int32 → Mem → Prop) (x1 x2 : Int32) (M : Mem) : Prop :=
  P_len 8 (fun r1 M1 =>
  (¬ (x2 - x1) = r1 → (P_Reader_isWord_w8_21 post M1)) ∧
  ((x2 - x1) = r1 → ((x1 < 0 → (P_Reader_isWord_w8_21 post M1)) ∧
  (¬ x1 < 0 → ((x2 ≤ (400 : Int32) → (∃ j26, P_Reader_isWord_w8_26 post j26 x1 (0 : Int32) M1)) ∧
  (¬ x2 ≤ (400 : Int32) → (P_Reader_isWord_w8_21 post M1))))))) M
theorem k_Reader_isWord_w8 {X : FX} {g : GT} {ext : List CD} {A : Nat → Prop} {Z : State → Prop} {post : Int32 → Mem → Prop} {sk : Nat → Nat} (C : CxX X g (layC ++ ext) A cX6_isWord 5 RX6 4 0 sk) (hr : 0 ≤ X.2.2.2.1.cells ∧ 0 ≤ X.2.2.2.1.slots) (hR : RetZ X g (layC ++ ext) A cX6_isWord 5 0 0 Z post) (x1 x2 : Int32) (M : Mem) (h : P_Reader_isWord_w8 post x1 x2 M) : AtX X g (layC ++ ext) A 5 0 0 Z 0 [(0, .ref (ad g 84)), (1, .int x1), (2, .int x2), (3, .ref (sk (10 + 8)))] [] M := by
  refine a_iload_n C.1 (tk T_cX6_isWord 0 rfl) rfl ?_
  refine a_iload_n C.1 (tk T_cX6_isWord 1 rfl) rfl ?_
  refine a_isub C.1 (tk T_cX6_isWord 2 rfl) ?_
  refine a_aload_n C.1 (tk T_cX6_isWord 3 rfl) rfl ?_
  refine s_strI C [] me_yJ0_length_8abf5 rfl lk_RX6_111 (ct_lenP (o := 10) (j := 8) ⟨Or.inl rfl, by decide⟩ h) (by decide) (wok.at (o := 10) (j := 8) ⟨Or.inl rfl, by decide⟩ C.2.1.2.2.2.2.2.2.2).1 rfl rfl (Nat.le_of_ble_eq_true rfl) (tk T_cX6_isWord 4 rfl) hr (fun r1 M1 h => ?_)
  refine a_icmp_ne C.1 21 (tk T_cX6_isWord 5 rfl) rfl (fun c => ?_) (fun c => ?_)
  · have h := h.1 c
    exact a_to (k_Reader_isWord_w8_21 C hr hR M1 h) rfl
  · have h := h.2 c
    refine a_iload_n C.1 (tk T_cX6_isWord 6 rfl) rfl ?_
    refine a_if_lt C.1 21 (tk T_cX6_isWord 7 rfl) rfl (fun c => ?_) (fun c => ?_)
    · have h := h.1 c
      exact a_to (k_Reader_isWord_w8_21 C hr hR M1 h) rfl
    · have h := h.2 c
      refine a_iload_n C.1 (tk T_cX6_isWord 8 rfl) rfl ?_
      refine a_sipush C.1 (400 : Int32) (tk T_cX6_isWord 9 rfl) kS_400 ?_
      refine a_icmp_le C.1 23 (tk T_cX6_isWord 10 rfl) rfl (fun c => ?_) (fun c => ?_)
      · have h := h.1 c
        refine a_iconst C.1 (0 : Int32) (tk T_cX6_isWord 13 rfl) kI_0 ?_
        refine a_istore C.1 (tk T_cX6_isWord 14 rfl) (by decide) rfl ?_
        obtain ⟨n1, h⟩ := h
        exact a_to (k_Reader_isWord_w8_26 C hr hR n1 x1 (0 : Int32) M1 h) rfl
      · have h := h.2 c
        exact a_to (k_Reader_isWord_w8_21 C hr hR M1 h) rfl
theorem ct_Reader_isWord_w8 {l : Launch} {g : GT} {ext : List CD} {sk : Nat → Nat} {post : Int32 → Mem → Prop} {x1 x2 : Int32} {M : Mem} (h : P_Reader_isWord_w8 post x1 x2 M) : SI l g (layC ++ ext) sk yX6_isWord cX6_isWord 5 (some .boolean) 4 [.ref (ad g 84), .int x1, .int x2, .ref (sk (10 + 8))] M post :=
  st_of (plainFor_of_name (by decide +kernel)) (Nat.le_of_ble_eq_true rfl) (fun X A Z hl C hr hR => by subst hl; exact k_Reader_isWord_w8 C hr (fun v M pc lv hd hp => hR v M pc lv hd (nar_z hp.1) hp.2) x1 x2 M h)
