/-! THE CONSTRUCTORS (printed by ctor.py) -/
theorem oi_in : Cond.instanceMethod Lib.objectInit ∈ GW := g1 35 (by decide +kernel) (by decide +kernel)
theorem oi_cd : Cond.code Lib.objectInit ⟨#[0xb1]⟩ 1 none ∈ GW := g1 36 (by decide +kernel) (by decide +kernel)
theorem ar_I : Cond.arrayClass .int ∈ GW := g1 90 (by decide +kernel) (by decide +kernel)
theorem ar_Z : Cond.arrayClass .boolean ∈ GW := g1 91 (by decide +kernel) (by decide +kernel)
theorem ar_B : Cond.arrayClass .byte ∈ GW := g2 231 (by decide +kernel) (by decide +kernel)
theorem me_yX8_init : MeB yX8_init cX8_init 1 none 0 := ⟨g1 3 (by decide +kernel) (by decide +kernel), g1 47 (by decide +kernel) (by decide +kernel), by decide +kernel, by decide⟩
theorem mi_yX8_init : Cond.instanceMethod yX8_init ∈ GW := g1 46 (by decide +kernel) (by decide +kernel)
theorem in_RX8 : Cond.instantiable RX8 10 ∈ GW := g1 44 (by decide +kernel) (by decide +kernel)
theorem ii_RX8 : Cond.initialized RX8 ∈ GW := g1 3 (by decide +kernel) (by decide +kernel)
def T_cX8_initL : List (Nat × Instr × Nat) := [(0, .aload_n 0, 1), (1, .invokespecial 3, 3), (4, .aload_n 0, 1), (5, .bipush 8, 2), (7, .newarray .int, 2), (9, .putfield 9, 3), (12, .aload_n 0, 1), (13, .bipush 8, 2), (15, .newarray .boolean, 2), (17, .putfield 15, 3), (20, .aload_n 0, 1), (21, .bipush 8, 2), (23, .newarray .int, 2), (25, .putfield 19, 3), (28, .aload_n 0, 1), (29, .bipush 8, 2), (31, .newarray .boolean, 2), (33, .putfield 22, 3), (36, .aload_n 0, 1), (37, .bipush 8, 2), (39, .newarray .int, 2), (41, .putfield 25, 3), (44, .aload_n 0, 1), (45, .bipush 10, 2), (47, .putfield 28, 3), (50, .return_, 1)]
theorem T_cX8_init : tabOK cX8_init T_cX8_initL = true := by decide +kernel
def W_Screw (g : GT) (a : Nat → Nat) : va_W := [(a 0, .inr (8, [.ref (a 1), .ref (a 2), .ref (a 3), .ref (a 4), .ref (a 5), .int 0, .int 10, .int 0, .int 0, .int 0])), (a 1, .inl (g.2.2.1 0, 8, .inl (fun _ => 0))), (a 2, .inl (g.2.2.1 2, 8, .inl (fun _ => 0))), (a 3, .inl (g.2.2.1 0, 8, .inl (fun _ => 0))), (a 4, .inl (g.2.2.1 2, 8, .inl (fun _ => 0))), (a 5, .inl (g.2.2.1 0, 8, .inl (fun _ => 0)))]
set_option maxHeartbeats 1000000 in
set_option maxRecDepth 20000 in
theorem cn_Screw {l : Launch} {g : GT} : CN l (g.1, g.2.1) (tys g) yX8_init cX8_init 1 1 5 40 8 [.null, .null, .null, .null, .null, .int 0, .int 0, .int 0, .int 0, .int 0] [] (W_Screw g) := by
  refine cn_of (plainFor_of_name (by decide +kernel)) rfl (fun h0 => Nat.le_of_ble_eq_true rfl) (fun X A Z h0 hl C hm hR => ?_)
  subst hl
  refine n_aload_n C (tk T_cX8_init 0 rfl) rfl ?_
  refine n_objInit C (g1 48 (by decide +kernel) (by decide +kernel)) oi_in oi_cd (by omega) (by decide) (tk T_cX8_init 1 rfl) ?_
  refine n_aload_n C (tk T_cX8_init 2 rfl) rfl ?_
  refine n_bipush C (8 : Int32) (tk T_cX8_init 3 rfl) (by decide) ?_
  refine n_newaI C (N' := 8) ar_I (by decide) rfl (by omega) (by omega) (by omega) (tk T_cX8_init 4 rfl) (fun q1 => ?_)
  refine n_ws (ws2 := [(h0, .inr (8, [.null, .null, .null, .null, .null, .int 0, .int 0, .int 0, .int 0, .int 0])), (q1, .inl (g.2.2.1 0, 8, .inl (fun _ => 0)))]) rfl ?_
  refine n_putF C hm (v := .ref q1) f_RX8_9 tyX8_ok nmX8 rfl rfl (tyX8_ok 0 (by decide)) rfl rfl 0 rfl (Nat.le_of_ble_eq_true rfl) (tk T_cX8_init 5 rfl) ?_
  refine n_ws (ws2 := [(h0, .inr (8, [.ref q1, .null, .null, .null, .null, .int 0, .int 0, .int 0, .int 0, .int 0])), (q1, .inl (g.2.2.1 0, 8, .inl (fun _ => 0)))]) rfl ?_
  refine n_aload_n C (tk T_cX8_init 6 rfl) rfl ?_
  refine n_bipush C (8 : Int32) (tk T_cX8_init 7 rfl) (by decide) ?_
  refine n_newaZ C (N' := 8) ar_Z (by decide) rfl (by omega) (by omega) (by omega) (tk T_cX8_init 8 rfl) (fun q2 => ?_)
  refine n_ws (ws2 := [(h0, .inr (8, [.ref q1, .null, .null, .null, .null, .int 0, .int 0, .int 0, .int 0, .int 0])), (q1, .inl (g.2.2.1 0, 8, .inl (fun _ => 0))), (q2, .inl (g.2.2.1 2, 8, .inl (fun _ => 0)))]) rfl ?_
  refine n_putF C hm (v := .ref q2) f_RX8_15 tyX8_ok nmX8 rfl rfl (tyX8_ok 1 (by decide)) rfl rfl 0 rfl (Nat.le_of_ble_eq_true rfl) (tk T_cX8_init 9 rfl) ?_
  refine n_ws (ws2 := [(h0, .inr (8, [.ref q1, .ref q2, .null, .null, .null, .int 0, .int 0, .int 0, .int 0, .int 0])), (q1, .inl (g.2.2.1 0, 8, .inl (fun _ => 0))), (q2, .inl (g.2.2.1 2, 8, .inl (fun _ => 0)))]) rfl ?_
  refine n_aload_n C (tk T_cX8_init 10 rfl) rfl ?_
  refine n_bipush C (8 : Int32) (tk T_cX8_init 11 rfl) (by decide) ?_
  refine n_newaI C (N' := 8) ar_I (by decide) rfl (by omega) (by omega) (by omega) (tk T_cX8_init 12 rfl) (fun q3 => ?_)
  refine n_ws (ws2 := [(h0, .inr (8, [.ref q1, .ref q2, .null, .null, .null, .int 0, .int 0, .int 0, .int 0, .int 0])), (q1, .inl (g.2.2.1 0, 8, .inl (fun _ => 0))), (q2, .inl (g.2.2.1 2, 8, .inl (fun _ => 0))), (q3, .inl (g.2.2.1 0, 8, .inl (fun _ => 0)))]) rfl ?_
  refine n_putF C hm (v := .ref q3) f_RX8_19 tyX8_ok nmX8 rfl rfl (tyX8_ok 2 (by decide)) rfl rfl 0 rfl (Nat.le_of_ble_eq_true rfl) (tk T_cX8_init 13 rfl) ?_
  refine n_ws (ws2 := [(h0, .inr (8, [.ref q1, .ref q2, .ref q3, .null, .null, .int 0, .int 0, .int 0, .int 0, .int 0])), (q1, .inl (g.2.2.1 0, 8, .inl (fun _ => 0))), (q2, .inl (g.2.2.1 2, 8, .inl (fun _ => 0))), (q3, .inl (g.2.2.1 0, 8, .inl (fun _ => 0)))]) rfl ?_
  refine n_aload_n C (tk T_cX8_init 14 rfl) rfl ?_
  refine n_bipush C (8 : Int32) (tk T_cX8_init 15 rfl) (by decide) ?_
  refine n_newaZ C (N' := 8) ar_Z (by decide) rfl (by omega) (by omega) (by omega) (tk T_cX8_init 16 rfl) (fun q4 => ?_)
  refine n_ws (ws2 := [(h0, .inr (8, [.ref q1, .ref q2, .ref q3, .null, .null, .int 0, .int 0, .int 0, .int 0, .int 0])), (q1, .inl (g.2.2.1 0, 8, .inl (fun _ => 0))), (q2, .inl (g.2.2.1 2, 8, .inl (fun _ => 0))), (q3, .inl (g.2.2.1 0, 8, .inl (fun _ => 0))), (q4, .inl (g.2.2.1 2, 8, .inl (fun _ => 0)))]) rfl ?_
  refine n_putF C hm (v := .ref q4) f_RX8_22 tyX8_ok nmX8 rfl rfl (tyX8_ok 3 (by decide)) rfl rfl 0 rfl (Nat.le_of_ble_eq_true rfl) (tk T_cX8_init 17 rfl) ?_
  refine n_ws (ws2 := [(h0, .inr (8, [.ref q1, .ref q2, .ref q3, .ref q4, .null, .int 0, .int 0, .int 0, .int 0, .int 0])), (q1, .inl (g.2.2.1 0, 8, .inl (fun _ => 0))), (q2, .inl (g.2.2.1 2, 8, .inl (fun _ => 0))), (q3, .inl (g.2.2.1 0, 8, .inl (fun _ => 0))), (q4, .inl (g.2.2.1 2, 8, .inl (fun _ => 0)))]) rfl ?_
  refine n_aload_n C (tk T_cX8_init 18 rfl) rfl ?_
  refine n_bipush C (8 : Int32) (tk T_cX8_init 19 rfl) (by decide) ?_
  refine n_newaI C (N' := 8) ar_I (by decide) rfl (by omega) (by omega) (by omega) (tk T_cX8_init 20 rfl) (fun q5 => ?_)
  refine n_ws (ws2 := [(h0, .inr (8, [.ref q1, .ref q2, .ref q3, .ref q4, .null, .int 0, .int 0, .int 0, .int 0, .int 0])), (q1, .inl (g.2.2.1 0, 8, .inl (fun _ => 0))), (q2, .inl (g.2.2.1 2, 8, .inl (fun _ => 0))), (q3, .inl (g.2.2.1 0, 8, .inl (fun _ => 0))), (q4, .inl (g.2.2.1 2, 8, .inl (fun _ => 0))), (q5, .inl (g.2.2.1 0, 8, .inl (fun _ => 0)))]) rfl ?_
  refine n_putF C hm (v := .ref q5) f_RX8_25 tyX8_ok nmX8 rfl rfl (tyX8_ok 4 (by decide)) rfl rfl 0 rfl (Nat.le_of_ble_eq_true rfl) (tk T_cX8_init 21 rfl) ?_
  refine n_ws (ws2 := [(h0, .inr (8, [.ref q1, .ref q2, .ref q3, .ref q4, .ref q5, .int 0, .int 0, .int 0, .int 0, .int 0])), (q1, .inl (g.2.2.1 0, 8, .inl (fun _ => 0))), (q2, .inl (g.2.2.1 2, 8, .inl (fun _ => 0))), (q3, .inl (g.2.2.1 0, 8, .inl (fun _ => 0))), (q4, .inl (g.2.2.1 2, 8, .inl (fun _ => 0))), (q5, .inl (g.2.2.1 0, 8, .inl (fun _ => 0)))]) rfl ?_
  refine n_aload_n C (tk T_cX8_init 22 rfl) rfl ?_
  refine n_bipush C (10 : Int32) (tk T_cX8_init 23 rfl) (by decide) ?_
  refine n_put C (v := .int 10) f_RX8_28 f_RX8_28p rfl rfl 0 rfl (Nat.le_of_ble_eq_true rfl) (tk T_cX8_init 24 rfl) ?_
  refine n_ws (ws2 := [(h0, .inr (8, [.ref q1, .ref q2, .ref q3, .ref q4, .ref q5, .int 0, .int 10, .int 0, .int 0, .int 0])), (q1, .inl (g.2.2.1 0, 8, .inl (fun _ => 0))), (q2, .inl (g.2.2.1 2, 8, .inl (fun _ => 0))), (q3, .inl (g.2.2.1 0, 8, .inl (fun _ => 0))), (q4, .inl (g.2.2.1 2, 8, .inl (fun _ => 0))), (q5, .inl (g.2.2.1 0, 8, .inl (fun _ => 0)))]) rfl ?_
  exact n_ws (ws2 := W_Screw g (fun k => if k = 0 then h0 else if k = 1 then q1 else if k = 2 then q2 else if k = 3 then q3 else if k = 4 then q4 else if k = 5 then q5 else 0)) rfl (hR _ _ _ (tk T_cX8_init 25 rfl) rfl)
theorem me_yX4_init : MeB yX4_init cX4_init 1 none 0 := ⟨g1 4 (by decide +kernel) (by decide +kernel), g1 96 (by decide +kernel) (by decide +kernel), by decide +kernel, by decide⟩
theorem mi_yX4_init : Cond.instanceMethod yX4_init ∈ GW := g1 95 (by decide +kernel) (by decide +kernel)
theorem in_RX4 : Cond.instantiable RX4 6 ∈ GW := g1 93 (by decide +kernel) (by decide +kernel)
theorem ii_RX4 : Cond.initialized RX4 ∈ GW := g1 4 (by decide +kernel) (by decide +kernel)
def T_cX4_initL : List (Nat × Instr × Nat) := [(0, .aload_n 0, 1), (1, .invokespecial 3, 3), (4, .aload_n 0, 1), (5, .bipush 10, 2), (7, .newarray .int, 2), (9, .putfield 9, 3), (12, .aload_n 0, 1), (13, .bipush 10, 2), (15, .newarray .boolean, 2), (17, .putfield 15, 3), (20, .aload_n 0, 1), (21, .bipush 10, 2), (23, .newarray .int, 2), (25, .putfield 19, 3), (28, .aload_n 0, 1), (29, .bipush 10, 2), (31, .newarray .boolean, 2), (33, .putfield 22, 3), (36, .aload_n 0, 1), (37, .iconst 2, 1), (38, .putfield 25, 3), (41, .return_, 1)]
theorem T_cX4_init : tabOK cX4_init T_cX4_initL = true := by decide +kernel
def W_Knowns (g : GT) (a : Nat → Nat) : va_W := [(a 0, .inr (4, [.ref (a 1), .ref (a 2), .ref (a 3), .ref (a 4), .int 0, .int 2])), (a 1, .inl (g.2.2.1 0, 10, .inl (fun _ => 0))), (a 2, .inl (g.2.2.1 2, 10, .inl (fun _ => 0))), (a 3, .inl (g.2.2.1 0, 10, .inl (fun _ => 0))), (a 4, .inl (g.2.2.1 2, 10, .inl (fun _ => 0)))]
set_option maxHeartbeats 1000000 in
set_option maxRecDepth 20000 in
theorem cn_Knowns {l : Launch} {g : GT} : CN l (g.1, g.2.1) (tys g) yX4_init cX4_init 1 1 4 40 4 [.null, .null, .null, .null, .int 0, .int 0] [] (W_Knowns g) := by
  refine cn_of (plainFor_of_name (by decide +kernel)) rfl (fun h0 => Nat.le_of_ble_eq_true rfl) (fun X A Z h0 hl C hm hR => ?_)
  subst hl
  refine n_aload_n C (tk T_cX4_init 0 rfl) rfl ?_
  refine n_objInit C (g1 97 (by decide +kernel) (by decide +kernel)) oi_in oi_cd (by omega) (by decide) (tk T_cX4_init 1 rfl) ?_
  refine n_aload_n C (tk T_cX4_init 2 rfl) rfl ?_
  refine n_bipush C (10 : Int32) (tk T_cX4_init 3 rfl) (by decide) ?_
  refine n_newaI C (N' := 10) ar_I (by decide) rfl (by omega) (by omega) (by omega) (tk T_cX4_init 4 rfl) (fun q1 => ?_)
  refine n_ws (ws2 := [(h0, .inr (4, [.null, .null, .null, .null, .int 0, .int 0])), (q1, .inl (g.2.2.1 0, 10, .inl (fun _ => 0)))]) rfl ?_
  refine n_putF C hm (v := .ref q1) f_RX4_9 tyX4_ok nmX4 rfl rfl (tyX4_ok 0 (by decide)) rfl rfl 0 rfl (Nat.le_of_ble_eq_true rfl) (tk T_cX4_init 5 rfl) ?_
  refine n_ws (ws2 := [(h0, .inr (4, [.ref q1, .null, .null, .null, .int 0, .int 0])), (q1, .inl (g.2.2.1 0, 10, .inl (fun _ => 0)))]) rfl ?_
  refine n_aload_n C (tk T_cX4_init 6 rfl) rfl ?_
  refine n_bipush C (10 : Int32) (tk T_cX4_init 7 rfl) (by decide) ?_
  refine n_newaZ C (N' := 10) ar_Z (by decide) rfl (by omega) (by omega) (by omega) (tk T_cX4_init 8 rfl) (fun q2 => ?_)
  refine n_ws (ws2 := [(h0, .inr (4, [.ref q1, .null, .null, .null, .int 0, .int 0])), (q1, .inl (g.2.2.1 0, 10, .inl (fun _ => 0))), (q2, .inl (g.2.2.1 2, 10, .inl (fun _ => 0)))]) rfl ?_
  refine n_putF C hm (v := .ref q2) f_RX4_15 tyX4_ok nmX4 rfl rfl (tyX4_ok 1 (by decide)) rfl rfl 0 rfl (Nat.le_of_ble_eq_true rfl) (tk T_cX4_init 9 rfl) ?_
  refine n_ws (ws2 := [(h0, .inr (4, [.ref q1, .ref q2, .null, .null, .int 0, .int 0])), (q1, .inl (g.2.2.1 0, 10, .inl (fun _ => 0))), (q2, .inl (g.2.2.1 2, 10, .inl (fun _ => 0)))]) rfl ?_
  refine n_aload_n C (tk T_cX4_init 10 rfl) rfl ?_
  refine n_bipush C (10 : Int32) (tk T_cX4_init 11 rfl) (by decide) ?_
  refine n_newaI C (N' := 10) ar_I (by decide) rfl (by omega) (by omega) (by omega) (tk T_cX4_init 12 rfl) (fun q3 => ?_)
  refine n_ws (ws2 := [(h0, .inr (4, [.ref q1, .ref q2, .null, .null, .int 0, .int 0])), (q1, .inl (g.2.2.1 0, 10, .inl (fun _ => 0))), (q2, .inl (g.2.2.1 2, 10, .inl (fun _ => 0))), (q3, .inl (g.2.2.1 0, 10, .inl (fun _ => 0)))]) rfl ?_
  refine n_putF C hm (v := .ref q3) f_RX4_19 tyX4_ok nmX4 rfl rfl (tyX4_ok 2 (by decide)) rfl rfl 0 rfl (Nat.le_of_ble_eq_true rfl) (tk T_cX4_init 13 rfl) ?_
  refine n_ws (ws2 := [(h0, .inr (4, [.ref q1, .ref q2, .ref q3, .null, .int 0, .int 0])), (q1, .inl (g.2.2.1 0, 10, .inl (fun _ => 0))), (q2, .inl (g.2.2.1 2, 10, .inl (fun _ => 0))), (q3, .inl (g.2.2.1 0, 10, .inl (fun _ => 0)))]) rfl ?_
  refine n_aload_n C (tk T_cX4_init 14 rfl) rfl ?_
  refine n_bipush C (10 : Int32) (tk T_cX4_init 15 rfl) (by decide) ?_
  refine n_newaZ C (N' := 10) ar_Z (by decide) rfl (by omega) (by omega) (by omega) (tk T_cX4_init 16 rfl) (fun q4 => ?_)
  refine n_ws (ws2 := [(h0, .inr (4, [.ref q1, .ref q2, .ref q3, .null, .int 0, .int 0])), (q1, .inl (g.2.2.1 0, 10, .inl (fun _ => 0))), (q2, .inl (g.2.2.1 2, 10, .inl (fun _ => 0))), (q3, .inl (g.2.2.1 0, 10, .inl (fun _ => 0))), (q4, .inl (g.2.2.1 2, 10, .inl (fun _ => 0)))]) rfl ?_
  refine n_putF C hm (v := .ref q4) f_RX4_22 tyX4_ok nmX4 rfl rfl (tyX4_ok 3 (by decide)) rfl rfl 0 rfl (Nat.le_of_ble_eq_true rfl) (tk T_cX4_init 17 rfl) ?_
  refine n_ws (ws2 := [(h0, .inr (4, [.ref q1, .ref q2, .ref q3, .ref q4, .int 0, .int 0])), (q1, .inl (g.2.2.1 0, 10, .inl (fun _ => 0))), (q2, .inl (g.2.2.1 2, 10, .inl (fun _ => 0))), (q3, .inl (g.2.2.1 0, 10, .inl (fun _ => 0))), (q4, .inl (g.2.2.1 2, 10, .inl (fun _ => 0)))]) rfl ?_
  refine n_aload_n C (tk T_cX4_init 18 rfl) rfl ?_
  refine n_iconst C (2 : Int32) (tk T_cX4_init 19 rfl) (by decide) ?_
  refine n_put C (v := .int 2) f_RX4_25 f_RX4_25p rfl rfl 0 rfl (Nat.le_of_ble_eq_true rfl) (tk T_cX4_init 20 rfl) ?_
  refine n_ws (ws2 := [(h0, .inr (4, [.ref q1, .ref q2, .ref q3, .ref q4, .int 0, .int 2])), (q1, .inl (g.2.2.1 0, 10, .inl (fun _ => 0))), (q2, .inl (g.2.2.1 2, 10, .inl (fun _ => 0))), (q3, .inl (g.2.2.1 0, 10, .inl (fun _ => 0))), (q4, .inl (g.2.2.1 2, 10, .inl (fun _ => 0)))]) rfl ?_
  exact n_ws (ws2 := W_Knowns g (fun k => if k = 0 then h0 else if k = 1 then q1 else if k = 2 then q2 else if k = 3 then q3 else if k = 4 then q4 else 0)) rfl (hR _ _ _ (tk T_cX4_init 21 rfl) rfl)
theorem me_yX10_init : MeB yX10_init cX10_init 1 none 0 := ⟨g1 5 (by decide +kernel) (by decide +kernel), g1 133 (by decide +kernel) (by decide +kernel), by decide +kernel, by decide⟩
theorem mi_yX10_init : Cond.instanceMethod yX10_init ∈ GW := g1 132 (by decide +kernel) (by decide +kernel)
theorem in_RX10 : Cond.instantiable RX10 5 ∈ GW := g1 130 (by decide +kernel) (by decide +kernel)
theorem ii_RX10 : Cond.initialized RX10 ∈ GW := g1 5 (by decide +kernel) (by decide +kernel)
def T_cX10_initL : List (Nat × Instr × Nat) := [(0, .aload_n 0, 1), (1, .invokespecial 3, 3), (4, .aload_n 0, 1), (5, .bipush 6, 2), (7, .newarray .boolean, 2), (9, .putfield 9, 3), (12, .aload_n 0, 1), (13, .bipush 6, 2), (15, .newarray .int, 2), (17, .putfield 15, 3), (20, .aload_n 0, 1), (21, .bipush 36, 2), (23, .newarray .int, 2), (25, .putfield 19, 3), (28, .aload_n 0, 1), (29, .bipush 36, 2), (31, .newarray .int, 2), (33, .putfield 22, 3), (36, .return_, 1)]
theorem T_cX10_init : tabOK cX10_init T_cX10_initL = true := by decide +kernel
def W_Table (g : GT) (a : Nat → Nat) : va_W := [(a 0, .inr (10, [.ref (a 1), .ref (a 2), .ref (a 3), .ref (a 4), .int 0])), (a 1, .inl (g.2.2.1 2, 6, .inl (fun _ => 0))), (a 2, .inl (g.2.2.1 0, 6, .inl (fun _ => 0))), (a 3, .inl (g.2.2.1 0, 36, .inl (fun _ => 0))), (a 4, .inl (g.2.2.1 0, 36, .inl (fun _ => 0)))]
set_option maxHeartbeats 1000000 in
set_option maxRecDepth 20000 in
theorem cn_Table {l : Launch} {g : GT} : CN l (g.1, g.2.1) (tys g) yX10_init cX10_init 1 1 4 84 10 [.null, .null, .null, .null, .int 0] [] (W_Table g) := by
  refine cn_of (plainFor_of_name (by decide +kernel)) rfl (fun h0 => Nat.le_of_ble_eq_true rfl) (fun X A Z h0 hl C hm hR => ?_)
  subst hl
  refine n_aload_n C (tk T_cX10_init 0 rfl) rfl ?_
  refine n_objInit C (g1 134 (by decide +kernel) (by decide +kernel)) oi_in oi_cd (by omega) (by decide) (tk T_cX10_init 1 rfl) ?_
  refine n_aload_n C (tk T_cX10_init 2 rfl) rfl ?_
  refine n_bipush C (6 : Int32) (tk T_cX10_init 3 rfl) (by decide) ?_
  refine n_newaZ C (N' := 6) ar_Z (by decide) rfl (by omega) (by omega) (by omega) (tk T_cX10_init 4 rfl) (fun q1 => ?_)
  refine n_ws (ws2 := [(h0, .inr (10, [.null, .null, .null, .null, .int 0])), (q1, .inl (g.2.2.1 2, 6, .inl (fun _ => 0)))]) rfl ?_
  refine n_putF C hm (v := .ref q1) f_RX10_9 tyX10_ok nmX10 rfl rfl (tyX10_ok 0 (by decide)) rfl rfl 0 rfl (Nat.le_of_ble_eq_true rfl) (tk T_cX10_init 5 rfl) ?_
  refine n_ws (ws2 := [(h0, .inr (10, [.ref q1, .null, .null, .null, .int 0])), (q1, .inl (g.2.2.1 2, 6, .inl (fun _ => 0)))]) rfl ?_
  refine n_aload_n C (tk T_cX10_init 6 rfl) rfl ?_
  refine n_bipush C (6 : Int32) (tk T_cX10_init 7 rfl) (by decide) ?_
  refine n_newaI C (N' := 6) ar_I (by decide) rfl (by omega) (by omega) (by omega) (tk T_cX10_init 8 rfl) (fun q2 => ?_)
  refine n_ws (ws2 := [(h0, .inr (10, [.ref q1, .null, .null, .null, .int 0])), (q1, .inl (g.2.2.1 2, 6, .inl (fun _ => 0))), (q2, .inl (g.2.2.1 0, 6, .inl (fun _ => 0)))]) rfl ?_
  refine n_putF C hm (v := .ref q2) f_RX10_15 tyX10_ok nmX10 rfl rfl (tyX10_ok 1 (by decide)) rfl rfl 0 rfl (Nat.le_of_ble_eq_true rfl) (tk T_cX10_init 9 rfl) ?_
  refine n_ws (ws2 := [(h0, .inr (10, [.ref q1, .ref q2, .null, .null, .int 0])), (q1, .inl (g.2.2.1 2, 6, .inl (fun _ => 0))), (q2, .inl (g.2.2.1 0, 6, .inl (fun _ => 0)))]) rfl ?_
  refine n_aload_n C (tk T_cX10_init 10 rfl) rfl ?_
  refine n_bipush C (36 : Int32) (tk T_cX10_init 11 rfl) (by decide) ?_
  refine n_newaI C (N' := 36) ar_I (by decide) rfl (by omega) (by omega) (by omega) (tk T_cX10_init 12 rfl) (fun q3 => ?_)
  refine n_ws (ws2 := [(h0, .inr (10, [.ref q1, .ref q2, .null, .null, .int 0])), (q1, .inl (g.2.2.1 2, 6, .inl (fun _ => 0))), (q2, .inl (g.2.2.1 0, 6, .inl (fun _ => 0))), (q3, .inl (g.2.2.1 0, 36, .inl (fun _ => 0)))]) rfl ?_
  refine n_putF C hm (v := .ref q3) f_RX10_19 tyX10_ok nmX10 rfl rfl (tyX10_ok 2 (by decide)) rfl rfl 0 rfl (Nat.le_of_ble_eq_true rfl) (tk T_cX10_init 13 rfl) ?_
  refine n_ws (ws2 := [(h0, .inr (10, [.ref q1, .ref q2, .ref q3, .null, .int 0])), (q1, .inl (g.2.2.1 2, 6, .inl (fun _ => 0))), (q2, .inl (g.2.2.1 0, 6, .inl (fun _ => 0))), (q3, .inl (g.2.2.1 0, 36, .inl (fun _ => 0)))]) rfl ?_
  refine n_aload_n C (tk T_cX10_init 14 rfl) rfl ?_
  refine n_bipush C (36 : Int32) (tk T_cX10_init 15 rfl) (by decide) ?_
  refine n_newaI C (N' := 36) ar_I (by decide) rfl (by omega) (by omega) (by omega) (tk T_cX10_init 16 rfl) (fun q4 => ?_)
  refine n_ws (ws2 := [(h0, .inr (10, [.ref q1, .ref q2, .ref q3, .null, .int 0])), (q1, .inl (g.2.2.1 2, 6, .inl (fun _ => 0))), (q2, .inl (g.2.2.1 0, 6, .inl (fun _ => 0))), (q3, .inl (g.2.2.1 0, 36, .inl (fun _ => 0))), (q4, .inl (g.2.2.1 0, 36, .inl (fun _ => 0)))]) rfl ?_
  refine n_putF C hm (v := .ref q4) f_RX10_22 tyX10_ok nmX10 rfl rfl (tyX10_ok 3 (by decide)) rfl rfl 0 rfl (Nat.le_of_ble_eq_true rfl) (tk T_cX10_init 17 rfl) ?_
  refine n_ws (ws2 := [(h0, .inr (10, [.ref q1, .ref q2, .ref q3, .ref q4, .int 0])), (q1, .inl (g.2.2.1 2, 6, .inl (fun _ => 0))), (q2, .inl (g.2.2.1 0, 6, .inl (fun _ => 0))), (q3, .inl (g.2.2.1 0, 36, .inl (fun _ => 0))), (q4, .inl (g.2.2.1 0, 36, .inl (fun _ => 0)))]) rfl ?_
  exact n_ws (ws2 := W_Table g (fun k => if k = 0 then h0 else if k = 1 then q1 else if k = 2 then q2 else if k = 3 then q3 else if k = 4 then q4 else 0)) rfl (hR _ _ _ (tk T_cX10_init 18 rfl) rfl)
theorem me_yX9_init : MeB yX9_init cX9_init 1 none 0 := ⟨g1 6 (by decide +kernel) (by decide +kernel), g1 166 (by decide +kernel) (by decide +kernel), by decide +kernel, by decide⟩
theorem mi_yX9_init : Cond.instanceMethod yX9_init ∈ GW := g1 165 (by decide +kernel) (by decide +kernel)
theorem in_RX9 : Cond.instantiable RX9 12 ∈ GW := g1 163 (by decide +kernel) (by decide +kernel)
theorem ii_RX9 : Cond.initialized RX9 ∈ GW := g1 6 (by decide +kernel) (by decide +kernel)
def T_cX9_initL : List (Nat × Instr × Nat) := [(0, .aload_n 0, 1), (1, .invokespecial 3, 3), (4, .aload_n 0, 1), (5, .iconst 3, 1), (6, .newarray .int, 2), (8, .putfield 9, 3), (11, .aload_n 0, 1), (12, .iconst 3, 1), (13, .newarray .int, 2), (15, .putfield 15, 3), (18, .aload_n 0, 1), (19, .iconst 3, 1), (20, .newarray .int, 2), (22, .putfield 18, 3), (25, .aload_n 0, 1), (26, .iconst 3, 1), (27, .newarray .int, 2), (29, .putfield 21, 3), (32, .aload_n 0, 1), (33, .iconst 3, 1), (34, .newarray .int, 2), (36, .putfield 24, 3), (39, .aload_n 0, 1), (40, .bipush 24, 2), (42, .newarray .int, 2), (44, .putfield 27, 3), (47, .aload_n 0, 1), (48, .bipush 24, 2), (50, .newarray .int, 2), (52, .putfield 30, 3), (55, .aload_n 0, 1), (56, .bipush 24, 2), (58, .newarray .boolean, 2), (60, .putfield 33, 3), (63, .aload_n 0, 1), (64, .bipush 24, 2), (66, .newarray .int, 2), (68, .putfield 37, 3), (71, .aload_n 0, 1), (72, .bipush 24, 2), (74, .newarray .int, 2), (76, .putfield 40, 3), (79, .return_, 1)]
theorem T_cX9_init : tabOK cX9_init T_cX9_initL = true := by decide +kernel
def W_Shelf (g : GT) (a : Nat → Nat) : va_W := [(a 0, .inr (9, [.ref (a 1), .ref (a 2), .ref (a 3), .ref (a 4), .ref (a 5), .int 0, .ref (a 6), .ref (a 7), .ref (a 8), .ref (a 9), .ref (a 10), .int 0])), (a 1, .inl (g.2.2.1 0, 3, .inl (fun _ => 0))), (a 2, .inl (g.2.2.1 0, 3, .inl (fun _ => 0))), (a 3, .inl (g.2.2.1 0, 3, .inl (fun _ => 0))), (a 4, .inl (g.2.2.1 0, 3, .inl (fun _ => 0))), (a 5, .inl (g.2.2.1 0, 3, .inl (fun _ => 0))), (a 6, .inl (g.2.2.1 0, 24, .inl (fun _ => 0))), (a 7, .inl (g.2.2.1 0, 24, .inl (fun _ => 0))), (a 8, .inl (g.2.2.1 2, 24, .inl (fun _ => 0))), (a 9, .inl (g.2.2.1 0, 24, .inl (fun _ => 0))), (a 10, .inl (g.2.2.1 0, 24, .inl (fun _ => 0)))]
set_option maxHeartbeats 1000000 in
set_option maxRecDepth 20000 in
theorem cn_Shelf {l : Launch} {g : GT} : CN l (g.1, g.2.1) (tys g) yX9_init cX9_init 1 1 10 135 9 [.null, .null, .null, .null, .null, .int 0, .null, .null, .null, .null, .null, .int 0] [] (W_Shelf g) := by
  refine cn_of (plainFor_of_name (by decide +kernel)) rfl (fun h0 => Nat.le_of_ble_eq_true rfl) (fun X A Z h0 hl C hm hR => ?_)
  subst hl
  refine n_aload_n C (tk T_cX9_init 0 rfl) rfl ?_
  refine n_objInit C (g1 167 (by decide +kernel) (by decide +kernel)) oi_in oi_cd (by omega) (by decide) (tk T_cX9_init 1 rfl) ?_
  refine n_aload_n C (tk T_cX9_init 2 rfl) rfl ?_
  refine n_iconst C (3 : Int32) (tk T_cX9_init 3 rfl) (by decide) ?_
  refine n_newaI C (N' := 3) ar_I (by decide) rfl (by omega) (by omega) (by omega) (tk T_cX9_init 4 rfl) (fun q1 => ?_)
  refine n_ws (ws2 := [(h0, .inr (9, [.null, .null, .null, .null, .null, .int 0, .null, .null, .null, .null, .null, .int 0])), (q1, .inl (g.2.2.1 0, 3, .inl (fun _ => 0)))]) rfl ?_
  refine n_putF C hm (v := .ref q1) f_RX9_9 tyX9_ok nmX9 rfl rfl (tyX9_ok 0 (by decide)) rfl rfl 0 rfl (Nat.le_of_ble_eq_true rfl) (tk T_cX9_init 5 rfl) ?_
  refine n_ws (ws2 := [(h0, .inr (9, [.ref q1, .null, .null, .null, .null, .int 0, .null, .null, .null, .null, .null, .int 0])), (q1, .inl (g.2.2.1 0, 3, .inl (fun _ => 0)))]) rfl ?_
  refine n_aload_n C (tk T_cX9_init 6 rfl) rfl ?_
  refine n_iconst C (3 : Int32) (tk T_cX9_init 7 rfl) (by decide) ?_
  refine n_newaI C (N' := 3) ar_I (by decide) rfl (by omega) (by omega) (by omega) (tk T_cX9_init 8 rfl) (fun q2 => ?_)
  refine n_ws (ws2 := [(h0, .inr (9, [.ref q1, .null, .null, .null, .null, .int 0, .null, .null, .null, .null, .null, .int 0])), (q1, .inl (g.2.2.1 0, 3, .inl (fun _ => 0))), (q2, .inl (g.2.2.1 0, 3, .inl (fun _ => 0)))]) rfl ?_
  refine n_putF C hm (v := .ref q2) f_RX9_15 tyX9_ok nmX9 rfl rfl (tyX9_ok 1 (by decide)) rfl rfl 0 rfl (Nat.le_of_ble_eq_true rfl) (tk T_cX9_init 9 rfl) ?_
  refine n_ws (ws2 := [(h0, .inr (9, [.ref q1, .ref q2, .null, .null, .null, .int 0, .null, .null, .null, .null, .null, .int 0])), (q1, .inl (g.2.2.1 0, 3, .inl (fun _ => 0))), (q2, .inl (g.2.2.1 0, 3, .inl (fun _ => 0)))]) rfl ?_
  refine n_aload_n C (tk T_cX9_init 10 rfl) rfl ?_
  refine n_iconst C (3 : Int32) (tk T_cX9_init 11 rfl) (by decide) ?_
  refine n_newaI C (N' := 3) ar_I (by decide) rfl (by omega) (by omega) (by omega) (tk T_cX9_init 12 rfl) (fun q3 => ?_)
  refine n_ws (ws2 := [(h0, .inr (9, [.ref q1, .ref q2, .null, .null, .null, .int 0, .null, .null, .null, .null, .null, .int 0])), (q1, .inl (g.2.2.1 0, 3, .inl (fun _ => 0))), (q2, .inl (g.2.2.1 0, 3, .inl (fun _ => 0))), (q3, .inl (g.2.2.1 0, 3, .inl (fun _ => 0)))]) rfl ?_
  refine n_putF C hm (v := .ref q3) f_RX9_18 tyX9_ok nmX9 rfl rfl (tyX9_ok 2 (by decide)) rfl rfl 0 rfl (Nat.le_of_ble_eq_true rfl) (tk T_cX9_init 13 rfl) ?_
  refine n_ws (ws2 := [(h0, .inr (9, [.ref q1, .ref q2, .ref q3, .null, .null, .int 0, .null, .null, .null, .null, .null, .int 0])), (q1, .inl (g.2.2.1 0, 3, .inl (fun _ => 0))), (q2, .inl (g.2.2.1 0, 3, .inl (fun _ => 0))), (q3, .inl (g.2.2.1 0, 3, .inl (fun _ => 0)))]) rfl ?_
  refine n_aload_n C (tk T_cX9_init 14 rfl) rfl ?_
  refine n_iconst C (3 : Int32) (tk T_cX9_init 15 rfl) (by decide) ?_
  refine n_newaI C (N' := 3) ar_I (by decide) rfl (by omega) (by omega) (by omega) (tk T_cX9_init 16 rfl) (fun q4 => ?_)
  refine n_ws (ws2 := [(h0, .inr (9, [.ref q1, .ref q2, .ref q3, .null, .null, .int 0, .null, .null, .null, .null, .null, .int 0])), (q1, .inl (g.2.2.1 0, 3, .inl (fun _ => 0))), (q2, .inl (g.2.2.1 0, 3, .inl (fun _ => 0))), (q3, .inl (g.2.2.1 0, 3, .inl (fun _ => 0))), (q4, .inl (g.2.2.1 0, 3, .inl (fun _ => 0)))]) rfl ?_
  refine n_putF C hm (v := .ref q4) f_RX9_21 tyX9_ok nmX9 rfl rfl (tyX9_ok 3 (by decide)) rfl rfl 0 rfl (Nat.le_of_ble_eq_true rfl) (tk T_cX9_init 17 rfl) ?_
  refine n_ws (ws2 := [(h0, .inr (9, [.ref q1, .ref q2, .ref q3, .ref q4, .null, .int 0, .null, .null, .null, .null, .null, .int 0])), (q1, .inl (g.2.2.1 0, 3, .inl (fun _ => 0))), (q2, .inl (g.2.2.1 0, 3, .inl (fun _ => 0))), (q3, .inl (g.2.2.1 0, 3, .inl (fun _ => 0))), (q4, .inl (g.2.2.1 0, 3, .inl (fun _ => 0)))]) rfl ?_
  refine n_aload_n C (tk T_cX9_init 18 rfl) rfl ?_
  refine n_iconst C (3 : Int32) (tk T_cX9_init 19 rfl) (by decide) ?_
  refine n_newaI C (N' := 3) ar_I (by decide) rfl (by omega) (by omega) (by omega) (tk T_cX9_init 20 rfl) (fun q5 => ?_)
  refine n_ws (ws2 := [(h0, .inr (9, [.ref q1, .ref q2, .ref q3, .ref q4, .null, .int 0, .null, .null, .null, .null, .null, .int 0])), (q1, .inl (g.2.2.1 0, 3, .inl (fun _ => 0))), (q2, .inl (g.2.2.1 0, 3, .inl (fun _ => 0))), (q3, .inl (g.2.2.1 0, 3, .inl (fun _ => 0))), (q4, .inl (g.2.2.1 0, 3, .inl (fun _ => 0))), (q5, .inl (g.2.2.1 0, 3, .inl (fun _ => 0)))]) rfl ?_
  refine n_putF C hm (v := .ref q5) f_RX9_24 tyX9_ok nmX9 rfl rfl (tyX9_ok 4 (by decide)) rfl rfl 0 rfl (Nat.le_of_ble_eq_true rfl) (tk T_cX9_init 21 rfl) ?_
  refine n_ws (ws2 := [(h0, .inr (9, [.ref q1, .ref q2, .ref q3, .ref q4, .ref q5, .int 0, .null, .null, .null, .null, .null, .int 0])), (q1, .inl (g.2.2.1 0, 3, .inl (fun _ => 0))), (q2, .inl (g.2.2.1 0, 3, .inl (fun _ => 0))), (q3, .inl (g.2.2.1 0, 3, .inl (fun _ => 0))), (q4, .inl (g.2.2.1 0, 3, .inl (fun _ => 0))), (q5, .inl (g.2.2.1 0, 3, .inl (fun _ => 0)))]) rfl ?_
  refine n_aload_n C (tk T_cX9_init 22 rfl) rfl ?_
  refine n_bipush C (24 : Int32) (tk T_cX9_init 23 rfl) (by decide) ?_
  refine n_newaI C (N' := 24) ar_I (by decide) rfl (by omega) (by omega) (by omega) (tk T_cX9_init 24 rfl) (fun q6 => ?_)
  refine n_ws (ws2 := [(h0, .inr (9, [.ref q1, .ref q2, .ref q3, .ref q4, .ref q5, .int 0, .null, .null, .null, .null, .null, .int 0])), (q1, .inl (g.2.2.1 0, 3, .inl (fun _ => 0))), (q2, .inl (g.2.2.1 0, 3, .inl (fun _ => 0))), (q3, .inl (g.2.2.1 0, 3, .inl (fun _ => 0))), (q4, .inl (g.2.2.1 0, 3, .inl (fun _ => 0))), (q5, .inl (g.2.2.1 0, 3, .inl (fun _ => 0))), (q6, .inl (g.2.2.1 0, 24, .inl (fun _ => 0)))]) rfl ?_
  refine n_putF C hm (v := .ref q6) f_RX9_27 tyX9_ok nmX9 rfl rfl (tyX9_ok 6 (by decide)) rfl rfl 0 rfl (Nat.le_of_ble_eq_true rfl) (tk T_cX9_init 25 rfl) ?_
  refine n_ws (ws2 := [(h0, .inr (9, [.ref q1, .ref q2, .ref q3, .ref q4, .ref q5, .int 0, .ref q6, .null, .null, .null, .null, .int 0])), (q1, .inl (g.2.2.1 0, 3, .inl (fun _ => 0))), (q2, .inl (g.2.2.1 0, 3, .inl (fun _ => 0))), (q3, .inl (g.2.2.1 0, 3, .inl (fun _ => 0))), (q4, .inl (g.2.2.1 0, 3, .inl (fun _ => 0))), (q5, .inl (g.2.2.1 0, 3, .inl (fun _ => 0))), (q6, .inl (g.2.2.1 0, 24, .inl (fun _ => 0)))]) rfl ?_
  refine n_aload_n C (tk T_cX9_init 26 rfl) rfl ?_
  refine n_bipush C (24 : Int32) (tk T_cX9_init 27 rfl) (by decide) ?_
  refine n_newaI C (N' := 24) ar_I (by decide) rfl (by omega) (by omega) (by omega) (tk T_cX9_init 28 rfl) (fun q7 => ?_)
  refine n_ws (ws2 := [(h0, .inr (9, [.ref q1, .ref q2, .ref q3, .ref q4, .ref q5, .int 0, .ref q6, .null, .null, .null, .null, .int 0])), (q1, .inl (g.2.2.1 0, 3, .inl (fun _ => 0))), (q2, .inl (g.2.2.1 0, 3, .inl (fun _ => 0))), (q3, .inl (g.2.2.1 0, 3, .inl (fun _ => 0))), (q4, .inl (g.2.2.1 0, 3, .inl (fun _ => 0))), (q5, .inl (g.2.2.1 0, 3, .inl (fun _ => 0))), (q6, .inl (g.2.2.1 0, 24, .inl (fun _ => 0))), (q7, .inl (g.2.2.1 0, 24, .inl (fun _ => 0)))]) rfl ?_
  refine n_putF C hm (v := .ref q7) f_RX9_30 tyX9_ok nmX9 rfl rfl (tyX9_ok 7 (by decide)) rfl rfl 0 rfl (Nat.le_of_ble_eq_true rfl) (tk T_cX9_init 29 rfl) ?_
  refine n_ws (ws2 := [(h0, .inr (9, [.ref q1, .ref q2, .ref q3, .ref q4, .ref q5, .int 0, .ref q6, .ref q7, .null, .null, .null, .int 0])), (q1, .inl (g.2.2.1 0, 3, .inl (fun _ => 0))), (q2, .inl (g.2.2.1 0, 3, .inl (fun _ => 0))), (q3, .inl (g.2.2.1 0, 3, .inl (fun _ => 0))), (q4, .inl (g.2.2.1 0, 3, .inl (fun _ => 0))), (q5, .inl (g.2.2.1 0, 3, .inl (fun _ => 0))), (q6, .inl (g.2.2.1 0, 24, .inl (fun _ => 0))), (q7, .inl (g.2.2.1 0, 24, .inl (fun _ => 0)))]) rfl ?_
  refine n_aload_n C (tk T_cX9_init 30 rfl) rfl ?_
  refine n_bipush C (24 : Int32) (tk T_cX9_init 31 rfl) (by decide) ?_
  refine n_newaZ C (N' := 24) ar_Z (by decide) rfl (by omega) (by omega) (by omega) (tk T_cX9_init 32 rfl) (fun q8 => ?_)
  refine n_ws (ws2 := [(h0, .inr (9, [.ref q1, .ref q2, .ref q3, .ref q4, .ref q5, .int 0, .ref q6, .ref q7, .null, .null, .null, .int 0])), (q1, .inl (g.2.2.1 0, 3, .inl (fun _ => 0))), (q2, .inl (g.2.2.1 0, 3, .inl (fun _ => 0))), (q3, .inl (g.2.2.1 0, 3, .inl (fun _ => 0))), (q4, .inl (g.2.2.1 0, 3, .inl (fun _ => 0))), (q5, .inl (g.2.2.1 0, 3, .inl (fun _ => 0))), (q6, .inl (g.2.2.1 0, 24, .inl (fun _ => 0))), (q7, .inl (g.2.2.1 0, 24, .inl (fun _ => 0))), (q8, .inl (g.2.2.1 2, 24, .inl (fun _ => 0)))]) rfl ?_
  refine n_putF C hm (v := .ref q8) f_RX9_33 tyX9_ok nmX9 rfl rfl (tyX9_ok 8 (by decide)) rfl rfl 0 rfl (Nat.le_of_ble_eq_true rfl) (tk T_cX9_init 33 rfl) ?_
  refine n_ws (ws2 := [(h0, .inr (9, [.ref q1, .ref q2, .ref q3, .ref q4, .ref q5, .int 0, .ref q6, .ref q7, .ref q8, .null, .null, .int 0])), (q1, .inl (g.2.2.1 0, 3, .inl (fun _ => 0))), (q2, .inl (g.2.2.1 0, 3, .inl (fun _ => 0))), (q3, .inl (g.2.2.1 0, 3, .inl (fun _ => 0))), (q4, .inl (g.2.2.1 0, 3, .inl (fun _ => 0))), (q5, .inl (g.2.2.1 0, 3, .inl (fun _ => 0))), (q6, .inl (g.2.2.1 0, 24, .inl (fun _ => 0))), (q7, .inl (g.2.2.1 0, 24, .inl (fun _ => 0))), (q8, .inl (g.2.2.1 2, 24, .inl (fun _ => 0)))]) rfl ?_
  refine n_aload_n C (tk T_cX9_init 34 rfl) rfl ?_
  refine n_bipush C (24 : Int32) (tk T_cX9_init 35 rfl) (by decide) ?_
  refine n_newaI C (N' := 24) ar_I (by decide) rfl (by omega) (by omega) (by omega) (tk T_cX9_init 36 rfl) (fun q9 => ?_)
  refine n_ws (ws2 := [(h0, .inr (9, [.ref q1, .ref q2, .ref q3, .ref q4, .ref q5, .int 0, .ref q6, .ref q7, .ref q8, .null, .null, .int 0])), (q1, .inl (g.2.2.1 0, 3, .inl (fun _ => 0))), (q2, .inl (g.2.2.1 0, 3, .inl (fun _ => 0))), (q3, .inl (g.2.2.1 0, 3, .inl (fun _ => 0))), (q4, .inl (g.2.2.1 0, 3, .inl (fun _ => 0))), (q5, .inl (g.2.2.1 0, 3, .inl (fun _ => 0))), (q6, .inl (g.2.2.1 0, 24, .inl (fun _ => 0))), (q7, .inl (g.2.2.1 0, 24, .inl (fun _ => 0))), (q8, .inl (g.2.2.1 2, 24, .inl (fun _ => 0))), (q9, .inl (g.2.2.1 0, 24, .inl (fun _ => 0)))]) rfl ?_
  refine n_putF C hm (v := .ref q9) f_RX9_37 tyX9_ok nmX9 rfl rfl (tyX9_ok 9 (by decide)) rfl rfl 0 rfl (Nat.le_of_ble_eq_true rfl) (tk T_cX9_init 37 rfl) ?_
  refine n_ws (ws2 := [(h0, .inr (9, [.ref q1, .ref q2, .ref q3, .ref q4, .ref q5, .int 0, .ref q6, .ref q7, .ref q8, .ref q9, .null, .int 0])), (q1, .inl (g.2.2.1 0, 3, .inl (fun _ => 0))), (q2, .inl (g.2.2.1 0, 3, .inl (fun _ => 0))), (q3, .inl (g.2.2.1 0, 3, .inl (fun _ => 0))), (q4, .inl (g.2.2.1 0, 3, .inl (fun _ => 0))), (q5, .inl (g.2.2.1 0, 3, .inl (fun _ => 0))), (q6, .inl (g.2.2.1 0, 24, .inl (fun _ => 0))), (q7, .inl (g.2.2.1 0, 24, .inl (fun _ => 0))), (q8, .inl (g.2.2.1 2, 24, .inl (fun _ => 0))), (q9, .inl (g.2.2.1 0, 24, .inl (fun _ => 0)))]) rfl ?_
  refine n_aload_n C (tk T_cX9_init 38 rfl) rfl ?_
  refine n_bipush C (24 : Int32) (tk T_cX9_init 39 rfl) (by decide) ?_
  refine n_newaI C (N' := 24) ar_I (by decide) rfl (by omega) (by omega) (by omega) (tk T_cX9_init 40 rfl) (fun q10 => ?_)
  refine n_ws (ws2 := [(h0, .inr (9, [.ref q1, .ref q2, .ref q3, .ref q4, .ref q5, .int 0, .ref q6, .ref q7, .ref q8, .ref q9, .null, .int 0])), (q1, .inl (g.2.2.1 0, 3, .inl (fun _ => 0))), (q2, .inl (g.2.2.1 0, 3, .inl (fun _ => 0))), (q3, .inl (g.2.2.1 0, 3, .inl (fun _ => 0))), (q4, .inl (g.2.2.1 0, 3, .inl (fun _ => 0))), (q5, .inl (g.2.2.1 0, 3, .inl (fun _ => 0))), (q6, .inl (g.2.2.1 0, 24, .inl (fun _ => 0))), (q7, .inl (g.2.2.1 0, 24, .inl (fun _ => 0))), (q8, .inl (g.2.2.1 2, 24, .inl (fun _ => 0))), (q9, .inl (g.2.2.1 0, 24, .inl (fun _ => 0))), (q10, .inl (g.2.2.1 0, 24, .inl (fun _ => 0)))]) rfl ?_
  refine n_putF C hm (v := .ref q10) f_RX9_40 tyX9_ok nmX9 rfl rfl (tyX9_ok 10 (by decide)) rfl rfl 0 rfl (Nat.le_of_ble_eq_true rfl) (tk T_cX9_init 41 rfl) ?_
  refine n_ws (ws2 := [(h0, .inr (9, [.ref q1, .ref q2, .ref q3, .ref q4, .ref q5, .int 0, .ref q6, .ref q7, .ref q8, .ref q9, .ref q10, .int 0])), (q1, .inl (g.2.2.1 0, 3, .inl (fun _ => 0))), (q2, .inl (g.2.2.1 0, 3, .inl (fun _ => 0))), (q3, .inl (g.2.2.1 0, 3, .inl (fun _ => 0))), (q4, .inl (g.2.2.1 0, 3, .inl (fun _ => 0))), (q5, .inl (g.2.2.1 0, 3, .inl (fun _ => 0))), (q6, .inl (g.2.2.1 0, 24, .inl (fun _ => 0))), (q7, .inl (g.2.2.1 0, 24, .inl (fun _ => 0))), (q8, .inl (g.2.2.1 2, 24, .inl (fun _ => 0))), (q9, .inl (g.2.2.1 0, 24, .inl (fun _ => 0))), (q10, .inl (g.2.2.1 0, 24, .inl (fun _ => 0)))]) rfl ?_
  exact n_ws (ws2 := W_Shelf g (fun k => if k = 0 then h0 else if k = 1 then q1 else if k = 2 then q2 else if k = 3 then q3 else if k = 4 then q4 else if k = 5 then q5 else if k = 6 then q6 else if k = 7 then q7 else if k = 8 then q8 else if k = 9 then q9 else if k = 10 then q10 else 0)) rfl (hR _ _ _ (tk T_cX9_init 42 rfl) rfl)
theorem me_yX2_init : MeB yX2_init cX2_init 1 none 0 := ⟨g1 2 (by decide +kernel) (by decide +kernel), g1 41 (by decide +kernel) (by decide +kernel), by decide +kernel, by decide⟩
theorem mi_yX2_init : Cond.instanceMethod yX2_init ∈ GW := g1 40 (by decide +kernel) (by decide +kernel)
theorem in_RX2 : Cond.instantiable RX2 9 ∈ GW := g1 38 (by decide +kernel) (by decide +kernel)
theorem ii_RX2 : Cond.initialized RX2 ∈ GW := g1 2 (by decide +kernel) (by decide +kernel)
def T_cX2_initL : List (Nat × Instr × Nat) := [(0, .aload_n 0, 1), (1, .invokespecial 3, 3), (4, .aload_n 0, 1), (5, .new 9, 3), (8, .dup, 1), (9, .invokespecial 11, 3), (12, .putfield 12, 3), (15, .aload_n 0, 1), (16, .new 18, 3), (19, .dup, 1), (20, .invokespecial 20, 3), (23, .putfield 21, 3), (26, .aload_n 0, 1), (27, .new 25, 3), (30, .dup, 1), (31, .invokespecial 27, 3), (34, .putfield 28, 3), (37, .aload_n 0, 1), (38, .new 32, 3), (41, .dup, 1), (42, .invokespecial 34, 3), (45, .putfield 35, 3), (48, .aload_n 0, 1), (49, .bipush 24, 2), (51, .newarray .int, 2), (53, .putfield 39, 3), (56, .aload_n 0, 1), (57, .bipush 24, 2), (59, .newarray .int, 2), (61, .putfield 43, 3), (64, .aload_n 0, 1), (65, .bipush 6, 2), (67, .anewarray 46, 3), (70, .putfield 48, 3), (73, .return_, 1)]
theorem T_cX2_init : tabOK cX2_init T_cX2_initL = true := by decide +kernel
theorem lk_RX2_11 : Cond.methodLinkNest RX2 11 yX8_init "RainbowPlate" ∈ NWs := List.mem_filter.mpr ⟨List.mem_of_getElem? (i := 149) (by decide +kernel), rfl⟩
theorem lk_RX2_20 : Cond.methodLinkNest RX2 20 yX4_init "RainbowPlate" ∈ NWs := List.mem_filter.mpr ⟨List.mem_of_getElem? (i := 198) (by decide +kernel), rfl⟩
theorem lk_RX2_27 : Cond.methodLinkNest RX2 27 yX10_init "RainbowPlate" ∈ NWs := List.mem_filter.mpr ⟨List.mem_of_getElem? (i := 235) (by decide +kernel), rfl⟩
theorem lk_RX2_34 : Cond.methodLinkNest RX2 34 yX9_init "RainbowPlate" ∈ NWs := List.mem_filter.mpr ⟨List.mem_of_getElem? (i := 268) (by decide +kernel), rfl⟩
def W_Desk (g : GT) (a : Nat → Nat) : va_W := [(a 0, .inr (2, [.ref (a 1), .ref (a 7), .ref (a 12), .ref (a 17), .ref (a 28), .ref (a 29), .ref (a 30), .int 0, .int 0]))] ++ W_Screw g (fun k => a (1 + k)) ++ W_Knowns g (fun k => a (7 + k)) ++ W_Table g (fun k => a (12 + k)) ++ W_Shelf g (fun k => a (17 + k)) ++ [(a 28, .inl (g.2.2.1 0, 24, .inl (fun _ => 0))), (a 29, .inl (g.2.2.1 0, 24, .inl (fun _ => 0))), (a 30, .inl (g.2.2.1 3, 6, .inr (.inr (.inr (.inr (fun _ => none))))))]
set_option maxHeartbeats 1000000 in
set_option maxRecDepth 20000 in
theorem cn_Desk {l : Launch} {g : GT} : CN l (g.1, g.2.1) (tys g) yX2_init cX2_init 1 2 30 386 2 [.null, .null, .null, .null, .null, .null, .null, .int 0, .int 0] [] (W_Desk g) := by
  refine cn_of (plainFor_of_name (by decide +kernel)) rfl (fun h0 => Nat.le_of_ble_eq_true rfl) (fun X A Z h0 hl C hm hR => ?_)
  subst hl
  refine n_aload_n C (tk T_cX2_init 0 rfl) rfl ?_
  refine n_objInit C (g1 42 (by decide +kernel) (by decide +kernel)) oi_in oi_cd (by omega) (by decide) (tk T_cX2_init 1 rfl) ?_
  refine n_aload_n C (tk T_cX2_init 2 rfl) rfl ?_
  refine n_new C (ci := 8) (fs := [.null, .null, .null, .null, .null, .int 0, .int 0, .int 0, .int 0, .int 0]) tyX8 tyX8_ok wsX8_in (g1 43 (by decide +kernel) (by decide +kernel)) in_RX8 ii_RX8 rfl (fun j hj => by rcases (show j = 0 ∨ j = 1 ∨ j = 2 ∨ j = 3 ∨ j = 4 ∨ j = 5 ∨ j = 6 ∨ j = 7 ∨ j = 8 ∨ j = 9 by omega) with rfl | rfl | rfl | rfl | rfl | rfl | rfl | rfl | rfl | rfl <;> rfl) (by omega) (by omega) (tk T_cX2_init 3 rfl) (fun q1 => ?_)
  refine n_dupr C (tk T_cX2_init 4 rfl) ?_
  refine n_callN C [] me_yX8_init mi_yX8_init rfl lk_RX2_11 (cn_Screw) (by omega) rfl rfl (Nat.le_of_ble_eq_true rfl) (by omega) (by omega) (tk T_cX2_init 5 rfl) (fun a1 e_a1 => ?_)
  subst e_a1
  refine n_ws (ws2 := [(h0, .inr (2, [.null, .null, .null, .null, .null, .null, .null, .int 0, .int 0]))] ++ W_Screw g a1) rfl ?_
  refine n_putF C hm (v := .ref (a1 0)) f_RX2_12 tyX2_ok nmX2 rfl rfl (tyX2_ok 0 (by decide)) rfl rfl 0 rfl (Nat.le_of_ble_eq_true rfl) (tk T_cX2_init 6 rfl) ?_
  refine n_ws (ws2 := [(h0, .inr (2, [.ref (a1 0), .null, .null, .null, .null, .null, .null, .int 0, .int 0]))] ++ W_Screw g a1) rfl ?_
  refine n_aload_n C (tk T_cX2_init 7 rfl) rfl ?_
  refine n_new C (ci := 4) (fs := [.null, .null, .null, .null, .int 0, .int 0]) tyX4 tyX4_ok wsX4_in (g1 92 (by decide +kernel) (by decide +kernel)) in_RX4 ii_RX4 rfl (fun j hj => by rcases (show j = 0 ∨ j = 1 ∨ j = 2 ∨ j = 3 ∨ j = 4 ∨ j = 5 by omega) with rfl | rfl | rfl | rfl | rfl | rfl <;> rfl) (by omega) (by omega) (tk T_cX2_init 8 rfl) (fun q2 => ?_)
  refine n_dupr C (tk T_cX2_init 9 rfl) ?_
  refine n_callN C [] me_yX4_init mi_yX4_init rfl lk_RX2_20 (cn_Knowns) (by omega) rfl rfl (Nat.le_of_ble_eq_true rfl) (by omega) (by omega) (tk T_cX2_init 10 rfl) (fun a2 e_a2 => ?_)
  subst e_a2
  refine n_ws (ws2 := [(h0, .inr (2, [.ref (a1 0), .null, .null, .null, .null, .null, .null, .int 0, .int 0]))] ++ W_Screw g a1 ++ W_Knowns g a2) rfl ?_
  refine n_putF C hm (v := .ref (a2 0)) f_RX2_21 tyX2_ok nmX2 rfl rfl (tyX2_ok 1 (by decide)) rfl rfl 0 rfl (Nat.le_of_ble_eq_true rfl) (tk T_cX2_init 11 rfl) ?_
  refine n_ws (ws2 := [(h0, .inr (2, [.ref (a1 0), .ref (a2 0), .null, .null, .null, .null, .null, .int 0, .int 0]))] ++ W_Screw g a1 ++ W_Knowns g a2) rfl ?_
  refine n_aload_n C (tk T_cX2_init 12 rfl) rfl ?_
  refine n_new C (ci := 10) (fs := [.null, .null, .null, .null, .int 0]) tyX10 tyX10_ok wsX10_in (g1 129 (by decide +kernel) (by decide +kernel)) in_RX10 ii_RX10 rfl (fun j hj => by rcases (show j = 0 ∨ j = 1 ∨ j = 2 ∨ j = 3 ∨ j = 4 by omega) with rfl | rfl | rfl | rfl | rfl <;> rfl) (by omega) (by omega) (tk T_cX2_init 13 rfl) (fun q3 => ?_)
  refine n_dupr C (tk T_cX2_init 14 rfl) ?_
  refine n_callN C [] me_yX10_init mi_yX10_init rfl lk_RX2_27 (cn_Table) (by omega) rfl rfl (Nat.le_of_ble_eq_true rfl) (by omega) (by omega) (tk T_cX2_init 15 rfl) (fun a3 e_a3 => ?_)
  subst e_a3
  refine n_ws (ws2 := [(h0, .inr (2, [.ref (a1 0), .ref (a2 0), .null, .null, .null, .null, .null, .int 0, .int 0]))] ++ W_Screw g a1 ++ W_Knowns g a2 ++ W_Table g a3) rfl ?_
  refine n_putF C hm (v := .ref (a3 0)) f_RX2_28 tyX2_ok nmX2 rfl rfl (tyX2_ok 2 (by decide)) rfl rfl 0 rfl (Nat.le_of_ble_eq_true rfl) (tk T_cX2_init 16 rfl) ?_
  refine n_ws (ws2 := [(h0, .inr (2, [.ref (a1 0), .ref (a2 0), .ref (a3 0), .null, .null, .null, .null, .int 0, .int 0]))] ++ W_Screw g a1 ++ W_Knowns g a2 ++ W_Table g a3) rfl ?_
  refine n_aload_n C (tk T_cX2_init 17 rfl) rfl ?_
  refine n_new C (ci := 9) (fs := [.null, .null, .null, .null, .null, .int 0, .null, .null, .null, .null, .null, .int 0]) tyX9 tyX9_ok wsX9_in (g1 162 (by decide +kernel) (by decide +kernel)) in_RX9 ii_RX9 rfl (fun j hj => by rcases (show j = 0 ∨ j = 1 ∨ j = 2 ∨ j = 3 ∨ j = 4 ∨ j = 5 ∨ j = 6 ∨ j = 7 ∨ j = 8 ∨ j = 9 ∨ j = 10 ∨ j = 11 by omega) with rfl | rfl | rfl | rfl | rfl | rfl | rfl | rfl | rfl | rfl | rfl | rfl <;> rfl) (by omega) (by omega) (tk T_cX2_init 18 rfl) (fun q4 => ?_)
  refine n_dupr C (tk T_cX2_init 19 rfl) ?_
  refine n_callN C [] me_yX9_init mi_yX9_init rfl lk_RX2_34 (cn_Shelf) (by omega) rfl rfl (Nat.le_of_ble_eq_true rfl) (by omega) (by omega) (tk T_cX2_init 20 rfl) (fun a4 e_a4 => ?_)
  subst e_a4
  refine n_ws (ws2 := [(h0, .inr (2, [.ref (a1 0), .ref (a2 0), .ref (a3 0), .null, .null, .null, .null, .int 0, .int 0]))] ++ W_Screw g a1 ++ W_Knowns g a2 ++ W_Table g a3 ++ W_Shelf g a4) rfl ?_
  refine n_putF C hm (v := .ref (a4 0)) f_RX2_35 tyX2_ok nmX2 rfl rfl (tyX2_ok 3 (by decide)) rfl rfl 0 rfl (Nat.le_of_ble_eq_true rfl) (tk T_cX2_init 21 rfl) ?_
  refine n_ws (ws2 := [(h0, .inr (2, [.ref (a1 0), .ref (a2 0), .ref (a3 0), .ref (a4 0), .null, .null, .null, .int 0, .int 0]))] ++ W_Screw g a1 ++ W_Knowns g a2 ++ W_Table g a3 ++ W_Shelf g a4) rfl ?_
  refine n_aload_n C (tk T_cX2_init 22 rfl) rfl ?_
  refine n_bipush C (24 : Int32) (tk T_cX2_init 23 rfl) (by decide) ?_
  refine n_newaI C (N' := 24) ar_I (by decide) rfl (by omega) (by omega) (by omega) (tk T_cX2_init 24 rfl) (fun q5 => ?_)
  refine n_ws (ws2 := [(h0, .inr (2, [.ref (a1 0), .ref (a2 0), .ref (a3 0), .ref (a4 0), .null, .null, .null, .int 0, .int 0]))] ++ W_Screw g a1 ++ W_Knowns g a2 ++ W_Table g a3 ++ W_Shelf g a4 ++ [(q5, .inl (g.2.2.1 0, 24, .inl (fun _ => 0)))]) rfl ?_
  refine n_putF C hm (v := .ref q5) f_RX2_39 tyX2_ok nmX2 rfl rfl (tyX2_ok 4 (by decide)) rfl rfl 0 rfl (Nat.le_of_ble_eq_true rfl) (tk T_cX2_init 25 rfl) ?_
  refine n_ws (ws2 := [(h0, .inr (2, [.ref (a1 0), .ref (a2 0), .ref (a3 0), .ref (a4 0), .ref q5, .null, .null, .int 0, .int 0]))] ++ W_Screw g a1 ++ W_Knowns g a2 ++ W_Table g a3 ++ W_Shelf g a4 ++ [(q5, .inl (g.2.2.1 0, 24, .inl (fun _ => 0)))]) rfl ?_
  refine n_aload_n C (tk T_cX2_init 26 rfl) rfl ?_
  refine n_bipush C (24 : Int32) (tk T_cX2_init 27 rfl) (by decide) ?_
  refine n_newaI C (N' := 24) ar_I (by decide) rfl (by omega) (by omega) (by omega) (tk T_cX2_init 28 rfl) (fun q6 => ?_)
  refine n_ws (ws2 := [(h0, .inr (2, [.ref (a1 0), .ref (a2 0), .ref (a3 0), .ref (a4 0), .ref q5, .null, .null, .int 0, .int 0]))] ++ W_Screw g a1 ++ W_Knowns g a2 ++ W_Table g a3 ++ W_Shelf g a4 ++ [(q5, .inl (g.2.2.1 0, 24, .inl (fun _ => 0))), (q6, .inl (g.2.2.1 0, 24, .inl (fun _ => 0)))]) rfl ?_
  refine n_putF C hm (v := .ref q6) f_RX2_43 tyX2_ok nmX2 rfl rfl (tyX2_ok 5 (by decide)) rfl rfl 0 rfl (Nat.le_of_ble_eq_true rfl) (tk T_cX2_init 29 rfl) ?_
  refine n_ws (ws2 := [(h0, .inr (2, [.ref (a1 0), .ref (a2 0), .ref (a3 0), .ref (a4 0), .ref q5, .ref q6, .null, .int 0, .int 0]))] ++ W_Screw g a1 ++ W_Knowns g a2 ++ W_Table g a3 ++ W_Shelf g a4 ++ [(q5, .inl (g.2.2.1 0, 24, .inl (fun _ => 0))), (q6, .inl (g.2.2.1 0, 24, .inl (fun _ => 0)))]) rfl ?_
  refine n_aload_n C (tk T_cX2_init 30 rfl) rfl ?_
  refine n_bipush C (6 : Int32) (tk T_cX2_init 31 rfl) (by decide) ?_
  refine n_newq C (N' := 6) (g1 225 (by decide +kernel) (by decide +kernel)) (by decide) rfl (by omega) (by omega) (by omega) (tk T_cX2_init 32 rfl) (fun q7 => ?_)
  refine n_ws (ws2 := [(h0, .inr (2, [.ref (a1 0), .ref (a2 0), .ref (a3 0), .ref (a4 0), .ref q5, .ref q6, .null, .int 0, .int 0]))] ++ W_Screw g a1 ++ W_Knowns g a2 ++ W_Table g a3 ++ W_Shelf g a4 ++ [(q5, .inl (g.2.2.1 0, 24, .inl (fun _ => 0))), (q6, .inl (g.2.2.1 0, 24, .inl (fun _ => 0))), (q7, .inl (g.2.2.1 3, 6, .inr (.inr (.inr (.inr (fun _ => none))))))]) rfl ?_
  refine n_putF C hm (v := .ref q7) f_RX2_48 tyX2_ok nmX2 rfl rfl (tyX2_ok 6 (by decide)) rfl rfl 0 rfl (Nat.le_of_ble_eq_true rfl) (tk T_cX2_init 33 rfl) ?_
  refine n_ws (ws2 := [(h0, .inr (2, [.ref (a1 0), .ref (a2 0), .ref (a3 0), .ref (a4 0), .ref q5, .ref q6, .ref q7, .int 0, .int 0]))] ++ W_Screw g a1 ++ W_Knowns g a2 ++ W_Table g a3 ++ W_Shelf g a4 ++ [(q5, .inl (g.2.2.1 0, 24, .inl (fun _ => 0))), (q6, .inl (g.2.2.1 0, 24, .inl (fun _ => 0))), (q7, .inl (g.2.2.1 3, 6, .inr (.inr (.inr (.inr (fun _ => none))))))]) rfl ?_
  exact n_ws (ws2 := W_Desk g (fun k => if k = 0 then h0 else if k < 7 then a1 (k - 1) else if k < 12 then a2 (k - 7) else if k < 17 then a3 (k - 12) else if k < 28 then a4 (k - 17) else if k = 28 then q5 else if k = 29 then q6 else if k = 30 then q7 else 0)) rfl (hR _ _ _ (tk T_cX2_init 34 rfl) rfl)
theorem me_yX5_init : MeB yX5_init cX5_init 2 none 1 := ⟨g1 7 (by decide +kernel) (by decide +kernel), g2 38 (by decide +kernel) (by decide +kernel), by decide +kernel, by decide⟩
theorem mi_yX5_init : Cond.instanceMethod yX5_init ∈ GW := g2 37 (by decide +kernel) (by decide +kernel)
theorem in_RX5 : Cond.instantiable RX5 15 ∈ GW := g2 35 (by decide +kernel) (by decide +kernel)
theorem ii_RX5 : Cond.initialized RX5 ∈ GW := g1 7 (by decide +kernel) (by decide +kernel)
def T_cX5_initL : List (Nat × Instr × Nat) := [(0, .aload_n 0, 1), (1, .invokespecial 3, 3), (4, .aload_n 0, 1), (5, .bipush 10, 2), (7, .newarray .int, 2), (9, .putfield 9, 3), (12, .aload_n 0, 1), (13, .sipush 1710, 3), (16, .newarray .int, 2), (18, .putfield 15, 3), (21, .aload_n 0, 1), (22, .sipush 1710, 3), (25, .newarray .int, 2), (27, .putfield 18, 3), (30, .aload_n 0, 1), (31, .sipush 1087, 3), (34, .newarray .int, 2), (36, .putfield 21, 3), (39, .aload_n 0, 1), (40, .sipush 1087, 3), (43, .newarray .int, 2), (45, .putfield 24, 3), (48, .aload_n 0, 1), (49, .aload_n 1, 1), (50, .putfield 27, 3), (53, .return_, 1)]
theorem T_cX5_init : tabOK cX5_init T_cX5_initL = true := by decide +kernel
def W_Laws (g : GT) (p1 : Nat) (a : Nat → Nat) : va_W := [(a 0, .inr (5, [.ref p1, .ref (a 1), .ref (a 2), .ref (a 3), .ref (a 4), .ref (a 5), .int 0, .int 0, .int 0, .int 0, .int 0, .int 0, .int 0, .int 0, .int 0])), (a 1, .inl (g.2.2.1 0, 10, .inl (fun _ => 0))), (a 2, .inl (g.2.2.1 0, 1710, .inl (fun _ => 0))), (a 3, .inl (g.2.2.1 0, 1710, .inl (fun _ => 0))), (a 4, .inl (g.2.2.1 0, 1087, .inl (fun _ => 0))), (a 5, .inl (g.2.2.1 0, 1087, .inl (fun _ => 0)))]
set_option maxHeartbeats 1000000 in
set_option maxRecDepth 20000 in
theorem cn_Laws {l : Launch} {g : GT} (p1 : Nat) : CN l (g.1, g.2.1) (tys g) yX5_init cX5_init 2 1 5 5604 5 [.null, .null, .null, .null, .null, .null, .int 0, .int 0, .int 0, .int 0, .int 0, .int 0, .int 0, .int 0, .int 0] [.ref p1] (W_Laws g p1) := by
  refine cn_of (plainFor_of_name (by decide +kernel)) rfl (fun h0 => Nat.le_of_ble_eq_true rfl) (fun X A Z h0 hl C hm hR => ?_)
  subst hl
  refine n_aload_n C (tk T_cX5_init 0 rfl) rfl ?_
  refine n_objInit C (g2 39 (by decide +kernel) (by decide +kernel)) oi_in oi_cd (by omega) (by decide) (tk T_cX5_init 1 rfl) ?_
  refine n_aload_n C (tk T_cX5_init 2 rfl) rfl ?_
  refine n_bipush C (10 : Int32) (tk T_cX5_init 3 rfl) (by decide) ?_
  refine n_newaI C (N' := 10) ar_I (by decide) rfl (by omega) (by omega) (by omega) (tk T_cX5_init 4 rfl) (fun q1 => ?_)
  refine n_ws (ws2 := [(h0, .inr (5, [.null, .null, .null, .null, .null, .null, .int 0, .int 0, .int 0, .int 0, .int 0, .int 0, .int 0, .int 0, .int 0])), (q1, .inl (g.2.2.1 0, 10, .inl (fun _ => 0)))]) rfl ?_
  refine n_putF C hm (v := .ref q1) f_RX5_9 tyX5_ok nmX5 rfl rfl (tyX5_ok 1 (by decide)) rfl rfl 0 rfl (Nat.le_of_ble_eq_true rfl) (tk T_cX5_init 5 rfl) ?_
  refine n_ws (ws2 := [(h0, .inr (5, [.null, .ref q1, .null, .null, .null, .null, .int 0, .int 0, .int 0, .int 0, .int 0, .int 0, .int 0, .int 0, .int 0])), (q1, .inl (g.2.2.1 0, 10, .inl (fun _ => 0)))]) rfl ?_
  refine n_aload_n C (tk T_cX5_init 6 rfl) rfl ?_
  refine n_sipush C (1710 : Int32) (tk T_cX5_init 7 rfl) (by decide) ?_
  refine n_newaI C (N' := 1710) ar_I (by decide) rfl (by omega) (by omega) (by omega) (tk T_cX5_init 8 rfl) (fun q2 => ?_)
  refine n_ws (ws2 := [(h0, .inr (5, [.null, .ref q1, .null, .null, .null, .null, .int 0, .int 0, .int 0, .int 0, .int 0, .int 0, .int 0, .int 0, .int 0])), (q1, .inl (g.2.2.1 0, 10, .inl (fun _ => 0))), (q2, .inl (g.2.2.1 0, 1710, .inl (fun _ => 0)))]) rfl ?_
  refine n_putF C hm (v := .ref q2) f_RX5_15 tyX5_ok nmX5 rfl rfl (tyX5_ok 2 (by decide)) rfl rfl 0 rfl (Nat.le_of_ble_eq_true rfl) (tk T_cX5_init 9 rfl) ?_
  refine n_ws (ws2 := [(h0, .inr (5, [.null, .ref q1, .ref q2, .null, .null, .null, .int 0, .int 0, .int 0, .int 0, .int 0, .int 0, .int 0, .int 0, .int 0])), (q1, .inl (g.2.2.1 0, 10, .inl (fun _ => 0))), (q2, .inl (g.2.2.1 0, 1710, .inl (fun _ => 0)))]) rfl ?_
  refine n_aload_n C (tk T_cX5_init 10 rfl) rfl ?_
  refine n_sipush C (1710 : Int32) (tk T_cX5_init 11 rfl) (by decide) ?_
  refine n_newaI C (N' := 1710) ar_I (by decide) rfl (by omega) (by omega) (by omega) (tk T_cX5_init 12 rfl) (fun q3 => ?_)
  refine n_ws (ws2 := [(h0, .inr (5, [.null, .ref q1, .ref q2, .null, .null, .null, .int 0, .int 0, .int 0, .int 0, .int 0, .int 0, .int 0, .int 0, .int 0])), (q1, .inl (g.2.2.1 0, 10, .inl (fun _ => 0))), (q2, .inl (g.2.2.1 0, 1710, .inl (fun _ => 0))), (q3, .inl (g.2.2.1 0, 1710, .inl (fun _ => 0)))]) rfl ?_
  refine n_putF C hm (v := .ref q3) f_RX5_18 tyX5_ok nmX5 rfl rfl (tyX5_ok 3 (by decide)) rfl rfl 0 rfl (Nat.le_of_ble_eq_true rfl) (tk T_cX5_init 13 rfl) ?_
  refine n_ws (ws2 := [(h0, .inr (5, [.null, .ref q1, .ref q2, .ref q3, .null, .null, .int 0, .int 0, .int 0, .int 0, .int 0, .int 0, .int 0, .int 0, .int 0])), (q1, .inl (g.2.2.1 0, 10, .inl (fun _ => 0))), (q2, .inl (g.2.2.1 0, 1710, .inl (fun _ => 0))), (q3, .inl (g.2.2.1 0, 1710, .inl (fun _ => 0)))]) rfl ?_
  refine n_aload_n C (tk T_cX5_init 14 rfl) rfl ?_
  refine n_sipush C (1087 : Int32) (tk T_cX5_init 15 rfl) (by decide) ?_
  refine n_newaI C (N' := 1087) ar_I (by decide) rfl (by omega) (by omega) (by omega) (tk T_cX5_init 16 rfl) (fun q4 => ?_)
  refine n_ws (ws2 := [(h0, .inr (5, [.null, .ref q1, .ref q2, .ref q3, .null, .null, .int 0, .int 0, .int 0, .int 0, .int 0, .int 0, .int 0, .int 0, .int 0])), (q1, .inl (g.2.2.1 0, 10, .inl (fun _ => 0))), (q2, .inl (g.2.2.1 0, 1710, .inl (fun _ => 0))), (q3, .inl (g.2.2.1 0, 1710, .inl (fun _ => 0))), (q4, .inl (g.2.2.1 0, 1087, .inl (fun _ => 0)))]) rfl ?_
  refine n_putF C hm (v := .ref q4) f_RX5_21 tyX5_ok nmX5 rfl rfl (tyX5_ok 4 (by decide)) rfl rfl 0 rfl (Nat.le_of_ble_eq_true rfl) (tk T_cX5_init 17 rfl) ?_
  refine n_ws (ws2 := [(h0, .inr (5, [.null, .ref q1, .ref q2, .ref q3, .ref q4, .null, .int 0, .int 0, .int 0, .int 0, .int 0, .int 0, .int 0, .int 0, .int 0])), (q1, .inl (g.2.2.1 0, 10, .inl (fun _ => 0))), (q2, .inl (g.2.2.1 0, 1710, .inl (fun _ => 0))), (q3, .inl (g.2.2.1 0, 1710, .inl (fun _ => 0))), (q4, .inl (g.2.2.1 0, 1087, .inl (fun _ => 0)))]) rfl ?_
  refine n_aload_n C (tk T_cX5_init 18 rfl) rfl ?_
  refine n_sipush C (1087 : Int32) (tk T_cX5_init 19 rfl) (by decide) ?_
  refine n_newaI C (N' := 1087) ar_I (by decide) rfl (by omega) (by omega) (by omega) (tk T_cX5_init 20 rfl) (fun q5 => ?_)
  refine n_ws (ws2 := [(h0, .inr (5, [.null, .ref q1, .ref q2, .ref q3, .ref q4, .null, .int 0, .int 0, .int 0, .int 0, .int 0, .int 0, .int 0, .int 0, .int 0])), (q1, .inl (g.2.2.1 0, 10, .inl (fun _ => 0))), (q2, .inl (g.2.2.1 0, 1710, .inl (fun _ => 0))), (q3, .inl (g.2.2.1 0, 1710, .inl (fun _ => 0))), (q4, .inl (g.2.2.1 0, 1087, .inl (fun _ => 0))), (q5, .inl (g.2.2.1 0, 1087, .inl (fun _ => 0)))]) rfl ?_
  refine n_putF C hm (v := .ref q5) f_RX5_24 tyX5_ok nmX5 rfl rfl (tyX5_ok 5 (by decide)) rfl rfl 0 rfl (Nat.le_of_ble_eq_true rfl) (tk T_cX5_init 21 rfl) ?_
  refine n_ws (ws2 := [(h0, .inr (5, [.null, .ref q1, .ref q2, .ref q3, .ref q4, .ref q5, .int 0, .int 0, .int 0, .int 0, .int 0, .int 0, .int 0, .int 0, .int 0])), (q1, .inl (g.2.2.1 0, 10, .inl (fun _ => 0))), (q2, .inl (g.2.2.1 0, 1710, .inl (fun _ => 0))), (q3, .inl (g.2.2.1 0, 1710, .inl (fun _ => 0))), (q4, .inl (g.2.2.1 0, 1087, .inl (fun _ => 0))), (q5, .inl (g.2.2.1 0, 1087, .inl (fun _ => 0)))]) rfl ?_
  refine n_aload_n C (tk T_cX5_init 22 rfl) rfl ?_
  refine n_aload_n C (tk T_cX5_init 23 rfl) rfl ?_
  refine n_putF C hm (v := .ref p1) f_RX5_27 tyX5_ok nmX5 rfl rfl (tyX5_ok 0 (by decide)) rfl rfl 0 rfl (Nat.le_of_ble_eq_true rfl) (tk T_cX5_init 24 rfl) ?_
  refine n_ws (ws2 := [(h0, .inr (5, [.ref p1, .ref q1, .ref q2, .ref q3, .ref q4, .ref q5, .int 0, .int 0, .int 0, .int 0, .int 0, .int 0, .int 0, .int 0, .int 0])), (q1, .inl (g.2.2.1 0, 10, .inl (fun _ => 0))), (q2, .inl (g.2.2.1 0, 1710, .inl (fun _ => 0))), (q3, .inl (g.2.2.1 0, 1710, .inl (fun _ => 0))), (q4, .inl (g.2.2.1 0, 1087, .inl (fun _ => 0))), (q5, .inl (g.2.2.1 0, 1087, .inl (fun _ => 0)))]) rfl ?_
  exact n_ws (ws2 := W_Laws g p1 (fun k => if k = 0 then h0 else if k = 1 then q1 else if k = 2 then q2 else if k = 3 then q3 else if k = 4 then q4 else if k = 5 then q5 else 0)) rfl (hR _ _ _ (tk T_cX5_init 25 rfl) rfl)
theorem me_yX3_init : MeB yX3_init cX3_init 3 none 2 := ⟨g1 8 (by decide +kernel) (by decide +kernel), g2 99 (by decide +kernel) (by decide +kernel), by decide +kernel, by decide⟩
theorem mi_yX3_init : Cond.instanceMethod yX3_init ∈ GW := g2 98 (by decide +kernel) (by decide +kernel)
theorem in_RX3 : Cond.instantiable RX3 19 ∈ GW := g2 96 (by decide +kernel) (by decide +kernel)
theorem ii_RX3 : Cond.initialized RX3 ∈ GW := g1 8 (by decide +kernel) (by decide +kernel)
def T_cX3_initL : List (Nat × Instr × Nat) := [(0, .aload_n 0, 1), (1, .invokespecial 3, 3), (4, .aload_n 0, 1), (5, .bipush 24, 2), (7, .newarray .int, 2), (9, .putfield 9, 3), (12, .aload_n 0, 1), (13, .bipush 24, 2), (15, .newarray .int, 2), (17, .putfield 15, 3), (20, .aload_n 0, 1), (21, .bipush 24, 2), (23, .newarray .int, 2), (25, .putfield 18, 3), (28, .aload_n 0, 1), (29, .bipush 6, 2), (31, .newarray .int, 2), (33, .putfield 21, 3), (36, .aload_n 0, 1), (37, .bipush 6, 2), (39, .newarray .int, 2), (41, .putfield 24, 3), (44, .aload_n 0, 1), (45, .bipush 101, 2), (47, .newarray .int, 2), (49, .putfield 27, 3), (52, .aload_n 0, 1), (53, .bipush 101, 2), (55, .newarray .int, 2), (57, .putfield 30, 3), (60, .aload_n 0, 1), (61, .bipush 32, 2), (63, .newarray .int, 2), (65, .putfield 35, 3), (68, .aload_n 0, 1), (69, .aload_n 1, 1), (70, .putfield 38, 3), (73, .aload_n 0, 1), (74, .aload_n 2, 1), (75, .putfield 42, 3), (78, .return_, 1)]
theorem T_cX3_init : tabOK cX3_init T_cX3_initL = true := by decide +kernel
def W_Judge (g : GT) (p1 : Nat) (p2 : Nat) (a : Nat → Nat) : va_W := [(a 0, .inr (3, [.ref p1, .ref p2, .ref (a 1), .ref (a 2), .ref (a 3), .ref (a 4), .ref (a 5), .ref (a 6), .ref (a 7), .ref (a 8), .int 0, .int 0, .int 0, .int 0, .int 0, .int 0, .int 0, .int 0, .int 0])), (a 1, .inl (g.2.2.1 0, 24, .inl (fun _ => 0))), (a 2, .inl (g.2.2.1 0, 24, .inl (fun _ => 0))), (a 3, .inl (g.2.2.1 0, 24, .inl (fun _ => 0))), (a 4, .inl (g.2.2.1 0, 6, .inl (fun _ => 0))), (a 5, .inl (g.2.2.1 0, 6, .inl (fun _ => 0))), (a 6, .inl (g.2.2.1 0, 101, .inl (fun _ => 0))), (a 7, .inl (g.2.2.1 0, 101, .inl (fun _ => 0))), (a 8, .inl (g.2.2.1 0, 32, .inl (fun _ => 0)))]
set_option maxHeartbeats 1000000 in
set_option maxRecDepth 20000 in
theorem cn_Judge {l : Launch} {g : GT} (p1 : Nat) (p2 : Nat) : CN l (g.1, g.2.1) (tys g) yX3_init cX3_init 3 1 8 318 3 [.null, .null, .null, .null, .null, .null, .null, .null, .null, .null, .int 0, .int 0, .int 0, .int 0, .int 0, .int 0, .int 0, .int 0, .int 0] [.ref p1, .ref p2] (W_Judge g p1 p2) := by
  refine cn_of (plainFor_of_name (by decide +kernel)) rfl (fun h0 => Nat.le_of_ble_eq_true rfl) (fun X A Z h0 hl C hm hR => ?_)
  subst hl
  refine n_aload_n C (tk T_cX3_init 0 rfl) rfl ?_
  refine n_objInit C (g2 100 (by decide +kernel) (by decide +kernel)) oi_in oi_cd (by omega) (by decide) (tk T_cX3_init 1 rfl) ?_
  refine n_aload_n C (tk T_cX3_init 2 rfl) rfl ?_
  refine n_bipush C (24 : Int32) (tk T_cX3_init 3 rfl) (by decide) ?_
  refine n_newaI C (N' := 24) ar_I (by decide) rfl (by omega) (by omega) (by omega) (tk T_cX3_init 4 rfl) (fun q1 => ?_)
  refine n_ws (ws2 := [(h0, .inr (3, [.null, .null, .null, .null, .null, .null, .null, .null, .null, .null, .int 0, .int 0, .int 0, .int 0, .int 0, .int 0, .int 0, .int 0, .int 0])), (q1, .inl (g.2.2.1 0, 24, .inl (fun _ => 0)))]) rfl ?_
  refine n_putF C hm (v := .ref q1) f_RX3_9 tyX3_ok nmX3 rfl rfl (tyX3_ok 2 (by decide)) rfl rfl 0 rfl (Nat.le_of_ble_eq_true rfl) (tk T_cX3_init 5 rfl) ?_
  refine n_ws (ws2 := [(h0, .inr (3, [.null, .null, .ref q1, .null, .null, .null, .null, .null, .null, .null, .int 0, .int 0, .int 0, .int 0, .int 0, .int 0, .int 0, .int 0, .int 0])), (q1, .inl (g.2.2.1 0, 24, .inl (fun _ => 0)))]) rfl ?_
  refine n_aload_n C (tk T_cX3_init 6 rfl) rfl ?_
  refine n_bipush C (24 : Int32) (tk T_cX3_init 7 rfl) (by decide) ?_
  refine n_newaI C (N' := 24) ar_I (by decide) rfl (by omega) (by omega) (by omega) (tk T_cX3_init 8 rfl) (fun q2 => ?_)
  refine n_ws (ws2 := [(h0, .inr (3, [.null, .null, .ref q1, .null, .null, .null, .null, .null, .null, .null, .int 0, .int 0, .int 0, .int 0, .int 0, .int 0, .int 0, .int 0, .int 0])), (q1, .inl (g.2.2.1 0, 24, .inl (fun _ => 0))), (q2, .inl (g.2.2.1 0, 24, .inl (fun _ => 0)))]) rfl ?_
  refine n_putF C hm (v := .ref q2) f_RX3_15 tyX3_ok nmX3 rfl rfl (tyX3_ok 3 (by decide)) rfl rfl 0 rfl (Nat.le_of_ble_eq_true rfl) (tk T_cX3_init 9 rfl) ?_
  refine n_ws (ws2 := [(h0, .inr (3, [.null, .null, .ref q1, .ref q2, .null, .null, .null, .null, .null, .null, .int 0, .int 0, .int 0, .int 0, .int 0, .int 0, .int 0, .int 0, .int 0])), (q1, .inl (g.2.2.1 0, 24, .inl (fun _ => 0))), (q2, .inl (g.2.2.1 0, 24, .inl (fun _ => 0)))]) rfl ?_
  refine n_aload_n C (tk T_cX3_init 10 rfl) rfl ?_
  refine n_bipush C (24 : Int32) (tk T_cX3_init 11 rfl) (by decide) ?_
  refine n_newaI C (N' := 24) ar_I (by decide) rfl (by omega) (by omega) (by omega) (tk T_cX3_init 12 rfl) (fun q3 => ?_)
  refine n_ws (ws2 := [(h0, .inr (3, [.null, .null, .ref q1, .ref q2, .null, .null, .null, .null, .null, .null, .int 0, .int 0, .int 0, .int 0, .int 0, .int 0, .int 0, .int 0, .int 0])), (q1, .inl (g.2.2.1 0, 24, .inl (fun _ => 0))), (q2, .inl (g.2.2.1 0, 24, .inl (fun _ => 0))), (q3, .inl (g.2.2.1 0, 24, .inl (fun _ => 0)))]) rfl ?_
  refine n_putF C hm (v := .ref q3) f_RX3_18 tyX3_ok nmX3 rfl rfl (tyX3_ok 4 (by decide)) rfl rfl 0 rfl (Nat.le_of_ble_eq_true rfl) (tk T_cX3_init 13 rfl) ?_
  refine n_ws (ws2 := [(h0, .inr (3, [.null, .null, .ref q1, .ref q2, .ref q3, .null, .null, .null, .null, .null, .int 0, .int 0, .int 0, .int 0, .int 0, .int 0, .int 0, .int 0, .int 0])), (q1, .inl (g.2.2.1 0, 24, .inl (fun _ => 0))), (q2, .inl (g.2.2.1 0, 24, .inl (fun _ => 0))), (q3, .inl (g.2.2.1 0, 24, .inl (fun _ => 0)))]) rfl ?_
  refine n_aload_n C (tk T_cX3_init 14 rfl) rfl ?_
  refine n_bipush C (6 : Int32) (tk T_cX3_init 15 rfl) (by decide) ?_
  refine n_newaI C (N' := 6) ar_I (by decide) rfl (by omega) (by omega) (by omega) (tk T_cX3_init 16 rfl) (fun q4 => ?_)
  refine n_ws (ws2 := [(h0, .inr (3, [.null, .null, .ref q1, .ref q2, .ref q3, .null, .null, .null, .null, .null, .int 0, .int 0, .int 0, .int 0, .int 0, .int 0, .int 0, .int 0, .int 0])), (q1, .inl (g.2.2.1 0, 24, .inl (fun _ => 0))), (q2, .inl (g.2.2.1 0, 24, .inl (fun _ => 0))), (q3, .inl (g.2.2.1 0, 24, .inl (fun _ => 0))), (q4, .inl (g.2.2.1 0, 6, .inl (fun _ => 0)))]) rfl ?_
  refine n_putF C hm (v := .ref q4) f_RX3_21 tyX3_ok nmX3 rfl rfl (tyX3_ok 5 (by decide)) rfl rfl 0 rfl (Nat.le_of_ble_eq_true rfl) (tk T_cX3_init 17 rfl) ?_
  refine n_ws (ws2 := [(h0, .inr (3, [.null, .null, .ref q1, .ref q2, .ref q3, .ref q4, .null, .null, .null, .null, .int 0, .int 0, .int 0, .int 0, .int 0, .int 0, .int 0, .int 0, .int 0])), (q1, .inl (g.2.2.1 0, 24, .inl (fun _ => 0))), (q2, .inl (g.2.2.1 0, 24, .inl (fun _ => 0))), (q3, .inl (g.2.2.1 0, 24, .inl (fun _ => 0))), (q4, .inl (g.2.2.1 0, 6, .inl (fun _ => 0)))]) rfl ?_
  refine n_aload_n C (tk T_cX3_init 18 rfl) rfl ?_
  refine n_bipush C (6 : Int32) (tk T_cX3_init 19 rfl) (by decide) ?_
  refine n_newaI C (N' := 6) ar_I (by decide) rfl (by omega) (by omega) (by omega) (tk T_cX3_init 20 rfl) (fun q5 => ?_)
  refine n_ws (ws2 := [(h0, .inr (3, [.null, .null, .ref q1, .ref q2, .ref q3, .ref q4, .null, .null, .null, .null, .int 0, .int 0, .int 0, .int 0, .int 0, .int 0, .int 0, .int 0, .int 0])), (q1, .inl (g.2.2.1 0, 24, .inl (fun _ => 0))), (q2, .inl (g.2.2.1 0, 24, .inl (fun _ => 0))), (q3, .inl (g.2.2.1 0, 24, .inl (fun _ => 0))), (q4, .inl (g.2.2.1 0, 6, .inl (fun _ => 0))), (q5, .inl (g.2.2.1 0, 6, .inl (fun _ => 0)))]) rfl ?_
  refine n_putF C hm (v := .ref q5) f_RX3_24 tyX3_ok nmX3 rfl rfl (tyX3_ok 6 (by decide)) rfl rfl 0 rfl (Nat.le_of_ble_eq_true rfl) (tk T_cX3_init 21 rfl) ?_
  refine n_ws (ws2 := [(h0, .inr (3, [.null, .null, .ref q1, .ref q2, .ref q3, .ref q4, .ref q5, .null, .null, .null, .int 0, .int 0, .int 0, .int 0, .int 0, .int 0, .int 0, .int 0, .int 0])), (q1, .inl (g.2.2.1 0, 24, .inl (fun _ => 0))), (q2, .inl (g.2.2.1 0, 24, .inl (fun _ => 0))), (q3, .inl (g.2.2.1 0, 24, .inl (fun _ => 0))), (q4, .inl (g.2.2.1 0, 6, .inl (fun _ => 0))), (q5, .inl (g.2.2.1 0, 6, .inl (fun _ => 0)))]) rfl ?_
  refine n_aload_n C (tk T_cX3_init 22 rfl) rfl ?_
  refine n_bipush C (101 : Int32) (tk T_cX3_init 23 rfl) (by decide) ?_
  refine n_newaI C (N' := 101) ar_I (by decide) rfl (by omega) (by omega) (by omega) (tk T_cX3_init 24 rfl) (fun q6 => ?_)
  refine n_ws (ws2 := [(h0, .inr (3, [.null, .null, .ref q1, .ref q2, .ref q3, .ref q4, .ref q5, .null, .null, .null, .int 0, .int 0, .int 0, .int 0, .int 0, .int 0, .int 0, .int 0, .int 0])), (q1, .inl (g.2.2.1 0, 24, .inl (fun _ => 0))), (q2, .inl (g.2.2.1 0, 24, .inl (fun _ => 0))), (q3, .inl (g.2.2.1 0, 24, .inl (fun _ => 0))), (q4, .inl (g.2.2.1 0, 6, .inl (fun _ => 0))), (q5, .inl (g.2.2.1 0, 6, .inl (fun _ => 0))), (q6, .inl (g.2.2.1 0, 101, .inl (fun _ => 0)))]) rfl ?_
  refine n_putF C hm (v := .ref q6) f_RX3_27 tyX3_ok nmX3 rfl rfl (tyX3_ok 7 (by decide)) rfl rfl 0 rfl (Nat.le_of_ble_eq_true rfl) (tk T_cX3_init 25 rfl) ?_
  refine n_ws (ws2 := [(h0, .inr (3, [.null, .null, .ref q1, .ref q2, .ref q3, .ref q4, .ref q5, .ref q6, .null, .null, .int 0, .int 0, .int 0, .int 0, .int 0, .int 0, .int 0, .int 0, .int 0])), (q1, .inl (g.2.2.1 0, 24, .inl (fun _ => 0))), (q2, .inl (g.2.2.1 0, 24, .inl (fun _ => 0))), (q3, .inl (g.2.2.1 0, 24, .inl (fun _ => 0))), (q4, .inl (g.2.2.1 0, 6, .inl (fun _ => 0))), (q5, .inl (g.2.2.1 0, 6, .inl (fun _ => 0))), (q6, .inl (g.2.2.1 0, 101, .inl (fun _ => 0)))]) rfl ?_
  refine n_aload_n C (tk T_cX3_init 26 rfl) rfl ?_
  refine n_bipush C (101 : Int32) (tk T_cX3_init 27 rfl) (by decide) ?_
  refine n_newaI C (N' := 101) ar_I (by decide) rfl (by omega) (by omega) (by omega) (tk T_cX3_init 28 rfl) (fun q7 => ?_)
  refine n_ws (ws2 := [(h0, .inr (3, [.null, .null, .ref q1, .ref q2, .ref q3, .ref q4, .ref q5, .ref q6, .null, .null, .int 0, .int 0, .int 0, .int 0, .int 0, .int 0, .int 0, .int 0, .int 0])), (q1, .inl (g.2.2.1 0, 24, .inl (fun _ => 0))), (q2, .inl (g.2.2.1 0, 24, .inl (fun _ => 0))), (q3, .inl (g.2.2.1 0, 24, .inl (fun _ => 0))), (q4, .inl (g.2.2.1 0, 6, .inl (fun _ => 0))), (q5, .inl (g.2.2.1 0, 6, .inl (fun _ => 0))), (q6, .inl (g.2.2.1 0, 101, .inl (fun _ => 0))), (q7, .inl (g.2.2.1 0, 101, .inl (fun _ => 0)))]) rfl ?_
  refine n_putF C hm (v := .ref q7) f_RX3_30 tyX3_ok nmX3 rfl rfl (tyX3_ok 8 (by decide)) rfl rfl 0 rfl (Nat.le_of_ble_eq_true rfl) (tk T_cX3_init 29 rfl) ?_
  refine n_ws (ws2 := [(h0, .inr (3, [.null, .null, .ref q1, .ref q2, .ref q3, .ref q4, .ref q5, .ref q6, .ref q7, .null, .int 0, .int 0, .int 0, .int 0, .int 0, .int 0, .int 0, .int 0, .int 0])), (q1, .inl (g.2.2.1 0, 24, .inl (fun _ => 0))), (q2, .inl (g.2.2.1 0, 24, .inl (fun _ => 0))), (q3, .inl (g.2.2.1 0, 24, .inl (fun _ => 0))), (q4, .inl (g.2.2.1 0, 6, .inl (fun _ => 0))), (q5, .inl (g.2.2.1 0, 6, .inl (fun _ => 0))), (q6, .inl (g.2.2.1 0, 101, .inl (fun _ => 0))), (q7, .inl (g.2.2.1 0, 101, .inl (fun _ => 0)))]) rfl ?_
  refine n_aload_n C (tk T_cX3_init 30 rfl) rfl ?_
  refine n_bipush C (32 : Int32) (tk T_cX3_init 31 rfl) (by decide) ?_
  refine n_newaI C (N' := 32) ar_I (by decide) rfl (by omega) (by omega) (by omega) (tk T_cX3_init 32 rfl) (fun q8 => ?_)
  refine n_ws (ws2 := [(h0, .inr (3, [.null, .null, .ref q1, .ref q2, .ref q3, .ref q4, .ref q5, .ref q6, .ref q7, .null, .int 0, .int 0, .int 0, .int 0, .int 0, .int 0, .int 0, .int 0, .int 0])), (q1, .inl (g.2.2.1 0, 24, .inl (fun _ => 0))), (q2, .inl (g.2.2.1 0, 24, .inl (fun _ => 0))), (q3, .inl (g.2.2.1 0, 24, .inl (fun _ => 0))), (q4, .inl (g.2.2.1 0, 6, .inl (fun _ => 0))), (q5, .inl (g.2.2.1 0, 6, .inl (fun _ => 0))), (q6, .inl (g.2.2.1 0, 101, .inl (fun _ => 0))), (q7, .inl (g.2.2.1 0, 101, .inl (fun _ => 0))), (q8, .inl (g.2.2.1 0, 32, .inl (fun _ => 0)))]) rfl ?_
  refine n_putF C hm (v := .ref q8) f_RX3_35 tyX3_ok nmX3 rfl rfl (tyX3_ok 9 (by decide)) rfl rfl 0 rfl (Nat.le_of_ble_eq_true rfl) (tk T_cX3_init 33 rfl) ?_
  refine n_ws (ws2 := [(h0, .inr (3, [.null, .null, .ref q1, .ref q2, .ref q3, .ref q4, .ref q5, .ref q6, .ref q7, .ref q8, .int 0, .int 0, .int 0, .int 0, .int 0, .int 0, .int 0, .int 0, .int 0])), (q1, .inl (g.2.2.1 0, 24, .inl (fun _ => 0))), (q2, .inl (g.2.2.1 0, 24, .inl (fun _ => 0))), (q3, .inl (g.2.2.1 0, 24, .inl (fun _ => 0))), (q4, .inl (g.2.2.1 0, 6, .inl (fun _ => 0))), (q5, .inl (g.2.2.1 0, 6, .inl (fun _ => 0))), (q6, .inl (g.2.2.1 0, 101, .inl (fun _ => 0))), (q7, .inl (g.2.2.1 0, 101, .inl (fun _ => 0))), (q8, .inl (g.2.2.1 0, 32, .inl (fun _ => 0)))]) rfl ?_
  refine n_aload_n C (tk T_cX3_init 34 rfl) rfl ?_
  refine n_aload_n C (tk T_cX3_init 35 rfl) rfl ?_
  refine n_putF C hm (v := .ref p1) f_RX3_38 tyX3_ok nmX3 rfl rfl (tyX3_ok 0 (by decide)) rfl rfl 0 rfl (Nat.le_of_ble_eq_true rfl) (tk T_cX3_init 36 rfl) ?_
  refine n_ws (ws2 := [(h0, .inr (3, [.ref p1, .null, .ref q1, .ref q2, .ref q3, .ref q4, .ref q5, .ref q6, .ref q7, .ref q8, .int 0, .int 0, .int 0, .int 0, .int 0, .int 0, .int 0, .int 0, .int 0])), (q1, .inl (g.2.2.1 0, 24, .inl (fun _ => 0))), (q2, .inl (g.2.2.1 0, 24, .inl (fun _ => 0))), (q3, .inl (g.2.2.1 0, 24, .inl (fun _ => 0))), (q4, .inl (g.2.2.1 0, 6, .inl (fun _ => 0))), (q5, .inl (g.2.2.1 0, 6, .inl (fun _ => 0))), (q6, .inl (g.2.2.1 0, 101, .inl (fun _ => 0))), (q7, .inl (g.2.2.1 0, 101, .inl (fun _ => 0))), (q8, .inl (g.2.2.1 0, 32, .inl (fun _ => 0)))]) rfl ?_
  refine n_aload_n C (tk T_cX3_init 37 rfl) rfl ?_
  refine n_aload_n C (tk T_cX3_init 38 rfl) rfl ?_
  refine n_putF C hm (v := .ref p2) f_RX3_42 tyX3_ok nmX3 rfl rfl (tyX3_ok 1 (by decide)) rfl rfl 0 rfl (Nat.le_of_ble_eq_true rfl) (tk T_cX3_init 39 rfl) ?_
  refine n_ws (ws2 := [(h0, .inr (3, [.ref p1, .ref p2, .ref q1, .ref q2, .ref q3, .ref q4, .ref q5, .ref q6, .ref q7, .ref q8, .int 0, .int 0, .int 0, .int 0, .int 0, .int 0, .int 0, .int 0, .int 0])), (q1, .inl (g.2.2.1 0, 24, .inl (fun _ => 0))), (q2, .inl (g.2.2.1 0, 24, .inl (fun _ => 0))), (q3, .inl (g.2.2.1 0, 24, .inl (fun _ => 0))), (q4, .inl (g.2.2.1 0, 6, .inl (fun _ => 0))), (q5, .inl (g.2.2.1 0, 6, .inl (fun _ => 0))), (q6, .inl (g.2.2.1 0, 101, .inl (fun _ => 0))), (q7, .inl (g.2.2.1 0, 101, .inl (fun _ => 0))), (q8, .inl (g.2.2.1 0, 32, .inl (fun _ => 0)))]) rfl ?_
  exact n_ws (ws2 := W_Judge g p1 p2 (fun k => if k = 0 then h0 else if k = 1 then q1 else if k = 2 then q2 else if k = 3 then q3 else if k = 4 then q4 else if k = 5 then q5 else if k = 6 then q6 else if k = 7 then q7 else if k = 8 then q8 else 0)) rfl (hR _ _ _ (tk T_cX3_init 40 rfl) rfl)
theorem me_yX0_init : MeB yX0_init cX0_init 3 none 2 := ⟨g1 9 (by decide +kernel) (by decide +kernel), g2 178 (by decide +kernel) (by decide +kernel), by decide +kernel, by decide⟩
theorem mi_yX0_init : Cond.instanceMethod yX0_init ∈ GW := g2 177 (by decide +kernel) (by decide +kernel)
theorem in_RX0 : Cond.instantiable RX0 5 ∈ GW := g2 175 (by decide +kernel) (by decide +kernel)
theorem ii_RX0 : Cond.initialized RX0 ∈ GW := g1 9 (by decide +kernel) (by decide +kernel)
def T_cX0_initL : List (Nat × Instr × Nat) := [(0, .aload_n 0, 1), (1, .invokespecial 3, 3), (4, .aload_n 0, 1), (5, .bipush 6, 2), (7, .newarray .int, 2), (9, .putfield 9, 3), (12, .aload_n 0, 1), (13, .aload_n 1, 1), (14, .putfield 15, 3), (17, .aload_n 0, 1), (18, .aload_n 2, 1), (19, .putfield 19, 3), (22, .return_, 1)]
theorem T_cX0_init : tabOK cX0_init T_cX0_initL = true := by decide +kernel
def W_Bells (g : GT) (p1 : Nat) (p2 : Nat) (a : Nat → Nat) : va_W := [(a 0, .inr (0, [.ref p1, .ref p2, .ref (a 1), .int 0, .int 0])), (a 1, .inl (g.2.2.1 0, 6, .inl (fun _ => 0)))]
set_option maxHeartbeats 1000000 in
set_option maxRecDepth 20000 in
theorem cn_Bells {l : Launch} {g : GT} (p1 : Nat) (p2 : Nat) : CN l (g.1, g.2.1) (tys g) yX0_init cX0_init 3 1 1 6 0 [.null, .null, .null, .int 0, .int 0] [.ref p1, .ref p2] (W_Bells g p1 p2) := by
  refine cn_of (plainFor_of_name (by decide +kernel)) rfl (fun h0 => Nat.le_of_ble_eq_true rfl) (fun X A Z h0 hl C hm hR => ?_)
  subst hl
  refine n_aload_n C (tk T_cX0_init 0 rfl) rfl ?_
  refine n_objInit C (g2 179 (by decide +kernel) (by decide +kernel)) oi_in oi_cd (by omega) (by decide) (tk T_cX0_init 1 rfl) ?_
  refine n_aload_n C (tk T_cX0_init 2 rfl) rfl ?_
  refine n_bipush C (6 : Int32) (tk T_cX0_init 3 rfl) (by decide) ?_
  refine n_newaI C (N' := 6) ar_I (by decide) rfl (by omega) (by omega) (by omega) (tk T_cX0_init 4 rfl) (fun q1 => ?_)
  refine n_ws (ws2 := [(h0, .inr (0, [.null, .null, .null, .int 0, .int 0])), (q1, .inl (g.2.2.1 0, 6, .inl (fun _ => 0)))]) rfl ?_
  refine n_putF C hm (v := .ref q1) f_RX0_9 tyX0_ok nmX0 rfl rfl (tyX0_ok 2 (by decide)) rfl rfl 0 rfl (Nat.le_of_ble_eq_true rfl) (tk T_cX0_init 5 rfl) ?_
  refine n_ws (ws2 := [(h0, .inr (0, [.null, .null, .ref q1, .int 0, .int 0])), (q1, .inl (g.2.2.1 0, 6, .inl (fun _ => 0)))]) rfl ?_
  refine n_aload_n C (tk T_cX0_init 6 rfl) rfl ?_
  refine n_aload_n C (tk T_cX0_init 7 rfl) rfl ?_
  refine n_putF C hm (v := .ref p1) f_RX0_15 tyX0_ok nmX0 rfl rfl (tyX0_ok 0 (by decide)) rfl rfl 0 rfl (Nat.le_of_ble_eq_true rfl) (tk T_cX0_init 8 rfl) ?_
  refine n_ws (ws2 := [(h0, .inr (0, [.ref p1, .null, .ref q1, .int 0, .int 0])), (q1, .inl (g.2.2.1 0, 6, .inl (fun _ => 0)))]) rfl ?_
  refine n_aload_n C (tk T_cX0_init 9 rfl) rfl ?_
  refine n_aload_n C (tk T_cX0_init 10 rfl) rfl ?_
  refine n_putF C hm (v := .ref p2) f_RX0_19 tyX0_ok nmX0 rfl rfl (tyX0_ok 1 (by decide)) rfl rfl 0 rfl (Nat.le_of_ble_eq_true rfl) (tk T_cX0_init 11 rfl) ?_
  refine n_ws (ws2 := [(h0, .inr (0, [.ref p1, .ref p2, .ref q1, .int 0, .int 0])), (q1, .inl (g.2.2.1 0, 6, .inl (fun _ => 0)))]) rfl ?_
  exact n_ws (ws2 := W_Bells g p1 p2 (fun k => if k = 0 then h0 else if k = 1 then q1 else 0)) rfl (hR _ _ _ (tk T_cX0_init 12 rfl) rfl)
theorem me_yX7_init : MeB yX7_init cX7_init 3 none 2 := ⟨g1 10 (by decide +kernel) (by decide +kernel), g2 202 (by decide +kernel) (by decide +kernel), by decide +kernel, by decide⟩
theorem mi_yX7_init : Cond.instanceMethod yX7_init ∈ GW := g2 201 (by decide +kernel) (by decide +kernel)
theorem in_RX7 : Cond.instantiable RX7 8 ∈ GW := g2 199 (by decide +kernel) (by decide +kernel)
theorem ii_RX7 : Cond.initialized RX7 ∈ GW := g1 10 (by decide +kernel) (by decide +kernel)
def T_cX7_initL : List (Nat × Instr × Nat) := [(0, .aload_n 0, 1), (1, .invokespecial 3, 3), (4, .aload_n 0, 1), (5, .bipush 10, 2), (7, .newarray .int, 2), (9, .putfield 11, 3), (12, .aload_n 0, 1), (13, .bipush 10, 2), (15, .newarray .int, 2), (17, .putfield 15, 3), (20, .aload_n 0, 1), (21, .sipush 1024, 3), (24, .newarray .byte, 2), (26, .putfield 18, 3), (29, .aload_n 0, 1), (30, .aload_n 1, 1), (31, .putfield 22, 3), (34, .aload_n 0, 1), (35, .aload_n 2, 1), (36, .putfield 26, 3), (39, .return_, 1)]
theorem T_cX7_init : tabOK cX7_init T_cX7_initL = true := by decide +kernel
def W_Rows (g : GT) (p1 : Nat) (p2 : Nat) (a : Nat → Nat) : va_W := [(a 0, .inr (7, [.ref p1, .ref p2, .ref (a 1), .ref (a 2), .ref (a 3), .int 0, .int 0, .int 0])), (a 1, .inl (g.2.2.1 0, 10, .inl (fun _ => 0))), (a 2, .inl (g.2.2.1 0, 10, .inl (fun _ => 0))), (a 3, .inl (g.2.2.1 1, 1024, .inl (fun _ => 0)))]
set_option maxHeartbeats 1000000 in
set_option maxRecDepth 20000 in
theorem cn_Rows {l : Launch} {g : GT} (p1 : Nat) (p2 : Nat) : CN l (g.1, g.2.1) (tys g) yX7_init cX7_init 3 1 3 1044 7 [.null, .null, .null, .null, .null, .int 0, .int 0, .int 0] [.ref p1, .ref p2] (W_Rows g p1 p2) := by
  refine cn_of (plainFor_of_name (by decide +kernel)) rfl (fun h0 => Nat.le_of_ble_eq_true rfl) (fun X A Z h0 hl C hm hR => ?_)
  subst hl
  refine n_aload_n C (tk T_cX7_init 0 rfl) rfl ?_
  refine n_objInit C (g2 203 (by decide +kernel) (by decide +kernel)) oi_in oi_cd (by omega) (by decide) (tk T_cX7_init 1 rfl) ?_
  refine n_aload_n C (tk T_cX7_init 2 rfl) rfl ?_
  refine n_bipush C (10 : Int32) (tk T_cX7_init 3 rfl) (by decide) ?_
  refine n_newaI C (N' := 10) ar_I (by decide) rfl (by omega) (by omega) (by omega) (tk T_cX7_init 4 rfl) (fun q1 => ?_)
  refine n_ws (ws2 := [(h0, .inr (7, [.null, .null, .null, .null, .null, .int 0, .int 0, .int 0])), (q1, .inl (g.2.2.1 0, 10, .inl (fun _ => 0)))]) rfl ?_
  refine n_putF C hm (v := .ref q1) f_RX7_11 tyX7_ok nmX7 rfl rfl (tyX7_ok 2 (by decide)) rfl rfl 0 rfl (Nat.le_of_ble_eq_true rfl) (tk T_cX7_init 5 rfl) ?_
  refine n_ws (ws2 := [(h0, .inr (7, [.null, .null, .ref q1, .null, .null, .int 0, .int 0, .int 0])), (q1, .inl (g.2.2.1 0, 10, .inl (fun _ => 0)))]) rfl ?_
  refine n_aload_n C (tk T_cX7_init 6 rfl) rfl ?_
  refine n_bipush C (10 : Int32) (tk T_cX7_init 7 rfl) (by decide) ?_
  refine n_newaI C (N' := 10) ar_I (by decide) rfl (by omega) (by omega) (by omega) (tk T_cX7_init 8 rfl) (fun q2 => ?_)
  refine n_ws (ws2 := [(h0, .inr (7, [.null, .null, .ref q1, .null, .null, .int 0, .int 0, .int 0])), (q1, .inl (g.2.2.1 0, 10, .inl (fun _ => 0))), (q2, .inl (g.2.2.1 0, 10, .inl (fun _ => 0)))]) rfl ?_
  refine n_putF C hm (v := .ref q2) f_RX7_15 tyX7_ok nmX7 rfl rfl (tyX7_ok 3 (by decide)) rfl rfl 0 rfl (Nat.le_of_ble_eq_true rfl) (tk T_cX7_init 9 rfl) ?_
  refine n_ws (ws2 := [(h0, .inr (7, [.null, .null, .ref q1, .ref q2, .null, .int 0, .int 0, .int 0])), (q1, .inl (g.2.2.1 0, 10, .inl (fun _ => 0))), (q2, .inl (g.2.2.1 0, 10, .inl (fun _ => 0)))]) rfl ?_
  refine n_aload_n C (tk T_cX7_init 10 rfl) rfl ?_
  refine n_sipush C (1024 : Int32) (tk T_cX7_init 11 rfl) (by decide) ?_
  refine n_newaB C (N' := 1024) ar_B (by decide) rfl (by omega) (by omega) (by omega) (tk T_cX7_init 12 rfl) (fun q3 => ?_)
  refine n_ws (ws2 := [(h0, .inr (7, [.null, .null, .ref q1, .ref q2, .null, .int 0, .int 0, .int 0])), (q1, .inl (g.2.2.1 0, 10, .inl (fun _ => 0))), (q2, .inl (g.2.2.1 0, 10, .inl (fun _ => 0))), (q3, .inl (g.2.2.1 1, 1024, .inl (fun _ => 0)))]) rfl ?_
  refine n_putF C hm (v := .ref q3) f_RX7_18 tyX7_ok nmX7 rfl rfl (tyX7_ok 4 (by decide)) rfl rfl 0 rfl (Nat.le_of_ble_eq_true rfl) (tk T_cX7_init 13 rfl) ?_
  refine n_ws (ws2 := [(h0, .inr (7, [.null, .null, .ref q1, .ref q2, .ref q3, .int 0, .int 0, .int 0])), (q1, .inl (g.2.2.1 0, 10, .inl (fun _ => 0))), (q2, .inl (g.2.2.1 0, 10, .inl (fun _ => 0))), (q3, .inl (g.2.2.1 1, 1024, .inl (fun _ => 0)))]) rfl ?_
  refine n_aload_n C (tk T_cX7_init 14 rfl) rfl ?_
  refine n_aload_n C (tk T_cX7_init 15 rfl) rfl ?_
  refine n_putF C hm (v := .ref p1) f_RX7_22 tyX7_ok nmX7 rfl rfl (tyX7_ok 0 (by decide)) rfl rfl 0 rfl (Nat.le_of_ble_eq_true rfl) (tk T_cX7_init 16 rfl) ?_
  refine n_ws (ws2 := [(h0, .inr (7, [.ref p1, .null, .ref q1, .ref q2, .ref q3, .int 0, .int 0, .int 0])), (q1, .inl (g.2.2.1 0, 10, .inl (fun _ => 0))), (q2, .inl (g.2.2.1 0, 10, .inl (fun _ => 0))), (q3, .inl (g.2.2.1 1, 1024, .inl (fun _ => 0)))]) rfl ?_
  refine n_aload_n C (tk T_cX7_init 17 rfl) rfl ?_
  refine n_aload_n C (tk T_cX7_init 18 rfl) rfl ?_
  refine n_putF C hm (v := .ref p2) f_RX7_26 tyX7_ok nmX7 rfl rfl (tyX7_ok 1 (by decide)) rfl rfl 0 rfl (Nat.le_of_ble_eq_true rfl) (tk T_cX7_init 19 rfl) ?_
  refine n_ws (ws2 := [(h0, .inr (7, [.ref p1, .ref p2, .ref q1, .ref q2, .ref q3, .int 0, .int 0, .int 0])), (q1, .inl (g.2.2.1 0, 10, .inl (fun _ => 0))), (q2, .inl (g.2.2.1 0, 10, .inl (fun _ => 0))), (q3, .inl (g.2.2.1 1, 1024, .inl (fun _ => 0)))]) rfl ?_
  exact n_ws (ws2 := W_Rows g p1 p2 (fun k => if k = 0 then h0 else if k = 1 then q1 else if k = 2 then q2 else if k = 3 then q3 else 0)) rfl (hR _ _ _ (tk T_cX7_init 20 rfl) rfl)
theorem me_yX6_init : MeB yX6_init cX6_init 1 none 0 := ⟨g1 11 (by decide +kernel) (by decide +kernel), g2 236 (by decide +kernel) (by decide +kernel), by decide +kernel, by decide⟩
theorem mi_yX6_init : Cond.instanceMethod yX6_init ∈ GW := g2 235 (by decide +kernel) (by decide +kernel)
theorem in_RX6 : Cond.instantiable RX6 9 ∈ GW := g2 233 (by decide +kernel) (by decide +kernel)
theorem ii_RX6 : Cond.initialized RX6 ∈ GW := g1 11 (by decide +kernel) (by decide +kernel)
def T_cX6_initL : List (Nat × Instr × Nat) := [(0, .aload_n 0, 1), (1, .invokespecial 3, 3), (4, .aload_n 0, 1), (5, .sipush 400, 3), (8, .newarray .byte, 2), (10, .putfield 9, 3), (13, .aload_n 0, 1), (14, .sipush 401, 3), (17, .newarray .int, 2), (19, .putfield 15, 3), (22, .aload_n 0, 1), (23, .sipush 401, 3), (26, .newarray .int, 2), (28, .putfield 19, 3), (31, .aload_n 0, 1), (32, .sipush 400, 3), (35, .newarray .int, 2), (37, .putfield 22, 3), (40, .aload_n 0, 1), (41, .iconst (-1), 1), (42, .putfield 25, 3), (45, .return_, 1)]
theorem T_cX6_init : tabOK cX6_init T_cX6_initL = true := by decide +kernel
def W_Reader (g : GT) (a : Nat → Nat) : va_W := [(a 0, .inr (6, [.ref (a 1), .ref (a 2), .ref (a 3), .ref (a 4), .int 0, .int 0, .int 0, .int 0, .int (-1)])), (a 1, .inl (g.2.2.1 1, 400, .inl (fun _ => 0))), (a 2, .inl (g.2.2.1 0, 401, .inl (fun _ => 0))), (a 3, .inl (g.2.2.1 0, 401, .inl (fun _ => 0))), (a 4, .inl (g.2.2.1 0, 400, .inl (fun _ => 0)))]
set_option maxHeartbeats 1000000 in
set_option maxRecDepth 20000 in
theorem cn_Reader {l : Launch} {g : GT} : CN l (g.1, g.2.1) (tys g) yX6_init cX6_init 1 1 4 1602 6 [.null, .null, .null, .null, .int 0, .int 0, .int 0, .int 0, .int 0] [] (W_Reader g) := by
  refine cn_of (plainFor_of_name (by decide +kernel)) rfl (fun h0 => Nat.le_of_ble_eq_true rfl) (fun X A Z h0 hl C hm hR => ?_)
  subst hl
  refine n_aload_n C (tk T_cX6_init 0 rfl) rfl ?_
  refine n_objInit C (g2 237 (by decide +kernel) (by decide +kernel)) oi_in oi_cd (by omega) (by decide) (tk T_cX6_init 1 rfl) ?_
  refine n_aload_n C (tk T_cX6_init 2 rfl) rfl ?_
  refine n_sipush C (400 : Int32) (tk T_cX6_init 3 rfl) (by decide) ?_
  refine n_newaB C (N' := 400) ar_B (by decide) rfl (by omega) (by omega) (by omega) (tk T_cX6_init 4 rfl) (fun q1 => ?_)
  refine n_ws (ws2 := [(h0, .inr (6, [.null, .null, .null, .null, .int 0, .int 0, .int 0, .int 0, .int 0])), (q1, .inl (g.2.2.1 1, 400, .inl (fun _ => 0)))]) rfl ?_
  refine n_putF C hm (v := .ref q1) f_RX6_9 tyX6_ok nmX6 rfl rfl (tyX6_ok 0 (by decide)) rfl rfl 0 rfl (Nat.le_of_ble_eq_true rfl) (tk T_cX6_init 5 rfl) ?_
  refine n_ws (ws2 := [(h0, .inr (6, [.ref q1, .null, .null, .null, .int 0, .int 0, .int 0, .int 0, .int 0])), (q1, .inl (g.2.2.1 1, 400, .inl (fun _ => 0)))]) rfl ?_
  refine n_aload_n C (tk T_cX6_init 6 rfl) rfl ?_
  refine n_sipush C (401 : Int32) (tk T_cX6_init 7 rfl) (by decide) ?_
  refine n_newaI C (N' := 401) ar_I (by decide) rfl (by omega) (by omega) (by omega) (tk T_cX6_init 8 rfl) (fun q2 => ?_)
  refine n_ws (ws2 := [(h0, .inr (6, [.ref q1, .null, .null, .null, .int 0, .int 0, .int 0, .int 0, .int 0])), (q1, .inl (g.2.2.1 1, 400, .inl (fun _ => 0))), (q2, .inl (g.2.2.1 0, 401, .inl (fun _ => 0)))]) rfl ?_
  refine n_putF C hm (v := .ref q2) f_RX6_15 tyX6_ok nmX6 rfl rfl (tyX6_ok 1 (by decide)) rfl rfl 0 rfl (Nat.le_of_ble_eq_true rfl) (tk T_cX6_init 9 rfl) ?_
  refine n_ws (ws2 := [(h0, .inr (6, [.ref q1, .ref q2, .null, .null, .int 0, .int 0, .int 0, .int 0, .int 0])), (q1, .inl (g.2.2.1 1, 400, .inl (fun _ => 0))), (q2, .inl (g.2.2.1 0, 401, .inl (fun _ => 0)))]) rfl ?_
  refine n_aload_n C (tk T_cX6_init 10 rfl) rfl ?_
  refine n_sipush C (401 : Int32) (tk T_cX6_init 11 rfl) (by decide) ?_
  refine n_newaI C (N' := 401) ar_I (by decide) rfl (by omega) (by omega) (by omega) (tk T_cX6_init 12 rfl) (fun q3 => ?_)
  refine n_ws (ws2 := [(h0, .inr (6, [.ref q1, .ref q2, .null, .null, .int 0, .int 0, .int 0, .int 0, .int 0])), (q1, .inl (g.2.2.1 1, 400, .inl (fun _ => 0))), (q2, .inl (g.2.2.1 0, 401, .inl (fun _ => 0))), (q3, .inl (g.2.2.1 0, 401, .inl (fun _ => 0)))]) rfl ?_
  refine n_putF C hm (v := .ref q3) f_RX6_19 tyX6_ok nmX6 rfl rfl (tyX6_ok 2 (by decide)) rfl rfl 0 rfl (Nat.le_of_ble_eq_true rfl) (tk T_cX6_init 13 rfl) ?_
  refine n_ws (ws2 := [(h0, .inr (6, [.ref q1, .ref q2, .ref q3, .null, .int 0, .int 0, .int 0, .int 0, .int 0])), (q1, .inl (g.2.2.1 1, 400, .inl (fun _ => 0))), (q2, .inl (g.2.2.1 0, 401, .inl (fun _ => 0))), (q3, .inl (g.2.2.1 0, 401, .inl (fun _ => 0)))]) rfl ?_
  refine n_aload_n C (tk T_cX6_init 14 rfl) rfl ?_
  refine n_sipush C (400 : Int32) (tk T_cX6_init 15 rfl) (by decide) ?_
  refine n_newaI C (N' := 400) ar_I (by decide) rfl (by omega) (by omega) (by omega) (tk T_cX6_init 16 rfl) (fun q4 => ?_)
  refine n_ws (ws2 := [(h0, .inr (6, [.ref q1, .ref q2, .ref q3, .null, .int 0, .int 0, .int 0, .int 0, .int 0])), (q1, .inl (g.2.2.1 1, 400, .inl (fun _ => 0))), (q2, .inl (g.2.2.1 0, 401, .inl (fun _ => 0))), (q3, .inl (g.2.2.1 0, 401, .inl (fun _ => 0))), (q4, .inl (g.2.2.1 0, 400, .inl (fun _ => 0)))]) rfl ?_
  refine n_putF C hm (v := .ref q4) f_RX6_22 tyX6_ok nmX6 rfl rfl (tyX6_ok 3 (by decide)) rfl rfl 0 rfl (Nat.le_of_ble_eq_true rfl) (tk T_cX6_init 17 rfl) ?_
  refine n_ws (ws2 := [(h0, .inr (6, [.ref q1, .ref q2, .ref q3, .ref q4, .int 0, .int 0, .int 0, .int 0, .int 0])), (q1, .inl (g.2.2.1 1, 400, .inl (fun _ => 0))), (q2, .inl (g.2.2.1 0, 401, .inl (fun _ => 0))), (q3, .inl (g.2.2.1 0, 401, .inl (fun _ => 0))), (q4, .inl (g.2.2.1 0, 400, .inl (fun _ => 0)))]) rfl ?_
  refine n_aload_n C (tk T_cX6_init 18 rfl) rfl ?_
  refine n_iconst C (-1 : Int32) (tk T_cX6_init 19 rfl) (by decide) ?_
  refine n_put C (v := .int (-1)) f_RX6_25 f_RX6_25p rfl rfl 0 rfl (Nat.le_of_ble_eq_true rfl) (tk T_cX6_init 20 rfl) ?_
  refine n_ws (ws2 := [(h0, .inr (6, [.ref q1, .ref q2, .ref q3, .ref q4, .int 0, .int 0, .int 0, .int 0, .int (-1)])), (q1, .inl (g.2.2.1 1, 400, .inl (fun _ => 0))), (q2, .inl (g.2.2.1 0, 401, .inl (fun _ => 0))), (q3, .inl (g.2.2.1 0, 401, .inl (fun _ => 0))), (q4, .inl (g.2.2.1 0, 400, .inl (fun _ => 0)))]) rfl ?_
  exact n_ws (ws2 := W_Reader g (fun k => if k = 0 then h0 else if k = 1 then q1 else if k = 2 then q2 else if k = 3 then q3 else if k = 4 then q4 else 0)) rfl (hR _ _ _ (tk T_cX6_init 21 rfl) rfl)
