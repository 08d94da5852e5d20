/-! THE LAW FROM ITS START -/
def Mc0 : Mem := ms (ms (ms (ms (ms (fun _ _ => 0) 2 6 10) 33 6 10) 8 5 2) 39 5 2) 84 8 (-1)
def Mm0 : Mem := fun k => if k = 1 then upd (upd (fun _ => 0) 0 10) 4 2 else if k = 0 then upd (fun _ => 0) 24 (-1) else fun _ => 0
theorem wl_M0 (g : GT) (a : Nat → Nat) : W_Model g a = wl (gA g a) layM Mm0 := by
  unfold wl
  rw [List.mapIdx_eq_zipIdx_map]
  rfl
theorem wl_C0 (g : GT) (a : Nat → Nat) : W_RP g a = wl (gA g a) layC Mc0 := by
  unfold wl
  rw [List.mapIdx_eq_zipIdx_map]
  rfl
theorem dk0 : Dk 1 Mc0 (Mm0 1) := by
  unfold Dk
  decide +kernel
theorem wi0 : WInv (Mm0 1) := by
  refine wi_of ⟨?_, by decide +kernel⟩
  unfold rg
  decide +kernel
def ckL (k : Nat) (d : CD) : Bool := d.2.2.all (fun o => match o with | some j => decide (j < 89) | none => true) && (!(d.1 == 3) || ((k == 31 || k == 62) && d.2.1 == 6))
theorem ly0 : LyOK [] := by
  intro k d h
  rw [List.append_nil] at h
  have h1 : ∀ k, k < 89 → (match layC[k]? with | some d => ckL k d | none => true) = true := by decide +kernel
  have h2 := h1 k (List.getElem?_eq_some_iff.mp h).1
  rw [h] at h2
  obtain ⟨h3, h4⟩ := Bool.and_eq_true_iff.mp h2
  refine ⟨fun j hj => ?_, fun e => ?_⟩
  · have h5 := List.all_eq_true.mp h3 _ hj
    exact of_decide_eq_true h5
  · rw [e] at h4
    simp only [beq_self_eq_true, Bool.not_true, Bool.false_or, Bool.and_eq_true, Bool.or_eq_true, beq_iff_eq] at h4
    exact h4
theorem ji0 : JI [] Mc0 Mm0 := by
  refine ⟨dk0, wi0, Or.inl (by decide +kernel), ⟨0, by omega, by decide +kernel, by decide +kernel⟩, funext fun i => rfl, by decide +kernel, by decide +kernel, fun e => absurd (by decide +kernel) e, fun i hi => ?_, fun k _ => Or.inl rfl, fun k _ => Or.inl rfl, ly0⟩
  have : nn (Mm0 1 10) = 0 := by decide +kernel
  omega
theorem wRL_8 : Cond.classLink RL 8 RX11 ∈ GW := List.mem_filter.mpr ⟨by decide +kernel, by decide +kernel⟩
theorem wRL_147 : Cond.classLink RL 147 RX12 ∈ GW := List.mem_filter.mpr ⟨by decide +kernel, by decide +kernel⟩
theorem wRL_146 : Cond.methodLink RL 146 yX11_init ∈ GW := List.mem_filter.mpr ⟨by decide +kernel, by decide +kernel⟩
theorem wRL_149 : Cond.methodLink RL 149 yX12_init ∈ GW := List.mem_filter.mpr ⟨by decide +kernel, by decide +kernel⟩
theorem w_arrI : Cond.arrayClass .int ∈ GW := List.mem_filter.mpr ⟨by decide +kernel, by decide +kernel⟩
theorem w_arrB : Cond.arrayClass .byte ∈ GW := List.mem_filter.mpr ⟨by decide +kernel, by decide +kernel⟩
theorem w_arrZ : Cond.arrayClass .boolean ∈ GW := List.mem_filter.mpr ⟨by decide +kernel, by decide +kernel⟩
theorem w_arrJ : Cond.arrayClass .long ∈ GW := List.mem_filter.mpr ⟨by decide +kernel, by decide +kernel⟩
theorem n_newaJ {X : FX} {g : GT} {ws : va_W} {A : Nat → Prop} {b : ByteArray} {nL kc ks h nc ns : Nat} {own : String} {Z : State → Prop} {pc : Nat} {lv : List (Nat × Value)} {st : List Value} (C : CxN X (g.1, g.2.1) (tys g) A b nL own h nc ns) {n : Int32} {N' : Nat} (hn : ¬ n < 0) (hN : n.toNatClampNeg = N') (hN2 : N' ≤ 10000) (hkc : kc + 1 ≤ nc) (hks : ks + N' ≤ ns) (hd : decode b pc = .ok (.newarray .long, 2)) (K : ∀ (q : Nat) (cL : ClassId), va_K (g.1, g.2.1) vwCl (tys g ++ [(cL, .long)]) (xs X) → AtN X (g.1, g.2.1) (ws ++ [(q, .inl (cL, N', .inr (.inl (fun _ => 0))))]) A nL (kc + 1) (ks + N') Z (pc + 2) lv (.ref q :: st)) : AtN X (g.1, g.2.1) ws A nL kc ks Z pc lv (.int n :: st) := by
  intro H locs ls hP hD hS hl
  refine va_newa (atype := .long) (ty := .long) (a0 := (N', .inr (.inl (fun _ => 0)))) C.1 C.2.1 (C.2.2.2.2.1 _ w_arrJ) rfl C.2.2.2.2.2.1 hP hD hS C.2.2.2.2.2.2.2.1 (fun cA => rfl) hn hN (by show N' * 8 ≤ _; omega) (Nat.le_trans hkc C.2.2.2.2.2.2.2.2.2.2.1) (Nat.le_trans hks C.2.2.2.2.2.2.2.2.2.2.2.1) hd (fun q cA H1 hK hP1 hD1 hS1 => ?_)
  exact K q cA hK H1 locs ls hP1 hD1 hS1 hl
theorem dv12 : ∀ j, j < 28 → defaultValue (tyX12 j) = vp_V [.int 0, .null, .null, .int 0, .null, .null, .null, .null, .int 0, .int 0, .int 0, .int 0, .null, .null, .int 0, .null, .int 0, .int 0, .null, .int 0, .int 0, .int 0, .int 0, .int 0, .int 0, .null, .int 0, .null] j
  | 0, _ => rfl
  | 1, _ => rfl
  | 2, _ => rfl
  | 3, _ => rfl
  | 4, _ => rfl
  | 5, _ => rfl
  | 6, _ => rfl
  | 7, _ => rfl
  | 8, _ => rfl
  | 9, _ => rfl
  | 10, _ => rfl
  | 11, _ => rfl
  | 12, _ => rfl
  | 13, _ => rfl
  | 14, _ => rfl
  | 15, _ => rfl
  | 16, _ => rfl
  | 17, _ => rfl
  | 18, _ => rfl
  | 19, _ => rfl
  | 20, _ => rfl
  | 21, _ => rfl
  | 22, _ => rfl
  | 23, _ => rfl
  | 24, _ => rfl
  | 25, _ => rfl
  | 26, _ => rfl
  | 27, _ => rfl
  | j + 28, h => absurd h (by omega)
theorem tu_run {X : FX} {g : GT} {A : Nat → Prop} {sk : Nat → Nat} {sb L : Nat} {sx : Nat → Int32} {Z : State → Prop} (C : CxN X (g.1, g.2.1) (tys g) A code 7 RL 1000 601024 7293034) (hT : TX X.2.1 sk A (xs X) (xs X).heap) (hNC : NC (xs X)) (hX : va_X sb L sx (xs X) (xs X).heap) (hb : sb < (xs X).heap.size) (hA : ¬ A sb) (hL : L ≤ 3072)
    (hZ : ∀ (ws : va_W) (kc ks : Nat) (lv : List (Nat × Value)), kc ≤ 601024 → ks ≤ 7293034 → AtN X (g.1, g.2.1) ws A 7 kc ks Z 3571 lv []) : AtN X (g.1, g.2.1) [] A 7 0 0 Z 0 [(0, .ref sb)] [] := by
  have h : segB code 0 [(.new 8, 3), (.dup, 1), (.invokespecial 146, 3), (.astore_n 1, 1), (.new 147, 3), (.dup, 1), (.invokespecial 149, 3), (.astore_n 2, 1), (.iconst 1, 1), (.newarray .long, 2), (.astore_n 3, 1), (.iconst 0, 1), (.istore 4, 2)] = true := by decide +kernel
  obtain ⟨dx, h⟩ := seg1 h
  refine n_new C (ci := 11) (fs := [.null, .null, .null, .null, .null, .null, .null, .int 0]) tyX11 tyX11_ok wsX11_in wRL_8 in_RX11 ii_RX11 rfl (fun j hj => by rcases (show j = 0 ∨ j = 1 ∨ j = 2 ∨ j = 3 ∨ j = 4 ∨ j = 5 ∨ j = 6 ∨ j = 7 by omega) with rfl | rfl | rfl | rfl | rfl | rfl | rfl | rfl <;> rfl) (by omega) (by omega) dx (fun q1 => ?_)
  obtain ⟨dx, h⟩ := seg1 h
  refine n_dupr C dx ?_
  obtain ⟨dx, h⟩ := seg1 h
  refine n_callM C [] me_yX11_init mi_yX11_init rfl wRL_146 cn_RP (by omega) rfl rfl (Nat.le_of_ble_eq_true rfl) (by omega) (by omega) dx (fun a1 e1 => ?_)
  subst e1
  obtain ⟨dx, h⟩ := seg1 h
  refine n_astore_n C dx (by decide) rfl ?_
  obtain ⟨dx, h⟩ := seg1 h
  refine n_new C (ci := 12) (fs := [.int 0, .null, .null, .int 0, .null, .null, .null, .null, .int 0, .int 0, .int 0, .int 0, .null, .null, .int 0, .null, .int 0, .int 0, .null, .int 0, .int 0, .int 0, .int 0, .int 0, .int 0, .null, .int 0, .null]) tyX12 tyX12_ok wsX12_in wRL_147 in_RX12 ii_RX12 rfl (fun j hj => dv12 j hj) (by omega) (by omega) dx (fun q2 => ?_)
  obtain ⟨dx, h⟩ := seg1 h
  refine n_dupr C dx ?_
  obtain ⟨dx, h⟩ := seg1 h
  refine n_callM C [] me_yX12_init mi_yX12_init rfl wRL_149 cn_Model (by omega) rfl rfl (Nat.le_of_ble_eq_true rfl) (by omega) (by omega) dx (fun a2 e2 => ?_)
  subst e2
  obtain ⟨dx, h⟩ := seg1 h
  refine n_astore_n C dx (by decide) rfl ?_
  obtain ⟨dx, h⟩ := seg1 h
  refine n_iconst C 1 dx rfl ?_
  obtain ⟨dx, h⟩ := seg1 h
  refine n_newaJ C (N' := 1) (by decide) (by decide) (by omega) (by omega) (by omega) dx (fun ao cL hK => ?_)
  obtain ⟨dx, h⟩ := seg1 h
  refine n_astore_n C dx (by decide) rfl ?_
  obtain ⟨dx, h⟩ := seg1 h
  refine n_iconst C 0 dx rfl ?_
  obtain ⟨dx, h⟩ := seg1 h
  refine n_istore C dx (by decide) rfl ?_
  obtain ⟨c1, c2, c3, c4, c5, c6, c7, c8, c9, c10, c11, c12, c13⟩ := C
  have CL : CxL X g cL A sk sb L sx := ⟨⟨⟨c1, c2, c3, c4, c5, hK, c7, c8, c9, c10, c11, c12, c13⟩, hT, hNC⟩, hX, hb, hA⟩
  refine n_ws (ws2 := W_RP g a1 ++ W_Model g a2 ++ [(ao, ouE cL (fun _ => 0))]) rfl ?_
  refine n_perm (ws2 := W_Model g a2 ++ (W_RP g a1 ++ [(ao, ouE cL (fun _ => 0))])) (by rw [← List.append_assoc]; exact List.Perm.append_right _ List.perm_append_comm) ?_
  refine n_ws (ws2 := WS g a2 a1 [] Mc0 Mm0 ao cL (fun _ => 0)) (by unfold WS; rw [List.append_nil, ← wl_C0, ← wl_M0]) ?_
  exact n_to rfl (Nat.le_refl _) (Nat.le_refl _) (tu_loop (K0 := 103) (S0 := 26097) CL hL (by omega) (by omega) hZ 513 0 (by omega) a1 [] Mc0 Mm0 (fun _ => 0) rfl ji0 (Nat.le_refl _))
