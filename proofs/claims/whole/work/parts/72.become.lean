/-! THE CLASS: image, back (printed by become.py) -/
section BECOME
variable {M : Mem}
/-- what stands where p says comes from the other desk; the rest is as before -/
def CpF (σ : Nat → Nat) (p : Nat → Nat → Prop) (M M' : Mem) : Prop := ∀ c s, (p c s → M' c s = M (σ c) s) ∧ (¬ p c s → M' c s = M c s)
theorem CpF.refl (σ : Nat → Nat) {p : Nat → Nat → Prop} (M : Mem) (h : ∀ c s, ¬ p c s) : CpF σ p M M := fun c s => ⟨fun q => absurd q (h c s), fun _ => rfl⟩
theorem CpF.iff {σ : Nat → Nat} {p q : Nat → Nat → Prop} {M M' : Mem} (h : CpF σ p M M') (hp : ∀ c s, q c s ↔ p c s) : CpF σ q M M' := fun c s => ⟨fun e => (h c s).1 ((hp c s).mp e), fun e => (h c s).2 (fun e2 => e ((hp c s).mpr e2))⟩
theorem CpF.put {σ : Nat → Nat} {p q : Nat → Nat → Prop} {M M' : Mem} {c0 s0 : Nat} {v : Int32} (h : CpF σ p M M') (hs : ¬ p (σ c0) s0) (hv : v = M' (σ c0) s0) (hp : ∀ c s, q c s ↔ p c s ∨ (c = c0 ∧ s = s0)) : CpF σ q M (ms M' c0 s0 v) := by
  intro c s
  by_cases e : c = c0 ∧ s = s0
  · obtain ⟨e1, e2⟩ := e
    subst e1 e2
    refine ⟨fun _ => ?_, fun q => absurd ((hp c s).mpr (Or.inr ⟨rfl, rfl⟩)) q⟩
    rw [ms_at, hv]; exact (h _ _).2 hs
  · have e3 : ms M' c0 s0 v c s = M' c s := by
      by_cases e1 : c = c0
      · subst e1; exact ms_ne _ _ _ (fun e2 => e ⟨rfl, e2⟩)
      · rw [ms_off _ _ _ e1]
    rw [e3]
    have : q c s ↔ p c s := by rw [hp c s]; exact ⟨fun o => o.resolve_right e, Or.inl⟩
    exact ⟨fun o => (h c s).1 (this.mp o), fun o => (h c s).2 (fun o2 => o (this.mpr o2))⟩
theorem CpF.trans {σ : Nat → Nat} {p q : Nat → Nat → Prop} {A B C : Mem} (h1 : CpF σ p A B) (h2 : CpF σ q B C) (hs : ∀ c s, q c s → ¬ p (σ c) s) : CpF σ (fun c s => p c s ∨ q c s) A C := by
  intro c s
  refine ⟨fun o => ?_, fun o => ?_⟩
  · by_cases e : q c s
    · rw [(h2 c s).1 e, (h1 _ s).2 (hs c s e)]
    · rw [(h2 c s).2 e, (h1 c s).1 (o.resolve_right e)]
  · rw [(h2 c s).2 (fun e => o (Or.inr e)), (h1 c s).2 (fun e => o (Or.inl e))]
theorem nar01 {x : Int32} (h : x = 0 ∨ x = 1) : vp_nar .boolean x = x := by
  rcases h with h | h <;> subst h <;> rfl

theorem cpI_screw {post : Mem → Prop} (hb : (∀ k, k < 8 → M 4 k = 0 ∨ M 4 k = 1) ∧ (∀ k, k < 8 → M 6 k = 0 ∨ M 6 k = 1)) (h : ∀ M', CpF (fun c => c - 31) (fun c s => (34 ≤ c ∧ c ≤ 38 ∧ s < 8) ∨ (c = 33 ∧ (s = 5 ∨ s = 6 ∨ s = 7 ∨ s = 8 ∨ s = 9))) M M' → post M') : ∃ j, P_Screw_become_2 post j 0 M := by
  have key : ∃ j, ∀ M1, CpF (fun c => c - 31) (fun c s => 34 ≤ c ∧ c ≤ 38 ∧ s < 0) M M1 → P_Screw_become_2 post j (nI 0) M1 := by
    refine lpN (R := fun j x => ∀ M1, CpF (fun c => c - 31) (fun c s => 34 ≤ c ∧ c ≤ 38 ∧ s < x) M M1 → P_Screw_become_2 post j (nI x) M1) (N := 8) (fun j M1 f1 => brSt rfl ?_) (fun j x hx ih M1 f1 => brGo (N := 8) rfl (by omega) hx ?_)
    · intro T1 t1 T2 t2 T3 t3 T4 t4 T5 t5
      have g1 : CpF (fun c => c - 31) (fun c s => (34 ≤ c ∧ c ≤ 38 ∧ s < 8) ∨ (c = 33 ∧ (s = 5))) M T1 := by
        rw [t1]; exact f1.put (c0 := 33) (s0 := 5) (by omega) rfl (by omega)
      have g2 : CpF (fun c => c - 31) (fun c s => (34 ≤ c ∧ c ≤ 38 ∧ s < 8) ∨ (c = 33 ∧ (s = 5 ∨ s = 6))) M T2 := by
        rw [t2]; exact g1.put (c0 := 33) (s0 := 6) (by omega) rfl (by omega)
      have g3 : CpF (fun c => c - 31) (fun c s => (34 ≤ c ∧ c ≤ 38 ∧ s < 8) ∨ (c = 33 ∧ (s = 5 ∨ s = 6 ∨ s = 7))) M T3 := by
        rw [t3]; exact g2.put (c0 := 33) (s0 := 7) (by omega) rfl (by omega)
      have g4 : CpF (fun c => c - 31) (fun c s => (34 ≤ c ∧ c ≤ 38 ∧ s < 8) ∨ (c = 33 ∧ (s = 5 ∨ s = 6 ∨ s = 7 ∨ s = 8))) M T4 := by
        rw [t4]; exact g3.put (c0 := 33) (s0 := 8) (by omega) rfl (by omega)
      have g5 : CpF (fun c => c - 31) (fun c s => (34 ≤ c ∧ c ≤ 38 ∧ s < 8) ∨ (c = 33 ∧ (s = 5 ∨ s = 6 ∨ s = 7 ∨ s = 8 ∨ s = 9))) M T5 := by
        rw [t5]; exact g4.put (c0 := 33) (s0 := 9) (by omega) rfl (by omega)
      exact h T5 (g5.iff (by omega))
    · have hv : vp_in (nI x) 8 := vin_nI hx (by omega)
      refine ⟨hv, hv, fun N1 n1 => ⟨hv, hv, fun N2 n2 => ⟨hv, hv, fun N3 n3 => ⟨hv, hv, fun N4 n4 => ⟨hv, hv, fun N5 n5 => ?_⟩⟩⟩⟩⟩
      rw [show (nI x).toNatClampNeg = x from nI_clamp (by omega)] at n1 n2 n3 n4 n5
      rw [nI_1]
      have d1 : CpF (fun c => c - 31) (fun c s => 34 ≤ c ∧ c ≤ 38 ∧ (s < x ∨ (s = x ∧ c ≤ 34))) M N1 := by
        rw [n1]
        exact f1.put (c0 := 34) (s0 := x) (by omega) rfl (by omega)
      have d2 : CpF (fun c => c - 31) (fun c s => 34 ≤ c ∧ c ≤ 38 ∧ (s < x ∨ (s = x ∧ c ≤ 35))) M N2 := by
        have e0 : N1 4 x = M 4 x := (d1 4 x).2 (by omega)
        rw [n2, nar01 (by rw [e0]; exact hb.1 x hx)]
        exact d1.put (c0 := 35) (s0 := x) (by omega) rfl (by omega)
      have d3 : CpF (fun c => c - 31) (fun c s => 34 ≤ c ∧ c ≤ 38 ∧ (s < x ∨ (s = x ∧ c ≤ 36))) M N3 := by
        rw [n3]
        exact d2.put (c0 := 36) (s0 := x) (by omega) rfl (by omega)
      have d4 : CpF (fun c => c - 31) (fun c s => 34 ≤ c ∧ c ≤ 38 ∧ (s < x ∨ (s = x ∧ c ≤ 37))) M N4 := by
        have e0 : N3 6 x = M 6 x := (d3 6 x).2 (by omega)
        rw [n4, nar01 (by rw [e0]; exact hb.2 x hx)]
        exact d3.put (c0 := 37) (s0 := x) (by omega) rfl (by omega)
      have d5 : CpF (fun c => c - 31) (fun c s => 34 ≤ c ∧ c ≤ 38 ∧ (s < x ∨ (s = x ∧ c ≤ 38))) M N5 := by
        rw [n5]
        exact d4.put (c0 := 38) (s0 := x) (by omega) rfl (by omega)
      exact ih N5 (d5.iff (by omega))
  obtain ⟨j, hj⟩ := key
  exact ⟨j, hj M (CpF.refl _ M (by omega))⟩
theorem cpI_knowns {post : Mem → Prop} (hb : (∀ k, k < 10 → M 10 k = 0 ∨ M 10 k = 1) ∧ (∀ k, k < 10 → M 12 k = 0 ∨ M 12 k = 1)) (h : ∀ M', CpF (fun c => c - 31) (fun c s => (40 ≤ c ∧ c ≤ 43 ∧ s < 10) ∨ (c = 39 ∧ (s = 4 ∨ s = 5))) M M' → post M') : ∃ j, P_Knowns_become_2 post j 0 M := by
  have key : ∃ j, ∀ M1, CpF (fun c => c - 31) (fun c s => 40 ≤ c ∧ c ≤ 43 ∧ s < 0) M M1 → P_Knowns_become_2 post j (nI 0) M1 := by
    refine lpN (R := fun j x => ∀ M1, CpF (fun c => c - 31) (fun c s => 40 ≤ c ∧ c ≤ 43 ∧ s < x) M M1 → P_Knowns_become_2 post j (nI x) M1) (N := 10) (fun j M1 f1 => brSt rfl ?_) (fun j x hx ih M1 f1 => brGo (N := 10) rfl (by omega) hx ?_)
    · intro T1 t1 T2 t2
      have g1 : CpF (fun c => c - 31) (fun c s => (40 ≤ c ∧ c ≤ 43 ∧ s < 10) ∨ (c = 39 ∧ (s = 4))) M T1 := by
        rw [t1]; exact f1.put (c0 := 39) (s0 := 4) (by omega) rfl (by omega)
      have g2 : CpF (fun c => c - 31) (fun c s => (40 ≤ c ∧ c ≤ 43 ∧ s < 10) ∨ (c = 39 ∧ (s = 4 ∨ s = 5))) M T2 := by
        rw [t2]; exact g1.put (c0 := 39) (s0 := 5) (by omega) rfl (by omega)
      exact h T2 (g2.iff (by omega))
    · have hv : vp_in (nI x) 10 := vin_nI hx (by omega)
      refine ⟨hv, hv, fun N1 n1 => ⟨hv, hv, fun N2 n2 => ⟨hv, hv, fun N3 n3 => ⟨hv, hv, fun N4 n4 => ?_⟩⟩⟩⟩
      rw [show (nI x).toNatClampNeg = x from nI_clamp (by omega)] at n1 n2 n3 n4
      rw [nI_1]
      have d1 : CpF (fun c => c - 31) (fun c s => 40 ≤ c ∧ c ≤ 43 ∧ (s < x ∨ (s = x ∧ c ≤ 40))) M N1 := by
        rw [n1]
        exact f1.put (c0 := 40) (s0 := x) (by omega) rfl (by omega)
      have d2 : CpF (fun c => c - 31) (fun c s => 40 ≤ c ∧ c ≤ 43 ∧ (s < x ∨ (s = x ∧ c ≤ 41))) M N2 := by
        have e0 : N1 10 x = M 10 x := (d1 10 x).2 (by omega)
        rw [n2, nar01 (by rw [e0]; exact hb.1 x hx)]
        exact d1.put (c0 := 41) (s0 := x) (by omega) rfl (by omega)
      have d3 : CpF (fun c => c - 31) (fun c s => 40 ≤ c ∧ c ≤ 43 ∧ (s < x ∨ (s = x ∧ c ≤ 42))) M N3 := by
        rw [n3]
        exact d2.put (c0 := 42) (s0 := x) (by omega) rfl (by omega)
      have d4 : CpF (fun c => c - 31) (fun c s => 40 ≤ c ∧ c ≤ 43 ∧ (s < x ∨ (s = x ∧ c ≤ 43))) M N4 := by
        have e0 : N3 12 x = M 12 x := (d3 12 x).2 (by omega)
        rw [n4, nar01 (by rw [e0]; exact hb.2 x hx)]
        exact d3.put (c0 := 43) (s0 := x) (by omega) rfl (by omega)
      exact ih N4 (d4.iff (by omega))
  obtain ⟨j, hj⟩ := key
  exact ⟨j, hj M (CpF.refl _ M (by omega))⟩
theorem cpI_table40 {post : Mem → Prop} (h : ∀ M', CpF (fun c => c - 31) (fun c s => (47 ≤ c ∧ c ≤ 48 ∧ s < 36) ∨ (c = 44 ∧ (s = 4))) M M' → post M') : ∃ j, P_Table_become_40 post j 0 M := by
  have key : ∃ j, ∀ M1, CpF (fun c => c - 31) (fun c s => 47 ≤ c ∧ c ≤ 48 ∧ s < 0) M M1 → P_Table_become_40 post j (nI 0) M1 := by
    refine lpN (R := fun j x => ∀ M1, CpF (fun c => c - 31) (fun c s => 47 ≤ c ∧ c ≤ 48 ∧ s < x) M M1 → P_Table_become_40 post j (nI x) M1) (N := 36) (fun j M1 f1 => brSt rfl ?_) (fun j x hx ih M1 f1 => brGo (N := 36) rfl (by omega) hx ?_)
    · intro T1 t1
      have g1 : CpF (fun c => c - 31) (fun c s => (47 ≤ c ∧ c ≤ 48 ∧ s < 36) ∨ (c = 44 ∧ (s = 4))) M T1 := by
        rw [t1]; exact f1.put (c0 := 44) (s0 := 4) (by omega) rfl (by omega)
      exact h T1 (g1.iff (by omega))
    · have hv : vp_in (nI x) 36 := vin_nI hx (by omega)
      refine ⟨hv, hv, fun N1 n1 => ⟨hv, hv, fun N2 n2 => ?_⟩⟩
      rw [show (nI x).toNatClampNeg = x from nI_clamp (by omega)] at n1 n2
      rw [nI_1]
      have d1 : CpF (fun c => c - 31) (fun c s => 47 ≤ c ∧ c ≤ 48 ∧ (s < x ∨ (s = x ∧ c ≤ 47))) M N1 := by
        rw [n1]
        exact f1.put (c0 := 47) (s0 := x) (by omega) rfl (by omega)
      have d2 : CpF (fun c => c - 31) (fun c s => 47 ≤ c ∧ c ≤ 48 ∧ (s < x ∨ (s = x ∧ c ≤ 48))) M N2 := by
        rw [n2]
        exact d1.put (c0 := 48) (s0 := x) (by omega) rfl (by omega)
      exact ih N2 (d2.iff (by omega))
  obtain ⟨j, hj⟩ := key
  exact ⟨j, hj M (CpF.refl _ M (by omega))⟩
theorem cpI_table {post : Mem → Prop} (hb : (∀ k, k < 6 → M 14 k = 0 ∨ M 14 k = 1)) (h : ∀ M', CpF (fun c => c - 31) (fun c s => (45 ≤ c ∧ c ≤ 46 ∧ s < 6) ∨ ((47 ≤ c ∧ c ≤ 48 ∧ s < 36) ∨ (c = 44 ∧ (s = 4)))) M M' → post M') : ∃ j, P_Table_become_2 post j 0 M := by
  have key : ∃ j, ∀ M1, CpF (fun c => c - 31) (fun c s => 45 ≤ c ∧ c ≤ 46 ∧ s < 0) M M1 → P_Table_become_2 post j (nI 0) M1 := by
    refine lpN (R := fun j x => ∀ M1, CpF (fun c => c - 31) (fun c s => 45 ≤ c ∧ c ≤ 46 ∧ s < x) M M1 → P_Table_become_2 post j (nI x) M1) (N := 6) (fun j M1 f1 => brSt rfl ?_) (fun j x hx ih M1 f1 => brGo (N := 6) rfl (by omega) hx ?_)
    · show _
      exact cpI_table40  (fun M2 f2 => h M2 ((f1.trans f2 (by omega)).iff (by omega)))
    · have hv : vp_in (nI x) 6 := vin_nI hx (by omega)
      refine ⟨hv, hv, fun N1 n1 => ⟨hv, hv, fun N2 n2 => ?_⟩⟩
      rw [show (nI x).toNatClampNeg = x from nI_clamp (by omega)] at n1 n2
      rw [nI_1]
      have d1 : CpF (fun c => c - 31) (fun c s => 45 ≤ c ∧ c ≤ 46 ∧ (s < x ∨ (s = x ∧ c ≤ 45))) M N1 := by
        have e0 : M1 14 x = M 14 x := (f1 14 x).2 (by omega)
        rw [n1, nar01 (by rw [e0]; exact hb x hx)]
        exact f1.put (c0 := 45) (s0 := x) (by omega) rfl (by omega)
      have d2 : CpF (fun c => c - 31) (fun c s => 45 ≤ c ∧ c ≤ 46 ∧ (s < x ∨ (s = x ∧ c ≤ 46))) M N2 := by
        rw [n2]
        exact d1.put (c0 := 46) (s0 := x) (by omega) rfl (by omega)
      exact ih N2 (d2.iff (by omega))
  obtain ⟨j, hj⟩ := key
  exact ⟨j, hj M (CpF.refl _ M (by omega))⟩
theorem cpI_shelf83 {post : Mem → Prop} (hb : (∀ k, k < 24 → M 26 k = 0 ∨ M 26 k = 1)) (h : ∀ M', CpF (fun c => c - 31) (fun c s => (55 ≤ c ∧ c ≤ 59 ∧ s < 24) ∨ (c = 49 ∧ (s = 11))) M M' → post M') : ∃ j, P_Shelf_become_83 post j 0 M := by
  have key : ∃ j, ∀ M1, CpF (fun c => c - 31) (fun c s => 55 ≤ c ∧ c ≤ 59 ∧ s < 0) M M1 → P_Shelf_become_83 post j (nI 0) M1 := by
    refine lpN (R := fun j x => ∀ M1, CpF (fun c => c - 31) (fun c s => 55 ≤ c ∧ c ≤ 59 ∧ s < x) M M1 → P_Shelf_become_83 post j (nI x) M1) (N := 24) (fun j M1 f1 => brSt rfl ?_) (fun j x hx ih M1 f1 => brGo (N := 24) rfl (by omega) hx ?_)
    · intro T1 t1
      have g1 : CpF (fun c => c - 31) (fun c s => (55 ≤ c ∧ c ≤ 59 ∧ s < 24) ∨ (c = 49 ∧ (s = 11))) M T1 := by
        rw [t1]; exact f1.put (c0 := 49) (s0 := 11) (by omega) rfl (by omega)
      exact h T1 (g1.iff (by omega))
    · have hv : vp_in (nI x) 24 := vin_nI hx (by omega)
      refine ⟨hv, hv, fun N1 n1 => ⟨hv, hv, fun N2 n2 => ⟨hv, hv, fun N3 n3 => ⟨hv, hv, fun N4 n4 => ⟨hv, hv, fun N5 n5 => ?_⟩⟩⟩⟩⟩
      rw [show (nI x).toNatClampNeg = x from nI_clamp (by omega)] at n1 n2 n3 n4 n5
      rw [nI_1]
      have d1 : CpF (fun c => c - 31) (fun c s => 55 ≤ c ∧ c ≤ 59 ∧ (s < x ∨ (s = x ∧ c ≤ 55))) M N1 := by
        rw [n1]
        exact f1.put (c0 := 55) (s0 := x) (by omega) rfl (by omega)
      have d2 : CpF (fun c => c - 31) (fun c s => 55 ≤ c ∧ c ≤ 59 ∧ (s < x ∨ (s = x ∧ c ≤ 56))) M N2 := by
        rw [n2]
        exact d1.put (c0 := 56) (s0 := x) (by omega) rfl (by omega)
      have d3 : CpF (fun c => c - 31) (fun c s => 55 ≤ c ∧ c ≤ 59 ∧ (s < x ∨ (s = x ∧ c ≤ 57))) M N3 := by
        have e0 : N2 26 x = M 26 x := (d2 26 x).2 (by omega)
        rw [n3, nar01 (by rw [e0]; exact hb x hx)]
        exact d2.put (c0 := 57) (s0 := x) (by omega) rfl (by omega)
      have d4 : CpF (fun c => c - 31) (fun c s => 55 ≤ c ∧ c ≤ 59 ∧ (s < x ∨ (s = x ∧ c ≤ 58))) M N4 := by
        rw [n4]
        exact d3.put (c0 := 58) (s0 := x) (by omega) rfl (by omega)
      have d5 : CpF (fun c => c - 31) (fun c s => 55 ≤ c ∧ c ≤ 59 ∧ (s < x ∨ (s = x ∧ c ≤ 59))) M N5 := by
        rw [n5]
        exact d4.put (c0 := 59) (s0 := x) (by omega) rfl (by omega)
      exact ih N5 (d5.iff (by omega))
  obtain ⟨j, hj⟩ := key
  exact ⟨j, hj M (CpF.refl _ M (by omega))⟩
theorem cpI_shelf {post : Mem → Prop} (hb4 : ∀ k, k < 24 → M 26 k = 0 ∨ M 26 k = 1) (h : ∀ M', CpF (fun c => c - 31) (fun c s => ((50 ≤ c ∧ c ≤ 54 ∧ s < 3) ∨ (c = 49 ∧ (s = 5))) ∨ ((55 ≤ c ∧ c ≤ 59 ∧ s < 24) ∨ (c = 49 ∧ (s = 11)))) M M' → post M') : ∃ j, P_Shelf_become_2 post j 0 M := by
  have key : ∃ j, ∀ M1, CpF (fun c => c - 31) (fun c s => 50 ≤ c ∧ c ≤ 54 ∧ s < 0) M M1 → P_Shelf_become_2 post j (nI 0) M1 := by
    refine lpN (R := fun j x => ∀ M1, CpF (fun c => c - 31) (fun c s => 50 ≤ c ∧ c ≤ 54 ∧ s < x) M M1 → P_Shelf_become_2 post j (nI x) M1) (N := 3) (fun j M1 f1 => brSt rfl ?_) (fun j x hx ih M1 f1 => brGo (N := 3) rfl (by omega) hx ?_)
    · intro T1 t1
      have g1 : CpF (fun c => c - 31) (fun c s => (50 ≤ c ∧ c ≤ 54 ∧ s < 3) ∨ (c = 49 ∧ (s = 5))) M T1 := by
        rw [t1]; exact f1.put (c0 := 49) (s0 := 5) (by omega) rfl (by omega)
      exact cpI_shelf83 (fun k hk => by rw [(g1 26 k).2 (by omega)]; exact hb4 k hk) (fun M2 f2 => h M2 ((g1.trans f2 (by omega)).iff (by omega)))
    · have hv : vp_in (nI x) 3 := vin_nI hx (by omega)
      refine ⟨hv, hv, fun N1 n1 => ⟨hv, hv, fun N2 n2 => ⟨hv, hv, fun N3 n3 => ⟨hv, hv, fun N4 n4 => ⟨hv, hv, fun N5 n5 => ?_⟩⟩⟩⟩⟩
      rw [show (nI x).toNatClampNeg = x from nI_clamp (by omega)] at n1 n2 n3 n4 n5
      rw [nI_1]
      have d1 : CpF (fun c => c - 31) (fun c s => 50 ≤ c ∧ c ≤ 54 ∧ (s < x ∨ (s = x ∧ c ≤ 50))) M N1 := by
        rw [n1]
        exact f1.put (c0 := 50) (s0 := x) (by omega) rfl (by omega)
      have d2 : CpF (fun c => c - 31) (fun c s => 50 ≤ c ∧ c ≤ 54 ∧ (s < x ∨ (s = x ∧ c ≤ 51))) M N2 := by
        rw [n2]
        exact d1.put (c0 := 51) (s0 := x) (by omega) rfl (by omega)
      have d3 : CpF (fun c => c - 31) (fun c s => 50 ≤ c ∧ c ≤ 54 ∧ (s < x ∨ (s = x ∧ c ≤ 52))) M N3 := by
        rw [n3]
        exact d2.put (c0 := 52) (s0 := x) (by omega) rfl (by omega)
      have d4 : CpF (fun c => c - 31) (fun c s => 50 ≤ c ∧ c ≤ 54 ∧ (s < x ∨ (s = x ∧ c ≤ 53))) M N4 := by
        rw [n4]
        exact d3.put (c0 := 53) (s0 := x) (by omega) rfl (by omega)
      have d5 : CpF (fun c => c - 31) (fun c s => 50 ≤ c ∧ c ≤ 54 ∧ (s < x ∨ (s = x ∧ c ≤ 54))) M N5 := by
        rw [n5]
        exact d4.put (c0 := 54) (s0 := x) (by omega) rfl (by omega)
      exact ih N5 (d5.iff (by omega))
  obtain ⟨j, hj⟩ := key
  exact ⟨j, hj M (CpF.refl _ M (by omega))⟩
theorem cpI_desk84 {post : Mem → Prop} {ext : List CD} (hc : ∀ k, k < 6 → M 31 k = 0 ∨ ∃ fl, (layC ++ ext)[(M 31 k).toNatClampNeg]? = some (4, 1, fl)) (h : ∀ M', CpF (fun c => c - 31) (fun c s => (62 ≤ c ∧ c ≤ 62 ∧ s < 6) ∨ (c = 32 ∧ (s = 7 ∨ s = 8))) M M' → post M') : ∃ j, P_Desk_become_84 ext post j 0 M := by
  have key : ∃ j, ∀ M1, CpF (fun c => c - 31) (fun c s => 62 ≤ c ∧ c ≤ 62 ∧ s < 0) M M1 → P_Desk_become_84 ext post j (nI 0) M1 := by
    refine lpN (R := fun j x => ∀ M1, CpF (fun c => c - 31) (fun c s => 62 ≤ c ∧ c ≤ 62 ∧ s < x) M M1 → P_Desk_become_84 ext post j (nI x) M1) (N := 6) (fun j M1 f1 => brSt rfl ?_) (fun j x hx ih M1 f1 => brGo (N := 6) rfl (by omega) hx ?_)
    · intro T1 t1 T2 t2
      have g1 : CpF (fun c => c - 31) (fun c s => (62 ≤ c ∧ c ≤ 62 ∧ s < 6) ∨ (c = 32 ∧ (s = 7))) M T1 := by
        rw [t1]; exact f1.put (c0 := 32) (s0 := 7) (by omega) rfl (by omega)
      have g2 : CpF (fun c => c - 31) (fun c s => (62 ≤ c ∧ c ≤ 62 ∧ s < 6) ∨ (c = 32 ∧ (s = 7 ∨ s = 8))) M T2 := by
        rw [t2]; exact g1.put (c0 := 32) (s0 := 8) (by omega) rfl (by omega)
      exact h T2 (g2.iff (by omega))
    · have hv : vp_in (nI x) 6 := vin_nI hx (by omega)
      rw [nI_clamp (by omega)]
      have e0 : M1 31 x = M 31 x := (f1 31 x).2 (by omega)
      refine ⟨hv, hv, by rw [e0]; exact hc x hx, fun N1 n1 => ?_⟩
      rw [nI_1]
      refine ih N1 ?_
      rw [n1]
      exact f1.put (c0 := 62) (s0 := x) (by omega) rfl (by omega)
  obtain ⟨j, hj⟩ := key
  exact ⟨j, hj M (CpF.refl _ M (by omega))⟩
theorem cpI_desk46 {post : Mem → Prop} {ext : List CD} (hc5 : ∀ k, k < 6 → M 31 k = 0 ∨ ∃ fl, (layC ++ ext)[(M 31 k).toNatClampNeg]? = some (4, 1, fl)) (h : ∀ M', CpF (fun c => c - 31) (fun c s => (60 ≤ c ∧ c ≤ 61 ∧ s < 24) ∨ ((62 ≤ c ∧ c ≤ 62 ∧ s < 6) ∨ (c = 32 ∧ (s = 7 ∨ s = 8)))) M M' → post M') : ∃ j, P_Desk_become_46 ext post j 0 M := by
  have key : ∃ j, ∀ M1, CpF (fun c => c - 31) (fun c s => 60 ≤ c ∧ c ≤ 61 ∧ s < 0) M M1 → P_Desk_become_46 ext post j (nI 0) M1 := by
    refine lpN (R := fun j x => ∀ M1, CpF (fun c => c - 31) (fun c s => 60 ≤ c ∧ c ≤ 61 ∧ s < x) M M1 → P_Desk_become_46 ext post j (nI x) M1) (N := 24) (fun j M1 f1 => brSt rfl ?_) (fun j x hx ih M1 f1 => brGo (N := 24) rfl (by omega) hx ?_)
    · show _
      exact cpI_desk84 (fun k hk => by rw [(f1 31 k).2 (by omega)]; exact hc5 k hk) (fun M2 f2 => h M2 ((f1.trans f2 (by omega)).iff (by omega)))
    · have hv : vp_in (nI x) 24 := vin_nI hx (by omega)
      refine ⟨hv, hv, fun N1 n1 => ⟨hv, hv, fun N2 n2 => ?_⟩⟩
      rw [show (nI x).toNatClampNeg = x from nI_clamp (by omega)] at n1 n2
      rw [nI_1]
      have d1 : CpF (fun c => c - 31) (fun c s => 60 ≤ c ∧ c ≤ 61 ∧ (s < x ∨ (s = x ∧ c ≤ 60))) M N1 := by
        rw [n1]
        exact f1.put (c0 := 60) (s0 := x) (by omega) rfl (by omega)
      have d2 : CpF (fun c => c - 31) (fun c s => 60 ≤ c ∧ c ≤ 61 ∧ (s < x ∨ (s = x ∧ c ≤ 61))) M N2 := by
        rw [n2]
        exact d1.put (c0 := 61) (s0 := x) (by omega) rfl (by omega)
      exact ih N2 (d2.iff (by omega))
  obtain ⟨j, hj⟩ := key
  exact ⟨j, hj M (CpF.refl _ M (by omega))⟩
theorem cpB_screw {post : Mem → Prop} (hb : (∀ k, k < 8 → M 35 k = 0 ∨ M 35 k = 1) ∧ (∀ k, k < 8 → M 37 k = 0 ∨ M 37 k = 1)) (h : ∀ M', CpF (fun c => c + 31) (fun c s => (3 ≤ c ∧ c ≤ 7 ∧ s < 8) ∨ (c = 2 ∧ (s = 5 ∨ s = 6 ∨ s = 7 ∨ s = 8 ∨ s = 9))) M M' → post M') : ∃ j, P_Screw_become_2_33_2 post j 0 M := by
  have key : ∃ j, ∀ M1, CpF (fun c => c + 31) (fun c s => 3 ≤ c ∧ c ≤ 7 ∧ s < 0) M M1 → P_Screw_become_2_33_2 post j (nI 0) M1 := by
    refine lpN (R := fun j x => ∀ M1, CpF (fun c => c + 31) (fun c s => 3 ≤ c ∧ c ≤ 7 ∧ s < x) M M1 → P_Screw_become_2_33_2 post j (nI x) M1) (N := 8) (fun j M1 f1 => brSt rfl ?_) (fun j x hx ih M1 f1 => brGo (N := 8) rfl (by omega) hx ?_)
    · intro T1 t1 T2 t2 T3 t3 T4 t4 T5 t5
      have g1 : CpF (fun c => c + 31) (fun c s => (3 ≤ c ∧ c ≤ 7 ∧ s < 8) ∨ (c = 2 ∧ (s = 5))) M T1 := by
        rw [t1]; exact f1.put (c0 := 2) (s0 := 5) (by omega) rfl (by omega)
      have g2 : CpF (fun c => c + 31) (fun c s => (3 ≤ c ∧ c ≤ 7 ∧ s < 8) ∨ (c = 2 ∧ (s = 5 ∨ s = 6))) M T2 := by
        rw [t2]; exact g1.put (c0 := 2) (s0 := 6) (by omega) rfl (by omega)
      have g3 : CpF (fun c => c + 31) (fun c s => (3 ≤ c ∧ c ≤ 7 ∧ s < 8) ∨ (c = 2 ∧ (s = 5 ∨ s = 6 ∨ s = 7))) M T3 := by
        rw [t3]; exact g2.put (c0 := 2) (s0 := 7) (by omega) rfl (by omega)
      have g4 : CpF (fun c => c + 31) (fun c s => (3 ≤ c ∧ c ≤ 7 ∧ s < 8) ∨ (c = 2 ∧ (s = 5 ∨ s = 6 ∨ s = 7 ∨ s = 8))) M T4 := by
        rw [t4]; exact g3.put (c0 := 2) (s0 := 8) (by omega) rfl (by omega)
      have g5 : CpF (fun c => c + 31) (fun c s => (3 ≤ c ∧ c ≤ 7 ∧ s < 8) ∨ (c = 2 ∧ (s = 5 ∨ s = 6 ∨ s = 7 ∨ s = 8 ∨ s = 9))) M T5 := by
        rw [t5]; exact g4.put (c0 := 2) (s0 := 9) (by omega) rfl (by omega)
      exact h T5 (g5.iff (by omega))
    · have hv : vp_in (nI x) 8 := vin_nI hx (by omega)
      refine ⟨hv, hv, fun N1 n1 => ⟨hv, hv, fun N2 n2 => ⟨hv, hv, fun N3 n3 => ⟨hv, hv, fun N4 n4 => ⟨hv, hv, fun N5 n5 => ?_⟩⟩⟩⟩⟩
      rw [show (nI x).toNatClampNeg = x from nI_clamp (by omega)] at n1 n2 n3 n4 n5
      rw [nI_1]
      have d1 : CpF (fun c => c + 31) (fun c s => 3 ≤ c ∧ c ≤ 7 ∧ (s < x ∨ (s = x ∧ c ≤ 3))) M N1 := by
        rw [n1]
        exact f1.put (c0 := 3) (s0 := x) (by omega) rfl (by omega)
      have d2 : CpF (fun c => c + 31) (fun c s => 3 ≤ c ∧ c ≤ 7 ∧ (s < x ∨ (s = x ∧ c ≤ 4))) M N2 := by
        have e0 : N1 35 x = M 35 x := (d1 35 x).2 (by omega)
        rw [n2, nar01 (by rw [e0]; exact hb.1 x hx)]
        exact d1.put (c0 := 4) (s0 := x) (by omega) rfl (by omega)
      have d3 : CpF (fun c => c + 31) (fun c s => 3 ≤ c ∧ c ≤ 7 ∧ (s < x ∨ (s = x ∧ c ≤ 5))) M N3 := by
        rw [n3]
        exact d2.put (c0 := 5) (s0 := x) (by omega) rfl (by omega)
      have d4 : CpF (fun c => c + 31) (fun c s => 3 ≤ c ∧ c ≤ 7 ∧ (s < x ∨ (s = x ∧ c ≤ 6))) M N4 := by
        have e0 : N3 37 x = M 37 x := (d3 37 x).2 (by omega)
        rw [n4, nar01 (by rw [e0]; exact hb.2 x hx)]
        exact d3.put (c0 := 6) (s0 := x) (by omega) rfl (by omega)
      have d5 : CpF (fun c => c + 31) (fun c s => 3 ≤ c ∧ c ≤ 7 ∧ (s < x ∨ (s = x ∧ c ≤ 7))) M N5 := by
        rw [n5]
        exact d4.put (c0 := 7) (s0 := x) (by omega) rfl (by omega)
      exact ih N5 (d5.iff (by omega))
  obtain ⟨j, hj⟩ := key
  exact ⟨j, hj M (CpF.refl _ M (by omega))⟩
theorem cpB_knowns {post : Mem → Prop} (hb : (∀ k, k < 10 → M 41 k = 0 ∨ M 41 k = 1) ∧ (∀ k, k < 10 → M 43 k = 0 ∨ M 43 k = 1)) (h : ∀ M', CpF (fun c => c + 31) (fun c s => (9 ≤ c ∧ c ≤ 12 ∧ s < 10) ∨ (c = 8 ∧ (s = 4 ∨ s = 5))) M M' → post M') : ∃ j, P_Knowns_become_8_39_2 post j 0 M := by
  have key : ∃ j, ∀ M1, CpF (fun c => c + 31) (fun c s => 9 ≤ c ∧ c ≤ 12 ∧ s < 0) M M1 → P_Knowns_become_8_39_2 post j (nI 0) M1 := by
    refine lpN (R := fun j x => ∀ M1, CpF (fun c => c + 31) (fun c s => 9 ≤ c ∧ c ≤ 12 ∧ s < x) M M1 → P_Knowns_become_8_39_2 post j (nI x) M1) (N := 10) (fun j M1 f1 => brSt rfl ?_) (fun j x hx ih M1 f1 => brGo (N := 10) rfl (by omega) hx ?_)
    · intro T1 t1 T2 t2
      have g1 : CpF (fun c => c + 31) (fun c s => (9 ≤ c ∧ c ≤ 12 ∧ s < 10) ∨ (c = 8 ∧ (s = 4))) M T1 := by
        rw [t1]; exact f1.put (c0 := 8) (s0 := 4) (by omega) rfl (by omega)
      have g2 : CpF (fun c => c + 31) (fun c s => (9 ≤ c ∧ c ≤ 12 ∧ s < 10) ∨ (c = 8 ∧ (s = 4 ∨ s = 5))) M T2 := by
        rw [t2]; exact g1.put (c0 := 8) (s0 := 5) (by omega) rfl (by omega)
      exact h T2 (g2.iff (by omega))
    · have hv : vp_in (nI x) 10 := vin_nI hx (by omega)
      refine ⟨hv, hv, fun N1 n1 => ⟨hv, hv, fun N2 n2 => ⟨hv, hv, fun N3 n3 => ⟨hv, hv, fun N4 n4 => ?_⟩⟩⟩⟩
      rw [show (nI x).toNatClampNeg = x from nI_clamp (by omega)] at n1 n2 n3 n4
      rw [nI_1]
      have d1 : CpF (fun c => c + 31) (fun c s => 9 ≤ c ∧ c ≤ 12 ∧ (s < x ∨ (s = x ∧ c ≤ 9))) M N1 := by
        rw [n1]
        exact f1.put (c0 := 9) (s0 := x) (by omega) rfl (by omega)
      have d2 : CpF (fun c => c + 31) (fun c s => 9 ≤ c ∧ c ≤ 12 ∧ (s < x ∨ (s = x ∧ c ≤ 10))) M N2 := by
        have e0 : N1 41 x = M 41 x := (d1 41 x).2 (by omega)
        rw [n2, nar01 (by rw [e0]; exact hb.1 x hx)]
        exact d1.put (c0 := 10) (s0 := x) (by omega) rfl (by omega)
      have d3 : CpF (fun c => c + 31) (fun c s => 9 ≤ c ∧ c ≤ 12 ∧ (s < x ∨ (s = x ∧ c ≤ 11))) M N3 := by
        rw [n3]
        exact d2.put (c0 := 11) (s0 := x) (by omega) rfl (by omega)
      have d4 : CpF (fun c => c + 31) (fun c s => 9 ≤ c ∧ c ≤ 12 ∧ (s < x ∨ (s = x ∧ c ≤ 12))) M N4 := by
        have e0 : N3 43 x = M 43 x := (d3 43 x).2 (by omega)
        rw [n4, nar01 (by rw [e0]; exact hb.2 x hx)]
        exact d3.put (c0 := 12) (s0 := x) (by omega) rfl (by omega)
      exact ih N4 (d4.iff (by omega))
  obtain ⟨j, hj⟩ := key
  exact ⟨j, hj M (CpF.refl _ M (by omega))⟩
theorem cpB_table40 {post : Mem → Prop} (h : ∀ M', CpF (fun c => c + 31) (fun c s => (16 ≤ c ∧ c ≤ 17 ∧ s < 36) ∨ (c = 13 ∧ (s = 4))) M M' → post M') : ∃ j, P_Table_become_13_44_40 post j 0 M := by
  have key : ∃ j, ∀ M1, CpF (fun c => c + 31) (fun c s => 16 ≤ c ∧ c ≤ 17 ∧ s < 0) M M1 → P_Table_become_13_44_40 post j (nI 0) M1 := by
    refine lpN (R := fun j x => ∀ M1, CpF (fun c => c + 31) (fun c s => 16 ≤ c ∧ c ≤ 17 ∧ s < x) M M1 → P_Table_become_13_44_40 post j (nI x) M1) (N := 36) (fun j M1 f1 => brSt rfl ?_) (fun j x hx ih M1 f1 => brGo (N := 36) rfl (by omega) hx ?_)
    · intro T1 t1
      have g1 : CpF (fun c => c + 31) (fun c s => (16 ≤ c ∧ c ≤ 17 ∧ s < 36) ∨ (c = 13 ∧ (s = 4))) M T1 := by
        rw [t1]; exact f1.put (c0 := 13) (s0 := 4) (by omega) rfl (by omega)
      exact h T1 (g1.iff (by omega))
    · have hv : vp_in (nI x) 36 := vin_nI hx (by omega)
      refine ⟨hv, hv, fun N1 n1 => ⟨hv, hv, fun N2 n2 => ?_⟩⟩
      rw [show (nI x).toNatClampNeg = x from nI_clamp (by omega)] at n1 n2
      rw [nI_1]
      have d1 : CpF (fun c => c + 31) (fun c s => 16 ≤ c ∧ c ≤ 17 ∧ (s < x ∨ (s = x ∧ c ≤ 16))) M N1 := by
        rw [n1]
        exact f1.put (c0 := 16) (s0 := x) (by omega) rfl (by omega)
      have d2 : CpF (fun c => c + 31) (fun c s => 16 ≤ c ∧ c ≤ 17 ∧ (s < x ∨ (s = x ∧ c ≤ 17))) M N2 := by
        rw [n2]
        exact d1.put (c0 := 17) (s0 := x) (by omega) rfl (by omega)
      exact ih N2 (d2.iff (by omega))
  obtain ⟨j, hj⟩ := key
  exact ⟨j, hj M (CpF.refl _ M (by omega))⟩
theorem cpB_table {post : Mem → Prop} (hb : (∀ k, k < 6 → M 45 k = 0 ∨ M 45 k = 1)) (h : ∀ M', CpF (fun c => c + 31) (fun c s => (14 ≤ c ∧ c ≤ 15 ∧ s < 6) ∨ ((16 ≤ c ∧ c ≤ 17 ∧ s < 36) ∨ (c = 13 ∧ (s = 4)))) M M' → post M') : ∃ j, P_Table_become_13_44_2 post j 0 M := by
  have key : ∃ j, ∀ M1, CpF (fun c => c + 31) (fun c s => 14 ≤ c ∧ c ≤ 15 ∧ s < 0) M M1 → P_Table_become_13_44_2 post j (nI 0) M1 := by
    refine lpN (R := fun j x => ∀ M1, CpF (fun c => c + 31) (fun c s => 14 ≤ c ∧ c ≤ 15 ∧ s < x) M M1 → P_Table_become_13_44_2 post j (nI x) M1) (N := 6) (fun j M1 f1 => brSt rfl ?_) (fun j x hx ih M1 f1 => brGo (N := 6) rfl (by omega) hx ?_)
    · show _
      exact cpB_table40  (fun M2 f2 => h M2 ((f1.trans f2 (by omega)).iff (by omega)))
    · have hv : vp_in (nI x) 6 := vin_nI hx (by omega)
      refine ⟨hv, hv, fun N1 n1 => ⟨hv, hv, fun N2 n2 => ?_⟩⟩
      rw [show (nI x).toNatClampNeg = x from nI_clamp (by omega)] at n1 n2
      rw [nI_1]
      have d1 : CpF (fun c => c + 31) (fun c s => 14 ≤ c ∧ c ≤ 15 ∧ (s < x ∨ (s = x ∧ c ≤ 14))) M N1 := by
        have e0 : M1 45 x = M 45 x := (f1 45 x).2 (by omega)
        rw [n1, nar01 (by rw [e0]; exact hb x hx)]
        exact f1.put (c0 := 14) (s0 := x) (by omega) rfl (by omega)
      have d2 : CpF (fun c => c + 31) (fun c s => 14 ≤ c ∧ c ≤ 15 ∧ (s < x ∨ (s = x ∧ c ≤ 15))) M N2 := by
        rw [n2]
        exact d1.put (c0 := 15) (s0 := x) (by omega) rfl (by omega)
      exact ih N2 (d2.iff (by omega))
  obtain ⟨j, hj⟩ := key
  exact ⟨j, hj M (CpF.refl _ M (by omega))⟩
theorem cpB_shelf83 {post : Mem → Prop} (hb : (∀ k, k < 24 → M 57 k = 0 ∨ M 57 k = 1)) (h : ∀ M', CpF (fun c => c + 31) (fun c s => (24 ≤ c ∧ c ≤ 28 ∧ s < 24) ∨ (c = 18 ∧ (s = 11))) M M' → post M') : ∃ j, P_Shelf_become_18_49_83 post j 0 M := by
  have key : ∃ j, ∀ M1, CpF (fun c => c + 31) (fun c s => 24 ≤ c ∧ c ≤ 28 ∧ s < 0) M M1 → P_Shelf_become_18_49_83 post j (nI 0) M1 := by
    refine lpN (R := fun j x => ∀ M1, CpF (fun c => c + 31) (fun c s => 24 ≤ c ∧ c ≤ 28 ∧ s < x) M M1 → P_Shelf_become_18_49_83 post j (nI x) M1) (N := 24) (fun j M1 f1 => brSt rfl ?_) (fun j x hx ih M1 f1 => brGo (N := 24) rfl (by omega) hx ?_)
    · intro T1 t1
      have g1 : CpF (fun c => c + 31) (fun c s => (24 ≤ c ∧ c ≤ 28 ∧ s < 24) ∨ (c = 18 ∧ (s = 11))) M T1 := by
        rw [t1]; exact f1.put (c0 := 18) (s0 := 11) (by omega) rfl (by omega)
      exact h T1 (g1.iff (by omega))
    · have hv : vp_in (nI x) 24 := vin_nI hx (by omega)
      refine ⟨hv, hv, fun N1 n1 => ⟨hv, hv, fun N2 n2 => ⟨hv, hv, fun N3 n3 => ⟨hv, hv, fun N4 n4 => ⟨hv, hv, fun N5 n5 => ?_⟩⟩⟩⟩⟩
      rw [show (nI x).toNatClampNeg = x from nI_clamp (by omega)] at n1 n2 n3 n4 n5
      rw [nI_1]
      have d1 : CpF (fun c => c + 31) (fun c s => 24 ≤ c ∧ c ≤ 28 ∧ (s < x ∨ (s = x ∧ c ≤ 24))) M N1 := by
        rw [n1]
        exact f1.put (c0 := 24) (s0 := x) (by omega) rfl (by omega)
      have d2 : CpF (fun c => c + 31) (fun c s => 24 ≤ c ∧ c ≤ 28 ∧ (s < x ∨ (s = x ∧ c ≤ 25))) M N2 := by
        rw [n2]
        exact d1.put (c0 := 25) (s0 := x) (by omega) rfl (by omega)
      have d3 : CpF (fun c => c + 31) (fun c s => 24 ≤ c ∧ c ≤ 28 ∧ (s < x ∨ (s = x ∧ c ≤ 26))) M N3 := by
        have e0 : N2 57 x = M 57 x := (d2 57 x).2 (by omega)
        rw [n3, nar01 (by rw [e0]; exact hb x hx)]
        exact d2.put (c0 := 26) (s0 := x) (by omega) rfl (by omega)
      have d4 : CpF (fun c => c + 31) (fun c s => 24 ≤ c ∧ c ≤ 28 ∧ (s < x ∨ (s = x ∧ c ≤ 27))) M N4 := by
        rw [n4]
        exact d3.put (c0 := 27) (s0 := x) (by omega) rfl (by omega)
      have d5 : CpF (fun c => c + 31) (fun c s => 24 ≤ c ∧ c ≤ 28 ∧ (s < x ∨ (s = x ∧ c ≤ 28))) M N5 := by
        rw [n5]
        exact d4.put (c0 := 28) (s0 := x) (by omega) rfl (by omega)
      exact ih N5 (d5.iff (by omega))
  obtain ⟨j, hj⟩ := key
  exact ⟨j, hj M (CpF.refl _ M (by omega))⟩
theorem cpB_shelf {post : Mem → Prop} (hb4 : ∀ k, k < 24 → M 57 k = 0 ∨ M 57 k = 1) (h : ∀ M', CpF (fun c => c + 31) (fun c s => ((19 ≤ c ∧ c ≤ 23 ∧ s < 3) ∨ (c = 18 ∧ (s = 5))) ∨ ((24 ≤ c ∧ c ≤ 28 ∧ s < 24) ∨ (c = 18 ∧ (s = 11)))) M M' → post M') : ∃ j, P_Shelf_become_18_49_2 post j 0 M := by
  have key : ∃ j, ∀ M1, CpF (fun c => c + 31) (fun c s => 19 ≤ c ∧ c ≤ 23 ∧ s < 0) M M1 → P_Shelf_become_18_49_2 post j (nI 0) M1 := by
    refine lpN (R := fun j x => ∀ M1, CpF (fun c => c + 31) (fun c s => 19 ≤ c ∧ c ≤ 23 ∧ s < x) M M1 → P_Shelf_become_18_49_2 post j (nI x) M1) (N := 3) (fun j M1 f1 => brSt rfl ?_) (fun j x hx ih M1 f1 => brGo (N := 3) rfl (by omega) hx ?_)
    · intro T1 t1
      have g1 : CpF (fun c => c + 31) (fun c s => (19 ≤ c ∧ c ≤ 23 ∧ s < 3) ∨ (c = 18 ∧ (s = 5))) M T1 := by
        rw [t1]; exact f1.put (c0 := 18) (s0 := 5) (by omega) rfl (by omega)
      exact cpB_shelf83 (fun k hk => by rw [(g1 57 k).2 (by omega)]; exact hb4 k hk) (fun M2 f2 => h M2 ((g1.trans f2 (by omega)).iff (by omega)))
    · have hv : vp_in (nI x) 3 := vin_nI hx (by omega)
      refine ⟨hv, hv, fun N1 n1 => ⟨hv, hv, fun N2 n2 => ⟨hv, hv, fun N3 n3 => ⟨hv, hv, fun N4 n4 => ⟨hv, hv, fun N5 n5 => ?_⟩⟩⟩⟩⟩
      rw [show (nI x).toNatClampNeg = x from nI_clamp (by omega)] at n1 n2 n3 n4 n5
      rw [nI_1]
      have d1 : CpF (fun c => c + 31) (fun c s => 19 ≤ c ∧ c ≤ 23 ∧ (s < x ∨ (s = x ∧ c ≤ 19))) M N1 := by
        rw [n1]
        exact f1.put (c0 := 19) (s0 := x) (by omega) rfl (by omega)
      have d2 : CpF (fun c => c + 31) (fun c s => 19 ≤ c ∧ c ≤ 23 ∧ (s < x ∨ (s = x ∧ c ≤ 20))) M N2 := by
        rw [n2]
        exact d1.put (c0 := 20) (s0 := x) (by omega) rfl (by omega)
      have d3 : CpF (fun c => c + 31) (fun c s => 19 ≤ c ∧ c ≤ 23 ∧ (s < x ∨ (s = x ∧ c ≤ 21))) M N3 := by
        rw [n3]
        exact d2.put (c0 := 21) (s0 := x) (by omega) rfl (by omega)
      have d4 : CpF (fun c => c + 31) (fun c s => 19 ≤ c ∧ c ≤ 23 ∧ (s < x ∨ (s = x ∧ c ≤ 22))) M N4 := by
        rw [n4]
        exact d3.put (c0 := 22) (s0 := x) (by omega) rfl (by omega)
      have d5 : CpF (fun c => c + 31) (fun c s => 19 ≤ c ∧ c ≤ 23 ∧ (s < x ∨ (s = x ∧ c ≤ 23))) M N5 := by
        rw [n5]
        exact d4.put (c0 := 23) (s0 := x) (by omega) rfl (by omega)
      exact ih N5 (d5.iff (by omega))
  obtain ⟨j, hj⟩ := key
  exact ⟨j, hj M (CpF.refl _ M (by omega))⟩
theorem cpB_desk84 {post : Mem → Prop} {ext : List CD} (hc : ∀ k, k < 6 → M 62 k = 0 ∨ ∃ fl, (layC ++ ext)[(M 62 k).toNatClampNeg]? = some (4, 1, fl)) (h : ∀ M', CpF (fun c => c + 31) (fun c s => (31 ≤ c ∧ c ≤ 31 ∧ s < 6) ∨ (c = 1 ∧ (s = 7 ∨ s = 8))) M M' → post M') : ∃ j, P_Desk_become_1_32_84 ext post j 0 M := by
  have key : ∃ j, ∀ M1, CpF (fun c => c + 31) (fun c s => 31 ≤ c ∧ c ≤ 31 ∧ s < 0) M M1 → P_Desk_become_1_32_84 ext post j (nI 0) M1 := by
    refine lpN (R := fun j x => ∀ M1, CpF (fun c => c + 31) (fun c s => 31 ≤ c ∧ c ≤ 31 ∧ s < x) M M1 → P_Desk_become_1_32_84 ext post j (nI x) M1) (N := 6) (fun j M1 f1 => brSt rfl ?_) (fun j x hx ih M1 f1 => brGo (N := 6) rfl (by omega) hx ?_)
    · intro T1 t1 T2 t2
      have g1 : CpF (fun c => c + 31) (fun c s => (31 ≤ c ∧ c ≤ 31 ∧ s < 6) ∨ (c = 1 ∧ (s = 7))) M T1 := by
        rw [t1]; exact f1.put (c0 := 1) (s0 := 7) (by omega) rfl (by omega)
      have g2 : CpF (fun c => c + 31) (fun c s => (31 ≤ c ∧ c ≤ 31 ∧ s < 6) ∨ (c = 1 ∧ (s = 7 ∨ s = 8))) M T2 := by
        rw [t2]; exact g1.put (c0 := 1) (s0 := 8) (by omega) rfl (by omega)
      exact h T2 (g2.iff (by omega))
    · have hv : vp_in (nI x) 6 := vin_nI hx (by omega)
      rw [nI_clamp (by omega)]
      have e0 : M1 62 x = M 62 x := (f1 62 x).2 (by omega)
      refine ⟨hv, hv, by rw [e0]; exact hc x hx, fun N1 n1 => ?_⟩
      rw [nI_1]
      refine ih N1 ?_
      rw [n1]
      exact f1.put (c0 := 31) (s0 := x) (by omega) rfl (by omega)
  obtain ⟨j, hj⟩ := key
  exact ⟨j, hj M (CpF.refl _ M (by omega))⟩
theorem cpB_desk46 {post : Mem → Prop} {ext : List CD} (hc5 : ∀ k, k < 6 → M 62 k = 0 ∨ ∃ fl, (layC ++ ext)[(M 62 k).toNatClampNeg]? = some (4, 1, fl)) (h : ∀ M', CpF (fun c => c + 31) (fun c s => (29 ≤ c ∧ c ≤ 30 ∧ s < 24) ∨ ((31 ≤ c ∧ c ≤ 31 ∧ s < 6) ∨ (c = 1 ∧ (s = 7 ∨ s = 8)))) M M' → post M') : ∃ j, P_Desk_become_1_32_46 ext post j 0 M := by
  have key : ∃ j, ∀ M1, CpF (fun c => c + 31) (fun c s => 29 ≤ c ∧ c ≤ 30 ∧ s < 0) M M1 → P_Desk_become_1_32_46 ext post j (nI 0) M1 := by
    refine lpN (R := fun j x => ∀ M1, CpF (fun c => c + 31) (fun c s => 29 ≤ c ∧ c ≤ 30 ∧ s < x) M M1 → P_Desk_become_1_32_46 ext post j (nI x) M1) (N := 24) (fun j M1 f1 => brSt rfl ?_) (fun j x hx ih M1 f1 => brGo (N := 24) rfl (by omega) hx ?_)
    · show _
      exact cpB_desk84 (fun k hk => by rw [(f1 62 k).2 (by omega)]; exact hc5 k hk) (fun M2 f2 => h M2 ((f1.trans f2 (by omega)).iff (by omega)))
    · have hv : vp_in (nI x) 24 := vin_nI hx (by omega)
      refine ⟨hv, hv, fun N1 n1 => ⟨hv, hv, fun N2 n2 => ?_⟩⟩
      rw [show (nI x).toNatClampNeg = x from nI_clamp (by omega)] at n1 n2
      rw [nI_1]
      have d1 : CpF (fun c => c + 31) (fun c s => 29 ≤ c ∧ c ≤ 30 ∧ (s < x ∨ (s = x ∧ c ≤ 29))) M N1 := by
        rw [n1]
        exact f1.put (c0 := 29) (s0 := x) (by omega) rfl (by omega)
      have d2 : CpF (fun c => c + 31) (fun c s => 29 ≤ c ∧ c ≤ 30 ∧ (s < x ∨ (s = x ∧ c ≤ 30))) M N2 := by
        rw [n2]
        exact d1.put (c0 := 30) (s0 := x) (by omega) rfl (by omega)
      exact ih N2 (d2.iff (by omega))
  obtain ⟨j, hj⟩ := key
  exact ⟨j, hj M (CpF.refl _ M (by omega))⟩
end BECOME
