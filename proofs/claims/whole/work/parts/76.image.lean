/-! THE CLASS: image, back (printed by imgback.py) -/
theorem cpI_all : ∀ i : Fin 359, (((((34 ≤ (32 + (locT i.1).1) ∧ (32 + (locT i.1).1) ≤ 38 ∧ (locT i.1).2 < 8) ∨ ((32 + (locT i.1).1) = 33 ∧ ((locT i.1).2 = 5 ∨ (locT i.1).2 = 6 ∨ (locT i.1).2 = 7 ∨ (locT i.1).2 = 8 ∨ (locT i.1).2 = 9))) ∨ ((40 ≤ (32 + (locT i.1).1) ∧ (32 + (locT i.1).1) ≤ 43 ∧ (locT i.1).2 < 10) ∨ ((32 + (locT i.1).1) = 39 ∧ ((locT i.1).2 = 4 ∨ (locT i.1).2 = 5)))) ∨ ((45 ≤ (32 + (locT i.1).1) ∧ (32 + (locT i.1).1) ≤ 46 ∧ (locT i.1).2 < 6) ∨ ((47 ≤ (32 + (locT i.1).1) ∧ (32 + (locT i.1).1) ≤ 48 ∧ (locT i.1).2 < 36) ∨ ((32 + (locT i.1).1) = 44 ∧ ((locT i.1).2 = 4))))) ∨ (((50 ≤ (32 + (locT i.1).1) ∧ (32 + (locT i.1).1) ≤ 54 ∧ (locT i.1).2 < 3) ∨ ((32 + (locT i.1).1) = 49 ∧ ((locT i.1).2 = 5))) ∨ ((55 ≤ (32 + (locT i.1).1) ∧ (32 + (locT i.1).1) ≤ 59 ∧ (locT i.1).2 < 24) ∨ ((32 + (locT i.1).1) = 49 ∧ ((locT i.1).2 = 11))))) ∨ ((60 ≤ (32 + (locT i.1).1) ∧ (32 + (locT i.1).1) ≤ 61 ∧ (locT i.1).2 < 24) ∨ ((62 ≤ (32 + (locT i.1).1) ∧ (32 + (locT i.1).1) ≤ 62 ∧ (locT i.1).2 < 6) ∨ ((32 + (locT i.1).1) = 32 ∧ ((locT i.1).2 = 7 ∨ (locT i.1).2 = 8)))) := by decide +kernel
theorem cpI_rng {c s : Nat} (h : (((((34 ≤ c ∧ c ≤ 38 ∧ s < 8) ∨ (c = 33 ∧ (s = 5 ∨ s = 6 ∨ s = 7 ∨ s = 8 ∨ s = 9))) ∨ ((40 ≤ c ∧ c ≤ 43 ∧ s < 10) ∨ (c = 39 ∧ (s = 4 ∨ s = 5)))) ∨ ((45 ≤ c ∧ c ≤ 46 ∧ s < 6) ∨ ((47 ≤ c ∧ c ≤ 48 ∧ s < 36) ∨ (c = 44 ∧ (s = 4))))) ∨ (((50 ≤ c ∧ c ≤ 54 ∧ s < 3) ∨ (c = 49 ∧ (s = 5))) ∨ ((55 ≤ c ∧ c ≤ 59 ∧ s < 24) ∨ (c = 49 ∧ (s = 11))))) ∨ ((60 ≤ c ∧ c ≤ 61 ∧ s < 24) ∨ ((62 ≤ c ∧ c ≤ 62 ∧ s < 6) ∨ (c = 32 ∧ (s = 7 ∨ s = 8))))) : 32 ≤ c ∧ c ≤ 62 := h.elim (fun e => e.elim (fun e => e.elim (fun e => e.elim cpI_r1 cpI_r2) cpI_r3) cpI_r4) cpI_r5
theorem cpB_all : ∀ i : Fin 359, (((((3 ≤ (1 + (locT i.1).1) ∧ (1 + (locT i.1).1) ≤ 7 ∧ (locT i.1).2 < 8) ∨ ((1 + (locT i.1).1) = 2 ∧ ((locT i.1).2 = 5 ∨ (locT i.1).2 = 6 ∨ (locT i.1).2 = 7 ∨ (locT i.1).2 = 8 ∨ (locT i.1).2 = 9))) ∨ ((9 ≤ (1 + (locT i.1).1) ∧ (1 + (locT i.1).1) ≤ 12 ∧ (locT i.1).2 < 10) ∨ ((1 + (locT i.1).1) = 8 ∧ ((locT i.1).2 = 4 ∨ (locT i.1).2 = 5)))) ∨ ((14 ≤ (1 + (locT i.1).1) ∧ (1 + (locT i.1).1) ≤ 15 ∧ (locT i.1).2 < 6) ∨ ((16 ≤ (1 + (locT i.1).1) ∧ (1 + (locT i.1).1) ≤ 17 ∧ (locT i.1).2 < 36) ∨ ((1 + (locT i.1).1) = 13 ∧ ((locT i.1).2 = 4))))) ∨ (((19 ≤ (1 + (locT i.1).1) ∧ (1 + (locT i.1).1) ≤ 23 ∧ (locT i.1).2 < 3) ∨ ((1 + (locT i.1).1) = 18 ∧ ((locT i.1).2 = 5))) ∨ ((24 ≤ (1 + (locT i.1).1) ∧ (1 + (locT i.1).1) ≤ 28 ∧ (locT i.1).2 < 24) ∨ ((1 + (locT i.1).1) = 18 ∧ ((locT i.1).2 = 11))))) ∨ ((29 ≤ (1 + (locT i.1).1) ∧ (1 + (locT i.1).1) ≤ 30 ∧ (locT i.1).2 < 24) ∨ ((31 ≤ (1 + (locT i.1).1) ∧ (1 + (locT i.1).1) ≤ 31 ∧ (locT i.1).2 < 6) ∨ ((1 + (locT i.1).1) = 1 ∧ ((locT i.1).2 = 7 ∨ (locT i.1).2 = 8)))) := by decide +kernel
theorem cpB_rng {c s : Nat} (h : (((((3 ≤ c ∧ c ≤ 7 ∧ s < 8) ∨ (c = 2 ∧ (s = 5 ∨ s = 6 ∨ s = 7 ∨ s = 8 ∨ s = 9))) ∨ ((9 ≤ c ∧ c ≤ 12 ∧ s < 10) ∨ (c = 8 ∧ (s = 4 ∨ s = 5)))) ∨ ((14 ≤ c ∧ c ≤ 15 ∧ s < 6) ∨ ((16 ≤ c ∧ c ≤ 17 ∧ s < 36) ∨ (c = 13 ∧ (s = 4))))) ∨ (((19 ≤ c ∧ c ≤ 23 ∧ s < 3) ∨ (c = 18 ∧ (s = 5))) ∨ ((24 ≤ c ∧ c ≤ 28 ∧ s < 24) ∨ (c = 18 ∧ (s = 11))))) ∨ ((29 ≤ c ∧ c ≤ 30 ∧ s < 24) ∨ ((31 ≤ c ∧ c ≤ 31 ∧ s < 6) ∨ (c = 1 ∧ (s = 7 ∨ s = 8))))) : 1 ≤ c ∧ c ≤ 31 := h.elim (fun e => e.elim (fun e => e.elim (fun e => e.elim cpB_r1 cpB_r2) cpB_r3) cpB_r4) cpB_r5
theorem Dk.b01 {b : Nat} {M : Mem} {w : Nat → Int32} (h : Dk b M w) (hI : WInv w) : (∀ k, k < 8 → M (b + 3) k = 0 ∨ M (b + 3) k = 1) ∧ (∀ k, k < 8 → M (b + 5) k = 0 ∨ M (b + 5) k = 1) ∧ (∀ k, k < 10 → M (b + 9) k = 0 ∨ M (b + 9) k = 1) ∧ (∀ k, k < 10 → M (b + 11) k = 0 ∨ M (b + 11) k = 1) ∧ (∀ k, k < 6 → M (b + 13) k = 0 ∨ M (b + 13) k = 1) ∧ (∀ k, k < 24 → M (b + 25) k = 0 ∨ M (b + 25) k = 1) := by
  refine ⟨fun k hk => ?_, fun k hk => ?_, fun k hk => ?_, fun k hk => ?_, fun k hk => ?_, fun k hk => ?_⟩
  · have h1 := h (13 + 5 * k) (by omega)
    rw [(loc_g ⟨k, hk⟩).2.1] at h1
    have h1 : M (b + 3) k = w (13 + 5 * k) := h1
    rw [h1]; exact rg01 (hI.2.2.2.2.2.2.2.2.2.2.2.2.1 k hk).2.1
  · have h1 := h (15 + 5 * k) (by omega)
    rw [(loc_g ⟨k, hk⟩).2.2.2.1] at h1
    have h1 : M (b + 5) k = w (15 + 5 * k) := h1
    rw [h1]; exact rg01 (hI.2.2.2.2.2.2.2.2.2.2.2.2.1 k hk).2.2.2.1
  · have h1 := h (53 + 4 * k) (by omega)
    rw [(loc_k ⟨k, hk⟩).2.1] at h1
    have h1 : M (b + 9) k = w (53 + 4 * k) := h1
    rw [h1]; exact rg01 (hI.kn hk).2.1
  · have h1 := h (55 + 4 * k) (by omega)
    rw [(loc_k ⟨k, hk⟩).2.2.2] at h1
    have h1 : M (b + 11) k = w (55 + 4 * k) := h1
    rw [h1]; exact rg01 (hI.kn hk).2.2.2
  · have h1 := h (92 + 14 * k) (by omega)
    rw [(loc_e ⟨k, hk⟩).1] at h1
    have h1 : M (b + 13) k = w (92 + 14 * k) := h1
    rw [h1]; exact rg01 (hI.el hk).1
  · have h1 := h (193 + 5 * k) (by omega)
    rw [(loc_r ⟨k, hk⟩).2.2.1] at h1
    have h1 : M (b + 25) k = w (193 + 5 * k) := h1
    rw [h1]; exact rg01 (hI.rd hk).2.2.1
/-- what stands in a desk's row of claims may stand there -/
def CkR (ext : List CD) (r : Nat → Int32) : Prop := ∀ k, k < 6 → r k = 0 ∨ ∃ fl, (layC ++ ext)[(r k).toNatClampNeg]? = some (4, 1, fl)
theorem s_R_image {post : Mem → Prop} {ext : List CD} {M : Mem} {w : Nat → Int32} (hD : Dk 1 M w) (hI : WInv w) (hc : CkR ext (M 31))
    (h : ∀ M', (∀ c, c ≠ 0 → (c < 32 ∨ 63 ≤ c) → M' c = M c) → (∀ s, s ≠ 7 → M' 0 s = M 0 s) → M' 0 7 = 1 → Dk 32 M' w → (∀ k, k < 6 → M' 62 k = M 31 k) → post M') : P_R_image ext post M := by
  refine cpI_desk (hD.b01 hI) hc (fun M1 f1 M2 m2 => ?_)
  have off : ∀ c, (c < 32 ∨ 63 ≤ c) → M1 c = M c := fun c hc => funext fun s => (f1 c s).2 (fun e => by have := cpI_rng e; omega)
  refine h M2 (fun c h0 h1 => by rw [m2, ms_off _ _ _ h0]; exact off c h1) (fun s hs => by rw [m2, ms_ne _ _ _ hs, off 0 (by omega)]) (by rw [m2, ms_at]) (fun i hi => ?_) (fun k hk => ?_)
  · have e1 : M2 (32 + (locT i).1) (locT i).2 = M1 (32 + (locT i).1) (locT i).2 := by rw [m2, ms_off _ _ _ (by omega)]
    rw [e1, (f1 (32 + (locT i).1) (locT i).2).1 (cpI_all ⟨i, hi⟩)]
    show M (32 + (locT i).1 - 31) (locT i).2 = w i
    rw [show 32 + (locT i).1 - 31 = 1 + (locT i).1 by omega]
    exact hD i hi
  · rw [m2, ms_off _ _ _ (by omega)]
    exact (f1 62 k).1 (Or.inr (Or.inr (Or.inl ⟨by omega, by omega, hk⟩)))
theorem s_R_back {post : Int32 → Mem → Prop} {ext : List CD} {M : Mem} {w : Nat → Int32} (hK : ¬ M 0 7 = 0 → Dk 32 M w ∧ WInv w ∧ CkR ext (M 62))
    (h1 : ¬ M 0 7 = 0 → ∀ M', (∀ c, (c = 0 ∨ 32 ≤ c) → c ≠ 63 → M' c = M c) → M' 63 12 = 0 → Dk 1 M' w → (∀ k, k < 6 → M' 31 k = M 62 k) → post 1 M') (h2 : M 0 7 = 0 → post 0 M) : P_R_back ext post M := by
  refine ⟨fun c0 => ?_, h2⟩
  obtain ⟨hD, hI, hc⟩ := hK c0
  refine cpB_desk (hD.b01 hI) hc (fun M1 f1 => s_C_forget ?_)
  have off : ∀ c, (c = 0 ∨ 32 ≤ c) → M1 c = M c := fun c hc => funext fun s => (f1 c s).2 (fun e => by have := cpB_rng e; omega)
  refine h1 c0 _ (fun c h0 h1 => by rw [ms_off _ _ _ h1]; exact off c h0) (by rw [ms_at]) (fun i hi => ?_) (fun k hk => ?_)
  · have h29 := (locI_T ⟨i, hi⟩).2
    simp only [] at h29
    rw [ms_off _ _ _ (by omega), (f1 (1 + (locT i).1) (locT i).2).1 (cpB_all ⟨i, hi⟩)]
    show M (1 + (locT i).1 + 31) (locT i).2 = w i
    rw [show 1 + (locT i).1 + 31 = 32 + (locT i).1 by omega]
    exact hD i hi
  · rw [ms_off _ _ _ (by omega)]
    exact (f1 31 k).1 (Or.inr (Or.inr (Or.inl ⟨by omega, by omega, hk⟩)))
