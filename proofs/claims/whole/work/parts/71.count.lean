/-! THE CLASS: count, feed, end, fault -/
section COUNT
variable {w lo hi : Nat → Int32} {M : Mem}
theorem s_C_allLines {post : Int32 → Mem → Prop} (hD : Dk 1 M w) (hI : WInv w) (h : post (nI (sumN (fun e => nn (w (93 + 14 * e))) (nn (w 7)))) M) : P_Table_allLines post M := by
  obtain ⟨hn, hn6⟩ := hI.ne
  refine lpN (R := fun j e => P_Table_allLines_4 post j (nI (sumN (fun e => nn (w (93 + 14 * e))) e)) (nI e) M) (N := nn (w 7)) (fun j => brSt (by rw [hD.ne]; exact hn) h) (fun j e he ih => brGo (by rw [hD.ne]; exact hn) (by omega) he ⟨vin_nI (by omega) (by omega), fun x1 e1 => ?_⟩)
  rw [nI_clamp (by omega), hD.nl (by omega), (hI.nl (e := e) (by omega)).1, nI_add] at e1
  rw [nI_1, e1]; exact ih
theorem s_C_allGhosts {post : Int32 → Mem → Prop} (hD : Dk 1 M w) (hI : WInv w) (h : post (nI (cntB (ghB w) (nn (w 9)))) M) : P_Shelf_allGhosts post M := by
  obtain ⟨hn, hn24⟩ := hI.nr
  refine lpN (R := fun j r => P_Shelf_allGhosts_4 post j (nI (cntB (ghB w) r)) (nI r) M) (N := nn (w 9)) (fun j => brSt (by rw [hD.nr]; exact hn) h) (fun j r hr ih => brGo (by rw [hD.nr]; exact hn) (by omega) hr (s_C_ghost hD hI (by omega) ?_))
  refine b0n (fun c => ?_) (fun c => ?_)
  · simp only [cntB, c, Bool.false_eq_true, if_false, Nat.add_zero] at ih
    unfold P_Shelf_allGhosts_23
    rw [nI_1]; exact ih
  · simp only [cntB, c, if_true] at ih
    unfold P_Shelf_allGhosts_23
    rw [nI_1, nI_1]; exact ih
theorem cntB_all {f : Nat → Bool} {b : Bool} : ∀ {n : Nat}, (∀ x, x < n → f x = b) → cntB f n = if b then n else 0
  | 0, _ => by cases b <;> rfl
  | n + 1, h => by
    simp only [cntB]
    rw [cntB_all (n := n) (fun x hx => h x (by omega)), h n (by omega)]
    cases b <;> rfl
theorem s_R_count {post : Int32 → Mem → Prop} {x : Int32} (hD : Dk 1 M w) (hI : WInv w) (hL : Lw M w) (hS : SpOK w (-1) 0 lo hi (nn (w 9))) (h : ∀ M', FrQ M M' → Lw M' w → post (ctA w lo hi x) M') : P_R_count post x M := by
  have pl : ∀ v, v = ctA w lo hi x → post v M := fun v hv => by rw [hv]; exact h M (FrQ.refl M) hL
  unfold P_R_count
  rw [hD.ng, hD.nk, hD.ne, hD.np, hD.nr, hD.nc, hD.err, hD.nm]
  refine ⟨fun c0 => pl _ ?_, fun c0 => ⟨fun c1 => pl _ ?_, fun c1 => ⟨fun c2 => pl _ ?_, fun c2 => ⟨fun c3 => s_C_allLines hD hI (pl _ ?_), fun c3 => ⟨fun c4 => pl _ ?_, fun c4 => ⟨fun c5 => pl _ ?_, fun c5 => ⟨fun c6 => s_C_allGhosts hD hI (pl _ ?_), fun c6 => ⟨fun c7 => pl _ ?_, fun c7 => ⟨fun c8 => pl _ ?_, fun c8 => ⟨fun c9 => ?_, fun c9 => ⟨fun c10 => pl _ ?_, fun c10 => pl _ ?_⟩⟩⟩⟩⟩⟩⟩⟩⟩⟩⟩
  · unfold ctA; rw [if_pos c0]
  · unfold ctA; rw [if_neg c0, if_pos c1]
  · unfold ctA; rw [if_neg c0, if_neg c1, if_pos c2]
  · unfold ctA; rw [if_neg c0, if_neg c1, if_neg c2, if_pos c3]
  · unfold ctA; rw [if_neg c0, if_neg c1, if_neg c2, if_neg c3, if_pos c4]
  · unfold ctA; rw [if_neg c0, if_neg c1, if_neg c2, if_neg c3, if_neg c4, if_pos c5]
  · unfold ctA; rw [if_neg c0, if_neg c1, if_neg c2, if_neg c3, if_neg c4, if_neg c5, if_pos c6]
  · unfold ctA; rw [if_neg c0, if_neg c1, if_neg c2, if_neg c3, if_neg c4, if_neg c5, if_neg c6, if_pos c7]
  · unfold ctA; rw [if_neg c0, if_neg c1, if_neg c2, if_neg c3, if_neg c4, if_neg c5, if_neg c6, if_neg c7, if_pos c8]
  · refine s_C_solve hD hI hL (fun M3 f3 hL3 => ?_)
    have h := h M3 f3.q (Or.inr hL3)
    have e1 : ctA w lo hi x = nI (cntB (spB lo hi) (nn (w 9))) := by unfold ctA; rw [if_neg c0, if_neg c1, if_neg c2, if_neg c3, if_neg c4, if_neg c5, if_neg c6, if_neg c7, if_neg c8, if_pos c9]
    have e2 : cntB (spB lo hi) (nn (w 9)) = if decide (0 < toA w 0) then nn (w 9) else 0 := cntB_all (fun r hr => sp_B hI (by omega : -30 ≤ (0 : Int) ∧ (0 : Int) ≤ 30) hS hr)
    rw [e1, e2] at h
    have hb := toA_bd hI (s := 0) (by omega)
    rw [hL3.1, show (0 : Int32) = I 0 from rfl, I_le (by omega) (by omega)]
    refine ⟨fun c => ?_, fun c => ?_⟩
    · rw [decide_eq_false (by omega)] at h; exact h
    · rw [decide_eq_true (by omega), if_pos rfl] at h
      rw [(f3.dk hD).nr, hI.nr.1]; exact h
  · unfold ctA; rw [if_neg c0, if_neg c1, if_neg c2, if_neg c3, if_neg c4, if_neg c5, if_neg c6, if_neg c7, if_neg c8, if_neg c9, if_pos c10]
  · unfold ctA; rw [if_neg c0, if_neg c1, if_neg c2, if_neg c3, if_neg c4, if_neg c5, if_neg c6, if_neg c7, if_neg c8, if_neg c9, if_neg c10]
/-- what taking some bytes leaves: cell 84 holds how many, cell 85 the bytes -/
def TkQ (M : Mem) (n : Nat) (by_ : Nat → Int32) (c : Nat) (M' : Mem) : Prop := (∀ d, d ≠ 84 → d ≠ 85 → M' d = M d) ∧ (∀ k, k ≠ 4 → M' 84 k = M 84 k) ∧ M' 84 4 = nI (n + c) ∧ (∀ k, k < n → M' 85 k = M 85 k) ∧ ∀ k, k < c → M' 85 (n + k) = by_ k
theorem s_C_take {post : Mem → Prop} {x1 : Int32} {n : Nat} (hn : M 84 4 = nI n) (hn4 : n + 4 ≤ 400) (h : ∀ M', TkQ M n (fun i => vp_nar .byte (x1 >>> (nI (24 - 8 * i) &&& 31)).toInt8.toInt32) 4 M' → post M') : P_Reader_take post x1 M := by
  generalize hB : (fun i => vp_nar .byte (x1 >>> (nI (24 - 8 * i) &&& 31)).toInt8.toInt32) = B at h
  have hBi : ∀ i, B i = vp_nar .byte (x1 >>> (nI (24 - 8 * i) &&& 31)).toInt8.toInt32 := fun i => by rw [← hB]
  have key : ∃ j, ∀ M1, TkQ M n B 0 M1 → P_Reader_take_3 post j x1 (I (24 - 8 * ((0 : Nat) : Int))) M1 := by
    refine lpN (R := fun j i => ∀ M1, TkQ M n B i M1 → P_Reader_take_3 post j x1 (I (24 - 8 * (i : Int))) M1) (N := 4) (fun j M1 f1 => ⟨fun _ => h M1 f1, fun c => absurd (by decide) c⟩) (fun j i hi ih M1 f1 => ⟨fun c => ?_, fun _ => ?_⟩)
    · rw [show (0 : Int32) = I 0 from rfl, I_lt (by omega) (by omega)] at c; omega
    · rw [f1.2.2.1, lit_nI 400, nI_le_iff (by omega) (by omega)]
      refine ⟨fun c => by omega, fun _ => ⟨vin_nI (by omega) (by omega), fun M2 m2 M3 m3 => ?_⟩⟩
      rw [nI_clamp (by omega)] at m2
      have e84 : M2 84 4 = nI (n + i) := by rw [m2, ms_off _ _ _ (by omega)]; exact f1.2.2.1
      rw [e84] at m3
      have ex : I (24 - 8 * (i : Int)) + -8 = I (24 - 8 * ((i + 1 : Nat) : Int)) := by rw [show (-8 : Int32) = I (-8) from rfl, I_add]; congr 1; omega
      have ex2 : I (24 - 8 * (i : Int)) = nI (24 - 8 * i) := by rw [nI_I]; congr 1; omega
      rw [ex]
      refine ih M3 ⟨fun d h1 h2 => ?_, fun k hk => ?_, ?_, fun k hk => ?_, fun k hk => ?_⟩
      · rw [m3, ms_off _ _ _ h1, m2, ms_off _ _ _ h2]; exact f1.1 d h1 h2
      · rw [m3, ms_ne _ _ _ hk, m2, ms_off _ _ _ (by omega)]; exact f1.2.1 k hk
      · rw [m3, ms_at, nI_1]; rfl
      · rw [m3, ms_off _ _ _ (by omega), m2, ms_ne _ _ _ (by omega)]; exact f1.2.2.2.1 k hk
      · rw [m3, ms_off _ _ _ (by omega), m2]
        by_cases q : k = i
        · subst q; rw [ms_at, ex2, hBi]
        · rw [ms_ne _ _ _ (by omega)]; exact f1.2.2.2.2 k (by omega)
  obtain ⟨j, hj⟩ := key
  exact ⟨j, hj M ⟨fun _ _ _ => rfl, fun _ _ => rfl, hn, fun _ _ => rfl, fun k hk => by omega⟩⟩
theorem TkQ.add {M M1 M2 : Mem} {n c : Nat} {A B C : Nat → Int32} (h1 : TkQ M n A c M1) (h2 : TkQ M1 (n + c) B 4 M2) (hA : ∀ k, k < c → C k = A k) (hB : ∀ k, k < 4 → C (c + k) = B k) : TkQ M n C (c + 4) M2 := by
  refine ⟨fun d q1 q2 => by rw [h2.1 d q1 q2, h1.1 d q1 q2], fun k hk => by rw [h2.2.1 k hk, h1.2.1 k hk], by rw [h2.2.2.1, Nat.add_assoc], fun k hk => by rw [h2.2.2.2.1 k (by omega), h1.2.2.2.1 k hk], fun k hk => ?_⟩
  by_cases q : k < c
  · rw [h2.2.2.2.1 (n + k) (by omega), h1.2.2.2.2 k q, hA k q]
  · have := h2.2.2.2.2 (k - c) (by omega)
    rw [show n + c + (k - c) = n + k by omega] at this
    rw [this, ← hB (k - c) (by omega), show c + (k - c) = k by omega]
theorem s_R_feed {post : Int32 → Mem → Prop} {x1 x2 x3 x4 x5 : Int32} {n : Nat} (hn : M 84 4 = nI n) (hn400 : n ≤ 400) (h1 : n + 20 ≤ 400 → ∀ M', TkQ M n (fdB x1 x2 x3 x4 x5) 20 M' → post (nI (n + 20)) M') (h2 : ¬ n + 20 ≤ 400 → post (-1) M) : P_R_feed post x1 x2 x3 x4 x5 M := by
  unfold P_R_feed
  rw [hn, lit_nI 20, nI_add, lit_nI 400, nI_le_iff (by omega) (by omega)]
  refine ⟨fun c => ?_, h2⟩
  refine s_C_take hn (by omega) (fun M1 f1 => s_C_take f1.2.2.1 (by omega) (fun M2 f2 => s_C_take (n := n + 4 + 4) (by rw [f2.2.2.1]) (by omega) (fun M3 f3 => s_C_take (n := n + 4 + 4 + 4) (by rw [f3.2.2.1]) (by omega) (fun M4 f4 => s_C_take (n := n + 4 + 4 + 4 + 4) (by rw [f4.2.2.1]) (by omega) (fun M5 f5 => ?_)))))
  have hb : ∀ j k, k < 4 → fdB x1 x2 x3 x4 x5 (4 * j + k) = vp_nar .byte ((fvF x1 x2 x3 x4 x5 j) >>> (nI (24 - 8 * k) &&& 31)).toInt8.toInt32 := by
    intro j k hk
    unfold fdB
    rw [show (4 * j + k) / 4 = j by omega, show (4 * j + k) % 4 = k by omega]
  have g1 : TkQ M n (fdB x1 x2 x3 x4 x5) 4 M1 := ⟨f1.1, f1.2.1, f1.2.2.1, f1.2.2.2.1, fun k hk => by rw [f1.2.2.2.2 k hk]; have := hb 0 k hk; rw [show 4 * 0 + k = k by omega] at this; rw [this]; rfl⟩
  have g2 := g1.add (C := fdB x1 x2 x3 x4 x5) f2 (fun _ _ => rfl) (fun k hk => (hb 1 k hk).trans rfl)
  have g3 := g2.add (C := fdB x1 x2 x3 x4 x5) f3 (fun _ _ => rfl) (fun k hk => (hb 2 k hk).trans rfl)
  have g4 := g3.add (C := fdB x1 x2 x3 x4 x5) f4 (fun _ _ => rfl) (fun k hk => (hb 3 k hk).trans rfl)
  have g5 := g4.add (C := fdB x1 x2 x3 x4 x5) f5 (fun _ _ => rfl) (fun k hk => (hb 4 k hk).trans rfl)
  have e84 : M5 84 4 = nI (n + 20) := g5.2.2.1
  rw [e84]
  exact h1 c M5 g5
theorem s_R_end {post : Int32 → Mem → Prop} {x : Int32} (h1 : ¬ x < 0 → x ≤ M 84 4 → post 1 (ms M 84 4 x)) (h2 : (x < 0 ∨ ¬ x ≤ M 84 4) → post 0 M) : P_R_end post x M :=
  ⟨fun c => h2 (Or.inl c), fun c => ⟨fun c2 M1 m1 => by rw [m1]; exact h1 c c2, fun c2 => h2 (Or.inr c2)⟩⟩
theorem s_R_fault {post : Int32 → Mem → Prop} (h : post (M 84 8) M) : P_R_fault post M := h
end COUNT
