/-! THE CLASS: makers, recipes, grain, near, count, feed, end, fault -/
section SMALL
variable {w lo hi : Nat → Int32} {M : Mem}
theorem mk_lo {m : Nat} {w : Nat → Int32} : ∀ n i, i < 311 → mkF w m n i = w i
  | 0, i, _ => rfl
  | n + 1, i, h => by
    simp only [mkF]
    rw [upd_ne _ _ (by omega), upd_ne _ _ (by omega)]; exact mk_lo n i h
theorem s_R_maker {post : Int32 → Mem → Prop} {ex : String → Mem → Prop} (hD : Dk 1 M w) (hI : WInv w) (hL : Lw M w) (h : QD post ex M [UOE] (oMaker w)) : P_R_maker post ex M := by
  unfold oMaker at h
  obtain ⟨hn, hn4⟩ := hI.nm
  unfold P_R_maker
  rw [hD.nm, hn, lit_nI 4, nI_le_iff (by omega) (by omega)]
  refine ⟨fun q => ?_, fun q => ?_⟩
  · rw [if_pos (by omega)] at h
    exact ⟨fun q2 => absurd rfl q2, fun _ => h.bad1⟩
  · rw [if_neg (by omega)] at h
    refine ⟨fun _ x1 e1 => ?_, fun q2 => absurd q2 (by decide)⟩
    rw [hD.nm, hn, lit_nI 6, pk_mul] at e1
    subst e1
    generalize hN : nn (w 11) = n at *
    have key : ∃ j, ∀ M1, FrD M M1 → Dk 1 M1 (mkF w n 0) → (∀ c, 63 ≤ c → c ≤ 68 → M1 c = M c) → P_R_maker_32 post ex j (nI (n * 6)) (nI 0) M1 := by
      refine lpN (R := fun j e => ∀ M1, FrD M M1 → Dk 1 M1 (mkF w n e) → (∀ c, 63 ≤ c → c ≤ 68 → M1 c = M c) → P_R_maker_32 post ex j (nI (n * 6)) (nI e) M1) (N := 6) (fun j M1 f1 hD1 g1 => brSt rfl (fun M2 m2 => ?_)) (fun j e he ih M1 f1 hD1 g1 => brGo (N := 6) rfl (by omega) he ?_)
      · have e11 : M1 1 7 = w 11 := by rw [hD1.nm, mk_lo _ _ (by omega)]
        rw [e11] at m2
        have e7 : M2 1 7 - 1 = w 11 := by rw [m2, ms_at]; exact Int32.add_sub_cancel _ _
        rw [e7]
        have hD2 := hD1.put (i := 11) (by omega) rfl (w 11 + 1)
        have hcomm : ∀ k, upd (mkF w n k) 11 (w 11 + 1) = mkF (upd w 11 (w 11 + 1)) n k := by
          intro k
          induction k with
          | zero => rfl
          | succ k ih =>
            simp only [mkF]
            rw [← ih]
            funext i
            unfold upd
            by_cases i1 : i = 11
            · subst i1; rw [if_pos rfl, if_neg (by omega), if_neg (by omega), if_pos rfl]
            · simp only [i1, if_false]
        rw [hcomm] at hD2
        refine h.1 rfl M2 ?_ ?_ ?_
        · rw [m2]; exact f1.put (by omega) _ _
        · rw [m2]; exact hD2
        · refine hL.ag ⟨fun i hi => ?_, ?_, fun i h1 h2 => ?_⟩ hI.nk.2 (fun c h1 h2 => ?_)
          · show mkF (upd w 11 (w 11 + 1)) n 6 i = w i
            rw [mk_lo _ _ (by omega), upd_ne _ _ (by omega)]
          · show mkF (upd w 11 (w 11 + 1)) n 6 6 = w 6
            rw [mk_lo _ _ (by omega), upd_ne _ _ (by omega)]
          · show mkF (upd w 11 (w 11 + 1)) n 6 i = w i
            rw [mk_lo _ _ (by omega), upd_ne _ _ (by omega)]
          · rw [m2, ms_off _ _ _ (by omega)]; exact g1 c h1 h2
      · have ei : nI (n * 6) + nI e = nI (6 * n + e) := by rw [nI_add]; congr 1; omega
        rw [ei, nI_clamp (by omega)]
        refine ⟨vin_nI (by omega) (by omega), fun M2 m2 => ⟨vin_nI (by omega) (by omega), fun M3 m3 => ?_⟩⟩
        rw [nI_1]
        have hl := loc_c ⟨6 * n + e, by omega⟩
        have hD3 := (hD1.put (i := 311 + 2 * (6 * n + e)) (by omega) hl.1 0).put (i := 312 + 2 * (6 * n + e)) (by omega) hl.2 9
        refine ih M3 (by rw [m3, m2]; exact (f1.put (by omega) _ _).put (by omega) _ _) (by rw [m3, m2]; exact hD3) (fun c h1 h2 => by rw [m3, ms_off _ _ _ (by omega), m2, ms_off _ _ _ (by omega)]; exact g1 c h1 h2)
    obtain ⟨j, hj⟩ := key
    exact ⟨j, hj M (FrD.refl M) hD (fun _ _ _ => rfl)⟩
theorem s_R_recipe {post : Mem → Prop} {ex : String → Mem → Prop} {m e a b : Int32} (hD : Dk 1 M w) (hI : WInv w) (hL : Lw M w) (h : QD (fun _ => post) ex M [IOB, IAE] (oRecipe w m e a b)) : P_R_recipe post ex m e a b M := by
  unfold oRecipe at h
  refine s_wantMaker hD (fun c1 => s_R_within (s_want (fun c2 => s_R_within ?_) (fun c2 => ?_))) (fun c1 => ?_)
  · simp only [c1, c2, Bool.and_self, Bool.not_true, Bool.false_eq_true, if_false] at h
    have bad : (inb a 0 b && decide (b ≤ 9)) = false → P_R_recipe_39 post ex m e a b M := fun c => by
      rw [c] at h
      exact ⟨fun q2 => absurd rfl q2, fun _ => h.bad2⟩
    refine b0n (fun c3 => bad (by rw [c3]; rfl)) (fun c3 => s_R_within (b0n (fun c4 => bad ?_) (fun c4 => ?_)))
    · have h3 := of_decide_eq_true c3
      have h4 := of_decide_eq_false c4
      have : ¬ b ≤ 9 := fun q => h4 ⟨by rw [leI] at *; have := h3.1; have := h3.2; rw [leI] at *; omega, q⟩
      rw [decide_eq_false this, Bool.and_false]
    · have h4 := of_decide_eq_true c4
      rw [c3, decide_eq_true h4.2] at h
      simp only [Bool.and_self, Bool.not_true, Bool.false_eq_true, if_false] at h
      obtain ⟨hm, _, hm4⟩ := hI.inm c1
      have h2 := of_decide_eq_true c2
      have hrg : rg e 0 5 := ⟨by have := h2.1; rw [leI] at this; exact this, by have := h2.2; rw [leI] at this; exact this⟩
      obtain ⟨he, hen⟩ := nn_of hrg (by omega)
      have he5 := hrg.2
      refine ⟨fun _ => ?_, fun q2 => absurd q2 (by decide)⟩
      have ei : m * 6 + e = nI (6 * nn m + nn e) := by rw [hm, he, at6, ← hm, ← he]
      rw [ei, nI_clamp (by omega)]
      refine ⟨vin_nI (by omega) (by omega), fun M2 m2 => ⟨vin_nI (by omega) (by omega), fun M3 m3 => ?_⟩⟩
      have hl := loc_c ⟨6 * nn m + nn e, by omega⟩
      refine h.1 rfl M3 ?_ ?_ ?_
      · rw [m3, m2]; exact ((FrD.refl M).put (by omega) _ _).put (by omega) _ _
      · rw [m3, m2]; exact (hD.put (i := 311 + 2 * (6 * nn m + nn e)) (by omega) hl.1 a).put (i := 312 + 2 * (6 * nn m + nn e)) (by omega) hl.2 b
      · refine hL.ag ⟨fun i hi => ?_, ?_, fun i h1 h2 => ?_⟩ hI.nk.2 (fun c h1 h2 => ?_)
        · show upd (upd w _ a) _ b i = w i
          rw [upd_ne _ _ (by omega), upd_ne _ _ (by omega)]
        · show upd (upd w _ a) _ b 6 = w 6
          rw [upd_ne _ _ (by omega), upd_ne _ _ (by omega)]
        · show upd (upd w _ a) _ b i = w i
          rw [upd_ne _ _ (by omega), upd_ne _ _ (by omega)]
        · rw [m3, ms_off _ _ _ (by omega), m2, ms_off _ _ _ (by omega)]
  · simp only [c1, c2, Bool.and_false, Bool.not_false, if_true] at h; exact h.bad1
  · simp only [c1, Bool.false_and, Bool.not_false, if_true] at h; exact h.bad1
theorem s_R_grain {post : Int32 → Mem → Prop} {ex : String → Mem → Prop} {p set : Int32} (hD : Dk 1 M w) (hI : WInv w) (hL : Lw M w) (hS : SpOK w (-1) 0 lo hi (nn (w 9)))
    (h : QX post ex M w [IOB] (qp1 (inb p 0 (w 8 - 1)) (bitF (fun r => tb (lfA w lo hi p set 0) r && decide (w (194 + 5 * r) = 1)) (nn (w 9))))) : P_R_grain post ex p set M := by
  obtain ⟨hn, hn24⟩ := hI.nr
  refine s_qp1' hD hI hL hS h (fun hp hp3 M1 hJ hpost => s_C_leftBits hJ hI hp3 (fun M2 f2 => ?_))
  have hpost := hpost M2 f2.q (f2.lw (Or.inr hJ.2.1))
  rw [← hp]
  have hD2 := f2.dk hJ.1
  generalize lfA w lo hi p set 0 = left at hpost
  refine lpN (R := fun j r => P_R_grain_29 post ex j left (bitF (fun r => tb left r && decide (w (194 + 5 * r) = 1)) r) (nI r) M2) (N := nn (w 9)) (fun j => brSt (by rw [hD2.nr]; exact hn) hpost) (fun j r hr ih => brGo (by rw [hD2.nr]; exact hn) (by omega) hr (s_C_has ?_))
  have no : (tb left r && decide (w (194 + 5 * r) = 1)) = false → P_R_grain_79 post ex (P_R_grain_29 post ex j) left (bitF (fun r => tb left r && decide (w (194 + 5 * r) = 1)) r) (nI r) M2 := fun c => by
    rw [bitF_s0 (f := fun r => tb left r && decide (w (194 + 5 * r) = 1)) c] at ih
    unfold P_R_grain_79
    rw [nI_1]; exact ih
  refine b0n (fun c => no (by rw [c]; rfl)) (fun c => ⟨vin_nI (by omega) (by omega), ?_⟩)
  rw [nI_clamp (by omega), hD2.rs (by omega)]
  refine ⟨fun c2 => no (by rw [decide_eq_false c2, Bool.and_false]), fun c2 x4 e4 => ?_⟩
  rw [bitF_s1 (f := fun r => tb left r && decide (w (194 + 5 * r) = 1)) (by simp only [c, Bool.true_and]; exact decide_eq_true c2), ← e4] at ih
  unfold P_R_grain_79
  rw [nI_1]; exact ih
theorem s_C_isFarO {post : Int32 → Mem → Prop} {v far : Int32} {o : Nat} (hD : Dk 1 M w) (hI : WInv w) (ho : o < nn (w 7)) (h : post (bi (allB (fun y => decide (far < jabs (w (94 + 14 * o + 2 * y) - v))) (nn (w (93 + 14 * o))))) M) : P_Table_isFar post v (oneE o) far M := by
  obtain ⟨hn, hn6⟩ := hI.ne
  have key : ∃ j, P_Table_isFar_3 post j v (oneE o) far (nI 0) M := by
    refine lpN (R := fun j x => P_Table_isFar_3 post j v (oneE o) far (nI x) M ∨ (o < x ∧ allB (fun y => decide (far < jabs (w (94 + 14 * o + 2 * y) - v))) (nn (w (93 + 14 * o))) = false)) (N := nn (w 7)) (fun j => ?_) (fun j x hx ih => ?_) |>.imp (fun j hj => hj.resolve_right (fun q => by omega))
    · cases hq : allB (fun y => decide (far < jabs (w (94 + 14 * o + 2 * y) - v))) (nn (w (93 + 14 * o))) with
      | false => exact Or.inr ⟨ho, rfl⟩
      | true => rw [hq] at h; exact Or.inl (brSt (by rw [hD.ne]; exact hn) h)
    · have hx6 : x < 6 := by omega
      by_cases q : o < x
      · rcases ih with ih | ih
        · left
          refine brGo (by rw [hD.ne]; exact hn) (by omega) hx ⟨1, s_C_has ?_⟩
          rw [tb_oneE (by omega) (by omega), decide_eq_false (by omega)]
          refine ⟨fun _ => ?_, fun c => absurd rfl c⟩
          unfold P_Table_isFar_66
          rw [nI_1]; exact ih
        · exact Or.inr ⟨q, ih.2⟩
      · left
        refine brGo (by rw [hD.ne]; exact hn) (by omega) hx ?_
        by_cases q2 : x = o
        · subst q2
          obtain ⟨hl, hl6⟩ := hI.nl hx6
          generalize hF : (fun y => decide (far < jabs (w (94 + 14 * x + 2 * y) - v))) = F at h ih
          have hFy : ∀ y, F y = decide (far < jabs (w (94 + 14 * x + 2 * y) - v)) := fun y => by rw [← hF]
          have inner : ∃ q, allB F 0 = true → P_Table_isFar_15 post (P_Table_isFar_3 post j) q v (oneE x) far (nI x) (nI 0) M := by
            refine lpN (R := fun q y => allB F y = true → P_Table_isFar_15 post (P_Table_isFar_3 post j) q v (oneE x) far (nI x) (nI y) M) (N := nn (w (93 + 14 * x))) (fun q hb => ?_) (fun q y hy ih2 hb => ?_)
            · refine s_C_has ?_
              rw [tb_oneE (by omega) (by omega), decide_eq_true rfl]
              refine ⟨fun c => absurd c (by decide), fun _ => ⟨vin_nI hx6 (by omega), ?_⟩⟩
              rw [nI_clamp (by omega), hD.nl hx6]
              refine brSt hl ?_
              unfold P_Table_isFar_66
              rw [nI_1]
              exact ih.resolve_right (fun e => by rw [hb] at e; cases e.2)
            · have hy6 : y < 6 := by omega
              refine s_C_has ?_
              rw [tb_oneE (by omega) (by omega), decide_eq_true rfl]
              refine ⟨fun c => absurd c (by decide), fun _ => ⟨vin_nI hx6 (by omega), ?_⟩⟩
              rw [show (nI x).toNatClampNeg = x from nI_clamp (by omega), hD.nl hx6]
              refine brGo hl (by omega) hy ?_
              rw [at6, nI_clamp (by omega), hD.wv hx6 hy6]
              refine ⟨vin_nI (by omega) (by omega), s_abs ⟨fun c => ?_, fun c => ?_⟩⟩
              · rw [nI_1]; exact ih2 (by simp only [allB, hb, Bool.true_and]; rw [hFy]; exact decide_eq_true c)
              · have f1 : F y = false := by rw [hFy]; exact decide_eq_false c
                have f2 : allB F (nn (w (93 + 14 * x))) = false := allB_le (x := y + 1) (by omega) (by simp only [allB, f1, Bool.and_false])
                rw [f2] at h; exact h
          obtain ⟨q, hq⟩ := inner
          exact ⟨q, hq rfl⟩
        · refine ⟨1, s_C_has ?_⟩
          rw [tb_oneE (by omega) (by omega), decide_eq_false q2]
          refine ⟨fun _ => ?_, fun c => absurd rfl c⟩
          unfold P_Table_isFar_66
          rw [nI_1]
          exact ih.resolve_right (fun e => by omega)
  obtain ⟨j, hj⟩ := key
  exact ⟨j, hj⟩
theorem any_all {f g : Nat → Bool} : ∀ {n : Nat}, (∀ x, x < n → f x = !g x) → anyB f n = !allB g n
  | 0, _ => rfl
  | n + 1, h => by
    simp only [anyB, allB]
    rw [any_all (n := n) (fun x hx => h x (by omega)), h n (by omega)]
    cases allB g n <;> cases g n <;> rfl
theorem s_R_near {post : Int32 → Mem → Prop} {ex : String → Mem → Prop} {e o far : Int32} (hD : Dk 1 M w) (hI : WInv w) (hL : Lw M w)
    (h : QX post ex M w [IOB, IAE] (if !(inb e 0 (w 7 - 1) && inb o 0 (w 7 - 1)) then qi 1 0 else if !inb far 0 999 then qi 2 0 else qi 0 (nI (nrA w (nn e) (nn o) far)))) : P_R_near post ex e o far M := by
  refine s_wantElement hD (fun c1 => s_wantElement hD (fun c2 => s_R_within (s_want (fun c3 => ?_) (fun c3 => ?_))) (fun c2 => ?_)) (fun c1 => ?_)
  · simp only [c1, c2, c3, Bool.and_self, Bool.not_true, Bool.false_eq_true, if_false] at h
    have hpost : post (nI (nrA w (nn e) (nn o) far)) M := h.go (FrQ.refl M) hL
    obtain ⟨he, he7, he6⟩ := hI.ine c1
    obtain ⟨ho, ho7, ho6⟩ := hI.ine c2
    obtain ⟨hl, hl6⟩ := hI.nl he6
    obtain ⟨hk, hk6⟩ := hI.nl ho6
    rw [he, ho]
    unfold nrA at hpost
    refine lpN (R := fun j l => P_R_near_27 post ex j (nI (nn e)) (nI (nn o)) far (nI (cntB (nrL w (nn e) (nn o) far) l)) (nI l) M) (N := nn (w (93 + 14 * nn e))) (fun j => ⟨vin_nI he6 (by omega), ?_⟩) (fun j l hlx ih => ⟨vin_nI he6 (by omega), ?_⟩)
    · rw [nI_clamp (by omega), hD.nl he6]
      exact brSt hl hpost
    · rw [show (nI (nn e)).toNatClampNeg = nn e from nI_clamp (by omega), hD.nl he6]
      refine brGo hl (by omega) hlx ?_
      rw [at6, nI_clamp (by omega), hD.wv he6 (by omega)]
      refine ⟨vin_nI (by omega) (by omega), fun x6 e6 => ?_⟩
      subst e6
      refine s_C_isFarO hD hI ho7 ?_
      have hwe := ((hI.el he6).2.2 l (by omega)).1
      have e1 : nrL w (nn e) (nn o) far l = !allB (fun y => decide (far < jabs (w (94 + 14 * nn o + 2 * y) - w (94 + 14 * nn e + 2 * l)))) (nn (w (93 + 14 * nn o))) := by
        unfold nrL
        refine any_all (fun y hy => ?_)
        have hwo := ((hI.el ho6).2.2 y (by omega)).1
        unfold nrB
        rw [jabs_sym _ _ (rg_mono hwe (by omega) (by omega)) (rg_mono hwo (by omega) (by omega))]
        exact decide_not
      refine bn0 (fun c => ?_) (fun c => ?_)
      · rw [c] at e1
        simp only [cntB, e1, Bool.not_false, if_true] at ih
        unfold P_R_near_86
        rw [nI_1, nI_1]; exact ih
      · rw [c] at e1
        simp only [cntB, e1, Bool.not_true, Bool.false_eq_true, if_false, Nat.add_zero] at ih
        unfold P_R_near_86
        rw [nI_1]; exact ih
  · simp only [c1, c2, c3, Bool.and_self, Bool.not_true, Bool.not_false, Bool.false_eq_true, if_false, if_true] at h; exact h.bad2
  · simp only [c1, c2, Bool.and_false, Bool.not_false, if_true] at h; exact h.bad1
  · simp only [c1, Bool.false_and, Bool.not_false, if_true] at h; exact h.bad1
end SMALL
