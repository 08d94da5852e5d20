/-! THE CLASS: the ten words (printed by words.py C) -/
theorem s_C_isWord_w0 {post : Int32 → Mem → Prop} {M : Mem} {t : Nat → Int32} {b e : Nat} (he : e ≤ 400) (hbe : b ≤ e) (ht : M 85 = t) (h : post (bi (decide (wd t b e = wB 0))) M) : P_Reader_isWord_w0 post (nI b) (nI e) M := by
  have hl : wlen 0 >>> ((0 : Int32) &&& 31) = nI 2 := by decide
  have es : nI e - nI b = nI (e - b) := by rw [nI_I, nI_I, I_sub, nI_I]; congr 1; omega
  have hch : ∀ k : Fin 2, i2c (wch 0 k.1 &&& 255) = (wB 0).getD k.1 0 := by decide
  show (¬ nI e - nI b = wlen 0 >>> ((0 : Int32) &&& 31) → _) ∧ (nI e - nI b = wlen 0 >>> ((0 : Int32) &&& 31) → _)
  rw [es, hl, nI_eq (by omega) (by omega)]
  have hlen : (wB 0).length = 2 := by decide
  refine ⟨fun c => ?_, fun c => ⟨fun c1 => ?_, fun _ => ⟨fun _ => ?_, fun c1 => ?_⟩⟩⟩
  · have e1 : ¬ wd t b e = wB 0 := fun q => c (by rw [← hlen]; exact (wd_iff.mp q).1)
    rw [decide_eq_false e1] at h
    exact h
  · exfalso
    rw [ltI, nI_toI (by omega)] at c1
    have : (0 : Int32).toInt = 0 := rfl
    omega
  · have hq : decide (wd t b e = wB 0) = allB (fun n => decide (t (b + n) = (wB 0).getD n 0)) 2 := by
      rw [Bool.eq_iff_iff, decide_eq_true_eq, wd_iff, hlen, allB_iff]
      simp only [decide_eq_true_eq]
      exact ⟨fun q => q.2, fun q => ⟨c, q⟩⟩
    rw [hq] at h
    generalize hF : (fun n => decide (t (b + n) = (wB 0).getD n 0)) = F at h
    have key : ∃ q, allB F 0 = true → P_Reader_isWord_w0_26 post q (nI b) (nI 0) M := by
      refine lpN (R := fun q k => allB F k = true → P_Reader_isWord_w0_26 post q (nI b) (nI k) M) (N := 2) (fun q hk => ?_) (fun q k hk ih hall => ?_)
      · show (wlen 0 >>> ((0 : Int32) &&& 31) ≤ nI 2 → _) ∧ _
        rw [hl]
        rw [hk] at h
        exact brSt (N := 2) rfl h
      · show (wlen 0 >>> ((0 : Int32) &&& 31) ≤ nI k → _) ∧ _
        rw [hl]
        refine brGo (N := 2) rfl (by omega) hk ?_
        have ea : nI b + nI k = nI (b + k) := nI_add b k
        rw [ea]
        refine ⟨vin_nI (by omega) (by omega), vin_nI (N := 2) (by omega) (by omega), ?_, ?_⟩
        · show nI k < wlen 0
          rw [show wlen 0 = nI 2 from rfl, ltI, nI_toI (by omega), nI_toI (by omega)]; omega
        · rw [nI_clamp (by omega), nI_clamp (by omega), hch ⟨k, hk⟩, ht]
          have e5 : allB F (k + 1) = F k := by simp only [allB, hall, Bool.true_and]
          refine ⟨fun c3 => ?_, fun c3 => ?_⟩
          · have e6 : F k = true := by rw [← hF]; exact decide_eq_true c3
            rw [nI_1]; exact ih (by rw [e5, e6])
          · have e6 : F k = false := by rw [← hF]; exact decide_eq_false c3
            rw [allB_le (x := k + 1) (by omega) (by rw [e5, e6])] at h
            exact h
    obtain ⟨q, hq2⟩ := key
    exact ⟨q, hq2 rfl⟩
  · exfalso; apply c1; rw [show (400 : Int32) = nI 400 from rfl, nI_le_iff (by omega) (by omega)]; exact he
theorem s_C_isWord_w1 {post : Int32 → Mem → Prop} {M : Mem} {t : Nat → Int32} {b e : Nat} (he : e ≤ 400) (hbe : b ≤ e) (ht : M 85 = t) (h : post (bi (decide (wd t b e = wB 1))) M) : P_Reader_isWord_w1 post (nI b) (nI e) M := by
  have hl : wlen 1 >>> ((0 : Int32) &&& 31) = nI 3 := by decide
  have es : nI e - nI b = nI (e - b) := by rw [nI_I, nI_I, I_sub, nI_I]; congr 1; omega
  have hch : ∀ k : Fin 3, i2c (wch 1 k.1 &&& 255) = (wB 1).getD k.1 0 := by decide
  show (¬ nI e - nI b = wlen 1 >>> ((0 : Int32) &&& 31) → _) ∧ (nI e - nI b = wlen 1 >>> ((0 : Int32) &&& 31) → _)
  rw [es, hl, nI_eq (by omega) (by omega)]
  have hlen : (wB 1).length = 3 := by decide
  refine ⟨fun c => ?_, fun c => ⟨fun c1 => ?_, fun _ => ⟨fun _ => ?_, fun c1 => ?_⟩⟩⟩
  · have e1 : ¬ wd t b e = wB 1 := fun q => c (by rw [← hlen]; exact (wd_iff.mp q).1)
    rw [decide_eq_false e1] at h
    exact h
  · exfalso
    rw [ltI, nI_toI (by omega)] at c1
    have : (0 : Int32).toInt = 0 := rfl
    omega
  · have hq : decide (wd t b e = wB 1) = allB (fun n => decide (t (b + n) = (wB 1).getD n 0)) 3 := by
      rw [Bool.eq_iff_iff, decide_eq_true_eq, wd_iff, hlen, allB_iff]
      simp only [decide_eq_true_eq]
      exact ⟨fun q => q.2, fun q => ⟨c, q⟩⟩
    rw [hq] at h
    generalize hF : (fun n => decide (t (b + n) = (wB 1).getD n 0)) = F at h
    have key : ∃ q, allB F 0 = true → P_Reader_isWord_w1_26 post q (nI b) (nI 0) M := by
      refine lpN (R := fun q k => allB F k = true → P_Reader_isWord_w1_26 post q (nI b) (nI k) M) (N := 3) (fun q hk => ?_) (fun q k hk ih hall => ?_)
      · show (wlen 1 >>> ((0 : Int32) &&& 31) ≤ nI 3 → _) ∧ _
        rw [hl]
        rw [hk] at h
        exact brSt (N := 3) rfl h
      · show (wlen 1 >>> ((0 : Int32) &&& 31) ≤ nI k → _) ∧ _
        rw [hl]
        refine brGo (N := 3) rfl (by omega) hk ?_
        have ea : nI b + nI k = nI (b + k) := nI_add b k
        rw [ea]
        refine ⟨vin_nI (by omega) (by omega), vin_nI (N := 3) (by omega) (by omega), ?_, ?_⟩
        · show nI k < wlen 1
          rw [show wlen 1 = nI 3 from rfl, ltI, nI_toI (by omega), nI_toI (by omega)]; omega
        · rw [nI_clamp (by omega), nI_clamp (by omega), hch ⟨k, hk⟩, ht]
          have e5 : allB F (k + 1) = F k := by simp only [allB, hall, Bool.true_and]
          refine ⟨fun c3 => ?_, fun c3 => ?_⟩
          · have e6 : F k = true := by rw [← hF]; exact decide_eq_true c3
            rw [nI_1]; exact ih (by rw [e5, e6])
          · have e6 : F k = false := by rw [← hF]; exact decide_eq_false c3
            rw [allB_le (x := k + 1) (by omega) (by rw [e5, e6])] at h
            exact h
    obtain ⟨q, hq2⟩ := key
    exact ⟨q, hq2 rfl⟩
  · exfalso; apply c1; rw [show (400 : Int32) = nI 400 from rfl, nI_le_iff (by omega) (by omega)]; exact he
theorem s_C_isWord_w2 {post : Int32 → Mem → Prop} {M : Mem} {t : Nat → Int32} {b e : Nat} (he : e ≤ 400) (hbe : b ≤ e) (ht : M 85 = t) (h : post (bi (decide (wd t b e = wB 2))) M) : P_Reader_isWord_w2 post (nI b) (nI e) M := by
  have hl : wlen 2 >>> ((0 : Int32) &&& 31) = nI 3 := by decide
  have es : nI e - nI b = nI (e - b) := by rw [nI_I, nI_I, I_sub, nI_I]; congr 1; omega
  have hch : ∀ k : Fin 3, i2c (wch 2 k.1 &&& 255) = (wB 2).getD k.1 0 := by decide
  show (¬ nI e - nI b = wlen 2 >>> ((0 : Int32) &&& 31) → _) ∧ (nI e - nI b = wlen 2 >>> ((0 : Int32) &&& 31) → _)
  rw [es, hl, nI_eq (by omega) (by omega)]
  have hlen : (wB 2).length = 3 := by decide
  refine ⟨fun c => ?_, fun c => ⟨fun c1 => ?_, fun _ => ⟨fun _ => ?_, fun c1 => ?_⟩⟩⟩
  · have e1 : ¬ wd t b e = wB 2 := fun q => c (by rw [← hlen]; exact (wd_iff.mp q).1)
    rw [decide_eq_false e1] at h
    exact h
  · exfalso
    rw [ltI, nI_toI (by omega)] at c1
    have : (0 : Int32).toInt = 0 := rfl
    omega
  · have hq : decide (wd t b e = wB 2) = allB (fun n => decide (t (b + n) = (wB 2).getD n 0)) 3 := by
      rw [Bool.eq_iff_iff, decide_eq_true_eq, wd_iff, hlen, allB_iff]
      simp only [decide_eq_true_eq]
      exact ⟨fun q => q.2, fun q => ⟨c, q⟩⟩
    rw [hq] at h
    generalize hF : (fun n => decide (t (b + n) = (wB 2).getD n 0)) = F at h
    have key : ∃ q, allB F 0 = true → P_Reader_isWord_w2_26 post q (nI b) (nI 0) M := by
      refine lpN (R := fun q k => allB F k = true → P_Reader_isWord_w2_26 post q (nI b) (nI k) M) (N := 3) (fun q hk => ?_) (fun q k hk ih hall => ?_)
      · show (wlen 2 >>> ((0 : Int32) &&& 31) ≤ nI 3 → _) ∧ _
        rw [hl]
        rw [hk] at h
        exact brSt (N := 3) rfl h
      · show (wlen 2 >>> ((0 : Int32) &&& 31) ≤ nI k → _) ∧ _
        rw [hl]
        refine brGo (N := 3) rfl (by omega) hk ?_
        have ea : nI b + nI k = nI (b + k) := nI_add b k
        rw [ea]
        refine ⟨vin_nI (by omega) (by omega), vin_nI (N := 3) (by omega) (by omega), ?_, ?_⟩
        · show nI k < wlen 2
          rw [show wlen 2 = nI 3 from rfl, ltI, nI_toI (by omega), nI_toI (by omega)]; omega
        · rw [nI_clamp (by omega), nI_clamp (by omega), hch ⟨k, hk⟩, ht]
          have e5 : allB F (k + 1) = F k := by simp only [allB, hall, Bool.true_and]
          refine ⟨fun c3 => ?_, fun c3 => ?_⟩
          · have e6 : F k = true := by rw [← hF]; exact decide_eq_true c3
            rw [nI_1]; exact ih (by rw [e5, e6])
          · have e6 : F k = false := by rw [← hF]; exact decide_eq_false c3
            rw [allB_le (x := k + 1) (by omega) (by rw [e5, e6])] at h
            exact h
    obtain ⟨q, hq2⟩ := key
    exact ⟨q, hq2 rfl⟩
  · exfalso; apply c1; rw [show (400 : Int32) = nI 400 from rfl, nI_le_iff (by omega) (by omega)]; exact he
theorem s_C_isWord_w3 {post : Int32 → Mem → Prop} {M : Mem} {t : Nat → Int32} {b e : Nat} (he : e ≤ 400) (hbe : b ≤ e) (ht : M 85 = t) (h : post (bi (decide (wd t b e = wB 3))) M) : P_Reader_isWord_w3 post (nI b) (nI e) M := by
  have hl : wlen 3 >>> ((0 : Int32) &&& 31) = nI 4 := by decide
  have es : nI e - nI b = nI (e - b) := by rw [nI_I, nI_I, I_sub, nI_I]; congr 1; omega
  have hch : ∀ k : Fin 4, i2c (wch 3 k.1 &&& 255) = (wB 3).getD k.1 0 := by decide
  show (¬ nI e - nI b = wlen 3 >>> ((0 : Int32) &&& 31) → _) ∧ (nI e - nI b = wlen 3 >>> ((0 : Int32) &&& 31) → _)
  rw [es, hl, nI_eq (by omega) (by omega)]
  have hlen : (wB 3).length = 4 := by decide
  refine ⟨fun c => ?_, fun c => ⟨fun c1 => ?_, fun _ => ⟨fun _ => ?_, fun c1 => ?_⟩⟩⟩
  · have e1 : ¬ wd t b e = wB 3 := fun q => c (by rw [← hlen]; exact (wd_iff.mp q).1)
    rw [decide_eq_false e1] at h
    exact h
  · exfalso
    rw [ltI, nI_toI (by omega)] at c1
    have : (0 : Int32).toInt = 0 := rfl
    omega
  · have hq : decide (wd t b e = wB 3) = allB (fun n => decide (t (b + n) = (wB 3).getD n 0)) 4 := by
      rw [Bool.eq_iff_iff, decide_eq_true_eq, wd_iff, hlen, allB_iff]
      simp only [decide_eq_true_eq]
      exact ⟨fun q => q.2, fun q => ⟨c, q⟩⟩
    rw [hq] at h
    generalize hF : (fun n => decide (t (b + n) = (wB 3).getD n 0)) = F at h
    have key : ∃ q, allB F 0 = true → P_Reader_isWord_w3_26 post q (nI b) (nI 0) M := by
      refine lpN (R := fun q k => allB F k = true → P_Reader_isWord_w3_26 post q (nI b) (nI k) M) (N := 4) (fun q hk => ?_) (fun q k hk ih hall => ?_)
      · show (wlen 3 >>> ((0 : Int32) &&& 31) ≤ nI 4 → _) ∧ _
        rw [hl]
        rw [hk] at h
        exact brSt (N := 4) rfl h
      · show (wlen 3 >>> ((0 : Int32) &&& 31) ≤ nI k → _) ∧ _
        rw [hl]
        refine brGo (N := 4) rfl (by omega) hk ?_
        have ea : nI b + nI k = nI (b + k) := nI_add b k
        rw [ea]
        refine ⟨vin_nI (by omega) (by omega), vin_nI (N := 4) (by omega) (by omega), ?_, ?_⟩
        · show nI k < wlen 3
          rw [show wlen 3 = nI 4 from rfl, ltI, nI_toI (by omega), nI_toI (by omega)]; omega
        · rw [nI_clamp (by omega), nI_clamp (by omega), hch ⟨k, hk⟩, ht]
          have e5 : allB F (k + 1) = F k := by simp only [allB, hall, Bool.true_and]
          refine ⟨fun c3 => ?_, fun c3 => ?_⟩
          · have e6 : F k = true := by rw [← hF]; exact decide_eq_true c3
            rw [nI_1]; exact ih (by rw [e5, e6])
          · have e6 : F k = false := by rw [← hF]; exact decide_eq_false c3
            rw [allB_le (x := k + 1) (by omega) (by rw [e5, e6])] at h
            exact h
    obtain ⟨q, hq2⟩ := key
    exact ⟨q, hq2 rfl⟩
  · exfalso; apply c1; rw [show (400 : Int32) = nI 400 from rfl, nI_le_iff (by omega) (by omega)]; exact he
theorem s_C_isWord_w4 {post : Int32 → Mem → Prop} {M : Mem} {t : Nat → Int32} {b e : Nat} (he : e ≤ 400) (hbe : b ≤ e) (ht : M 85 = t) (h : post (bi (decide (wd t b e = wB 4))) M) : P_Reader_isWord_w4 post (nI b) (nI e) M := by
  have hl : wlen 4 >>> ((0 : Int32) &&& 31) = nI 3 := by decide
  have es : nI e - nI b = nI (e - b) := by rw [nI_I, nI_I, I_sub, nI_I]; congr 1; omega
  have hch : ∀ k : Fin 3, i2c (wch 4 k.1 &&& 255) = (wB 4).getD k.1 0 := by decide
  show (¬ nI e - nI b = wlen 4 >>> ((0 : Int32) &&& 31) → _) ∧ (nI e - nI b = wlen 4 >>> ((0 : Int32) &&& 31) → _)
  rw [es, hl, nI_eq (by omega) (by omega)]
  have hlen : (wB 4).length = 3 := by decide
  refine ⟨fun c => ?_, fun c => ⟨fun c1 => ?_, fun _ => ⟨fun _ => ?_, fun c1 => ?_⟩⟩⟩
  · have e1 : ¬ wd t b e = wB 4 := fun q => c (by rw [← hlen]; exact (wd_iff.mp q).1)
    rw [decide_eq_false e1] at h
    exact h
  · exfalso
    rw [ltI, nI_toI (by omega)] at c1
    have : (0 : Int32).toInt = 0 := rfl
    omega
  · have hq : decide (wd t b e = wB 4) = allB (fun n => decide (t (b + n) = (wB 4).getD n 0)) 3 := by
      rw [Bool.eq_iff_iff, decide_eq_true_eq, wd_iff, hlen, allB_iff]
      simp only [decide_eq_true_eq]
      exact ⟨fun q => q.2, fun q => ⟨c, q⟩⟩
    rw [hq] at h
    generalize hF : (fun n => decide (t (b + n) = (wB 4).getD n 0)) = F at h
    have key : ∃ q, allB F 0 = true → P_Reader_isWord_w4_26 post q (nI b) (nI 0) M := by
      refine lpN (R := fun q k => allB F k = true → P_Reader_isWord_w4_26 post q (nI b) (nI k) M) (N := 3) (fun q hk => ?_) (fun q k hk ih hall => ?_)
      · show (wlen 4 >>> ((0 : Int32) &&& 31) ≤ nI 3 → _) ∧ _
        rw [hl]
        rw [hk] at h
        exact brSt (N := 3) rfl h
      · show (wlen 4 >>> ((0 : Int32) &&& 31) ≤ nI k → _) ∧ _
        rw [hl]
        refine brGo (N := 3) rfl (by omega) hk ?_
        have ea : nI b + nI k = nI (b + k) := nI_add b k
        rw [ea]
        refine ⟨vin_nI (by omega) (by omega), vin_nI (N := 3) (by omega) (by omega), ?_, ?_⟩
        · show nI k < wlen 4
          rw [show wlen 4 = nI 3 from rfl, ltI, nI_toI (by omega), nI_toI (by omega)]; omega
        · rw [nI_clamp (by omega), nI_clamp (by omega), hch ⟨k, hk⟩, ht]
          have e5 : allB F (k + 1) = F k := by simp only [allB, hall, Bool.true_and]
          refine ⟨fun c3 => ?_, fun c3 => ?_⟩
          · have e6 : F k = true := by rw [← hF]; exact decide_eq_true c3
            rw [nI_1]; exact ih (by rw [e5, e6])
          · have e6 : F k = false := by rw [← hF]; exact decide_eq_false c3
            rw [allB_le (x := k + 1) (by omega) (by rw [e5, e6])] at h
            exact h
    obtain ⟨q, hq2⟩ := key
    exact ⟨q, hq2 rfl⟩
  · exfalso; apply c1; rw [show (400 : Int32) = nI 400 from rfl, nI_le_iff (by omega) (by omega)]; exact he
theorem s_C_isWord_w5 {post : Int32 → Mem → Prop} {M : Mem} {t : Nat → Int32} {b e : Nat} (he : e ≤ 400) (hbe : b ≤ e) (ht : M 85 = t) (h : post (bi (decide (wd t b e = wB 5))) M) : P_Reader_isWord_w5 post (nI b) (nI e) M := by
  have hl : wlen 5 >>> ((0 : Int32) &&& 31) = nI 4 := by decide
  have es : nI e - nI b = nI (e - b) := by rw [nI_I, nI_I, I_sub, nI_I]; congr 1; omega
  have hch : ∀ k : Fin 4, i2c (wch 5 k.1 &&& 255) = (wB 5).getD k.1 0 := by decide
  show (¬ nI e - nI b = wlen 5 >>> ((0 : Int32) &&& 31) → _) ∧ (nI e - nI b = wlen 5 >>> ((0 : Int32) &&& 31) → _)
  rw [es, hl, nI_eq (by omega) (by omega)]
  have hlen : (wB 5).length = 4 := by decide
  refine ⟨fun c => ?_, fun c => ⟨fun c1 => ?_, fun _ => ⟨fun _ => ?_, fun c1 => ?_⟩⟩⟩
  · have e1 : ¬ wd t b e = wB 5 := fun q => c (by rw [← hlen]; exact (wd_iff.mp q).1)
    rw [decide_eq_false e1] at h
    exact h
  · exfalso
    rw [ltI, nI_toI (by omega)] at c1
    have : (0 : Int32).toInt = 0 := rfl
    omega
  · have hq : decide (wd t b e = wB 5) = allB (fun n => decide (t (b + n) = (wB 5).getD n 0)) 4 := by
      rw [Bool.eq_iff_iff, decide_eq_true_eq, wd_iff, hlen, allB_iff]
      simp only [decide_eq_true_eq]
      exact ⟨fun q => q.2, fun q => ⟨c, q⟩⟩
    rw [hq] at h
    generalize hF : (fun n => decide (t (b + n) = (wB 5).getD n 0)) = F at h
    have key : ∃ q, allB F 0 = true → P_Reader_isWord_w5_26 post q (nI b) (nI 0) M := by
      refine lpN (R := fun q k => allB F k = true → P_Reader_isWord_w5_26 post q (nI b) (nI k) M) (N := 4) (fun q hk => ?_) (fun q k hk ih hall => ?_)
      · show (wlen 5 >>> ((0 : Int32) &&& 31) ≤ nI 4 → _) ∧ _
        rw [hl]
        rw [hk] at h
        exact brSt (N := 4) rfl h
      · show (wlen 5 >>> ((0 : Int32) &&& 31) ≤ nI k → _) ∧ _
        rw [hl]
        refine brGo (N := 4) rfl (by omega) hk ?_
        have ea : nI b + nI k = nI (b + k) := nI_add b k
        rw [ea]
        refine ⟨vin_nI (by omega) (by omega), vin_nI (N := 4) (by omega) (by omega), ?_, ?_⟩
        · show nI k < wlen 5
          rw [show wlen 5 = nI 4 from rfl, ltI, nI_toI (by omega), nI_toI (by omega)]; omega
        · rw [nI_clamp (by omega), nI_clamp (by omega), hch ⟨k, hk⟩, ht]
          have e5 : allB F (k + 1) = F k := by simp only [allB, hall, Bool.true_and]
          refine ⟨fun c3 => ?_, fun c3 => ?_⟩
          · have e6 : F k = true := by rw [← hF]; exact decide_eq_true c3
            rw [nI_1]; exact ih (by rw [e5, e6])
          · have e6 : F k = false := by rw [← hF]; exact decide_eq_false c3
            rw [allB_le (x := k + 1) (by omega) (by rw [e5, e6])] at h
            exact h
    obtain ⟨q, hq2⟩ := key
    exact ⟨q, hq2 rfl⟩
  · exfalso; apply c1; rw [show (400 : Int32) = nI 400 from rfl, nI_le_iff (by omega) (by omega)]; exact he
theorem s_C_isWord_w6 {post : Int32 → Mem → Prop} {M : Mem} {t : Nat → Int32} {b e : Nat} (he : e ≤ 400) (hbe : b ≤ e) (ht : M 85 = t) (h : post (bi (decide (wd t b e = wB 6))) M) : P_Reader_isWord_w6 post (nI b) (nI e) M := by
  have hl : wlen 6 >>> ((0 : Int32) &&& 31) = nI 6 := by decide
  have es : nI e - nI b = nI (e - b) := by rw [nI_I, nI_I, I_sub, nI_I]; congr 1; omega
  have hch : ∀ k : Fin 6, i2c (wch 6 k.1 &&& 255) = (wB 6).getD k.1 0 := by decide
  show (¬ nI e - nI b = wlen 6 >>> ((0 : Int32) &&& 31) → _) ∧ (nI e - nI b = wlen 6 >>> ((0 : Int32) &&& 31) → _)
  rw [es, hl, nI_eq (by omega) (by omega)]
  have hlen : (wB 6).length = 6 := by decide
  refine ⟨fun c => ?_, fun c => ⟨fun c1 => ?_, fun _ => ⟨fun _ => ?_, fun c1 => ?_⟩⟩⟩
  · have e1 : ¬ wd t b e = wB 6 := fun q => c (by rw [← hlen]; exact (wd_iff.mp q).1)
    rw [decide_eq_false e1] at h
    exact h
  · exfalso
    rw [ltI, nI_toI (by omega)] at c1
    have : (0 : Int32).toInt = 0 := rfl
    omega
  · have hq : decide (wd t b e = wB 6) = allB (fun n => decide (t (b + n) = (wB 6).getD n 0)) 6 := by
      rw [Bool.eq_iff_iff, decide_eq_true_eq, wd_iff, hlen, allB_iff]
      simp only [decide_eq_true_eq]
      exact ⟨fun q => q.2, fun q => ⟨c, q⟩⟩
    rw [hq] at h
    generalize hF : (fun n => decide (t (b + n) = (wB 6).getD n 0)) = F at h
    have key : ∃ q, allB F 0 = true → P_Reader_isWord_w6_26 post q (nI b) (nI 0) M := by
      refine lpN (R := fun q k => allB F k = true → P_Reader_isWord_w6_26 post q (nI b) (nI k) M) (N := 6) (fun q hk => ?_) (fun q k hk ih hall => ?_)
      · show (wlen 6 >>> ((0 : Int32) &&& 31) ≤ nI 6 → _) ∧ _
        rw [hl]
        rw [hk] at h
        exact brSt (N := 6) rfl h
      · show (wlen 6 >>> ((0 : Int32) &&& 31) ≤ nI k → _) ∧ _
        rw [hl]
        refine brGo (N := 6) rfl (by omega) hk ?_
        have ea : nI b + nI k = nI (b + k) := nI_add b k
        rw [ea]
        refine ⟨vin_nI (by omega) (by omega), vin_nI (N := 6) (by omega) (by omega), ?_, ?_⟩
        · show nI k < wlen 6
          rw [show wlen 6 = nI 6 from rfl, ltI, nI_toI (by omega), nI_toI (by omega)]; omega
        · rw [nI_clamp (by omega), nI_clamp (by omega), hch ⟨k, hk⟩, ht]
          have e5 : allB F (k + 1) = F k := by simp only [allB, hall, Bool.true_and]
          refine ⟨fun c3 => ?_, fun c3 => ?_⟩
          · have e6 : F k = true := by rw [← hF]; exact decide_eq_true c3
            rw [nI_1]; exact ih (by rw [e5, e6])
          · have e6 : F k = false := by rw [← hF]; exact decide_eq_false c3
            rw [allB_le (x := k + 1) (by omega) (by rw [e5, e6])] at h
            exact h
    obtain ⟨q, hq2⟩ := key
    exact ⟨q, hq2 rfl⟩
  · exfalso; apply c1; rw [show (400 : Int32) = nI 400 from rfl, nI_le_iff (by omega) (by omega)]; exact he
theorem s_C_isWord_w7 {post : Int32 → Mem → Prop} {M : Mem} {t : Nat → Int32} {b e : Nat} (he : e ≤ 400) (hbe : b ≤ e) (ht : M 85 = t) (h : post (bi (decide (wd t b e = wB 7))) M) : P_Reader_isWord_w7 post (nI b) (nI e) M := by
  have hl : wlen 7 >>> ((0 : Int32) &&& 31) = nI 8 := by decide
  have es : nI e - nI b = nI (e - b) := by rw [nI_I, nI_I, I_sub, nI_I]; congr 1; omega
  have hch : ∀ k : Fin 8, i2c (wch 7 k.1 &&& 255) = (wB 7).getD k.1 0 := by decide
  show (¬ nI e - nI b = wlen 7 >>> ((0 : Int32) &&& 31) → _) ∧ (nI e - nI b = wlen 7 >>> ((0 : Int32) &&& 31) → _)
  rw [es, hl, nI_eq (by omega) (by omega)]
  have hlen : (wB 7).length = 8 := by decide
  refine ⟨fun c => ?_, fun c => ⟨fun c1 => ?_, fun _ => ⟨fun _ => ?_, fun c1 => ?_⟩⟩⟩
  · have e1 : ¬ wd t b e = wB 7 := fun q => c (by rw [← hlen]; exact (wd_iff.mp q).1)
    rw [decide_eq_false e1] at h
    exact h
  · exfalso
    rw [ltI, nI_toI (by omega)] at c1
    have : (0 : Int32).toInt = 0 := rfl
    omega
  · have hq : decide (wd t b e = wB 7) = allB (fun n => decide (t (b + n) = (wB 7).getD n 0)) 8 := by
      rw [Bool.eq_iff_iff, decide_eq_true_eq, wd_iff, hlen, allB_iff]
      simp only [decide_eq_true_eq]
      exact ⟨fun q => q.2, fun q => ⟨c, q⟩⟩
    rw [hq] at h
    generalize hF : (fun n => decide (t (b + n) = (wB 7).getD n 0)) = F at h
    have key : ∃ q, allB F 0 = true → P_Reader_isWord_w7_26 post q (nI b) (nI 0) M := by
      refine lpN (R := fun q k => allB F k = true → P_Reader_isWord_w7_26 post q (nI b) (nI k) M) (N := 8) (fun q hk => ?_) (fun q k hk ih hall => ?_)
      · show (wlen 7 >>> ((0 : Int32) &&& 31) ≤ nI 8 → _) ∧ _
        rw [hl]
        rw [hk] at h
        exact brSt (N := 8) rfl h
      · show (wlen 7 >>> ((0 : Int32) &&& 31) ≤ nI k → _) ∧ _
        rw [hl]
        refine brGo (N := 8) rfl (by omega) hk ?_
        have ea : nI b + nI k = nI (b + k) := nI_add b k
        rw [ea]
        refine ⟨vin_nI (by omega) (by omega), vin_nI (N := 8) (by omega) (by omega), ?_, ?_⟩
        · show nI k < wlen 7
          rw [show wlen 7 = nI 8 from rfl, ltI, nI_toI (by omega), nI_toI (by omega)]; omega
        · rw [nI_clamp (by omega), nI_clamp (by omega), hch ⟨k, hk⟩, ht]
          have e5 : allB F (k + 1) = F k := by simp only [allB, hall, Bool.true_and]
          refine ⟨fun c3 => ?_, fun c3 => ?_⟩
          · have e6 : F k = true := by rw [← hF]; exact decide_eq_true c3
            rw [nI_1]; exact ih (by rw [e5, e6])
          · have e6 : F k = false := by rw [← hF]; exact decide_eq_false c3
            rw [allB_le (x := k + 1) (by omega) (by rw [e5, e6])] at h
            exact h
    obtain ⟨q, hq2⟩ := key
    exact ⟨q, hq2 rfl⟩
  · exfalso; apply c1; rw [show (400 : Int32) = nI 400 from rfl, nI_le_iff (by omega) (by omega)]; exact he
theorem s_C_isWord_w8 {post : Int32 → Mem → Prop} {M : Mem} {t : Nat → Int32} {b e : Nat} (he : e ≤ 400) (hbe : b ≤ e) (ht : M 85 = t) (h : post (bi (decide (wd t b e = wB 8))) M) : P_Reader_isWord_w8 post (nI b) (nI e) M := by
  have hl : wlen 8 >>> ((0 : Int32) &&& 31) = nI 6 := by decide
  have es : nI e - nI b = nI (e - b) := by rw [nI_I, nI_I, I_sub, nI_I]; congr 1; omega
  have hch : ∀ k : Fin 6, i2c (wch 8 k.1 &&& 255) = (wB 8).getD k.1 0 := by decide
  show (¬ nI e - nI b = wlen 8 >>> ((0 : Int32) &&& 31) → _) ∧ (nI e - nI b = wlen 8 >>> ((0 : Int32) &&& 31) → _)
  rw [es, hl, nI_eq (by omega) (by omega)]
  have hlen : (wB 8).length = 6 := by decide
  refine ⟨fun c => ?_, fun c => ⟨fun c1 => ?_, fun _ => ⟨fun _ => ?_, fun c1 => ?_⟩⟩⟩
  · have e1 : ¬ wd t b e = wB 8 := fun q => c (by rw [← hlen]; exact (wd_iff.mp q).1)
    rw [decide_eq_false e1] at h
    exact h
  · exfalso
    rw [ltI, nI_toI (by omega)] at c1
    have : (0 : Int32).toInt = 0 := rfl
    omega
  · have hq : decide (wd t b e = wB 8) = allB (fun n => decide (t (b + n) = (wB 8).getD n 0)) 6 := by
      rw [Bool.eq_iff_iff, decide_eq_true_eq, wd_iff, hlen, allB_iff]
      simp only [decide_eq_true_eq]
      exact ⟨fun q => q.2, fun q => ⟨c, q⟩⟩
    rw [hq] at h
    generalize hF : (fun n => decide (t (b + n) = (wB 8).getD n 0)) = F at h
    have key : ∃ q, allB F 0 = true → P_Reader_isWord_w8_26 post q (nI b) (nI 0) M := by
      refine lpN (R := fun q k => allB F k = true → P_Reader_isWord_w8_26 post q (nI b) (nI k) M) (N := 6) (fun q hk => ?_) (fun q k hk ih hall => ?_)
      · show (wlen 8 >>> ((0 : Int32) &&& 31) ≤ nI 6 → _) ∧ _
        rw [hl]
        rw [hk] at h
        exact brSt (N := 6) rfl h
      · show (wlen 8 >>> ((0 : Int32) &&& 31) ≤ nI k → _) ∧ _
        rw [hl]
        refine brGo (N := 6) rfl (by omega) hk ?_
        have ea : nI b + nI k = nI (b + k) := nI_add b k
        rw [ea]
        refine ⟨vin_nI (by omega) (by omega), vin_nI (N := 6) (by omega) (by omega), ?_, ?_⟩
        · show nI k < wlen 8
          rw [show wlen 8 = nI 6 from rfl, ltI, nI_toI (by omega), nI_toI (by omega)]; omega
        · rw [nI_clamp (by omega), nI_clamp (by omega), hch ⟨k, hk⟩, ht]
          have e5 : allB F (k + 1) = F k := by simp only [allB, hall, Bool.true_and]
          refine ⟨fun c3 => ?_, fun c3 => ?_⟩
          · have e6 : F k = true := by rw [← hF]; exact decide_eq_true c3
            rw [nI_1]; exact ih (by rw [e5, e6])
          · have e6 : F k = false := by rw [← hF]; exact decide_eq_false c3
            rw [allB_le (x := k + 1) (by omega) (by rw [e5, e6])] at h
            exact h
    obtain ⟨q, hq2⟩ := key
    exact ⟨q, hq2 rfl⟩
  · exfalso; apply c1; rw [show (400 : Int32) = nI 400 from rfl, nI_le_iff (by omega) (by omega)]; exact he
theorem s_C_isWord_w9 {post : Int32 → Mem → Prop} {M : Mem} {t : Nat → Int32} {b e : Nat} (he : e ≤ 400) (hbe : b ≤ e) (ht : M 85 = t) (h : post (bi (decide (wd t b e = wB 9))) M) : P_Reader_isWord_w9 post (nI b) (nI e) M := by
  have hl : wlen 9 >>> ((0 : Int32) &&& 31) = nI 4 := by decide
  have es : nI e - nI b = nI (e - b) := by rw [nI_I, nI_I, I_sub, nI_I]; congr 1; omega
  have hch : ∀ k : Fin 4, i2c (wch 9 k.1 &&& 255) = (wB 9).getD k.1 0 := by decide
  show (¬ nI e - nI b = wlen 9 >>> ((0 : Int32) &&& 31) → _) ∧ (nI e - nI b = wlen 9 >>> ((0 : Int32) &&& 31) → _)
  rw [es, hl, nI_eq (by omega) (by omega)]
  have hlen : (wB 9).length = 4 := by decide
  refine ⟨fun c => ?_, fun c => ⟨fun c1 => ?_, fun _ => ⟨fun _ => ?_, fun c1 => ?_⟩⟩⟩
  · have e1 : ¬ wd t b e = wB 9 := fun q => c (by rw [← hlen]; exact (wd_iff.mp q).1)
    rw [decide_eq_false e1] at h
    exact h
  · exfalso
    rw [ltI, nI_toI (by omega)] at c1
    have : (0 : Int32).toInt = 0 := rfl
    omega
  · have hq : decide (wd t b e = wB 9) = allB (fun n => decide (t (b + n) = (wB 9).getD n 0)) 4 := by
      rw [Bool.eq_iff_iff, decide_eq_true_eq, wd_iff, hlen, allB_iff]
      simp only [decide_eq_true_eq]
      exact ⟨fun q => q.2, fun q => ⟨c, q⟩⟩
    rw [hq] at h
    generalize hF : (fun n => decide (t (b + n) = (wB 9).getD n 0)) = F at h
    have key : ∃ q, allB F 0 = true → P_Reader_isWord_w9_26 post q (nI b) (nI 0) M := by
      refine lpN (R := fun q k => allB F k = true → P_Reader_isWord_w9_26 post q (nI b) (nI k) M) (N := 4) (fun q hk => ?_) (fun q k hk ih hall => ?_)
      · show (wlen 9 >>> ((0 : Int32) &&& 31) ≤ nI 4 → _) ∧ _
        rw [hl]
        rw [hk] at h
        exact brSt (N := 4) rfl h
      · show (wlen 9 >>> ((0 : Int32) &&& 31) ≤ nI k → _) ∧ _
        rw [hl]
        refine brGo (N := 4) rfl (by omega) hk ?_
        have ea : nI b + nI k = nI (b + k) := nI_add b k
        rw [ea]
        refine ⟨vin_nI (by omega) (by omega), vin_nI (N := 4) (by omega) (by omega), ?_, ?_⟩
        · show nI k < wlen 9
          rw [show wlen 9 = nI 4 from rfl, ltI, nI_toI (by omega), nI_toI (by omega)]; omega
        · rw [nI_clamp (by omega), nI_clamp (by omega), hch ⟨k, hk⟩, ht]
          have e5 : allB F (k + 1) = F k := by simp only [allB, hall, Bool.true_and]
          refine ⟨fun c3 => ?_, fun c3 => ?_⟩
          · have e6 : F k = true := by rw [← hF]; exact decide_eq_true c3
            rw [nI_1]; exact ih (by rw [e5, e6])
          · have e6 : F k = false := by rw [← hF]; exact decide_eq_false c3
            rw [allB_le (x := k + 1) (by omega) (by rw [e5, e6])] at h
            exact h
    obtain ⟨q, hq2⟩ := key
    exact ⟨q, hq2 rfl⟩
  · exfalso; apply c1; rw [show (400 : Int32) = nI 400 from rfl, nI_le_iff (by omega) (by omega)]; exact he
