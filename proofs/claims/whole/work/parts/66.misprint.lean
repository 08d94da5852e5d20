/-! THE CLASS: misprint, alike -/
theorem frF_first {g : Nat → Int32 → Int32} {k : Int32} : ∀ (n x r : Nat), x ≤ r → r < x + n → (∀ j, x ≤ j → j < r → g j = fun k => k) → ∃ k', frF g k n x = g r k'
  | 0, x, r, h1, h2, _ => by omega
  | n + 1, x, r, h1, h2, h => by
    by_cases q : x = r
    · subst q; exact ⟨_, rfl⟩
    · obtain ⟨k', e⟩ := frF_first (g := g) (k := k) n (x + 1) r (by omega) (by omega) (fun j h3 h4 => h j (by omega) h4)
      refine ⟨k', ?_⟩
      show g x (frF g k n (x + 1)) = g r k'
      rw [h x (Nat.le_refl _) (by omega)]
      exact e
section MISPRINT
variable {w lo hi : Nat → Int32} {p : Nat} {M : Mem}
theorem swap_ring (v u a b : Int32) : v + ((9 : Int32) * u) * (a - b) = v + (b - a) * u + (a - b) * 10 * u := by grind
theorem s_C_swapped {post : Int32 → Mem → Prop} {v : Int32} {u : Nat} (hv : rg v 0 9999) (hu : 0 < u ∧ u ≤ 100) (h : post (chg v (nI u)) M) : P_Judge_swapped post v (nI u) M := by
  obtain ⟨ev, hn⟩ := nn_of hv (by omega)
  have hv2 := hv.2
  have hu0 : ¬ nI u = 0 := by rw [← nI_0, nI_eq (by omega) (by omega)]; omega
  refine ⟨fun _ => ⟨hu0, fun x2 e2 => ⟨hu0, fun x3 e3 => ?_⟩⟩, fun c => absurd ?_ c⟩
  · have e4 : (v / nI u) / 10 = v / (10 * nI u) := by
      have hd : nn v / u ≤ nn v := Nat.div_le_self _ _
      rw [ev, lit_nI 10, pk_mul, nI_div (by omega) (by omega) (by omega), nI_div (by omega) (by omega) (by omega), nI_div (by omega) (by omega) (by omega), Nat.div_div_eq_div_mul, Nat.mul_comm]
    rw [e4] at e3
    rw [e2, e3, swap_ring]
    exact h
  · rw [lit_nI 1, nI_I, nI_I, I_le (by omega) (by omega)]; omega
theorem s_C_misprintReading {post : Int32 → Mem → Prop} {e l : Nat} {left : Int32} (hJ : JC M w p lo hi) (hI : WInv w) (hp : p < 3) (he : e < 6) (hl : l < 6)
    (hleft : ∀ r, r < nn (w 9) → tb left r = true → w (191 + 5 * r) = nI p)
    (h0 : (moB w p e l 0 && !seA w lo hi (nI p) (w (94 + 14 * e + 2 * l))) = false ∨ (∀ r, r < nn (w 9) → cgB lo hi left (w (94 + 14 * e + 2 * l)) r = false) → post (-1) M)
    (h1 : (moB w p e l 0 && !seA w lo hi (nI p) (w (94 + 14 * e + 2 * l))) = true → ∀ r, r < nn (w 9) → cgB lo hi left (w (94 + 14 * e + 2 * l)) r = true → (∀ j, j < r → cgB lo hi left (w (94 + 14 * e + 2 * l)) j = false) → post (nI r) M) : P_Judge_misprintReading post (nI e) (nI l) left M := by
  obtain ⟨hn, hn24⟩ := hI.nr
  have hD := hJ.1
  have hv := ((hI.el he).2.2 l hl).1
  intro x4 e4
  rw [at6] at e4
  subst e4
  rw [nI_clamp (by omega), hD.wv he hl, hD.st he hl, hJ.2.2.1.1]
  generalize hV : w (94 + 14 * e + 2 * l) = v at h0 h1 hv
  refine ⟨vin_nI (by omega) (by omega), vin_nI (by omega) (by omega), s_C_mustShow hD hp ?_⟩
  have emo : (inb v (w (178 + 5 * p)) (w (179 + 5 * p)) && decide (¬ (w (95 + 14 * e + 2 * l) * w (176 + 5 * p)) * w (177 + 5 * p) < 30)) = moB w p e l 0 := by
    unfold moB msB; rw [shf_0 hI he hl, hV]
  rw [emo]
  refine b0n (fun c => h0 (Or.inl (by rw [c]; rfl))) (fun c => ?_)
  rw [c, Bool.true_and] at h0 h1
  refine s_C_holders hD hI hJ.2.2.2 ?_
  have hse : seA w lo hi (nI p) v = false ↔ bitF (fun r => htB w lo hi p r v) (nn (w 9)) = 0 := by
    rw [bitF_0 (by omega)]
    unfold seA
    rw [anyB_f]; rfl
  refine ⟨fun c2 => ?_, fun c2 => ?_⟩
  · rw [hse.mpr c2] at h0 h1
    refine s_C_swapped (u := 1) hv (by omega) (s_C_holders hD hI hJ.2.2.2 (s_C_swapped (u := 10) hv (by omega) (s_C_holders hD hI hJ.2.2.2 (s_C_swapped (u := 100) hv (by omega) (s_C_holders hD hI hJ.2.2.2 (fun x6 e6 => ?_))))))
    have hT : ∀ r, r < nn (w 9) → tb (x6 &&& left) r = cgB lo hi left v r := by
      intro r hr
      rw [tb_gb (by omega), gb_and, e6, gb_or, gb_or, bitF_gb _ _ (by omega) r (by omega), bitF_gb _ _ (by omega) r (by omega), bitF_gb _ _ (by omega) r (by omega), decide_eq_true hr]
      simp only [Bool.true_and]
      unfold cgB
      rw [tb_gb (by omega)]
      cases ht : gb left r with
      | false => simp
      | true =>
        unfold htB
        rw [decide_eq_true (hleft r hr (by rw [tb_gb (by omega)]; exact ht))]
        simp only [Bool.true_and, Bool.and_true]; rfl
    have key : ∃ j, (∀ j', j' < 0 → cgB lo hi left v j' = false) → P_Judge_misprintReading_105 post j left x6 (nI 0) M := by
      refine lpN (R := fun j r => (∀ j', j' < r → cgB lo hi left v j' = false) → P_Judge_misprintReading_105 post j left x6 (nI r) M) (N := nn (w 9)) (fun j hno => brSt (by rw [hD.nr]; exact hn) (h0 (Or.inr hno))) (fun j r hr ih hno => brGo (by rw [hD.nr]; exact hn) (by omega) hr (s_C_has ?_))
      rw [hT r hr]
      refine b0n (fun c3 => ?_) (fun c3 => h1 rfl r hr c3 hno)
      rw [nI_1]
      refine ih (fun j' hj' => ?_)
      by_cases q : j' = r
      · rw [q]; exact c3
      · exact hno j' (by omega)
    obtain ⟨j, hj⟩ := key
    exact ⟨j, hj (fun j' hj' => by omega)⟩
  · have : seA w lo hi (nI p) v = true := by
      cases hq : seA w lo hi (nI p) v with
      | true => rfl
      | false => exact absurd (hse.mp hq) c2
    exact h0 (Or.inl (by rw [this]; rfl))
theorem s_R_misprint {post : Int32 → Mem → Prop} {ex : String → Mem → Prop} {p e : Int32} (hD : Dk 1 M w) (hI : WInv w) (hL : Lw M w) (hS : SpOK w (-1) 0 lo hi (nn (w 9)))
    (h : QX post ex M w [IOB] (qp1 (inb p 0 (w 8 - 1) && inb e 0 (w 7 - 1)) (mpA w lo hi (nn p) (nn e)))) : P_R_misprint post ex p e M := by
  refine s_wantPlate hD (fun c1 => s_wantElement hD (fun c2 => ?_) (fun c2 => ?_)) (fun c1 => ?_)
  · simp only [qp1, c1, c2, Bool.and_self, Bool.not_true, Bool.false_eq_true, if_false] at h
    obtain ⟨hp, hp3⟩ := hI.inp c1
    obtain ⟨he, _, he6⟩ := hI.ine c2
    obtain ⟨hl, hl6⟩ := hI.nl he6
    have hr24 := hI.nr.2
    rw [hp, he]
    refine s_C_openJ hD hI hL hp3 hS (fun M1 f1 hJ => s_C_leftBits hJ hI hp3 (fun M2 f2 => ?_))
    have hpost := h.fin f1 hJ f2
    have hJ2 := hJ.t f2
    have hleft : ∀ r, r < nn (w 9) → tb (lfA w lo hi (nI (nn p)) ((1 : Int32) <<< (nI (nn e) &&& 31)) 0) r = true → w (191 + 5 * r) = nI (nn p) := by
      intro r hr ht
      rw [tb_gb (by omega)] at ht
      unfold lfA at ht
      rw [bitF_gb _ _ (by omega) r (by omega), decide_eq_true hr, Bool.true_and] at ht
      unfold lfB at ht
      rw [Bool.and_eq_true, Bool.and_eq_true] at ht
      exact of_decide_eq_true ht.1.1
    unfold mpA at hpost
    generalize lfA w lo hi (nI (nn p)) ((1 : Int32) <<< (nI (nn e) &&& 31)) 0 = left at hpost hleft
    generalize hg : (fun (l : Nat) (k : Int32) => if moB w (nn p) (nn e) l 0 && !seA w lo hi (nI (nn p)) (w (94 + 14 * nn e + 2 * l)) then frF (fun r k => if cgB lo hi left (w (94 + 14 * nn e + 2 * l)) r then nI (32 * l + r) else k) k (nn (w 9)) 0 else k) = g at hpost
    have hgl : ∀ l k, g l k = if moB w (nn p) (nn e) l 0 && !seA w lo hi (nI (nn p)) (w (94 + 14 * nn e + 2 * l)) then frF (fun r k => if cgB lo hi left (w (94 + 14 * nn e + 2 * l)) r then nI (32 * l + r) else k) k (nn (w 9)) 0 else k := fun l k => by rw [← hg]
    have key : ∃ j, post (frF g (-1) (nn (w (93 + 14 * nn e)) - 0) 0) M2 → P_R_misprint_33 post ex j (nI (nn e)) left (nI 0) M2 := by
      refine lpN (R := fun j l => post (frF g (-1) (nn (w (93 + 14 * nn e)) - l) l) M2 → P_R_misprint_33 post ex j (nI (nn e)) left (nI l) M2) (N := nn (w (93 + 14 * nn e))) (fun j hq => ?_) (fun j l hlx ih hq => ?_)
      · refine ⟨vin_nI he6 (by omega), ?_⟩
        rw [nI_clamp (by omega), hJ2.1.nl he6]
        rw [frF_end] at hq
        exact brSt hl hq
      · refine ⟨vin_nI he6 (by omega), ?_⟩
        rw [nI_clamp (by omega), hJ2.1.nl he6]
        rw [frF_step hlx, hgl] at hq
        refine brGo hl (by omega) hlx (s_C_misprintReading hJ2 hI hp3 he6 (by omega) hleft (fun h0 => ⟨fun _ => ?_, fun c => absurd rfl c⟩) (fun hm r hr hc hno => ⟨fun c => ?_, fun _ => ?_⟩))
        · rw [nI_1]
          refine ih ?_
          rcases h0 with h0 | h0
          · rw [h0, if_neg (by decide)] at hq; exact hq
          · have e1 : frF (fun r k => if cgB lo hi left (w (94 + 14 * nn e + 2 * l)) r then nI (32 * l + r) else k) (frF g (-1) (nn (w (93 + 14 * nn e)) - (l + 1)) (l + 1)) (nn (w 9)) 0 = frF g (-1) (nn (w (93 + 14 * nn e)) - (l + 1)) (l + 1) :=
              frF_never _ _ (fun j' h3 h4 => by funext k; rw [h0 j' (by omega)]; rfl)
            rw [e1] at hq
            split at hq <;> exact hq
        · exfalso
          have : nI r = I (-1) := c
          rw [nI_I] at this
          have := congrArg Int32.toInt this
          rw [I_toInt (by omega) (by omega), I_toInt (by omega) (by omega)] at this
          omega
        · rw [hm, if_pos rfl] at hq
          obtain ⟨k', e1⟩ := frF_first (g := fun r k => if cgB lo hi left (w (94 + 14 * nn e + 2 * l)) r then nI (32 * l + r) else k) (k := frF g (-1) (nn (w (93 + 14 * nn e)) - (l + 1)) (l + 1)) (nn (w 9)) 0 r (by omega) (by omega) (fun j' h3 h4 => by funext k; rw [hno j' h4]; rfl)
          rw [e1] at hq
          simp only [hc, if_true] at hq
          rw [lit_nI 32, pk_mul, nI_add]; exact hq
    obtain ⟨j, hj⟩ := key
    exact ⟨j, hj hpost⟩
  · simp only [qp1, c1, c2, Bool.and_false, Bool.not_false, if_true] at h; exact h.bad1
  · simp only [qp1, c1, Bool.false_and, Bool.not_false, if_true] at h; exact h.bad1
theorem JC.l {M M' : Mem} (h : JC M w p lo hi) (f : FrL M M') (hL : LwOK M' w) : JC M' w p lo hi := by
  have e69 := f 69 (by omega)
  have e70 := f 70 (by omega)
  have e71 := f 71 (by omega)
  refine ⟨f.dk h.1, hL, ?_, ?_⟩
  · unfold JdOK; rw [e69, e70, e71]; exact h.2.2.1
  · rw [e70, e71]; exact h.2.2.2
theorem s_C_hasSpan {post : Int32 → Mem → Prop} {r : Nat} (hJ : JC M w p lo hi) (hI : WInv w) (hS : SpOK w (-1) 0 lo hi (nn (w 9))) (hr : r < nn (w 9)) (h : post (bi (decide (w (191 + 5 * r) = nI p) && spB lo hi r)) M) : P_Judge_hasSpan post (nI r) M := by
  have hr24 := hI.nr.2
  have hv : vp_in (nI r) 24 := vin_nI (by omega) (by omega)
  unfold P_Judge_hasSpan
  rw [nI_clamp (by omega)]
  have hsp := sp_B hI (by omega : -30 ≤ (0 : Int) ∧ (0 : Int) ≤ 30) hS hr
  rw [hsp] at h
  rcases hJ.2.2.1.2.2.2 r hr with ⟨h1, h2, h3, h4⟩ | ⟨h1, h3, h4⟩
  · rw [decide_eq_true h1, decide_eq_true h2] at h
    have hz := plZ_bd hI (p := -1) (t := 0) (by omega) (r := r) (by omega)
    have hle := ed_le hI (z := plZ w (-1) 0 r) (by omega) h2
    have b1 := ed_real hI (z := plZ w (-1) 0 r) (by omega) (most := false) h2
    have b2 := ed_real hI (z := plZ w (-1) 0 r) (by omega) (most := true) h2
    rw [h3, h4, (hS r hr).1, (hS r hr).2]
    refine ⟨hv, hv, fun c => ?_, fun _ => ⟨Or.inr rfl, h⟩⟩
    rw [I_lt (by omega) (by omega)] at c; omega
  · have e1 : (decide (w (191 + 5 * r) = nI p) && decide (0 < toA w 0)) = false := by
      rw [← Bool.decide_and]; exact decide_eq_false h1
    rw [e1] at h
    rw [h3, h4]
    exact ⟨hv, hv, fun _ => ⟨Or.inl rfl, h⟩, fun c => absurd (by decide) c⟩
theorem s_C_meeting {post : Int32 → Mem → Prop} {a b : Int32} (hJ : JC M w p lo hi) (hI : WInv w) (hS : SpOK w (-1) 0 lo hi (nn (w 9)))
    (h : post (bitF (fun r => decide (w (191 + 5 * r) = nI p) && spB lo hi r && decide (¬ b < lo r) && decide (¬ hi r < a)) (nn (w 9))) M) : P_Judge_meeting post a b M := by
  obtain ⟨hn, hn24⟩ := hI.nr
  have hD := hJ.1
  generalize hF : (fun r => decide (w (191 + 5 * r) = nI p) && spB lo hi r && decide (¬ b < lo r) && decide (¬ hi r < a)) = F at h
  have hFr : ∀ r, F r = (decide (w (191 + 5 * r) = nI p) && spB lo hi r && decide (¬ b < lo r) && decide (¬ hi r < a)) := fun r => by rw [← hF]
  refine lpN (R := fun j r => P_Judge_meeting_5 post j a b (bitF F r) (nI r) M) (N := nn (w 9)) (fun j => brSt (by rw [hD.nr]; exact hn) h) (fun j r hr ih => brGo (by rw [hD.nr]; exact hn) (by omega) hr (s_C_hasSpan hJ hI hS hr ?_))
  have go : F r = false → P_Judge_meeting_58 post (P_Judge_meeting_5 post j) a b (bitF F r) (nI r) M := fun c => by
    rw [bitF_s0 c] at ih
    unfold P_Judge_meeting_58
    rw [nI_1]; exact ih
  refine b0n (fun c => go (by rw [hFr, c]; rfl)) (fun c => ?_)
  have hsp := sp_B hI (by omega : -30 ≤ (0 : Int) ∧ (0 : Int) ≤ 30) hS hr
  have c' := c
  rw [Bool.and_eq_true, hsp] at c'
  have hq := of_decide_eq_true c'.1
  have ht := of_decide_eq_true c'.2
  rw [nI_clamp (by omega)]
  rcases hJ.2.2.1.2.2.2 r hr with ⟨_, _, h3, h4⟩ | ⟨h5, _, _⟩
  · rw [h3, h4]
    refine ⟨vin_nI (by omega) (by omega), fun c2 => go ?_, fun c2 => ⟨vin_nI (by omega) (by omega), fun c3 => go ?_, fun c3 x3 e3 => ?_⟩⟩
    · rw [hFr, c, decide_eq_false (fun q => q c2)]; rfl
    · rw [hFr, decide_eq_false (p := ¬ hi r < a) (fun q => q c3), Bool.and_false]
    · rw [bitF_s1 (by rw [hFr, c, decide_eq_true c2, decide_eq_true c3]; rfl), ← e3] at ih
      unfold P_Judge_meeting_58
      rw [nI_1]; exact ih
  · exact absurd ⟨hq, ht⟩ h5
theorem s_R_alike {post : Int32 → Mem → Prop} {ex : String → Mem → Prop} {p q : Int32} (hD : Dk 1 M w) (hI : WInv w) (hL : Lw M w) (hS : SpOK w (-1) 0 lo hi (nn (w 9)))
    (h : QX post ex M w [IOB] (qp1 (inb p 0 (w 8 - 1) && inb q 0 (w 8 - 1)) (bitF (fun a => anyB (akB w lo hi p q a) (nn (w 9))) (nn (w 9))))) : P_R_alike post ex p q M := by
  refine s_wantPlate hD (fun c1 => s_wantPlate hD (fun c2 => ?_) (fun c2 => ?_)) (fun c1 => ?_)
  · simp only [qp1, c1, c2, Bool.and_self, Bool.not_true, Bool.false_eq_true, if_false] at h
    obtain ⟨hp, hp3⟩ := hI.inp c1
    obtain ⟨hn, hn24⟩ := hI.nr
    rw [hp]
    refine s_C_openJ hD hI hL hp3 hS (fun M1 f1 hJ => ?_)
    have hpost : ∀ M2, FrL M1 M2 → LwOK M2 w → post (bitF (fun a => anyB (akB w lo hi p q a) (nn (w 9))) (nn (w 9))) M2 := fun M2 f2 hL2 => h.go (f1.trans f2.q) (Or.inr hL2)
    have key : ∃ j, ∀ M2, FrL M1 M2 → LwOK M2 w → P_Judge_alikeBits_4 post j q (bitF (fun a => anyB (akB w lo hi p q a) 0) (nn (w 9))) (nI 0) M2 := by
      refine lpN (R := fun j b => ∀ M2, FrL M1 M2 → LwOK M2 w → P_Judge_alikeBits_4 post j q (bitF (fun a => anyB (akB w lo hi p q a) b) (nn (w 9))) (nI b) M2) (N := nn (w 9)) (fun j M2 f2 hL2 => brSt (by rw [(hJ.l f2 hL2).1.nr]; exact hn) (hpost M2 f2 hL2)) (fun j b hb ih M2 f2 hL2 => ?_)
      have hJ2 := hJ.l f2 hL2
      have hD2 := hJ2.1
      have hrd := hI.rd (by omega : b < 24)
      have hv : vp_in (nI b) 24 := vin_nI (by omega) (by omega)
      have hsp := sp_B hI (by omega : -30 ≤ (0 : Int) ∧ (0 : Int) ≤ 30) hS hb
      have go : ∀ M3, FrL M1 M3 → LwOK M3 w → (∀ a, akB w lo hi p q a b = false) → P_Judge_alikeBits_110 post (P_Judge_alikeBits_4 post j) q (bitF (fun a => anyB (akB w lo hi p q a) b) (nn (w 9))) (nI b) M3 := fun M3 f3 hL3 hno => by
        have ih := ih M3 f3 hL3
        have e1 : (fun a => anyB (akB w lo hi p q a) (b + 1)) = fun a => anyB (akB w lo hi p q a) b := by funext a; simp only [anyB, hno a, Bool.or_false]
        rw [e1] at ih
        unfold P_Judge_alikeBits_110
        rw [nI_1]; exact ih
      refine brGo (by rw [hD2.nr]; exact hn) (by omega) hb ⟨hv, ?_⟩
      rw [nI_clamp (by omega), hD2.rp (by omega), hD2.rl (by omega), hD2.rd (by omega)]
      refine ⟨fun c => go M2 f2 hL2 (fun a => by unfold akB; rw [decide_eq_false c]; simp), fun c => ⟨hv, hv, ?_⟩⟩
      have hd : w (193 + 5 * b) = 0 ∨ w (193 + 5 * b) = 1 := rg01 hrd.2.2.1
      refine s_C_truePlace hD2 hI hd ?_
      have hz := plZ_bd hI (p := -1) (t := 0) (by omega) (r := b) (by omega)
      have hpl : plZ w (-1) 0 b = (tpl w (w (192 + 5 * b)) (w (193 + 5 * b))).toInt := by unfold plZ; split <;> omega
      have etp : tpl w (w (192 + 5 * b)) (w (193 + 5 * b)) = I (plZ w (-1) 0 b) := by rw [hpl]; exact (Int32.ofInt_toInt _).symm
      rw [etp]
      refine s_C_slotOf hD2 hI hL2 (by omega) (fun h0 => ⟨fun _ => go M2 f2 hL2 (fun a => ?_), fun c => absurd rfl c⟩) (fun hpos M3 s f3 hL3 hs a1 a2 _ => ⟨fun c => ?_, fun _ => ?_⟩)
      · have : spB lo hi b = false := by rw [hsp]; exact decide_eq_false (by omega)
        unfold akB; rw [this]; simp
      · exfalso
        have : nI s = I (-1) := c
        rw [nI_I] at this
        have := congrArg Int32.toInt this
        rw [I_toInt (by omega) (by omega), I_toInt (by omega) (by omega)] at this
        omega
      · rw [nI_clamp (by omega), a1, a2, ← (hS b hb).1, ← (hS b hb).2]
        refine ⟨vin_nI hs (by omega), vin_nI hs (by omega), s_C_meeting (hJ2.l f3 hL3) hI hS (fun x2 e2 => ?_)⟩
        have ih := ih M3 (f2.trans f3) hL3
        have e5 : x2 = bitF (fun a => anyB (akB w lo hi p q a) (b + 1)) (nn (w 9)) := by
          rw [e2, bitF_or (by omega)]
          refine bitF_congr (fun a _ => ?_)
          simp only [anyB]
          have : akB w lo hi p q a b = (decide (w (191 + 5 * a) = nI (nn p)) && spB lo hi a && decide (¬ hi b < lo a) && decide (¬ hi a < lo b)) := by
            have hsb : spB lo hi b = true := by rw [hsp]; exact decide_eq_true hpos
            unfold akB
            rw [hsb, decide_eq_true c, ← hp]
            simp
          rw [this]
        rw [e5]
        unfold P_Judge_alikeBits_110
        rw [nI_1]; exact ih
    obtain ⟨j, hj⟩ := key
    have := hj M1 (FrL.refl M1) hJ.2.1
    have z1 : bitF (fun a => anyB (akB w lo hi p q a) 0) (nn (w 9)) = 0 := (bitF_0 (by omega)).mpr (fun _ _ => rfl)
    rw [z1] at this
    exact ⟨j, this⟩
  · simp only [qp1, c1, c2, Bool.and_false, Bool.not_false, if_true] at h; exact h.bad1
  · simp only [qp1, c1, Bool.false_and, Bool.not_false, if_true] at h; exact h.bad1
end MISPRINT
