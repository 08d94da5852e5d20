/-! THE CLASS: the next exposure; numbers of unknown lines; sums -/
section NEXT
variable {w lo hi : Nat → Int32} {p : Nat} {M : Mem}
theorem s_C_isFar {post : Int32 → Mem → Prop} {v other far : Int32} (hD : Dk 1 M w) (hI : WInv w) (h : post (bi (fzA w other v far)) M) : P_Table_isFar post v (wA w other) far M := by
  obtain ⟨hn, hn6⟩ := hI.ne
  unfold fzA at h
  have key : ∃ j, allB (fzX w other v far) 0 = true → P_Table_isFar_3 post j v (wA w other) far (nI 0) M := by
    refine lpN (R := fun j x => allB (fzX w other v far) x = true → P_Table_isFar_3 post j v (wA w other) far (nI x) M) (N := nn (w 7)) (fun j ha => ?_) (fun j x hx ih ha => brGo (by rw [hD.ne]; exact hn) (by omega) hx ?_)
    · rw [ha] at h; exact brSt (by rw [hD.ne]; exact hn) h
    · have hx6 : x < 6 := by omega
      obtain ⟨hl, hl6⟩ := hI.nl hx6
      have go : fzX w other v far x = true → P_Table_isFar_66 post (P_Table_isFar_3 post j) v (wA w other) far (nI x) M := fun ht => by
        unfold P_Table_isFar_66
        rw [nI_1]; exact ih (by simp only [allB, ha, ht, Bool.and_self])
      by_cases hte : inS w other x = true
      · have inner : ∃ q, allB (fzB w other v far x) 0 = true → P_Table_isFar_15 post (P_Table_isFar_3 post j) q v (wA w other) far (nI x) (nI 0) M := by
          refine lpN (R := fun q y => allB (fzB w other v far x) y = true → P_Table_isFar_15 post (P_Table_isFar_3 post j) q v (wA w other) far (nI x) (nI y) M) (N := nn (w (93 + 14 * x))) (fun q hb => ?_) (fun q y hy ih2 hb => ?_)
          · refine s_C_has ?_
            rw [tb_wA hI hx, hte]
            refine ⟨fun c => absurd c (by decide), fun _ => ⟨vin_nI hx6 (by omega), ?_⟩⟩
            rw [nI_clamp (by omega), hD.nl hx6]
            exact brSt hl (go hb)
          · have hy6 : y < 6 := by omega
            refine s_C_has ?_
            rw [tb_wA hI hx, hte]
            refine ⟨fun c => absurd c (by decide), fun _ => ⟨vin_nI hx6 (by omega), ?_⟩⟩
            rw [show (nI x).toNatClampNeg = x from nI_clamp (by omega), hD.nl hx6]
            refine brGo hl (by omega) hy ?_
            rw [at6, nI_clamp (by omega), hD.wv hx6 hy6]
            refine ⟨vin_nI (by omega) (by omega), s_abs ?_⟩
            have e1 : fzB w other v far x y = decide (¬ jabs (w (94 + 14 * x + 2 * y) - v) ≤ far) := by unfold fzB; rw [hte]; rfl
            refine ⟨fun c => ?_, fun c => ?_⟩
            · have : fzB w other v far x y = true := by rw [e1]; refine decide_eq_true ?_; rw [leI]; rw [ltI] at c; omega
              rw [nI_1]; exact ih2 (by simp only [allB, hb, this, Bool.and_self])
            · have : fzB w other v far x y = false := by rw [e1]; refine decide_eq_false (fun q => q ?_); rw [leI]; rw [ltI] at c; omega
              have f1 : fzX w other v far x = false := allB_le (x := y + 1) (by omega) (by simp only [allB, this, Bool.and_false])
              have f2 : allB (fzX w other v far) (nn (w 7)) = false := allB_le (x := x + 1) (by omega) (by simp only [allB, f1, Bool.and_false])
              rw [f2] at h; exact h
        obtain ⟨q, hq⟩ := inner
        exact ⟨q, hq rfl⟩
      · have hte : inS w other x = false := by simpa using hte
        refine ⟨1, s_C_has ?_⟩
        rw [tb_wA hI hx, hte]
        refine ⟨fun _ => go ?_, fun c => absurd rfl c⟩
        unfold fzX
        cases hq : allB (fzB w other v far x) (nn (w (93 + 14 * x))) with
        | true => rfl
        | false =>
          exfalso
          have : ∀ n, allB (fzB w other v far x) n = true := by
            intro n
            induction n with
            | zero => rfl
            | succ n ih => simp only [allB, ih, Bool.true_and]; unfold fzB; rw [hte]; rfl
          rw [this] at hq; cases hq
  obtain ⟨j, hj⟩ := key
  exact ⟨j, hj rfl⟩
theorem fz_air (hI : WInv w) {e l : Nat} {other far : Int32} (he : e < nn (w 7)) (hl : l < nn (w (93 + 14 * e))) (ha : airB w e = true) (hf : (0 : Int32) ≤ far) : fzA w other (w (94 + 14 * e + 2 * l)) far = false := by
  have f0 : fzB w other (w (94 + 14 * e + 2 * l)) far e l = false := by
    unfold fzB inS
    rw [ha, Int32.sub_self]
    have : jabs 0 ≤ far := hf
    simp [this]
  have f1 : fzX w other (w (94 + 14 * e + 2 * l)) far e = false := allB_le (x := l + 1) (by omega) (by simp only [allB, f0, Bool.and_false])
  exact allB_le (x := e + 1) (by omega) (by simp only [allB, f1, Bool.and_false])
theorem s_C_parts {post : Int32 → Mem → Prop} {set other time slit far from_ to_ : Int32} (hD : Dk 1 M w) (hI : WInv w) (hf : far = 2 * slit) (hf0 : (0 : Int32) ≤ far) (h : post (bi (ptA w set other time slit from_ to_)) M) : P_Table_parts post set other (time * slit) far from_ to_ M := by
  obtain ⟨hn, hn6⟩ := hI.ne
  refine s_C_withoutAir hD hI ?_
  unfold ptA at h
  have key : ∃ j, anyB (ptE w set other time slit from_ to_) 0 = false → P_Table_parts_10 post j other (time * slit) far from_ to_ (woA w set) (nI 0) M := by
    refine lpN (R := fun j e => anyB (ptE w set other time slit from_ to_) e = false → P_Table_parts_10 post j other (time * slit) far from_ to_ (woA w set) (nI e) M) (N := nn (w 7)) (fun j ha => ?_) (fun j e he ih ha => brGo (by rw [hD.ne]; exact hn) (by omega) he ?_)
    · rw [ha] at h; exact brSt (by rw [hD.ne]; exact hn) h
    · have he6 : e < 6 := by omega
      obtain ⟨hl, hl6⟩ := hI.nl he6
      have go : ptE w set other time slit from_ to_ e = false → P_Table_parts_114 post (P_Table_parts_10 post j) other (time * slit) far from_ to_ (woA w set) (nI e) M := fun ht => by
        unfold P_Table_parts_114
        rw [nI_1]; exact ih (by simp only [anyB, ha, ht, Bool.or_self])
      by_cases hte : tb (woA w set) e = true
      · have hte2 := hte
        rw [tb_woA hI he, Bool.and_eq_true] at hte2
        have inner : ∃ q, anyB (ptL w set other time slit from_ to_ e) 0 = false → P_Table_parts_22 post (P_Table_parts_10 post j) q other (time * slit) far from_ to_ (woA w set) (nI e) (nI 0) M := by
          refine lpN (R := fun q l => anyB (ptL w set other time slit from_ to_ e) l = false → P_Table_parts_22 post (P_Table_parts_10 post j) q other (time * slit) far from_ to_ (woA w set) (nI e) (nI l) M) (N := nn (w (93 + 14 * e))) (fun q hb => ?_) (fun q l hlx ih2 hb => ?_)
          · refine s_C_has ?_
            rw [hte]
            refine ⟨fun c => absurd c (by decide), fun _ => ⟨vin_nI he6 (by omega), ?_⟩⟩
            rw [nI_clamp (by omega), hD.nl he6]
            exact brSt hl (go hb)
          · have hl6' : l < 6 := by omega
            have go2 : ptL w set other time slit from_ to_ e l = false → P_Table_parts_108 post (P_Table_parts_10 post j) (P_Table_parts_22 post (P_Table_parts_10 post j) q) other (time * slit) far from_ to_ (woA w set) (nI e) (nI l) M := fun ht => by
              unfold P_Table_parts_108
              rw [nI_1]; exact ih2 (by simp only [anyB, hb, ht, Bool.or_self])
            refine s_C_has ?_
            rw [hte]
            refine ⟨fun c => absurd c (by decide), fun _ => ⟨vin_nI he6 (by omega), ?_⟩⟩
            rw [nI_clamp (by omega), hD.nl he6]
            refine brGo hl (by omega) hlx (fun x10 e10 => ?_)
            rw [at6] at e10
            subst e10
            rw [nI_clamp (by omega), hD.st he6 hl6', hD.wv he6 hl6']
            have e1 : ptL w set other time slit from_ to_ e l = (inb (w (94 + 14 * e + 2 * l)) from_ to_ && decide (¬ w (95 + 14 * e + 2 * l) * (time * slit) < 30) && fzA w other (w (94 + 14 * e + 2 * l)) far) := by
              unfold ptL msB
              rw [hte2.1, shf_0 hI he6 hl6', hf, Int32.mul_assoc]; rfl
            refine ⟨vin_nI (by omega) (by omega), fun c => go2 ?_, fun c => ⟨vin_nI (by omega) (by omega), s_R_within (b0n (fun c2 => go2 ?_) (fun c2 => ⟨vin_nI (by omega) (by omega), s_C_withAir hD hI ?_⟩))⟩⟩
            · rw [e1, decide_eq_false (p := ¬ w (95 + 14 * e + 2 * l) * (time * slit) < 30) (fun q => q c)]; simp
            · rw [e1, c2]; rfl
            · rw [hD.wv he6 hl6']
              refine s_C_isFar hD hI (b0n (fun c3 => go2 (by rw [e1, c3, Bool.and_false])) (fun c3 => ?_))
              have t1 : ptL w set other time slit from_ to_ e l = true := by rw [e1, c2, c3, decide_eq_true c]; rfl
              have t2 : ptE w set other time slit from_ to_ e = true := anyB_iff.mpr ⟨l, hlx, t1⟩
              have t3 : anyB (ptE w set other time slit from_ to_) (nn (w 7)) = true := anyB_iff.mpr ⟨e, he, t2⟩
              rw [t3] at h; exact h
        obtain ⟨q, hq⟩ := inner
        exact ⟨q, hq rfl⟩
      · have hte : tb (woA w set) e = false := by simpa using hte
        refine ⟨1, s_C_has ?_⟩
        rw [hte]
        refine ⟨fun _ => go ?_, fun c => absurd rfl c⟩
        rw [tb_woA hI he] at hte
        unfold ptE
        rw [anyB_f]
        intro l hlx
        unfold ptL
        cases ht : tb set e with
        | false => rfl
        | true =>
          rw [ht, Bool.true_and] at hte
          have hair : airB w e = true := by simpa using hte
          rw [← hf, fz_air hI he hlx hair hf0, Bool.and_false]
  obtain ⟨j, hj⟩ := key
  exact ⟨j, hj rfl⟩
theorem s_R_next {post : Int32 → Mem → Prop} {ex : String → Mem → Prop} {a b from_ to_ : Int32} (hD : Dk 1 M w) (hI : WInv w) (hL : Lw M w)
    (h : QX post ex M w [IAE] (if !(inb from_ 1000 9999 && inb to_ 1000 9999 && decide (from_ ≤ to_)) then qi 1 0 else qi 0 (nxA (fun t s => ptA w a b (nI t) (nI s) from_ to_ || ptA w b a (nI t) (nI s) from_ to_)))) : P_R_next post ex a b from_ to_ M := by
  have bad : (inb from_ 1000 9999 && inb to_ 1000 9999 && decide (from_ ≤ to_)) = false → P_R_next_25 post ex a b from_ to_ M := fun c => by
    rw [c] at h
    show P_R_wantNumber (fun M1 => ∃ j32, P_R_next_32 post ex j32 a b from_ to_ (1 : Int32) M1) ex (bi false) M
    exact s_want (b := false) (fun c => by cases c) (fun _ => h.bad1)
  refine s_isWave (b0n (fun c1 => bad (by rw [c1]; rfl)) (fun c1 => s_isWave (b0n (fun c2 => bad (by rw [c2]; simp)) (fun c2 => ⟨fun c3 => bad ?_, fun c3 => ?_⟩))))
  · rw [decide_eq_false (p := from_ ≤ to_) (by rw [leI]; rw [ltI] at c3; omega), Bool.and_false]
  · show P_R_wantNumber (fun M1 => ∃ j32, P_R_next_32 post ex j32 a b from_ to_ (1 : Int32) M1) ex (bi true) M
    refine s_want (b := true) (fun _ => ?_) (fun c => by cases c)
    rw [c1, c2, decide_eq_true (p := from_ ≤ to_) (by rw [leI]; rw [ltI] at c3; omega)] at h
    have h : post (nxA (fun t s => ptA w a b (nI t) (nI s) from_ to_ || ptA w b a (nI t) (nI s) from_ to_)) M := h.go (FrQ.refl M) hL
    generalize hq : (fun t s => ptA w a b (nI t) (nI s) from_ to_ || ptA w b a (nI t) (nI s) from_ to_) = q at h
    unfold nxA at h
    generalize hg : (fun t k => frF (fun s k => if q (t + 1) (s + 1) then nI (10 * (t + 1) + (s + 1)) else k) k 5 0) = g at h
    have key : ∃ j, frF g (-1) (9 - 0) 0 = frF g (-1) 9 0 → P_R_next_32 post ex j a b from_ to_ (nI (0 + 1)) M := by
      refine lpN (R := fun j t => frF g (-1) (9 - t) t = frF g (-1) 9 0 → P_R_next_32 post ex j a b from_ to_ (nI (t + 1)) M) (N := 9) (fun n hv => ?_) (fun n t ht ih hv => ?_)
      · refine ⟨fun _ => ?_, fun c => absurd (show (9 : Int32) < nI (9 + 1) by decide) c⟩
        rw [← hv] at h; exact h
      · refine ⟨fun c => ?_, fun _ => ?_⟩
        · rw [lit_nI 9, nI_I, nI_I, I_lt (by omega) (by omega)] at c; omega
        rw [frF_step ht] at hv
        generalize hk : frF g (-1) (9 - (t + 1)) (t + 1) = kk at hv ih
        have k2 : ∃ j, frF (fun s k => if q (t + 1) (s + 1) then nI (10 * (t + 1) + (s + 1)) else k) kk (5 - 0) 0 = frF g (-1) 9 0 → P_R_next_42 post ex (P_R_next_32 post ex n) j a b from_ to_ (nI (t + 1)) (nI (0 + 1)) M := by
          refine lpN (R := fun j s => frF (fun s k => if q (t + 1) (s + 1) then nI (10 * (t + 1) + (s + 1)) else k) kk (5 - s) s = frF g (-1) 9 0 → P_R_next_42 post ex (P_R_next_32 post ex n) j a b from_ to_ (nI (t + 1)) (nI (s + 1)) M) (N := 5) (fun m hv2 => ?_) (fun m s hs ih2 hv2 => ?_)
          · refine ⟨fun _ => ?_, fun c => absurd (show (5 : Int32) < nI (5 + 1) by decide) c⟩
            rw [nI_1]
            exact ih hv2
          · refine ⟨fun c => ?_, fun _ x7 e7 => ?_⟩
            · rw [lit_nI 5, nI_I, nI_I, I_lt (by omega) (by omega)] at c; omega
            rw [frF_step hs] at hv2
            have found : q (t + 1) (s + 1) = true → P_R_next_103 post ex (P_R_next_32 post ex n) (P_R_next_42 post ex (P_R_next_32 post ex n) m) (nI (t + 1)) (nI (s + 1)) M := by
              intro hq1
              rw [if_pos hq1] at hv2
              rw [← hv2] at h
              unfold P_R_next_103
              rw [lit_nI 10, pk_mul, nI_add]
              exact h
            have hf0 : (0 : Int32) ≤ 2 * nI (s + 1) := by rw [lit_nI 2, pk_mul, lit_nI 0, nI_I, nI_I, I_le (by omega) (by omega)]; omega
            subst e7
            refine s_C_parts hD hI rfl hf0 (bn0 (fun c4 => s_C_parts hD hI rfl hf0 (b0n (fun c5 => ?_) (fun c5 => found (by rw [← hq]; simp [c5])))) (fun c4 => found (by rw [← hq]; simp [c4])))
            rw [if_neg (by rw [← hq]; simp [c4, c5])] at hv2
            rw [nI_1]
            exact ih2 hv2
        obtain ⟨j, hj⟩ := k2
        exact ⟨j, hj (by rw [← hv, ← hg])⟩
    obtain ⟨j, hj⟩ := key
    exact ⟨j, hj rfl⟩
/-! gather -/
def NuC (M : Mem) (L : List Int32) : Prop := M 80 5 = nI L.length ∧ ∀ k, k < L.length → M 81 k = numL L k
def FrW (M M' : Mem) : Prop := ∀ c, (c < 80 ∨ 84 ≤ c) → M' c = M c
theorem FrW.refl (M : Mem) : FrW M M := fun _ _ => rfl
theorem FrW.trans {A B C : Mem} (h1 : FrW A B) (h2 : FrW B C) : FrW A C := fun c hc => by rw [h2 c hc, h1 c hc]
theorem FrW.put {M M' : Mem} (h : FrW M M') {c k : Nat} (hc : 80 ≤ c ∧ c < 84) (v : Int32) : FrW M (ms M' c k v) := fun c' hc' => by rw [ms_off _ _ _ (by omega)]; exact h c' hc'
theorem FrW.q {M M' : Mem} (h : FrW M M') : FrQ M M' := fun c hc => h c (by omega)
theorem JC.wr {M M' : Mem} (h : JC M w p lo hi) (f : FrW M M') : JC M' w p lo hi := by
  refine ⟨h.1.off (fun c h1 h2 => f c (by omega)), ?_, ?_, ?_⟩
  · have hL := h.2.1
    unfold LwOK at *
    rw [f 63 (by omega), f 65 (by omega), f 66 (by omega), f 67 (by omega), f 68 (by omega)]; exact hL
  · unfold JdOK; rw [f 69 (by omega), f 70 (by omega), f 71 (by omega)]; exact h.2.2.1
  · rw [f 70 (by omega), f 71 (by omega)]; exact h.2.2.2
theorem s_C_gather {post : Mem → Prop} {set : Int32} (hJ : JC M w p lo hi) (hI : WInv w) (hp : p < 3) (hS : SpOK w (-1) 0 lo hi (nn (w 9))) (h : ∀ M', FrQ M M' → LwOK M' w → NuC M' (gaA w lo hi (nI p) set) → post M') : P_Rows_gather post set M := by
  obtain ⟨hn, hn24⟩ := hI.nr
  refine s_C_leftBits hJ hI hp (fun M1 f1 M2 m2 => ?_)
  have hJ1 := hJ.t f1
  have h : ∀ M', FrW M1 M' → NuC M' (gaA w lo hi (nI p) set) → post M' := fun M' f' hN => h M' (f1.q.trans f'.q) (hJ1.wr f').2.1 hN
  have hleft : ∀ r, r < nn (w 9) → tb (lfA w lo hi (nI p) set 0) r = true → w (191 + 5 * r) = nI p := by
    intro r hr ht
    rw [tb_gb (by omega)] at ht
    unfold lfA at ht
    rw [bitF_gb _ _ (by omega) r (by omega), decide_eq_true hr, Bool.true_and] at ht
    unfold lfB at ht
    rw [Bool.and_eq_true, Bool.and_eq_true] at ht
    exact of_decide_eq_true ht.1.1
  unfold gaA at h
  generalize lfA w lo hi (nI p) set 0 = left at h hleft
  have key : ∃ j, ∀ M', FrW M1 M' → NuC M' (gaL lo hi left 0) → P_Rows_gather_17 post j left (nI 0) M' := by
    refine lpN (R := fun j r => ∀ M', FrW M1 M' → NuC M' (gaL lo hi left r) → P_Rows_gather_17 post j left (nI r) M') (N := nn (w 9)) (fun j M' f' hN => brSt (by rw [(hJ1.wr f').1.nr]; exact hn) (h M' f' hN)) (fun j r hr ih M' f' hN => brGo (by rw [(hJ1.wr f').1.nr]; exact hn) (by omega) hr ?_)
    have hJ' := hJ1.wr f'
    have hlen := gaL_len lo hi left r
    have eL : gaL lo hi left (r + 1) = if decide ((gaL lo hi left r).length < 10) && tb left r && spB lo hi r && decide (1 ≤ mdZ lo hi r) then gaL lo hi left r ++ [(10000000 : Int32) / I (mdZ lo hi r)] else gaL lo hi left r := rfl
    have skip : gaL lo hi left (r + 1) = gaL lo hi left r → P_Rows_gather_114 post (P_Rows_gather_17 post j) left (nI r) M' := by
      intro h2
      unfold P_Rows_gather_114
      rw [nI_1]
      exact ih M' f' (by rw [h2]; exact hN)
    have hv : vp_in (nI r) 24 := vin_nI (by omega) (by omega)
    rw [hN.1, lit_nI 10, nI_le_iff (by omega) (by omega)]
    refine ⟨fun c => h M' f' (by rw [gaL_full (r := r) (by omega) (nn (w 9)) (by omega)]; exact hN), fun c => ⟨hv, hv, s_floorDiv (by decide) (s_C_has ?_)⟩⟩
    refine b0n (fun c2 => skip (by rw [eL, c2]; simp)) (fun c2 => s_C_hasSpan hJ' hI hS hr ?_)
    have hq := hleft r hr c2
    rw [decide_eq_true hq, Bool.true_and]
    refine b0n (fun c3 => skip (by rw [eL, c3]; simp)) (fun c3 => ?_)
    have hpos : 0 < toA w 0 := by
      have := sp_B hI (by omega : -30 ≤ (0 : Int) ∧ (0 : Int) ≤ 30) hS hr
      rw [c3] at this; exact of_decide_eq_true this.symm
    have e70 : M' 70 r = lo r ∧ M' 71 r = hi r := by
      rcases hJ'.2.2.1.2.2.2 r hr with ⟨_, _, h3, h4⟩ | ⟨h5, _, _⟩
      · exact ⟨h3, h4⟩
      · exact absurd ⟨hq, hpos⟩ h5
    rw [nI_clamp (by omega), e70.1, e70.2]
    have hmd : (lo r + hi r).toInt / (2 : Int32).toInt = mdZ lo hi r := rfl
    rw [hmd]
    have hb : -2147483648 ≤ mdZ lo hi r ∧ mdZ lo hi r < 2147483648 := by
      have := rngI (lo r + hi r)
      unfold mdZ; omega
    rw [I_1, I_lt (by omega) (by omega)]
    refine ⟨fun c4 => skip ?_, fun c4 => ⟨?_, ?_⟩⟩
    · rw [eL, decide_eq_false (by omega : ¬ 1 ≤ mdZ lo hi r)]; simp
    · rw [I_0, I_eq (by omega) (by omega)]; omega
    · rw [hN.1]
      refine ⟨vin_nI (by omega) (by omega), fun M4 e4 M5 e5 => ?_⟩
      rw [nI_clamp (by omega)] at e4
      have eL2 : gaL lo hi left (r + 1) = gaL lo hi left r ++ [(10000000 : Int32) / I (mdZ lo hi r)] := by
        rw [eL, if_pos]; simp [c2, c3]; omega
      unfold P_Rows_gather_114
      rw [nI_1]
      refine ih M5 (by rw [e5, e4]; exact (f'.put (by omega) _).put (by omega) _) ?_
      rw [eL2]
      refine ⟨?_, fun k hk => ?_⟩
      · rw [e5, ms_at, e4, ms_off _ _ _ (by omega), hN.1]
        simp only [List.length_append, List.length_cons, List.length_nil]
        exact nI_1 _
      · simp only [List.length_append, List.length_cons, List.length_nil] at hk
        rw [e5, ms_off _ _ _ (by omega), e4]
        unfold numL
        by_cases q : k = (gaL lo hi left r).length
        · subst q; rw [ms_at]; simp
        · rw [ms_ne _ _ _ q, hN.2 k (by omega)]
          unfold numL
          simp only [List.getD_eq_getElem?_getD]
          rw [List.getElem?_append_left (by omega)]
  obtain ⟨j, hj⟩ := key
  exact ⟨j, hj M2 (by rw [m2]; exact (FrW.refl M1).put (by omega) _) ⟨by rw [m2, ms_at]; rfl, fun k hk => by simp [gaL] at hk⟩⟩
theorem s_C_isSum {post : Int32 → Mem → Prop} {x y z off : Int32} (h : post (bi (decide (jabs (x - y - z) ≤ off))) M) : P_Rows_isSum post x y z off M := by
  refine s_abs ⟨fun c => ?_, fun c => ?_⟩
  · rw [decide_eq_false (by rw [leI]; rw [ltI] at c; omega)] at h; exact ⟨Or.inl rfl, h⟩
  · rw [decide_eq_true (by rw [leI]; rw [ltI] at c; omega)] at h; exact ⟨Or.inr rfl, h⟩
theorem jabs_flip {x y : Int32} (h : x = -y) (hy : ¬ y = -2147483648) : jabs x = jabs y := by
  unfold jabs
  have hne : ¬ y.toInt = -2147483648 := fun e => hy (by rw [← Int32.ofInt_toInt y, e]; rfl)
  have hr := rngI y
  have e0 : (0 : Int32).toInt = 0 := rfl
  have hx : x.toInt = -y.toInt := by
    rw [h, ← Int32.ofInt_toInt y]
    show (-I y.toInt).toInt = -(I y.toInt).toInt
    rw [I_neg, I_toInt (by omega) (by omega), I_toInt (by omega) (by omega)]
  by_cases q : 0 ≤ y.toInt
  · by_cases q0 : y.toInt = 0
    · have hy0 : y = 0 := by rw [← Int32.ofInt_toInt y, q0]; rfl
      rw [h, hy0]; decide
    · rw [if_neg (by rw [leI]; omega), if_pos (by rw [leI]; omega), h, Int32.neg_neg]
  · rw [if_pos (by rw [leI]; omega), if_neg (by rw [leI]; omega), h]
theorem sum_flip {x y z : Int32} (hx : rg x 0 10000000) (hy : rg y 0 10000000) (hz : rg z 0 10000000) : jabs (x - y - z) = jabs (y + z - x) := by
  have e1 : x - y - z = -(y + z - x) := by grind
  refine jabs_flip e1 (fun e => ?_)
  have : (y + z - x).toInt = y.toInt + z.toInt - x.toInt := by
    rw [← Int32.ofInt_toInt x, ← Int32.ofInt_toInt y, ← Int32.ofInt_toInt z]
    show (I y.toInt + I z.toInt - I x.toInt).toInt = (I y.toInt).toInt + (I z.toInt).toInt - (I x.toInt).toInt
    unfold rg at hx hy hz
    rw [I_add, I_sub, I_toInt (by omega) (by omega), I_toInt (by omega) (by omega), I_toInt (by omega) (by omega), I_toInt (by omega) (by omega)]
  rw [e] at this
  have e2 : (-2147483648 : Int32).toInt = -2147483648 := rfl
  unfold rg at hx hy hz
  omega
theorem sm_eq {num : Nat → Int32} {off : Int32} (hr : ∀ k, rg (num k) 0 10000000) (a b c : Nat) : smB num off a b c = (decide (jabs (num a - num b - num c) ≤ off) || decide (jabs (num b - num a - num c) ≤ off) || decide (jabs (num c - num a - num b) ≤ off)) := by
  unfold smB
  rw [sum_flip (hr a) (hr b) (hr c), sum_flip (hr b) (hr a) (hr c), sum_flip (hr c) (hr a) (hr b)]
  rw [show num a + num b + num c - 2 * num a = num b + num c - num a by grind, show num a + num b + num c - 2 * num b = num a + num c - num b by grind, show num a + num b + num c - 2 * num c = num a + num b - num c by grind]
theorem s_R_sums {post : Int32 → Mem → Prop} {ex : String → Mem → Prop} {p set off : Int32} (hD : Dk 1 M w) (hI : WInv w) (hL : Lw M w) (hS : SpOK w (-1) 0 lo hi (nn (w 9)))
    (h : QX post ex M w [IOB, IAE] (qpw w p (inb off 0 999) (nI (smF (numL (gaA w lo hi p set)) off (gaA w lo hi p set).length)))) : P_R_sums post ex p set off M := by
  refine s_qpn' hD hI hL hS h (fun hp hp3 hw M1 hJ hpost => s_C_gather hJ hI hp3 hS (fun M3 f3 hL3 hN => ?_))
  rw [← hp] at hN
  have hlen := gaA_len w lo hi p set
  have hrg : ∀ k, rg (numL (gaA w lo hi p set) k) 0 10000000 := fun k => numL_rg (gaL_rg _ _ _ _) k
  have hpost := hpost M3 f3 (Or.inr hL3)
  generalize gaA w lo hi p set = L at hN hlen hpost hrg
  refine lpN (R := fun j a => P_Rows_countSums_4 post j off (nI (smF (numL L) off a)) (nI a) M3) (N := L.length) (fun n => brSt hN.1 hpost) (fun n a ha ih => brGo hN.1 (by omega) ha ?_)
  refine lpN (R := fun j b => P_Rows_countSums_15 post (P_Rows_countSums_4 post n) j off (nI (smF (numL L) off a + sumN (fun b => cntB (smB (numL L) off a b) b) b)) (nI a) (nI b) M3) (N := a) (fun m => ?_) (fun m b hb ih2 => brGo rfl (by omega) hb ?_)
  · refine brSt rfl ?_
    rw [nI_1]; exact ih
  refine lpN (R := fun j c => P_Rows_countSums_24 post (P_Rows_countSums_4 post n) (P_Rows_countSums_15 post (P_Rows_countSums_4 post n) m) j off (nI (smF (numL L) off a + sumN (fun b => cntB (smB (numL L) off a b) b) b + cntB (smB (numL L) off a b) c)) (nI a) (nI b) (nI c) M3) (N := b) (fun k => ?_) (fun k c hc ih3 => brGo rfl (by omega) hc ?_)
  · refine brSt rfl ?_
    rw [nI_1, Nat.add_assoc]; exact ih2
  have no : smB (numL L) off a b c = false → P_Rows_countSums_115 post (P_Rows_countSums_4 post n) (P_Rows_countSums_15 post (P_Rows_countSums_4 post n) m) (P_Rows_countSums_24 post (P_Rows_countSums_4 post n) (P_Rows_countSums_15 post (P_Rows_countSums_4 post n) m) k) off (nI (smF (numL L) off a + sumN (fun b => cntB (smB (numL L) off a b) b) b + cntB (smB (numL L) off a b) c)) (nI a) (nI b) (nI c) M3 := fun q => by
    simp only [cntB, q, Bool.false_eq_true, if_false, Nat.add_zero] at ih3
    unfold P_Rows_countSums_115
    rw [nI_1]; exact ih3
  have yes : smB (numL L) off a b c = true → P_Rows_countSums_112 post (P_Rows_countSums_4 post n) (P_Rows_countSums_15 post (P_Rows_countSums_4 post n) m) (P_Rows_countSums_24 post (P_Rows_countSums_4 post n) (P_Rows_countSums_15 post (P_Rows_countSums_4 post n) m) k) off (nI (smF (numL L) off a + sumN (fun b => cntB (smB (numL L) off a b) b) b + cntB (smB (numL L) off a b) c)) (nI a) (nI b) (nI c) M3 := fun q => by
    simp only [cntB, q, if_true] at ih3
    unfold P_Rows_countSums_112 P_Rows_countSums_115
    rw [nI_1, nI_1]; exact ih3
  have es := sm_eq (off := off) hrg a b c
  rw [nI_clamp (by omega), nI_clamp (by omega), nI_clamp (by omega), hN.2 a ha, hN.2 b (by omega), hN.2 c (by omega)]
  have va : vp_in (nI a) 10 := vin_nI (by omega) (by omega)
  have vb : vp_in (nI b) 10 := vin_nI (by omega) (by omega)
  have vc : vp_in (nI c) 10 := vin_nI (by omega) (by omega)
  refine ⟨va, vb, vc, s_C_isSum (bn0 (fun c1 => ⟨vb, va, vc, ?_⟩) (fun c1 => yes (by rw [es, c1]; rfl)))⟩
  rw [hN.2 a ha, hN.2 b (by omega), hN.2 c (by omega)]
  refine s_C_isSum (bn0 (fun c2 => ⟨vc, va, vb, ?_⟩) (fun c2 => yes (by rw [es, c2]; simp)))
  rw [hN.2 a ha, hN.2 b (by omega), hN.2 c (by omega)]
  exact s_C_isSum (b0n (fun c3 => no (by rw [es, c1, c2, c3]; rfl)) (fun c3 => yes (by rw [es, c3]; simp)))
end NEXT
