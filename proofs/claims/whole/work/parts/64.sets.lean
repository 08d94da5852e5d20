/-! THE CLASS: sets -/
section SETS
variable {w lo hi : Nat → Int32} {p : Nat} {M : Mem}
def oneE (e : Nat) : Int32 := (1 : Int32) <<< (nI e &&& 31)
theorem tb_oneE {k e : Nat} (hk : k < 32) (he : e < 32) : tb (oneE k) e = decide (e = k) := tb_one hk he
theorem anyB_one {f : Nat → Bool} {k : Nat} : ∀ {n : Nat}, anyB (fun e => decide (e = k) && f e) n = (decide (k < n) && f k)
  | 0 => by simp [anyB]
  | n + 1 => by
    simp only [anyB]
    rw [anyB_one (n := n)]
    by_cases e : n = k
    · subst e; simp
    · have : decide (k < n + 1) = decide (k < n) := by apply decide_eq_decide.mpr; omega
      rw [this]; simp [e]
theorem cv_one {k : Nat} {speed : Int32} (hI : WInv w) (hk : k < nn (w 7)) (r : Nat) : cvB w lo hi p (oneE k) speed r = anyB (fun l => htB w lo hi p r (shf w k l speed)) (nn (w (93 + 14 * k))) := by
  have h6 := hI.ne.2
  have : cvB w lo hi p (oneE k) speed r = anyB (fun e => decide (e = k) && anyB (fun l => htB w lo hi p r (shf w e l speed)) (nn (w (93 + 14 * e)))) (nn (w 7)) := by
    unfold cvB
    exact anyB_congr (fun e he => by rw [tb_oneE (by omega) (by omega)])
  rw [this, anyB_one (f := fun e => anyB (fun l => htB w lo hi p r (shf w e l speed)) (nn (w (93 + 14 * e)))), decide_eq_true hk, Bool.true_and]
theorem msL_tb {el el' speed : Int32} {e l : Nat} (h : tb el e = tb el' e) : msL w lo hi p el speed e l = msL w lo hi p el' speed e l := by unfold msL; rw [h]
theorem ms_one {k : Nat} {el speed : Int32} (hI : WInv w) (hk : k < nn (w 7)) (ht : tb el k = true) : msS w lo hi p (oneE k) speed = 0 ↔ cntB (msL w lo hi p el speed k) (nn (w (93 + 14 * k))) = 0 := by
  have h6 := hI.ne.2
  have e1 : cntB (msL w lo hi p el speed k) (nn (w (93 + 14 * k))) = cntB (msL w lo hi p (oneE k) speed k) (nn (w (93 + 14 * k))) :=
    cntB_congr (fun l _ => msL_tb (by rw [ht, tb_oneE (by omega) (by omega)]; simp))
  rw [e1]
  unfold msS
  rw [sumN_0]
  refine ⟨fun h => h k hk, fun h e he => ?_⟩
  by_cases q : e = k
  · subst q; exact h
  · rw [cntB_0, anyB_f]
    intro l _
    unfold msL
    rw [tb_oneE (by omega) (by omega), decide_eq_false q]; rfl
theorem msS_le {el speed : Int32} (hI : WInv w) : msS w lo hi p el speed ≤ 36 := by
  have h6 := hI.ne.2
  have : msS w lo hi p el speed ≤ nn (w 7) * 6 := by
    unfold msS
    refine sumN_bd _ (fun e he => ?_)
    have h3 := cntB_le (msL w lo hi p el speed e) (nn (w (93 + 14 * e)))
    have h4 := (hI.nl (e := e) (by omega)).2
    omega
  omega
theorem s_C_isTallied {post : Int32 → Mem → Prop} {set : Int32} (hJ : JC M w p lo hi) (hI : WInv w)
    (h73 : ∀ e, e < nn (w 7) → M 73 e = bitF (cvB w lo hi p (oneE e) 0) (nn (w 9)) ∧ M 74 e = nI (msS w lo hi p (oneE e) 0)) (h : post (bi (exB w lo hi p set 0)) M) : P_Judge_isTalliedAsExplained post (wA w set) M := by
  obtain ⟨hn, hn6⟩ := hI.ne
  have hr24 := hI.nr.2
  have hD := hJ.1
  have e69 := hJ.2.2.1
  intro x2 e2
  rw [e69.2.1, e69.2.2.1] at e2
  generalize hS : (bitF (fun r => decide (w (191 + 5 * r) = nI p)) (nn (w 9)) &&& (bitF (fun r => decide (w (191 + 5 * r) = nI p) && ghB w r) (nn (w 9)) ^^^ (-1))) = S at e2
  have hleft := left_eq (lo := lo) (hi := hi) (p := p) (set := set) (speed := 0) hI
  rw [hS] at hleft
  let cvN : Nat → Nat → Bool := fun e r => anyB (fun e' => tb (wA w set) e' && anyB (fun l => htB w lo hi p r (shf w e' l 0)) (nn (w (93 + 14 * e')))) e
  have key : ∃ j, (∀ e', e' < 0 → tb (wA w set) e' = true → cntB (msL w lo hi p (wA w set) 0 e') (nn (w (93 + 14 * e'))) = 0) → P_Judge_isTalliedAsExplained_14 post j (wA w set) (S &&& (bitF (cvN 0) (nn (w 9)) ^^^ (-1))) (nI 0) M := by
    refine lpN (R := fun j e => (∀ e', e' < e → tb (wA w set) e' = true → cntB (msL w lo hi p (wA w set) 0 e') (nn (w (93 + 14 * e'))) = 0) → P_Judge_isTalliedAsExplained_14 post j (wA w set) (S &&& (bitF (cvN e) (nn (w 9)) ^^^ (-1))) (nI e) M) (N := nn (w 7)) (fun j hm => ?_) (fun j e he ih hm => ?_)
    · refine brSt (by rw [hD.ne]; exact hn) ?_
      have hmi : miS w lo hi p set 0 = 0 := by
        rw [← miss_eq hI]
        unfold msS
        rw [sumN_0]
        intro e he
        cases ht : tb (wA w set) e with
        | true => exact hm e he ht
        | false =>
          rw [cntB_0, anyB_f]
          intro l _
          unfold msL
          rw [ht]; rfl
      have hl2 : (S &&& (bitF (cvN (nn (w 7))) (nn (w 9)) ^^^ (-1))) = lfA w lo hi (nI p) set 0 := hleft
      rw [hl2]
      unfold exB at h
      rw [decide_eq_true hmi, Bool.and_true] at h
      refine ⟨fun c => ?_, fun c => ?_⟩
      · rw [decide_eq_false c] at h; exact ⟨Or.inl rfl, h⟩
      · rw [decide_eq_true c] at h; exact ⟨Or.inr rfl, h⟩
    · have he6 : e < 6 := by omega
      refine brGo (by rw [hD.ne]; exact hn) (by omega) he (s_C_has ?_)
      refine b0n (fun c => ?_) (fun c => ?_)
      · have e1 : cvN (e + 1) = cvN e := by funext r; simp only [cvN, anyB, c, Bool.false_and, Bool.or_false]
        rw [e1] at ih
        unfold P_Judge_isTalliedAsExplained_58
        rw [nI_1]
        refine ih (fun e' he' ht => ?_)
        by_cases q : e' = e
        · subst q; rw [c] at ht; cases ht
        · exact hm e' (by omega) ht
      · have hone := ms_one (lo := lo) (hi := hi) (p := p) (speed := 0) hI he c
        have hle := msS_le (lo := lo) (hi := hi) (p := p) (el := oneE e) (speed := 0) hI
        refine ⟨vin_nI he6 (by omega), ?_⟩
        rw [nI_clamp (by omega), (h73 e he).2, (h73 e he).1]
        refine ⟨fun c2 => ⟨vin_nI he6 (by omega), fun x2 e2 => ?_⟩, fun c2 => ?_⟩
        · have c3 : msS w lo hi p (oneE e) 0 = 0 := by
            generalize msS w lo hi p (oneE e) 0 = G at *
            rw [show (0 : Int32) = I 0 from rfl, nI_I, I_le (by omega) (by omega)] at c2; omega
          have e1 : (S &&& (bitF (cvN e) (nn (w 9)) ^^^ (-1))) &&& (bitF (cvB w lo hi p (oneE e) 0) (nn (w 9)) ^^^ (-1)) = S &&& (bitF (cvN (e + 1)) (nn (w 9)) ^^^ (-1)) := by
            apply gb_ext
            intro r hr
            rw [gb_and, gb_and, gb_and, gb_not _ hr, gb_not _ hr, gb_not _ hr, bitF_gb _ _ (by omega) r hr, bitF_gb _ _ (by omega) r hr, bitF_gb _ _ (by omega) r hr, cv_one hI he]
            have : cvN (e + 1) r = (cvN e r || anyB (fun l => htB w lo hi p r (shf w e l 0)) (nn (w (93 + 14 * e)))) := by simp only [cvN, anyB, c, Bool.true_and]
            rw [this]
            cases gb S r <;> cases decide (r < nn (w 9)) <;> cases cvN e r <;> simp
          rw [e1] at e2
          rw [e2]
          unfold P_Judge_isTalliedAsExplained_58
          rw [nI_1]
          refine ih (fun e' he' ht => ?_)
          by_cases q : e' = e
          · subst q; exact hone.mp c3
          · exact hm e' (by omega) ht
        · have c3 : ¬ msS w lo hi p (oneE e) 0 = 0 := by
            intro q
            rw [q] at c2; exact c2 (by decide)
          have hmi : ¬ miS w lo hi p set 0 = 0 := by
            rw [← miss_eq hI]
            unfold msS
            rw [sumN_0]
            intro q
            exact c3 (hone.mpr (q e he))
          unfold exB at h
          rw [decide_eq_false hmi, Bool.and_false] at h
          exact h
  obtain ⟨j, hj⟩ := key
  refine ⟨j, ?_⟩
  have := hj (fun e' he' => by omega)
  have e0 : S &&& (bitF (cvN 0) (nn (w 9)) ^^^ (-1)) = x2 := by
    rw [e2]
    apply gb_ext
    intro r hr
    rw [gb_and, gb_not _ hr, bitF_gb _ _ (by omega) r hr]
    simp [cvN, anyB]
  rw [e0] at this
  exact this
theorem gb_alF (hI : WInv w) {e : Nat} (he : e < 32) : ∀ n, n ≤ 6 → gb (alF w n) e = (decide (e < nn (w 7)) && !(decide (e < n) && airB w e))
  | 0, _ => by
    have h6 := hI.ne.2
    have e7 : w 7 = nI (nn (w 7)) := hI.ne.1
    show gb ((1 : Int32) <<< (w 7 &&& 31) - 1) e = _
    have h7 := gb_low h6 he
    rw [← e7] at h7
    rw [h7]; simp
  | n + 1, hn => by
    have ih := gb_alF hI he n (by omega)
    simp only [alF]
    by_cases q : e = n
    · subst q
      cases ha : airB w e with
      | true => simp only [if_true]; rw [gb_and, gb_not _ he, gb_shl (by omega) he]; simp
      | false => simp only [Bool.false_eq_true, if_false]; rw [ih, ha]; simp
    · have : decide (e < n + 1) = decide (e < n) := by apply decide_eq_decide.mpr; omega
      rw [this]
      cases ha : airB w n with
      | true => simp only [if_true]; rw [gb_and, gb_not _ he, gb_shl (by omega) he, ih, decide_eq_false q]; simp
      | false => simp only [Bool.false_eq_true, if_false]; rw [ih]
theorem wo_al (hI : WInv w) : woA w (-1) = alA w := by
  have h6 := hI.ne.2
  apply gb_ext
  intro e he
  rw [gb_woA hI he]
  unfold alA
  rw [gb_alF hI he _ h6, tb_gb he, gb_m1 he]
  cases hd : decide (e < nn (w 7)) <;> simp
theorem stF_in {all : Int32} {ex : Int32 → Bool} : ∀ x, (∃ k, k ≤ x ∧ (stF all ex x).1 = nI k ∧ (k = 0 → (stF all ex x).2.2.1 = 0)) ∧ ((stF all ex x).2.1 = -1 ∨ ∃ y, y < x ∧ (stF all ex x).2.1 = nI y) ∧ (∀ e, gb (stF all ex x).2.2.1 e = true → e < 32 → gb all e = true)
  | 0 => ⟨⟨0, Nat.le_refl _, rfl, fun _ => rfl⟩, Or.inl rfl, fun e h => by simp only [stF, gb_0] at h; cases h⟩
  | x + 1 => by
    obtain ⟨⟨k, hk, h1, h4⟩, h2, h3⟩ := stF_in (all := all) (ex := ex) x
    simp only [stF]
    by_cases c : (decide (nI x &&& (all ^^^ (-1)) = 0) && ex (nI x)) = true
    · rw [if_pos c]
      have c1 : nI x &&& (all ^^^ (-1)) = 0 := by
        rw [Bool.and_eq_true] at c; exact of_decide_eq_true c.1
      have sub : ∀ e, gb (nI x) e = true → e < 32 → gb all e = true := by
        intro e h he
        have := gb_eq0.mp c1 e he
        rw [gb_and, gb_not _ he, h] at this
        simpa using this
      refine ⟨⟨k + 1, by omega, by simp only []; rw [h1, nI_1], fun q => by omega⟩, ?_, ?_⟩
      · simp only []
        split
        · exact Or.inr ⟨x, by omega, rfl⟩
        · rcases h2 with h2 | ⟨y, hy, h2⟩
          · exact Or.inl h2
          · exact Or.inr ⟨y, by omega, h2⟩
      · simp only []
        split
        · exact sub
        · intro e h he
          rw [gb_and, Bool.and_eq_true] at h
          exact h3 e h.1 he
    · rw [if_neg c]
      refine ⟨⟨k, by omega, h1, h4⟩, ?_, h3⟩
      rcases h2 with h2 | ⟨y, hy, h2⟩
      · exact Or.inl h2
      · exact Or.inr ⟨y, by omega, h2⟩
def tlC (M : Mem) : Int32 × Int32 × Int32 × Int32 := (M 69 15, M 69 16, M 69 17, M 69 18)
theorem s_C_tallySets {post : Mem → Prop} (hJ : JC M w p lo hi) (hI : WInv w) (hp : p < 3) (h : ∀ M', FrT M M' → tlC M' = stA w lo hi p → post M') : P_Judge_tallySets post M := by
  obtain ⟨hn, hn6⟩ := hI.ne
  have key : ∃ j, ∀ M1, FrT M M1 → (∀ e, e < 0 → M1 73 e = bitF (cvB w lo hi p (oneE e) 0) (nn (w 9)) ∧ M1 74 e = nI (msS w lo hi p (oneE e) 0)) → P_Judge_tallySets_2 post j (nI 0) M1 := by
    refine lpN (R := fun j x => ∀ M1, FrT M M1 → (∀ e, e < x → M1 73 e = bitF (cvB w lo hi p (oneE e) 0) (nn (w 9)) ∧ M1 74 e = nI (msS w lo hi p (oneE e) 0)) → P_Judge_tallySets_2 post j (nI x) M1) (N := nn (w 7)) (fun j M1 f1 h1 => ?_) (fun j x hx ih M1 f1 h1 => ?_)
    · have hJ1 := hJ.t f1
      refine brSt (by rw [hJ1.1.ne]; exact hn) (s_C_withoutAir hJ1.1 hI ?_)
      rw [wo_al hI]
      intro M2 m2 M3 m3 M4 m4 M5 m5
      have ha := alF_rg hI (nn (w 7))
      have hA : alA w = nI (nn (alA w)) := (nn_of ha (by omega)).1
      have hA2 : nn (alA w) ≤ 63 := by have := (nn_of ha (by omega)).2; have := ha.2; unfold alA; omega
      have f5 : FrT M M5 ∧ M5 73 = M1 73 ∧ M5 74 = M1 74 := by
        refine ⟨?_, ?_, ?_⟩
        · subst m2 m3 m4 m5
          exact (((f1.put (Or.inl ⟨rfl, by omega⟩) _).put (Or.inl ⟨rfl, by omega⟩) _).put (Or.inl ⟨rfl, by omega⟩) _).put (Or.inl ⟨rfl, by omega⟩) _
        · subst m2 m3 m4 m5; rw [ms_off _ _ _ (by omega), ms_off _ _ _ (by omega), ms_off _ _ _ (by omega), ms_off _ _ _ (by omega)]
        · subst m2 m3 m4 m5; rw [ms_off _ _ _ (by omega), ms_off _ _ _ (by omega), ms_off _ _ _ (by omega), ms_off _ _ _ (by omega)]
      have t5 : tlC M5 = (0, -1, alA w, 0) := by subst m2 m3 m4 m5; simp [tlC, ms]
      clear m2 m3 m4 m5
      let TC : Nat → Int32 × Int32 × Int32 × Int32 := fun x => ((stF (alA w) (fun s => exB w lo hi p s 0) x).1, (stF (alA w) (fun s => exB w lo hi p s 0) x).2.1, (if (stF (alA w) (fun s => exB w lo hi p s 0) x).1 = 0 then alA w else (stF (alA w) (fun s => exB w lo hi p s 0) x).2.2.1), (stF (alA w) (fun s => exB w lo hi p s 0) x).2.2.2)
      have key2 : ∃ q, ∀ N, (FrT M N ∧ N 73 = M1 73 ∧ N 74 = M1 74) → tlC N = TC 0 → P_Judge_tallySets_84 post q (nI (nn (alA w))) (nI 0) N := by
        refine lpN (R := fun q x => ∀ N, (FrT M N ∧ N 73 = M1 73 ∧ N 74 = M1 74) → tlC N = TC x → P_Judge_tallySets_84 post q (nI (nn (alA w))) (nI x) N) (N := nn (alA w) + 1) (fun q N fN tN => ?_) (fun q x hx ih N fN tN => ?_)
        · refine ⟨fun _ => ?_, fun c => absurd ?_ c⟩
          · obtain ⟨⟨k, hk, hF1, hF0⟩, _, _⟩ := stF_in (all := alA w) (ex := fun s => exB w lo hi p s 0) (nn (alA w) + 1)
            unfold stA at h
            simp only [TC] at tN
            generalize stF (alA w) (fun s => exB w lo hi p s 0) (nn (alA w) + 1) = F at h tN hF1 hF0
            have t15 : N 69 15 = F.1 := congrArg (fun t => t.1) tN
            have t16 : N 69 16 = F.2.1 := congrArg (fun t => t.2.1) tN
            have t17 : N 69 17 = if F.1 = 0 then alA w else F.2.2.1 := congrArg (fun t => t.2.2.1) tN
            have t18 : N 69 18 = F.2.2.2 := congrArg (fun t => t.2.2.2) tN
            rw [t15]
            refine ⟨fun c => ?_, fun c M1 m1 => ?_⟩
            · rw [if_neg c] at t17
              refine h N fN.1 ?_
              simp only [tlC, t15, t16, t17, t18]
            · have hk0 : k = 0 := by rw [hF1, ← nI_0, nI_eq (by omega) (by omega)] at c; exact c
              refine h M1 (by rw [m1]; exact fN.1.put (Or.inl ⟨rfl, by omega⟩) _) ?_
              rw [m1]
              simp only [tlC]
              rw [ms_at, ms_ne _ _ _ (by omega), ms_ne _ _ _ (by omega), ms_ne _ _ _ (by omega), t15, t16, t18, ← hF0 hk0]
          · rw [nI_I, nI_I, I_lt (by omega) (by omega)]; omega
        · obtain ⟨⟨k, hk, hF1, hF0⟩, hF2, hF3⟩ := stF_in (all := alA w) (ex := fun s => exB w lo hi p s 0) x
          have hJN := hJ.t fN.1
          simp only [TC] at ih tN
          generalize hf : stF (alA w) (fun s => exB w lo hi p s 0) = F at tN ih hF1 hF0 hF2 hF3
          have eF : F (x + 1) = if decide (nI x &&& (alA w ^^^ (-1)) = 0) && exB w lo hi p (nI x) 0 then
              ((F x).1 + 1, (if decide ((F x).2.1 < 0) || decide (¬ bcF (F x).2.1 ≤ bcF (nI x)) then nI x else (F x).2.1), (if (F x).1 = 0 then nI x else (F x).2.2.1 &&& nI x), (F x).2.2.2 ||| nI x) else F x := by rw [← hf]; rfl
          have t15 : N 69 15 = (F x).1 := congrArg (fun t => t.1) tN
          have t16 : N 69 16 = (F x).2.1 := congrArg (fun t => t.2.1) tN
          have t17 : N 69 17 = if (F x).1 = 0 then alA w else (F x).2.2.1 := congrArg (fun t => t.2.2.1) tN
          have t18 : N 69 18 = (F x).2.2.2 := congrArg (fun t => t.2.2.2) tN
          have skip : F (x + 1) = F x → P_Judge_tallySets_172 post (P_Judge_tallySets_84 post q) (nI (nn (alA w))) (nI x) N := by
            intro h2
            rw [h2] at ih
            unfold P_Judge_tallySets_172
            rw [nI_1]; exact ih N fN tN
          rw [← hA]
          rw [← hA] at skip ih
          refine ⟨fun c => ?_, fun _ => ⟨fun c => skip ?_, fun c => ?_⟩⟩
          · rw [hA, nI_I, nI_I, I_lt (by omega) (by omega)] at c; omega
          · rw [eF, decide_eq_false c, Bool.false_and, if_neg (by decide)]
          · refine s_C_withAir hJN.1 hI (s_C_isTallied hJN hI (fun e he => by rw [fN.2.1, fN.2.2]; exact h1 e he) ?_)
            refine b0n (fun cx => skip (by rw [eF]; simp [cx])) (fun cx N4 n4 N5 n5 N6 n6 => ?_)
            rw [cx] at eF
            simp only [c, decide_true, Bool.and_self, if_true] at eF
            have hc0 : ¬ (F x).1 + 1 = 0 := by rw [hF1, nI_1, ← nI_0, nI_eq (by omega) (by omega)]; omega
            have g6 : FrT M N6 ∧ N6 73 = M1 73 ∧ N6 74 = M1 74 := by
              refine ⟨?_, ?_, ?_⟩
              · subst n4 n5 n6
                exact ((fN.1.put (Or.inl ⟨rfl, by omega⟩) _).put (Or.inl ⟨rfl, by omega⟩) _).put (Or.inl ⟨rfl, by omega⟩) _
              · subst n4 n5 n6; rw [ms_off _ _ _ (by omega), ms_off _ _ _ (by omega), ms_off _ _ _ (by omega)]; exact fN.2.1
              · subst n4 n5 n6; rw [ms_off _ _ _ (by omega), ms_off _ _ _ (by omega), ms_off _ _ _ (by omega)]; exact fN.2.2
            have a15 : N6 69 15 = (F x).1 + 1 := by subst n4 n5 n6; simp [ms, t15]
            have a16 : N6 69 16 = (F x).2.1 := by subst n4 n5 n6; simp [ms, t16]
            have a17 : N6 69 17 = if (F x).1 = 0 then nI x else (F x).2.2.1 &&& nI x := by
              have : N6 69 17 = N 69 17 &&& nI x := by subst n4 n5 n6; simp [ms]
              rw [this, t17]
              split
              · apply gb_ext
                intro e he
                have := gb_eq0.mp c e he
                rw [gb_and, gb_not _ he] at this
                rw [gb_and]
                revert this
                cases gb (alA w) e <;> cases gb (nI x) e <;> simp
              · rfl
            have a18 : N6 69 18 = (F x).2.2.2 ||| nI x := by subst n4 n5 n6; simp [ms, t18]
            clear n4 n5 n6
            have put : (decide ((F x).2.1 < 0) || decide (¬ bcF (F x).2.1 ≤ bcF (nI x))) = true → P_Judge_tallySets_167 post (P_Judge_tallySets_84 post q) (alA w) (nI x) N6 := by
              intro hc N7 n7
              unfold P_Judge_tallySets_172
              rw [nI_1]
              refine ih N7 (by rw [n7]; exact ⟨g6.1.put (Or.inl ⟨rfl, by omega⟩) _, by rw [ms_off _ _ _ (by omega)]; exact g6.2.1, by rw [ms_off _ _ _ (by omega)]; exact g6.2.2⟩) ?_
              rw [eF, hc, n7]
              simp only [tlC, if_true]
              rw [ms_at, ms_ne _ _ _ (by omega), ms_ne _ _ _ (by omega), ms_ne _ _ _ (by omega), a15, a17, a18, if_neg hc0]
            have keep : (decide ((F x).2.1 < 0) || decide (¬ bcF (F x).2.1 ≤ bcF (nI x))) = false → P_Judge_tallySets_172 post (P_Judge_tallySets_84 post q) (alA w) (nI x) N6 := by
              intro hc
              unfold P_Judge_tallySets_172
              rw [nI_1]
              refine ih N6 g6 ?_
              rw [eF, hc]
              simp only [tlC, Bool.false_eq_true, if_false]
              rw [a15, a16, a17, a18, if_neg hc0]
            rw [a16]
            refine ⟨fun c3 => put (by rw [c3]; rfl), fun c3 => s_bitCount ?_⟩
            rw [a16]
            have c5 : ¬ (F x).2.1 < 0 := by
              rcases hF2 with hF2 | ⟨y, hy, hF2⟩
              · exact absurd hF2 c3
              · rw [hF2, nI_I, show (0 : Int32) = I 0 from rfl, I_lt (by omega) (by omega)]; omega
            exact s_bitCount ⟨fun c4 => keep (by simp [c5, c4]), fun c4 => put (by simp [c4])⟩
      obtain ⟨q, hq⟩ := key2
      rw [hA]
      exact ⟨q, hq M5 f5 (by rw [t5]; simp [TC, stF])⟩
    · have hJ1 := hJ.t f1
      have hx6 : x < 6 := by omega
      refine brGo (by rw [hJ1.1.ne]; exact hn) (by omega) hx (s_C_survey (lo := lo) (hi := hi) hJ1.1 hI hp hJ1.2.2.1.1 hJ1.2.2.2 (fun M6 f6 a6 b6 => ⟨vin_nI hx6 (by omega), fun M7 m7 => ⟨vin_nI hx6 (by omega), fun M8 m8 => ?_⟩⟩))
      rw [nI_clamp (by omega)] at m7 m8
      rw [nI_1]
      have e14 : M7 69 14 = M6 69 14 := by rw [m7, ms_off _ _ _ (by omega)]
      refine ih M8 (by rw [m8, m7]; exact ((f1.trans f6.t).put (Or.inr ⟨by omega, by omega⟩) _).put (Or.inr ⟨by omega, by omega⟩) _) (fun e he => ?_)
      rw [m8, ms_off _ _ _ (show 73 ≠ 74 by omega), m7]
      by_cases q : e = x
      · subst q
        rw [ms_at, ms_at, ms_off _ _ _ (show 69 ≠ 73 by omega)]
        exact ⟨a6, b6⟩
      · rw [ms_ne _ _ _ q, ms_ne _ _ _ q, ms_off _ _ _ (show 74 ≠ 73 by omega), f6.1 73 (by omega), f6.1 74 (by omega)]
        exact h1 e (by omega)
  obtain ⟨j, hj⟩ := key
  exact ⟨j, hj M (FrT.refl M) (fun e he => by omega)⟩
theorem s_R_sets {post : Int32 → Mem → Prop} {ex : String → Mem → Prop} {p what : Int32} (hD : Dk 1 M w) (hI : WInv w) (hL : Lw M w) (hS : SpOK w (-1) 0 lo hi (nn (w 9))) (h : QX post ex M w [IOB, NSE] (qpw w p (inb what 0 3) (stW (stA w lo hi (nn p)) what))) : P_R_sets post ex p what M := by
  refine s_qpw' hD hI hL hS h (fun hp hp3 hw M1 hJ hpost => s_C_tallySets hJ hI hp3 (fun M2 f2 ht => ?_))
  have hpost := hpost M2 f2
  rw [← ht] at hpost
  unfold stW tlC at hpost
  simp only [] at hpost
  refine ⟨fun c => ?_, fun c => ⟨fun c2 => ?_, fun c2 => ⟨fun c3 => ?_, fun c3 => ?_⟩⟩⟩
  · rw [if_pos c] at hpost; exact hpost
  · rw [if_neg c, if_pos c2] at hpost; exact hpost
  · rw [if_neg c, if_neg c2, if_pos c3] at hpost; exact hpost
  · rw [if_neg c, if_neg c2, if_neg c3] at hpost; exact hpost
end SETS
