/-! THE REFERENCE: chances, makers, grain, near, alike -/
theorem nn_nI {n : Nat} (h : n < 2147483648) : nn (nI n) = n := by unfold nn; rw [nI_toI h]; rfl
theorem s_M_common {post : Int32 → Mem → Prop} {M : Mem} : ∀ (b a : Nat), a < 2147483648 → b < 2147483648 → post (nI (Nat.gcd a b)) M → P_M_common post (nI a) (nI b) M := by
  intro b
  induction b using Nat.strongRecOn with
  | ind b ih =>
    intro a ha hb h
    by_cases h0 : b = 0
    · subst h0
      rw [Nat.gcd_zero_right] at h
      exact ⟨1, fun _ => h, fun c => absurd (show nI 0 ≤ 0 by decide) c⟩
    · have hlt : a % b < b := Nat.mod_lt _ (by omega)
      have e1 : Nat.gcd a b = Nat.gcd b (a % b) := by rw [Nat.gcd_comm a b, Nat.gcd_rec, Nat.gcd_comm]
      rw [e1] at h
      obtain ⟨j, hj⟩ := ih (a % b) hlt b hb (by omega) h
      refine ⟨j + 1, fun c => ?_, fun _ => ⟨fun c => ?_, fun x4 e4 => ?_⟩⟩
      · rw [show (0 : Int32) = nI 0 from rfl, nI_le_iff (by omega) (by omega)] at c; omega
      · rw [show (0 : Int32) = nI 0 from rfl, nI_eq (by omega) (by omega)] at c; omega
      · have e5 : irm (nI a) (nI b) = nI (a % b) := by rw [nI_I, nI_I, I_rem (by omega) (by omega), nI_I]; rfl
        rw [e4, e5]; exact hj
def fiN (is : Nat → Bool) : Nat := cntB (fun n => is (n + 1)) 9
def itN (is : Nat → Bool) (lo hi : Int32) : Nat := cntB (fun n => is (n + 1) && inb (nI (n + 1)) lo hi) 9
def chF (w lo hi : Nat → Int32) (p : Nat) (set : Int32) (m : Nat) : Nat → Nat × Nat
  | 0 => (1, 1)
  | e + 1 => if airB w e then chF w lo hi p set m e else if tb set e then
      ((chF w lo hi p set m e).1 * itN (fun n => amB w lo hi p set e (nI n)) (w (311 + 2 * (6 * m + e))) (w (312 + 2 * (6 * m + e))), (chF w lo hi p set m e).2 * max 1 (fiN (fun n => amB w lo hi p set e (nI n))))
      else (if w (311 + 2 * (6 * m + e)) ≤ 0 then (chF w lo hi p set m e).1 else 0, (chF w lo hi p set m e).2)
def chU (w lo hi : Nat → Int32) (p : Nat) (set : Int32) (m : Nat) : Nat × Nat := chF w lo hi p set m (nn (w 7))
def chA (w lo hi : Nat → Int32) (p : Nat) (set : Int32) (m : Nat) : Nat × Nat := ((chU w lo hi p set m).1 / Nat.gcd (chU w lo hi p set m).1 (chU w lo hi p set m).2, (chU w lo hi p set m).2 / Nat.gcd (chU w lo hi p set m).1 (chU w lo hi p set m).2)
theorem chF_le {w lo hi : Nat → Int32} {p : Nat} {set : Int32} {m : Nat} : ∀ e, (chF w lo hi p set m e).1 ≤ 9 ^ e ∧ 1 ≤ (chF w lo hi p set m e).2 ∧ (chF w lo hi p set m e).2 ≤ 9 ^ e
  | 0 => by simp [chF]
  | e + 1 => by
    obtain ⟨h1, h2, h3⟩ := chF_le (w := w) (lo := lo) (hi := hi) (p := p) (set := set) (m := m) e
    have hp : 9 ^ (e + 1) = 9 ^ e * 9 := Nat.pow_succ ..
    rw [hp]
    unfold chF
    split
    · omega
    · split
      · have a1 : itN (fun n => amB w lo hi p set e (nI n)) (w (311 + 2 * (6 * m + e))) (w (312 + 2 * (6 * m + e))) ≤ 9 := cntB_le _ _
        have a2 : fiN (fun n => amB w lo hi p set e (nI n)) ≤ 9 := cntB_le _ _
        refine ⟨Nat.mul_le_mul h1 a1, ?_, Nat.mul_le_mul h3 (by omega)⟩
        have := Nat.mul_le_mul h2 (Nat.le_max_left 1 (fiN (fun n => amB w lo hi p set e (nI n))))
        simp only [] at *; omega
      · simp only []
        split <;> omega
theorem chF_bd {w lo hi : Nat → Int32} {p : Nat} {set : Int32} {m e : Nat} (he : e ≤ 6) : (chF w lo hi p set m e).1 ≤ 531441 ∧ 1 ≤ (chF w lo hi p set m e).2 ∧ (chF w lo hi p set m e).2 ≤ 531441 := by
  obtain ⟨h1, h2, h3⟩ := chF_le (w := w) (lo := lo) (hi := hi) (p := p) (set := set) (m := m) e
  have h4 : 9 ^ e ≤ 9 ^ 6 := Nat.pow_le_pow_right (by omega) he
  have h5 : (9 : Nat) ^ 6 = 531441 := by decide
  omega
theorem chA_bd {w lo hi : Nat → Int32} (hI : WInv w) {p : Nat} {set : Int32} {m : Nat} : (chA w lo hi p set m).1 ≤ 531441 ∧ 1 ≤ (chA w lo hi p set m).2 ∧ (chA w lo hi p set m).2 ≤ 531441 ∧ Nat.gcd (chA w lo hi p set m).1 (chA w lo hi p set m).2 = 1 := by
  obtain ⟨h1, h2, h3⟩ := chF_bd (w := w) (lo := lo) (hi := hi) (p := p) (set := set) (m := m) hI.ne.2
  unfold chA chU
  generalize chF w lo hi p set m (nn (w 7)) = q at *
  have hg : 0 < Nat.gcd q.1 q.2 := Nat.gcd_pos_of_pos_right _ (by omega)
  refine ⟨?_, ?_, ?_, ?_⟩
  · have := Nat.div_le_self q.1 (Nat.gcd q.1 q.2); simp only []; omega
  · exact Nat.div_pos (Nat.le_of_dvd (by omega) (Nat.gcd_dvd_right _ _)) hg
  · have := Nat.div_le_self q.2 (Nat.gcd q.1 q.2); simp only []; omega
  · exact Nat.coprime_div_gcd_div_gcd hg
def FrC (M M' : Mem) : Prop := (∀ c, c ≠ 0 → M' c = M c) ∧ ∀ k, k ≠ 16 → k ≠ 17 → M' 0 k = M 0 k
theorem FrC.refl (M : Mem) : FrC M M := ⟨fun _ _ => rfl, fun _ _ _ => rfl⟩
theorem FrC.trans {A B C : Mem} (h1 : FrC A B) (h2 : FrC B C) : FrC A C := ⟨fun c hc => by rw [h2.1 c hc, h1.1 c hc], fun k a b => by rw [h2.2 k a b, h1.2 k a b]⟩
theorem FrC.step {M M' : Mem} (h : FrC M M') {k : Nat} (hk : k = 16 ∨ k = 17) (v : Int32) : FrC M (ms M' 0 k v) := by
  refine ⟨fun c hc => by rw [ms_off _ _ _ hc, h.1 c hc], fun j h1 h2 => ?_⟩
  rw [ms_row, upd_ne _ _ (by omega), h.2 j h1 h2]
theorem FrC.same {M M' : Mem} (h : FrC M M') : MSame M M' := ⟨h.1 1 (by omega), h.1 2 (by omega), h.1 10 (by omega), h.2 3 (by omega) (by omega), h.2 19 (by omega) (by omega), h.2 24 (by omega) (by omega)⟩
theorem nI_max {a b : Nat} (ha : a < 2147483648) (hb : b < 2147483648) : jmax (nI a) (nI b) = nI (max a b) := by
  rw [nI_I, nI_I, I_max (by omega) (by omega), nI_I]; congr 1; omega
theorem nI_div {a b : Nat} (ha : a < 2147483648) (hb : 0 < b) (hb2 : b < 2147483648) : nI a / nI b = nI (a / b) := by
  rw [nI_I, nI_I, I_div (by omega) (by omega), nI_I]; rfl
theorem ms_at (M : Mem) (k i : Nat) (v : Int32) : ms M k i v k i = v := by rw [ms_row, upd_eq]
theorem ms_ne (M : Mem) (k : Nat) {i j : Nat} (v : Int32) (h : j ≠ i) : ms M k i v k j = M k j := by rw [ms_row, upd_ne _ _ h]
theorem s_M_chances {post : Mem → Prop} {p m : Nat} {set : Int32} {M : Mem} (hI : WInv (M 1)) (hp : p < 3) (hm : m < 4) (h : ∀ M', FrC M M' → M' 0 16 = nI (chA (M 1) (M 5) (M 6) p set m).1 → M' 0 17 = nI (chA (M 1) (M 5) (M 6) p set m).2 → post M') : P_M_chances post (nI p) set (nI m) M := by
  obtain ⟨hn, hn6⟩ := hI.ne
  intro M1 m1 M2 m2
  have hF2 : FrC M M2 := by subst m1 m2; exact ((FrC.refl M).step (Or.inl rfl) 1).step (Or.inr rfl) 1
  have hbd : ∀ e, e ≤ 6 → _ := fun e he => chF_bd (w := M 1) (lo := M 5) (hi := M 6) (p := p) (set := set) (m := m) (e := e) he
  unfold chA chU at h
  generalize hF : chF (M 1) (M 5) (M 6) p set m = F at h hbd
  have key : ∃ j, ∀ M3, FrC M M3 → M3 0 16 = nI (F 0).1 → M3 0 17 = nI (F 0).2 → P_M_chances_13 post j (nI p) set (nI m) (nI 0) M3 := by
    refine lpN (R := fun j e => ∀ M3, FrC M M3 → M3 0 16 = nI (F e).1 → M3 0 17 = nI (F e).2 → P_M_chances_13 post j (nI p) set (nI m) (nI e) M3) (N := nn (M 1 7)) (fun n M3 hF3 u3 d3 => ?_) (fun n e he ih M3 hF3 u3 d3 => ?_)
    · have w3 : M3 1 = M 1 := hF3.1 1 (by omega)
      obtain ⟨b1, b2, b3⟩ := hbd _ hn6
      have hg : 0 < Nat.gcd (F (nn (M 1 7))).1 (F (nn (M 1 7))).2 := Nat.gcd_pos_of_pos_right _ (by omega)
      have hg2 : Nat.gcd (F (nn (M 1 7))).1 (F (nn (M 1 7))).2 ≤ 531441 := Nat.le_trans (Nat.le_of_dvd (by omega) (Nat.gcd_dvd_right _ _)) b3
      refine ⟨vin_nI (n := 7) (by omega) (by omega), brSt (by rw [w3]; exact hn) ?_⟩
      rw [u3, d3]
      refine s_M_common _ _ (by omega) (by omega) ?_
      have hne : ¬ nI (Nat.gcd (F (nn (M 1 7))).1 (F (nn (M 1 7))).2) = 0 := by
        rw [show (0 : Int32) = nI 0 from rfl, nI_eq (by omega) (by omega)]; omega
      refine ⟨hne, fun M4 m4 => ⟨hne, fun M5 m5 => ?_⟩⟩
      rw [u3, nI_div (by omega) hg (by omega)] at m4
      have e17 : M4 0 17 = nI (F (nn (M 1 7))).2 := by rw [m4, ms_ne _ _ _ (by omega)]; exact d3
      rw [e17, nI_div (by omega) hg (by omega)] at m5
      refine h M5 ?_ ?_ ?_
      · subst m4 m5; exact (hF3.step (Or.inl rfl) _).step (Or.inr rfl) _
      · rw [m5, ms_ne _ _ _ (by omega), m4, ms_at]
      · rw [m5, ms_at]
    · have he6 : e < 6 := by omega
      have w3 : M3 1 = M 1 := hF3.1 1 (by omega)
      have hI3 : WInv (M3 1) := by rw [w3]; exact hI
      obtain ⟨b1, b2, b3⟩ := hbd e (by omega)
      refine ⟨vin_nI (n := 7) (by omega) (by omega), brGo (by rw [w3]; exact hn) (by omega) he (s_M_isAir he6 ?_)⟩
      rw [w3]
      have eF : F (e + 1) = if airB (M 1) e then F e else if tb set e then ((F e).1 * itN (fun n => amB (M 1) (M 5) (M 6) p set e (nI n)) (M 1 (311 + 2 * (6 * m + e))) (M 1 (312 + 2 * (6 * m + e))), (F e).2 * max 1 (fiN (fun n => amB (M 1) (M 5) (M 6) p set e (nI n))))
        else (if M 1 (311 + 2 * (6 * m + e)) ≤ 0 then (F e).1 else 0, (F e).2) := by rw [← hF]; rfl
      refine b0n (fun c => fun i5 e5 => ?_) (fun c => ?_)
      · rw [rcI] at e5
        refine ⟨by rw [e5]; exact vin_nI (by omega) (by omega), fun v6 e6 => ?_⟩
        rw [rcI] at e6
        have e7 : v6 = nI (312 + 2 * (6 * m + e)) := by rw [e6, nI_1]; congr 1; omega
        rw [e5, e7, nI_clamp (by omega), nI_clamp (by omega)]
        rw [c] at eF
        simp only [Bool.false_eq_true, if_false] at eF
        refine ⟨vin_nI (by omega) (by omega), fun c2 => ?_, fun c2 => ?_⟩
        · have c3 : tb set e = true := by
            cases h9 : tb set e with
            | true => rfl
            | false => exact absurd (tb_0.mpr h9) c2
          rw [c3] at eF
          simp only [if_true] at eF
          generalize M 1 (311 + 2 * (6 * m + e)) = lo at *
          generalize M 1 (312 + 2 * (6 * m + e)) = hi at *
          unfold itN fiN at eF
          have hfi := cntB_le (fun n => amB (M 1) (M 5) (M 6) p set e (nI (n + 1)))
          have hit := cntB_le (fun n => amB (M 1) (M 5) (M 6) p set e (nI (n + 1)) && inb (nI (n + 1)) lo hi)
          generalize hA : (fun n => amB (M 1) (M 5) (M 6) p set e (nI (n + 1))) = A at eF hfi
          have hA' : ∀ n, amB (M 1) (M 5) (M 6) p set e (nI (n + 1)) = A n := fun n => by rw [← hA]
          simp only [hA'] at eF hit
          refine lpN (R := fun j x => P_M_chances_117 post (P_M_chances_13 post n) j (nI p) set (nI m) (nI e) lo hi (nI (cntB A x)) (nI (cntB (fun n => A n && inb (nI (n + 1)) lo hi) x)) (nI (x + 1)) M3) (N := 9) (fun q => ?_) (fun q x hx ih2 => ?_)
          · refine ⟨fun _ => ?_, fun c => absurd (show (10 : Int32) ≤ nI (9 + 1) by decide) c⟩
            intro M4 m4
            refine s_max (fun M5 m5 => ?_)
            have h9 := hfi 9
            have h9' := hit 9
            rw [show (1 : Int32) = nI 1 from rfl, nI_max (by omega) (by omega)] at m5
            have e17 : M4 0 17 = nI (F e).2 := by rw [m4, ms_ne _ _ _ (by omega)]; exact d3
            rw [e17, pk_mul] at m5
            rw [u3, pk_mul] at m4
            unfold P_M_chances_197
            rw [nI_1]
            refine ih M5 ?_ ?_ ?_
            · subst m4 m5; exact (hF3.step (Or.inl rfl) _).step (Or.inr rfl) _
            · rw [m5, ms_ne _ _ _ (by omega), m4, ms_at, eF]
            · rw [m5, ms_at, eF]
          · refine ⟨fun c => ?_, fun _ => s_M_isAmount hI3 hp he6 ?_⟩
            · rw [show (10 : Int32) = nI 10 from rfl, nI_le_iff (by omega) (by omega)] at c; omega
            rw [w3, hF3.1 5 (by omega), hF3.1 6 (by omega), hA' x]
            refine bn0 (fun c4 => ?_) (fun c4 => s_M_in (b0n (fun c5 => ?_) (fun c5 => ?_)))
            · unfold P_M_chances_165
              simp only [cntB, c4, Bool.false_and, Bool.false_eq_true, if_false, Nat.add_zero] at ih2
              rw [nI_1]; exact ih2
            · intro x8 e8
              simp only [cntB, c4, c5, Bool.and_false, Bool.false_eq_true, if_false, Nat.add_zero, if_true] at ih2
              rw [e8]
              unfold P_M_chances_165
              rw [nI_1, nI_1, Int32.add_zero]; exact ih2
            · intro x8 e8
              simp only [cntB, c4, c5, Bool.and_self, if_true] at ih2
              rw [e8]
              unfold P_M_chances_165
              rw [nI_1, nI_1, nI_1]; exact ih2
        · have c3 : tb set e = false := tb_0.mp c2
          rw [c3] at eF
          simp only [Bool.false_eq_true, if_false] at eF
          refine ⟨fun c4 => ?_, fun c4 => ?_⟩
          · rw [if_pos c4] at eF
            intro M4 m4
            unfold P_M_chances_197
            rw [nI_1]
            refine ih M4 (by subst m4; exact hF3.step (Or.inl rfl) _) ?_ ?_
            · rw [m4, ms_at, eF]; exact u3
            · rw [m4, ms_ne _ _ _ (by omega), eF]; exact d3
          · rw [if_neg c4] at eF
            intro M4 m4
            unfold P_M_chances_197
            rw [nI_1]
            refine ih M4 (by subst m4; exact hF3.step (Or.inl rfl) _) ?_ ?_
            · rw [m4, ms_at, eF]; rfl
            · rw [m4, ms_ne _ _ _ (by omega), eF]; exact d3
      · rw [c] at eF
        simp only [if_true] at eF
        unfold P_M_chances_197
        rw [nI_1]
        exact ih M3 hF3 (by rw [eF]; exact u3) (by rw [eF]; exact d3)
  obtain ⟨j, hj⟩ := key
  refine ⟨j, hj M2 hF2 ?_ ?_⟩
  · rw [← hF, m2, ms_ne _ _ _ (by omega), m1, ms_at]; rfl
  · rw [← hF, m2, ms_at]; rfl
theorem s_M_noChance {A B : Mem → Prop} {p m : Int32} {M : Mem} (ha : inb p 0 (M 1 8 - 1) = true → inb m 0 (M 1 11 - 1) = true → A M) (hb : (inb p 0 (M 1 8 - 1) && inb m 0 (M 1 11 - 1)) = false → B (thr M 1)) : P_M_noChance (fun r M1 => (r = 0 → A M1) ∧ (¬ r = 0 → B M1)) p m M := by
  have bad : (inb p 0 (M 1 8 - 1) && inb m 0 (M 1 11 - 1)) = false → P_M_noChance_21 (fun r M1 => (r = 0 → A M1) ∧ (¬ r = 0 → B M1)) M := fun c =>
    s_M_throwsIf (b := true) ⟨Or.inr rfl, fun c2 => absurd c2 (by decide), fun _ => hb c⟩
  refine s_M_none (c := 8) (by omega) (bn0 (fun c => s_M_none (c := 11) (by omega) (b0n (fun c2 => ?_) (fun c2 => bad (by simp [bnot' c2])))) (fun c => bad (by simp [bnot' c])))
  exact s_M_throwsIf (b := false) ⟨Or.inl rfl, fun _ => ha (bnot c) (bnot c2), fun c3 => absurd (by decide) c3⟩
theorem s_M_chance {post : Int32 → Mem → Prop} {p set m : Int32} {below : Bool} {M : Mem} (hI : WInv (M 1)) (h : Qs post M (fun lo hi => qp1 (inb p 0 (M 1 8 - 1) && inb m 0 (M 1 11 - 1)) (if below then nI (chA (M 1) lo hi (nn p) set (nn m)).2 else nI (chA (M 1) lo hi (nn p) set (nn m)).1))) : P_M_chance post p set m (bi below) M := by
  refine th0 (s_M_noChance (fun c1 c2 => ?_) (fun c => ?_))
  · rw [thr1] at c1 c2
    refine s_sp hI (fun M' hM h0 h1 hL hS => ?_)
    obtain ⟨hp, hp3⟩ := hI.inp c1
    obtain ⟨hm, hm4, hm4'⟩ := hI.inm c2
    have h := h _ _ hS
    simp only [qp1, c1, c2, Bool.and_self, Bool.not_true, Bool.false_eq_true, if_false] at h
    have go : P_M_chances (fun M4 => (bi below = 0 → (P_M_chance_43 post (M4 0 16) M4)) ∧ (¬ bi below = 0 → (P_M_chance_43 post (M4 0 17) M4))) (nI (nn p)) set (nI (nn m)) M' := by
      refine s_M_chances (by rw [h1]; exact hI) hp3 hm4' (fun M4 hF u4 d4 => ?_)
      rw [h1] at u4 d4
      have h := h M4 (hM.trans hF.same) (by rw [hF.2 0 (by omega) (by omega)]; exact h0)
      refine b0n (fun c => ?_) (fun c => ?_)
      · rw [c] at h; rw [u4]; exact h
      · rw [c] at h; rw [d4]; exact h
    rw [← hp, ← hm] at go
    exact go
  · rw [thr1] at c
    exact h.bad (fun lo hi => by simp only [qp1, c, Bool.not_false, if_true])
theorem lmulI {a b c d : Nat} (ha : a ≤ 531441) (hb : b ≤ 531441) (hc : c ≤ 531441) (hd : d ≤ 531441) : 0 < lg_cmp ((nI a).toInt64 * (nI b).toInt64) ((nI c).toInt64 * (nI d).toInt64) ↔ c * d < a * b := by
  have key : ∀ x y : Nat, x ≤ 531441 → y ≤ 531441 → ((nI x).toInt64 * (nI y).toInt64).toInt = (x * y : Nat) := by
    intro x y hx hy
    have h1 : x * y ≤ 531441 * 531441 := Nat.mul_le_mul hx hy
    rw [Int64.toInt_mul, Int32.toInt_toInt64, Int32.toInt_toInt64, nI_toI (by omega), nI_toI (by omega), ← Int.natCast_mul]
    exact Int.bmod_eq_of_le (by omega) (by omega)
  rw [lg_cmp_gt, Int64.lt_iff_toInt_lt, key _ _ ha hb, key _ _ hc hd]
  omega
/-- the likeliest maker, and its chance -/
def gcF (ch : Nat → Nat × Nat) : Nat → Int32 × Nat × Nat
  | 0 => (-1, 0, 1)
  | m + 1 => if (gcF ch m).2.1 * (ch m).2 < (ch m).1 * (gcF ch m).2.2 then (nI m, ch m) else gcF ch m
theorem gcF_bd {ch : Nat → Nat × Nat} (h : ∀ m, (ch m).1 ≤ 531441 ∧ (ch m).2 ≤ 531441) : ∀ m, (gcF ch m).2.1 ≤ 531441 ∧ (gcF ch m).2.2 ≤ 531441
  | 0 => by simp [gcF]
  | m + 1 => by
    have h1 := gcF_bd h m
    unfold gcF
    split
    · exact h m
    · exact h1
theorem s_M_greatestChance {post : Int32 → Mem → Prop} {p : Nat} {set : Int32} {M : Mem} (hI : WInv (M 1)) (hp : p < 3) (h : ∀ M', FrC M M' → M' 0 16 = nI (gcF (chA (M 1) (M 5) (M 6) p set) (nn (M 1 11))).2.1 → M' 0 17 = nI (gcF (chA (M 1) (M 5) (M 6) p set) (nn (M 1 11))).2.2 → post (gcF (chA (M 1) (M 5) (M 6) p set) (nn (M 1 11))).1 M') : P_M_greatestChance post (nI p) set M := by
  obtain ⟨hn, hn4⟩ := hI.nm
  have hcb : ∀ m, (chA (M 1) (M 5) (M 6) p set m).1 ≤ 531441 ∧ (chA (M 1) (M 5) (M 6) p set m).2 ≤ 531441 := fun m => ⟨(chA_bd hI).1, (chA_bd hI).2.2.1⟩
  have hgb := gcF_bd hcb
  have hch : ∀ m, m < 4 → ∀ (X : Mem → Prop) (M2 : Mem), FrC M M2 → (∀ M', FrC M M' → M' 0 16 = nI (chA (M 1) (M 5) (M 6) p set m).1 → M' 0 17 = nI (chA (M 1) (M 5) (M 6) p set m).2 → X M') → P_M_chances X (nI p) set (nI m) M2 := by
    intro m hm X M2 hF hX
    refine s_M_chances (by rw [hF.1 1 (by omega)]; exact hI) hp hm (fun M3 hF3 u3 d3 => hX M3 (hF.trans hF3) ?_ ?_)
    · rw [u3, hF.1 1 (by omega), hF.1 5 (by omega), hF.1 6 (by omega)]
    · rw [d3, hF.1 1 (by omega), hF.1 5 (by omega), hF.1 6 (by omega)]
  generalize chA (M 1) (M 5) (M 6) p set = ch at *
  generalize hG : gcF ch = G at *
  have key : ∃ j, ∀ M2, FrC M M2 → P_M_greatestChance_11 post j (nI p) set (G 0).1 (nI (G 0).2.1) (nI (G 0).2.2) (nI 0) M2 := by
    refine lpN (R := fun j m => ∀ M2, FrC M M2 → P_M_greatestChance_11 post j (nI p) set (G m).1 (nI (G m).2.1) (nI (G m).2.2) (nI m) M2) (N := nn (M 1 11)) (fun n M2 hF => ?_) (fun n m hm ih M2 hF => ?_)
    · refine ⟨vin_nI (n := 11) (by omega) (by omega), brSt (by rw [hF.1 1 (by omega)]; exact hn) (fun M3 m3 M4 m4 => ?_)⟩
      refine h M4 ?_ ?_ ?_
      · subst m3 m4; exact (hF.step (Or.inl rfl) _).step (Or.inr rfl) _
      · rw [m4, ms_ne _ _ _ (by omega), m3, ms_at]
      · rw [m4, ms_at]
    · refine ⟨vin_nI (n := 11) (by omega) (by omega), brGo (by rw [hF.1 1 (by omega)]; exact hn) (by omega) hm (hch m (by omega) _ M2 hF (fun M3 hF3 u3 d3 => ?_))⟩
      have ih := ih M3 hF3
      have eG : G (m + 1) = if (G m).2.1 * (ch m).2 < (ch m).1 * (G m).2.2 then (nI m, ch m) else G m := by rw [← hG]; rfl
      rw [u3, d3, lmulI (hcb m).1 (hgb m).2 (hgb m).1 (hcb m).2]
      refine ⟨fun c => ?_, fun c => ?_⟩
      · rw [if_pos c] at eG; rw [eG, ← nI_1] at ih; exact ih
      · rw [if_neg c] at eG; rw [eG, ← nI_1] at ih; exact ih
  obtain ⟨j, hj⟩ := key
  have hj := hj M (FrC.refl M)
  rw [← hG] at hj
  exact ⟨j, hj⟩
theorem s_M_likely {post : Int32 → Mem → Prop} {p set : Int32} {M : Mem} (hI : WInv (M 1)) (h : Qs post M (fun lo hi => qp1 (inb p 0 (M 1 8 - 1)) (gcF (chA (M 1) lo hi (nn p) set) (nn (M 1 11))).1)) : P_M_likely post p set M := by
  refine th0 (s_M_none (c := 8) (by omega) ?_)
  rw [thr1]
  refine tI0n (fun c => s_sp hI (fun M' hM h0 h1 hL hS => ?_)) (fun c => h.bad (fun lo hi => by simp [qp1, bnot' c]))
  obtain ⟨hp, hp3⟩ := hI.inp (bnot c)
  have h := h _ _ hS
  simp only [qp1, bnot c] at h
  have go : P_M_greatestChance (fun r5 M5 => post r5 M5) (nI (nn p)) set M' := by
    refine s_M_greatestChance (by rw [h1]; exact hI) hp3 (fun M4 hF u4 d4 => ?_)
    rw [h1]
    exact h M4 (hM.trans hF.same) (by rw [hF.2 0 (by omega) (by omega)]; exact h0)
  rw [← hp] at go
  exact go
def fgB (a b : Nat × Nat) : Bool := decide (¬ a.1 = b.1) || decide (¬ a.2 = b.2)
theorem s_M_forged {post : Int32 → Mem → Prop} {p set m : Int32} {M : Mem} (hI : WInv (M 1)) (h : Qs post M (fun lo hi => qp1 (inb p 0 (M 1 8 - 1) && inb m 0 (M 1 11 - 1)) (bi (fgB (chA (M 1) lo hi (nn p) set (nn m)) (gcF (chA (M 1) lo hi (nn p) set) (nn (M 1 11))).2)))) : P_M_forged post p set m M := by
  refine th0 (s_M_noChance (fun c1 c2 => ?_) (fun c => ?_))
  · rw [thr1] at c1 c2
    refine s_sp hI (fun M' hM h0 h1 hL hS => ?_)
    obtain ⟨hp, hp3⟩ := hI.inp c1
    obtain ⟨hm, hm4, hm4'⟩ := hI.inm c2
    have h := h _ _ hS
    simp only [qp1, c1, c2, Bool.and_self, Bool.not_true, Bool.false_eq_true, if_false] at h
    have hI' : WInv (M' 1) := by rw [h1]; exact hI
    have go : P_M_greatestChance (fun r4 M4 => P_M_chances (fun M5 =>
        (¬ (M5 0 16) = (M4 0 16) → (P_M_forged_64 post M5)) ∧
        ((M5 0 16) = (M4 0 16) → (((M5 0 17) = (M4 0 17) → (P_M_forged_69 post (0 : Int32) M5)) ∧
        (¬ (M5 0 17) = (M4 0 17) → (P_M_forged_64 post M5))))) (nI (nn p)) set (nI (nn m)) M4) (nI (nn p)) set M' := by
      refine s_M_greatestChance hI' hp3 (fun M4 hF4 u4 d4 => ?_)
      have w4 : M4 1 = M' 1 := hF4.1 1 (by omega)
      refine s_M_chances (by rw [w4]; exact hI') hp3 hm4' (fun M5 hF5 u5 d5 => ?_)
      rw [w4, hF4.1 5 (by omega), hF4.1 6 (by omega), h1] at u5 d5
      rw [h1] at u4 d4
      have h := h M5 ((hM.trans hF4.same).trans hF5.same) (by rw [hF5.2 0 (by omega) (by omega), hF4.2 0 (by omega) (by omega)]; exact h0)
      rw [u4, d4, u5, d5]
      have hb1 := chA_bd (lo := M' 5) (hi := M' 6) (p := nn p) (set := set) (m := nn m) hI
      have hb2 := gcF_bd (ch := chA (M 1) (M' 5) (M' 6) (nn p) set) (fun m => ⟨(chA_bd hI).1, (chA_bd hI).2.2.1⟩) (nn (M 1 11))
      generalize chA (M 1) (M' 5) (M' 6) (nn p) set (nn m) = x at *
      generalize (gcF (chA (M 1) (M' 5) (M' 6) (nn p) set) (nn (M 1 11))).2 = y at *
      rw [nI_eq (by omega) (by omega), nI_eq (by omega) (by omega)]
      unfold fgB at h
      refine ⟨fun c => ?_, fun c => ⟨fun c3 => ?_, fun c3 => ?_⟩⟩
      · rw [decide_eq_true c] at h; exact ⟨Or.inr rfl, h⟩
      · rw [decide_eq_false (fun h => h c), decide_eq_false (fun h => h c3)] at h; exact ⟨Or.inl rfl, h⟩
      · rw [decide_eq_true c3, Bool.or_true] at h; exact ⟨Or.inr rfl, h⟩
    rw [← hp, ← hm] at go
    exact go
  · rw [thr1] at c
    exact h.bad (fun lo hi => by simp only [qp1, c, Bool.not_false, if_true])
/-! grain -/
theorem s_M_grain {post : Int32 → Mem → Prop} {p set : Int32} {M : Mem} (hI : WInv (M 1)) (h : Qs post M (fun lo hi => qp1 (inb p 0 (M 1 8 - 1)) (bitF (fun r => tb (lfA (M 1) lo hi p set 0) r && decide (M 1 (194 + 5 * r) = 1)) (nn (M 1 9))))) : P_M_grain post p set M := by
  obtain ⟨hn, hn24⟩ := hI.nr
  refine th0 (s_M_none (c := 8) (by omega) ?_)
  rw [thr1]
  refine tI0n (fun c => s_sp hI (fun M' hM h0 h1 hL hS => s_M_leftOf (by rw [h1]; exact hI) ?_)) (fun c => h.bad (fun lo hi => by simp [qp1, bnot' c]))
  have h := h _ _ hS
  simp only [qp1, bnot c] at h
  have h := h M' hM h0
  rw [h1]
  generalize lfA (M 1) (M' 5) (M' 6) p set 0 = left at *
  have hn' : M' 1 9 = nI (nn (M 1 9)) := by rw [h1]; exact hn
  generalize hf : (fun r => tb left r && decide (M 1 (194 + 5 * r) = 1)) = F at h
  refine lpN (R := fun j x => P_M_grain_40 post j left (bitF F x) (nI x) M') (N := nn (M 1 9)) (fun n => s_M_readings (brSt hn' h)) (fun n x hx ih => ?_)
  have hx24 : x < 24 := by omega
  have eF : F x = (tb left x && decide (M 1 (194 + 5 * x) = 1)) := by rw [← hf]
  have no : F x = false → P_M_grain_79 post (P_M_grain_40 post n) left (nI x) (bitF F x) M' := by
    intro e x4 e4
    simp only [bitF, e, Bool.false_eq_true, if_false] at ih
    rw [e4, Int32.or_zero, nI_1]; exact ih
  refine s_M_readings (brGo hn' (by omega) hx ⟨fun c2 => no ?_, fun c2 => s_M_of (k := 3) hx24 (by omega) ⟨fun c3 => no ?_, fun c3 => ?_⟩⟩)
  · rw [eF]; unfold tb; rw [decide_eq_false c2]; rfl
  · rw [h1, show 191 + 5 * x + 3 = 194 + 5 * x by omega] at c3
    rw [eF, decide_eq_false c3, Bool.and_false]
  · rw [h1, show 191 + 5 * x + 3 = 194 + 5 * x by omega] at c3
    have e : F x = true := by rw [eF]; unfold tb; rw [decide_eq_true c2, decide_eq_true c3]; rfl
    intro x4 e4
    simp only [bitF, e, if_true] at ih
    rw [e4, nI_1]; exact ih
/-! near -/
def nrB (w : Nat → Int32) (e o : Nat) (far : Int32) (l k : Nat) : Bool := decide (¬ far < jabs (w (94 + 14 * e + 2 * l) - w (94 + 14 * o + 2 * k)))
def nrL (w : Nat → Int32) (e o : Nat) (far : Int32) (l : Nat) : Bool := anyB (nrB w e o far l) (nn (w (93 + 14 * o)))
def nrA (w : Nat → Int32) (e o : Nat) (far : Int32) : Nat := cntB (nrL w e o far) (nn (w (93 + 14 * e)))
theorem s_M_near {post : Int32 → Mem → Prop} {e o far : Int32} {M : Mem} (hI : WInv (M 1)) (h : Qr post M (if !(inb e 0 (M 1 7 - 1) && inb o 0 (M 1 7 - 1)) then qi 1 0 else if !inb far 0 999 then qi 2 0 else qi 0 (nI (nrA (M 1) (nn e) (nn o) far)))) : P_M_near post e o far M := by
  have hr : thr M 0 1 = M 1 := thr1 M
  have bad : (inb e 0 (M 1 7 - 1) && inb o 0 (M 1 7 - 1)) = false → P_M_near_26 post e o far (thr M 0) := by
    intro e2
    simp only [e2, Bool.not_false, if_true] at h
    exact tIn0 (b := true) (fun e => absurd e (by decide)) (fun _ => Qr.thrown h)
  refine th0 (s_M_none (c := 7) (by omega) ?_)
  rw [hr]
  refine bn0 (fun c1 => s_M_none (c := 7) (by omega) ?_) (fun c1 => bad (by simp [bnot' c1]))
  rw [hr]
  refine b0n (fun c2 => ?_) (fun c2 => bad (by simp [bnot' c2]))
  simp only [bnot c1, bnot c2, Bool.and_self, Bool.not_true, Bool.false_eq_true, if_false] at h
  obtain ⟨he, he7, he6⟩ := hI.ine (bnot c1)
  obtain ⟨ho, ho7, ho6⟩ := hI.ine (bnot c2)
  refine tIn0 (b := false) (fun _ => s_M_in (bn0 (fun c3 => ?_) (fun c3 => ?_))) (fun e => absurd e (by decide))
  · simp only [c3, Bool.not_false, if_true] at h
    exact tI0n (b := true) (fun e => absurd e (by decide)) (fun _ => Qr.thrown h)
  · simp only [c3, Bool.not_true, Bool.false_eq_true, if_false] at h
    refine tI0n (b := false) (fun _ => ?_) (fun e => absurd e (by decide))
    have h := Qr.plain h
    rw [he, ho]
    generalize nn e = a at *
    generalize nn o = b at *
    obtain ⟨hl, hl6⟩ := hI.nl he6
    obtain ⟨hk, hk6⟩ := hI.nl ho6
    unfold nrA at h
    generalize hf : nrL (M 1) a b far = F at h
    refine lpN (R := fun j l => P_M_near_70 post j (nI a) (nI b) far (nI (cntB F l)) (nI l) (thr M 0)) (N := nn (M 1 (93 + 14 * a))) (fun n => s_M_lines he6 (brSt (by rw [hr]; exact hl) h)) (fun n l hl2 ih => ?_)
    refine s_M_lines he6 (brGo (by rw [hr]; exact hl) (by omega) hl2 ?_)
    have eF : F l = anyB (nrB (M 1) a b far l) (nn (M 1 (93 + 14 * b))) := by rw [← hf]; rfl
    have hg : ∀ k, nrB (M 1) a b far l k = decide (¬ far < jabs (M 1 (94 + 14 * a + 2 * l) - M 1 (94 + 14 * b + 2 * k))) := fun k => rfl
    generalize nrB (M 1) a b far l = G at *
    refine lpN (R := fun j k => P_M_near_86 post (P_M_near_70 post n) j (nI a) (nI b) far (nI (cntB F l)) (nI l) (bi (anyB G k)) (nI k) (thr M 0)) (N := nn (M 1 (93 + 14 * b))) (fun m => s_M_lines ho6 (brSt (by rw [hr]; exact hk) ?_)) (fun m k hk2 ih2 => s_M_lines ho6 (brGo (by rw [hr]; exact hk) (by omega) hk2 ?_))
    · rw [← eF]
      refine b0n (fun c => ?_) (fun c => ?_)
      · intro x4 e4
        simp only [cntB, c, Bool.false_eq_true, if_false, Nat.add_zero] at ih
        rw [e4, Int32.add_zero, nI_1]; exact ih
      · intro x4 e4
        simp only [cntB, c, if_true] at ih
        rw [e4, nI_1, nI_1]; exact ih
    · have e0 : anyB G (k + 1) = (anyB G k || G k) := rfl
      refine bn0 (fun c => s_M_waveOf he6 (by omega) (s_M_waveOf ho6 (by omega) (s_abs ?_))) (fun c => ?_)
      · rw [hr]
        have := hg k
        refine ⟨fun c4 => ?_, fun c4 => ?_⟩
        · rw [decide_eq_false (fun h => h c4)] at this
          rw [e0, c, this, ← nI_1] at ih2; exact ih2
        · rw [decide_eq_true c4] at this
          rw [e0, c, this, ← nI_1] at ih2; exact ih2
      · rw [e0, c, Bool.true_or, ← nI_1] at ih2; exact ih2
/-! alike -/
def akB (w lo hi : Nat → Int32) (p q : Int32) (a b : Nat) : Bool := decide (w (191 + 5 * a) = p) && decide (w (191 + 5 * b) = q) && spB lo hi a && spB lo hi b && decide (¬ hi b < lo a) && decide (¬ hi a < lo b)
theorem s_M_alike {post : Int32 → Mem → Prop} {p q : Int32} {M : Mem} (hI : WInv (M 1)) (h : Qs post M (fun lo hi => qp1 (inb p 0 (M 1 8 - 1) && inb q 0 (M 1 8 - 1)) (bitF (fun a => anyB (akB (M 1) lo hi p q a) (nn (M 1 9))) (nn (M 1 9))))) : P_M_alike post p q M := by
  obtain ⟨hn, hn24⟩ := hI.nr
  have bad : (inb p 0 (M 1 8 - 1) && inb q 0 (M 1 8 - 1)) = false → P_M_alike_26 post p q (thr M 0) := by
    intro e2
    exact tI0n (b := true) (fun e => absurd e (by decide)) (fun _ => h.bad (fun lo hi => by simp only [qp1, e2, Bool.not_false, if_true]))
  refine th0 (s_M_none (c := 8) (by omega) ?_)
  rw [thr1]
  refine bn0 (fun c1 => s_M_none (c := 8) (by omega) ?_) (fun c1 => bad (by simp [bnot' c1]))
  rw [thr1]
  refine b0n (fun c2 => ?_) (fun c2 => bad (by simp [bnot' c2]))
  refine tI0n (b := false) (fun _ => s_sp hI (fun M' hM h0 h1 hL hS => ?_)) (fun e => absurd e (by decide))
  have h := h _ _ hS
  simp only [qp1, bnot c1, bnot c2, Bool.and_self, Bool.not_true, Bool.false_eq_true, if_false] at h
  have h := h M' hM h0
  have hn' : M' 1 9 = nI (nn (M 1 9)) := by rw [h1]; exact hn
  have hI' : WInv (M' 1) := by rw [h1]; exact hI
  generalize hf : (fun a => anyB (akB (M 1) (M' 5) (M' 6) p q a) (nn (M 1 9))) = F at h
  refine lpN (R := fun j a => P_M_alike_49 post j p q (bitF F a) (nI a) M') (N := nn (M 1 9)) (fun n => s_M_readings (brSt hn' h)) (fun n a ha ih => s_M_readings (brGo hn' (by omega) ha ?_))
  have ha24 : a < 24 := by omega
  have eF : F a = anyB (akB (M 1) (M' 5) (M' 6) p q a) (nn (M 1 9)) := by rw [← hf]
  have hg : ∀ b, akB (M 1) (M' 5) (M' 6) p q a b = (decide (M 1 (191 + 5 * a) = p) && decide (M 1 (191 + 5 * b) = q) && spB (M' 5) (M' 6) a && spB (M' 5) (M' 6) b && decide (¬ M' 6 b < M' 5 a) && decide (¬ M' 6 a < M' 5 b)) := fun b => rfl
  generalize akB (M 1) (M' 5) (M' 6) p q a = G at *
  generalize hB : bitF F a = B
  have e1 : bitF F (a + 1) = if F a then B ||| ((1 : Int32) <<< (nI a &&& 31)) else B := by rw [← hB]; rfl
  rw [e1, eF] at ih
  refine lpN (R := fun j b => P_M_alike_61 post (P_M_alike_49 post n) j p q (if anyB G b then B ||| ((1 : Int32) <<< (nI a &&& 31)) else B) (nI a) (nI b) M') (N := nn (M 1 9)) (fun m => s_M_readings (brSt hn' ?_)) (fun m b hb ih2 => s_M_readings (brGo hn' (by omega) hb ?_))
  · rw [nI_1]; exact ih
  · have hb24 : b < 24 := by omega
    have e0 : anyB G (b + 1) = (anyB G b || G b) := rfl
    have no : G b = false → P_M_alike_151 post (P_M_alike_49 post n) (P_M_alike_61 post (P_M_alike_49 post n) m) p q (if anyB G b then B ||| ((1 : Int32) <<< (nI a &&& 31)) else B) (nI a) (nI b) M' := by
      intro e
      rw [e0, e, Bool.or_false, ← nI_1] at ih2; exact ih2
    have eg := hg b
    refine s_M_of (k := 0) ha24 (by omega) ?_
    rw [h1, show 191 + 5 * a + 0 = 191 + 5 * a from rfl]
    refine ⟨fun c => no ?_, fun c => s_M_of (k := 0) hb24 (by omega) ?_⟩
    · rw [eg, decide_eq_false c]; simp
    rw [h1, show 191 + 5 * b + 0 = 191 + 5 * b from rfl]
    refine ⟨fun c3 => no ?_, fun c3 => s_M_hasSpan ha24 (b0n (fun c4 => no ?_) (fun c4 => s_M_hasSpan hb24 (b0n (fun c5 => no ?_) (fun c5 => ?_))))⟩
    · rw [eg, decide_eq_false c3]; simp
    · rw [eg, c4]; simp
    · rw [eg, c5]; simp
    rw [nI_clamp (by omega), nI_clamp (by omega)]
    refine ⟨vin_nI (by omega) (by omega), vin_nI (by omega) (by omega), fun c6 => no ?_, fun c6 => ⟨vin_nI (by omega) (by omega), vin_nI (by omega) (by omega), fun c7 => no ?_, fun c7 x3 e3 => ?_⟩⟩
    · rw [eg, decide_eq_false (p := ¬ M' 6 b < M' 5 a) (fun h => h c6)]; simp
    · rw [eg, decide_eq_false (p := ¬ M' 6 a < M' 5 b) (fun h => h c7)]; simp
    · have e : G b = true := by rw [eg, decide_eq_true c, decide_eq_true c3, c4, c5, decide_eq_true c6, decide_eq_true c7]; rfl
      rw [e0, e, Bool.or_true, if_pos rfl, ← nI_1] at ih2
      have e4 : x3 = B ||| ((1 : Int32) <<< (nI a &&& 31)) := by
        rw [e3]
        split
        · rw [Int32.or_assoc, Int32.or_self]
        · rfl
      rw [e4]; exact ih2
