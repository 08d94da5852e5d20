/-! THE REFERENCE READS A TEXT -/
/-- what reading leaves as it was -/
def FrP (M0 M : Mem) : Prop := (∀ k, k ≠ 0 → k ≠ 1 → M k = M0 k) ∧ (∀ k, k < 5165 → M 1 k = M0 1 k) ∧ ∀ k, k ≠ 20 → k ≠ 22 → k ≠ 23 → k ≠ 26 → M 0 k = M0 0 k
theorem FrP.refl (M : Mem) : FrP M M := ⟨fun _ _ _ => rfl, fun _ _ => rfl, fun _ _ _ _ _ => rfl⟩
theorem FrP.put {M0 M : Mem} (h : FrP M0 M) {k : Nat} (hk : k = 20 ∨ k = 22 ∨ k = 23 ∨ k = 26) (v : Int32) : FrP M0 (ms M 0 k v) := by
  refine ⟨fun j h0 h1 => by rw [ms_off _ _ _ h0, h.1 j h0 h1], fun j hj => by rw [ms_off _ _ _ (by omega)]; exact h.2.1 j hj, fun j a b c d => ?_⟩
  rw [ms_ne _ _ _ (by omega), h.2.2 j a b c d]
theorem FrP.draft {M0 M : Mem} (h : FrP M0 M) {k : Nat} (hk : 5165 ≤ k) (v : Int32) : FrP M0 (ms M 1 k v) := by
  refine ⟨fun j h0 h1 => by rw [ms_off _ _ _ h1, h.1 j h0 h1], fun j hj => by rw [ms_ne _ _ _ (by omega)]; exact h.2.1 j hj, fun j a b c d => ?_⟩
  rw [ms_off _ _ _ (by omega), h.2.2 j a b c d]
/-- a step as the reference has it: its number, its value -/
def trS (c : Nat) : Int32 := nI ([7, 0, 1, 2, 3, 4, 5, 6, 11, 8, 9, 10, 12, 13].getD (c % 32) 0)
def trV (c : Nat) : Int32 := nI (c / 32)
/-- the reference at a byte p, so deep, with these steps -/
def MR (M0 : Mem) (L p d : Nat) (c : List Nat) (M : Mem) : Prop := FrP M0 M ∧ M 0 20 = nI p ∧ p ≤ L ∧ M 0 23 = nI d ∧ M 0 26 = nI c.length ∧ ∀ k x, c[k]? = some x → M 1 (5166 + 2 * k) = trS x ∧ M 1 (5167 + 2 * k) = trV x
/-- it has failed at a byte f -/
def MF (M0 : Mem) (f : Nat) (M : Mem) : Prop := FrP M0 M ∧ M 0 22 = nI f
section REFP
variable {M0 M : Mem} {L p d : Nat} {c : List Nat} {t : Nat → Int32}
theorem MR.eL (h : MR M0 L p d c M) (hL : M0 0 21 = nI L) : M 0 21 = nI L := by rw [h.1.2.2 21 (by omega) (by omega) (by omega) (by omega)]; exact hL
theorem MR.eT (h : MR M0 L p d c M) (ht : M0 10 = t) : M 10 = t := by rw [h.1.1 10 (by omega) (by omega)]; exact ht
theorem MR.to (h : MR M0 L p d c M) {q : Nat} (hq : q ≤ L) : MR M0 L q d c (ms M 0 20 (nI q)) := by
  obtain ⟨h1, h2, h3, h4, h5, h6⟩ := h
  refine ⟨h1.put (Or.inl rfl) _, ms_at .., hq, by rw [ms_ne _ _ _ (by omega)]; exact h4, by rw [ms_ne _ _ _ (by omega)]; exact h5, fun k x hx => ?_⟩
  rw [ms_off _ _ _ (by omega)]; exact h6 k x hx
theorem MR.begin (h : MR M0 L p d c M) (v : Int32) : MR M0 L p d c (ms M 0 22 v) := by
  obtain ⟨h1, h2, h3, h4, h5, h6⟩ := h
  refine ⟨h1.put (Or.inr (Or.inl rfl)) _, by rw [ms_ne _ _ _ (by omega)]; exact h2, h3, by rw [ms_ne _ _ _ (by omega)]; exact h4, by rw [ms_ne _ _ _ (by omega)]; exact h5, fun k x hx => ?_⟩
  rw [ms_off _ _ _ (by omega)]; exact h6 k x hx
theorem MR.deep (h : MR M0 L p d c M) (e : Nat) : MR M0 L p e c (ms M 0 23 (nI e)) := by
  obtain ⟨h1, h2, h3, h4, h5, h6⟩ := h
  refine ⟨h1.put (Or.inr (Or.inr (Or.inl rfl))) _, by rw [ms_ne _ _ _ (by omega)]; exact h2, h3, ms_at .., by rw [ms_ne _ _ _ (by omega)]; exact h5, fun k x hx => ?_⟩
  rw [ms_off _ _ _ (by omega)]; exact h6 k x hx
theorem s_M_isAt {post : Int32 → Mem → Prop} {lo hi : Int32} (hL4 : L ≤ 400) (hp : M 0 20 = nI p) (hL : M 0 21 = nI L) (hpL : p ≤ L) (h : post (bi (decide (p < L) && inb (M 10 p) lo hi)) M) : P_M_isAt post lo hi M := by
  unfold P_M_isAt
  rw [hp, hL, nI_le_iff (by omega) (by omega), nI_clamp (by omega)]
  refine ⟨fun c => ?_, fun c => ⟨vin_nI (by omega) (by omega), fun c2 => ?_, fun c2 => ⟨vin_nI (by omega) (by omega), fun c3 => ?_, fun c3 => ?_⟩⟩⟩
  · rw [decide_eq_false (by omega)] at h; exact ⟨Or.inl rfl, h⟩
  · have e : inb (M 10 p) lo hi = false := by rw [ltI] at c2; simp only [inb, decide_eq_false_iff_not, leI]; omega
    rw [e, Bool.and_false] at h; exact ⟨Or.inl rfl, h⟩
  · have e : inb (M 10 p) lo hi = false := by rw [ltI] at c3; simp only [inb, decide_eq_false_iff_not, leI]; omega
    rw [e, Bool.and_false] at h; exact ⟨Or.inl rfl, h⟩
  · have e : inb (M 10 p) lo hi = true := by rw [ltI] at c2 c3; simp only [inb, decide_eq_true_eq, leI]; omega
    rw [e, decide_eq_true (by omega)] at h; exact ⟨Or.inr rfl, h⟩
theorem s_M_blanks {post : Mem → Prop} (hL4 : L ≤ 400) (hL : M0 0 21 = nI L) (ht : M0 10 = t) : ∀ (f p : Nat) (M : Mem), p + f = L → MR M0 L p d c M → (∀ M', MR M0 L (rn (isSp t) L p) d c M' → M' 0 22 = nI (rn (isSp t) L p) → post M') → P_M_blanks post M := by
  intro f
  induction f with
  | zero =>
    intro p M hpf hM h
    refine ⟨1, s_M_isAt hL4 hM.2.1 (hM.eL hL) hM.2.2.1 ?_⟩
    rw [decide_eq_false (by omega), Bool.false_and]
    rw [rn_stop (fun e => by omega)] at h
    refine ⟨fun _ M2 m2 => ?_, fun c => absurd (by decide) c⟩
    rw [hM.2.1] at m2
    subst m2
    exact h _ (hM.begin _) (ms_at ..)
  | succ f ih =>
    intro p M hpf hM h
    by_cases hs : isSp t p = true
    · rw [rn_go (by omega) hs] at h
      obtain ⟨j, hj⟩ := ih (p + 1) (ms M 0 20 (nI (p + 1))) (by omega) (hM.to (by omega)) h
      refine ⟨j + 1, s_M_isAt hL4 hM.2.1 (hM.eL hL) hM.2.2.1 ?_⟩
      rw [decide_eq_true (by omega), Bool.true_and, hM.eT ht, show inb (t p) 32 32 = true from hs]
      refine ⟨fun c => absurd c (by decide), fun _ M3 m3 => ?_⟩
      rw [hM.2.1, nI_1] at m3
      subst m3
      exact hj
    · refine ⟨1, s_M_isAt hL4 hM.2.1 (hM.eL hL) hM.2.2.1 ?_⟩
      rw [decide_eq_true (by omega), Bool.true_and, hM.eT ht, show inb (t p) 32 32 = false by simpa [isSp] using hs]
      rw [rn_stop (fun e => hs e.2)] at h
      refine ⟨fun _ M2 m2 => ?_, fun c => absurd (by decide) c⟩
      rw [hM.2.1] at m2
      subst m2
      exact h _ (hM.begin _) (ms_at ..)
theorem s_M_letters4 {post : Mem → Prop} {v : Int32} (hL4 : L ≤ 400) (hL : M0 0 21 = nI L) (ht : M0 10 = t) : ∀ (f p : Nat) (M : Mem), p + f = L → MR M0 L p d c M → M 0 22 = v → (∀ M', MR M0 L (rn (isLe t) L p) d c M' → M' 0 22 = v → post M') → ∃ j, P_M_letters_4 post j M := by
  intro f
  induction f with
  | zero =>
    intro p M hpf hM hv h
    refine ⟨1, s_M_isAt hL4 hM.2.1 (hM.eL hL) hM.2.2.1 ?_⟩
    rw [decide_eq_false (by omega), Bool.false_and]
    rw [rn_stop (fun e => by omega)] at h
    exact ⟨fun _ => h M hM hv, fun c => absurd (by decide) c⟩
  | succ f ih =>
    intro p M hpf hM hv h
    by_cases hs : isLe t p = true
    · rw [rn_go (by omega) hs] at h
      obtain ⟨j, hj⟩ := ih (p + 1) (ms M 0 20 (nI (p + 1))) (by omega) (hM.to (by omega)) (by rw [ms_ne _ _ _ (by omega)]; exact hv) h
      refine ⟨j + 1, s_M_isAt hL4 hM.2.1 (hM.eL hL) hM.2.2.1 ?_⟩
      rw [decide_eq_true (by omega), Bool.true_and, hM.eT ht, show inb (t p) 97 122 = true from hs]
      refine ⟨fun c => absurd c (by decide), fun _ M3 m3 => ?_⟩
      rw [hM.2.1, nI_1] at m3
      subst m3
      exact hj
    · refine ⟨1, s_M_isAt hL4 hM.2.1 (hM.eL hL) hM.2.2.1 ?_⟩
      rw [decide_eq_true (by omega), Bool.true_and, hM.eT ht, show inb (t p) 97 122 = false by simpa [isLe] using hs]
      rw [rn_stop (fun e => hs e.2)] at h
      exact ⟨fun _ => h M hM hv, fun c => absurd (by decide) c⟩
theorem s_M_letters {post : Mem → Prop} (hL4 : L ≤ 400) (hL : M0 0 21 = nI L) (ht : M0 10 = t) (hM : MR M0 L p d c M) (h : ∀ M', MR M0 L (rn (isLe t) L (rn (isSp t) L p)) d c M' → M' 0 22 = nI (rn (isSp t) L p) → post M') : P_M_letters post M := by
  have hb := rn_le (p := isSp t) hM.2.2.1
  refine s_M_blanks hL4 hL ht (L - p) p M (by have := hM.2.2.1; omega) hM (fun M1 h1 e1 => ?_)
  exact s_M_letters4 hL4 hL ht (L - rn (isSp t) L p) _ M1 (by omega) h1 e1 h
/-- a sign of one byte -/
theorem s_M_sign {post : Int32 → Mem → Prop} {x : Int32} {k b : Nat} (hL4 : L ≤ 400) (hL : M0 0 21 = nI L) (ht : M0 10 = t) (hM : MR M0 L p d c M) (hb : rn (isSp t) L p = b) (hk : (x, k) = (40, 14) ∨ (x, k) = (41, 15) ∨ (x, k) = (43, 9) ∨ (x, k) = (60, 10) ∨ (x, k) = (62, 11))
    (h1 : kdT t L b = k → ∀ M' q, MR M0 L q d c M' → rn (isSp t) L q = nxT t L b → M' 0 22 = nI b → post 1 M') (h0 : kdT t L b ≠ k → ∀ M', MR M0 L b d c M' → M' 0 22 = nI b → post 0 M') : P_M_sign post x M := by
  have hbL : b ≤ L := by rw [← hb]; exact rn_le hM.2.2.1
  refine s_M_blanks hL4 hL ht (L - p) p M (by have := hM.2.2.1; omega) hM (fun M1 a1 e1 => ?_)
  rw [hb] at a1 e1
  refine s_M_isAt hL4 a1.2.1 (a1.eL hL) hbL ?_
  rw [a1.eT ht]
  have hkd := kd_ch (t := t) (L := L) hbL hk
  have hin : inb (t b) x x = true ↔ t b = x := by
    simp only [inb, decide_eq_true_eq, leI]
    constructor
    · intro ⟨q1, q2⟩; rw [eqI]; omega
    · intro e; rw [e]; omega
  by_cases hc : b < L ∧ t b = x
  · rw [decide_eq_true hc.1, hin.mpr hc.2]
    refine ⟨fun _ M3 m3 => ?_, fun c => absurd c (by decide)⟩
    rw [a1.2.1, nI_1] at m3
    subst m3
    refine h1 (hkd.mp hc) _ (b + 1) (a1.to (by omega)) ?_ (by rw [ms_ne _ _ _ (by omega)]; exact e1)
    have hx : inb x 97 122 = false ∧ inb x 48 57 = false := by rcases hk with h | h | h | h | h <;> (cases h; decide)
    unfold nxT
    rw [ch_end hc.1 hc.2 hx.1 hx.2]
  · have e : (decide (b < L) && inb (t b) x x) = false := by
      rw [Bool.and_eq_false_iff]
      by_cases h5 : b < L
      · right
        cases h6 : inb (t b) x x with
        | false => rfl
        | true => exact absurd ⟨h5, hin.mp h6⟩ hc
      · left; exact decide_eq_false h5
    rw [e]
    exact ⟨fun c => absurd (by decide) c, fun _ => h0 (fun e2 => hc (hkd.mpr e2)) M1 a1 e1⟩
/-- numbers -/
theorem s_M_digits {post : Int32 → Mem → Prop} {most : Int32} {b : Nat} (hL4 : L ≤ 400) (hL : M0 0 21 = nI L) (ht : M0 10 = t) : ∀ (f p : Nat) (M : Mem), p + f = L → b ≤ p → (∀ j, b ≤ j → j < p → isDg t j = true) → MR M0 L p d c M → M 0 22 = nI b →
    (∀ M', MR M0 L (rn (isDg t) L p) d c M' → M' 0 22 = nI b → post (if rn (isDg t) L p = b ∨ 4 < rn (isDg t) L p - b ∨ ¬ nI (dvF t b (rn (isDg t) L p - b)) ≤ most then -1 else nI (dvF t b (rn (isDg t) L p - b))) M') → ∃ j, P_M_readNumber_6 post j most (nI (dvF t b (min (p - b) 4))) M := by
  intro f
  have fin : ∀ (p : Nat) (M : Mem), p ≤ L → b ≤ p → (∀ j, b ≤ j → j < p → isDg t j = true) → ¬ (p < L ∧ isDg t p = true) → MR M0 L p d c M → M 0 22 = nI b →
      (∀ M', MR M0 L (rn (isDg t) L p) d c M' → M' 0 22 = nI b → post (if rn (isDg t) L p = b ∨ 4 < rn (isDg t) L p - b ∨ ¬ nI (dvF t b (rn (isDg t) L p - b)) ≤ most then -1 else nI (dvF t b (rn (isDg t) L p - b))) M') → ∃ j, P_M_readNumber_6 post j most (nI (dvF t b (min (p - b) 4))) M := by
    intro p M hpL hbp hin hst hM hv h
    rw [rn_stop hst] at h
    have h := h M hM hv
    refine ⟨1, s_M_isAt hL4 hM.2.1 (hM.eL hL) hM.2.2.1 ?_⟩
    have e : (decide (p < L) && inb (M 10 p) 48 57) = false := by
      rw [hM.eT ht, Bool.and_eq_false_iff]
      by_cases h5 : p < L
      · right
        cases h6 : inb (t p) 48 57 with
        | false => rfl
        | true => exact absurd ⟨h5, h6⟩ hst
      · left; exact decide_eq_false h5
    rw [e]
    refine ⟨fun _ => ?_, fun c => absurd (by decide) c⟩
    have es : nI p - nI b = nI (p - b) := by rw [nI_I, nI_I, I_sub, nI_I]; congr 1; omega
    rw [hM.2.1, hv, nI_eq (by omega) (by omega), es, show (4 : Int32) = nI 4 from rfl]
    refine ⟨fun c1 => ?_, fun c1 => ⟨fun c2 => ?_, fun c2 => ?_⟩⟩
    · rw [if_pos (Or.inl c1)] at h; exact h
    · rw [ltI, nI_toI (by omega), nI_toI (by omega)] at c2
      rw [if_pos (Or.inr (Or.inl (by omega)))] at h; exact h
    · rw [ltI, nI_toI (by omega), nI_toI (by omega)] at c2
      rw [show min (p - b) 4 = p - b by omega]
      refine ⟨fun c3 => ?_, fun c3 => ?_⟩
      · rw [if_neg (by rintro (q | q | q); exact c1 q; omega; exact q c3)] at h; exact h
      · rw [if_pos (Or.inr (Or.inr c3))] at h; exact h
  induction f with
  | zero => intro p M hpf hbp hin hM hv h; exact fin p M (by omega) hbp hin (fun e => by omega) hM hv h
  | succ f ih =>
    intro p M hpf hbp hin hM hv h
    by_cases hs : isDg t p = true
    · rw [rn_go (by omega) hs] at h
      have hM2 := hM.to (q := p + 1) (by omega)
      obtain ⟨j, hj⟩ := ih (p + 1) (ms M 0 20 (nI (p + 1))) (by omega) (by omega) (fun j h1 h2 => by
        by_cases e : j = p
        · rw [e]; exact hs
        · exact hin j h1 (by omega)) hM2 (by rw [ms_ne _ _ _ (by omega)]; exact hv) h
      refine ⟨j + 1, s_M_isAt hL4 hM.2.1 (hM.eL hL) hM.2.2.1 ?_⟩
      rw [decide_eq_true (by omega), Bool.true_and, hM.eT ht, show inb (t p) 48 57 = true from hs]
      refine ⟨fun c => absurd c (by decide), fun _ => ?_⟩
      have es : nI p - nI b = nI (p - b) := by rw [nI_I, nI_I, I_sub, nI_I]; congr 1; omega
      rw [hM.2.1, hv, es, show (4 : Int32) = nI 4 from rfl, nI_le_iff (by omega) (by omega)]
      refine ⟨fun c1 M3 m3 => ?_, fun c1 => ⟨vin_nI (by omega) (by omega), fun v2 e2 M3 m3 => ?_⟩⟩
      · rw [hM.2.1, nI_1] at m3
        subst m3
        rw [show min (p + 1 - b) 4 = 4 by omega] at hj
        rw [show min (p - b) 4 = 4 by omega]
        exact hj
      · rw [hM.2.1, nI_1] at m3
        subst m3
        rw [show min (p + 1 - b) 4 = (p - b) + 1 by omega] at hj
        rw [show min (p - b) 4 = p - b by omega, nI_clamp (by omega)] at e2
        have ev : v2 = nI (dvF t b (p - b + 1)) := by
          have h2 := hs
          simp only [isDg, inb, decide_eq_true_eq, leI] at h2
          have a1 : (48 : Int32).toInt = 48 := rfl
          have a2 : (57 : Int32).toInt = 57 := rfl
          simp only [dvF]
          rw [show b + (p - b) = p by omega, e2, I_ofS (t p), nI_I, show (10 : Int32) = I 10 from rfl, show (48 : Int32) = I 48 from rfl, I_mul, I_add, I_sub, nI_I]
          rw [I_of]
          congr 1
          omega
        rw [ev]; exact hj
    · exact fin p M (by omega) hbp hin (fun e => hs e.2) hM hv h
theorem kd_num {b : Nat} (hb : b ≤ L) (hs : isLe t b = false ∨ ¬ b < L) : (kdT t L b % 32 = 0 ↔ (b < L ∧ isDg t b = true ∧ tE t L b - b ≤ 4)) := by
  unfold kdT
  constructor
  · intro h
    split at h
    · rename_i h1
      rw [hs.resolve_right (fun h => h h1)] at h
      simp only [Bool.false_eq_true, if_false] at h
      split at h
      · rename_i h2
        split at h
        · omega
        · exact ⟨h1, h2, by omega⟩
      · exfalso
        have hc := chK_lt (t b)
        have : chK (t b) ≠ 0 := by unfold chK; repeat' split
                                   all_goals omega
        omega
    · omega
  · intro ⟨h1, h2, h3⟩
    rw [if_pos h1, hs.resolve_right (fun h => h h1), h2]
    simp only [Bool.false_eq_true, if_false, if_true]
    rw [if_neg (by omega)]; omega
/-- the number that stands at b: NONE, or it, and no more than most -/
theorem s_M_readNumber {post : Int32 → Mem → Prop} {most b : Nat} (hL4 : L ≤ 400) (hL : M0 0 21 = nI L) (ht : M0 10 = t) (hM : MR M0 L p d c M) (hb : rn (isSp t) L p = b) (hm : most ≤ 9999)
    (h1 : kdT t L b % 32 = 0 → kdT t L b / 32 ≤ most → ∀ M' q, MR M0 L q d c M' → rn (isSp t) L q = nxT t L b → M' 0 22 = nI b → post (nI (kdT t L b / 32)) M') (h0 : ¬ (kdT t L b % 32 = 0 ∧ kdT t L b / 32 ≤ most) → ∀ M' q, MR M0 L q d c M' → M' 0 22 = nI b → post (-1) M') : P_M_readNumber post (nI most) M := by
  have hbL : b ≤ L := by rw [← hb]; exact rn_le hM.2.2.1
  refine s_M_blanks hL4 hL ht (L - p) p M (by have := hM.2.2.1; omega) hM (fun M1 a1 e1 => ?_)
  rw [hb] at a1 e1
  have key := s_M_digits (post := post) (most := nI most) (b := b) hL4 hL ht (L - b) b M1 (by omega) (Nat.le_refl _) (fun j h1 h2 => by omega) a1 e1 (fun M' a2 e2 => ?_)
  · rw [show min (b - b) 4 = 0 by omega] at key
    exact key
  · have hge := rn_ge (p := isDg t) hbL
    have hle := rn_le (p := isDg t) hbL
    by_cases hd : b < L ∧ isDg t b = true
    · have hl : isLe t b = false := by
        cases hq : isLe t b with
        | false => rfl
        | true => have := Le_not_Dg hq; rw [this] at hd; cases hd.2
      have eE : tE t L b = rn (isDg t) L b := by unfold tE; rw [hl, hd.2]; rfl
      have hE := tE_bd (t := t) hd.1
      have hkn := kd_num (t := t) hbL (Or.inl hl)
      by_cases h4 : tE t L b - b ≤ 4
      · have hk : kdT t L b = 32 * dvF t b (tE t L b - b) := by
          unfold kdT
          rw [if_pos hd.1, hl, hd.2]
          simp only [Bool.false_eq_true, if_false, if_true]
          rw [if_neg (by omega)]
        have hdv := dv_tok hd.1 hl hd.2 h4
        rw [← eE]
        have hmi : nI (dvF t b (tE t L b - b)) ≤ nI most ↔ dvF t b (tE t L b - b) ≤ most := nI_le_iff (by omega) (by omega)
        by_cases hmo : dvF t b (tE t L b - b) ≤ most
        · rw [if_neg (by rintro (q | q | q); omega; omega; exact q (hmi.mpr hmo))]
          have := h1 (by rw [hk]; omega) (by rw [hk]; omega) M' _ a2 (by unfold nxT; rw [eE]) e2
          rw [hk, show 32 * dvF t b (tE t L b - b) / 32 = dvF t b (tE t L b - b) by omega] at this
          exact this
        · rw [if_pos (Or.inr (Or.inr (fun q => hmo (hmi.mp q))))]
          exact h0 (by rw [hk]; omega) M' _ a2 e2
      · rw [← eE, if_pos (Or.inr (Or.inl (by omega)))]
        exact h0 (fun q => h4 (hkn.mp q.1).2.2) M' _ a2 e2
    · have er : rn (isDg t) L b = b := rn_stop hd
      rw [if_pos (Or.inl er)]
      refine h0 (fun q => hd ?_) M' _ a2 e2
      by_cases hl : isLe t b = false ∨ ¬ b < L
      · have := (kd_num (t := t) hbL hl).mp q.1; exact ⟨this.1, this.2.1⟩
      · exfalso
        have hl1 : isLe t b = true := by cases hq : isLe t b <;> simp_all
        have hl2 : b < L := by omega
        have : kdT t L b = wK (wd t b (tE t L b)) := by unfold kdT; rw [if_pos hl2, hl1]; rfl
        have h7 := wK_lt (wd t b (tE t L b))
        have h8 : wK (wd t b (tE t L b)) ≠ 0 := by
          generalize wd t b (tE t L b) = l
          unfold wK; repeat' split
          all_goals omega
        omega
theorem s_M_emits {post : Mem → Prop} {x : Nat} (hc4 : c.length < 400) (hM : MR M0 L p d c M) (v : Int32) (h : ∀ M', FrP M0 M' → M' 0 22 = M 0 22 → (v = trV x → MR M0 L p d (c ++ [x]) M') → post M') : P_M_emits post (trS x) v M := by
  obtain ⟨h1, h2, h3, h4, h5, h6⟩ := hM
  intro x3 e3
  have ex : x3 = nI (5166 + 2 * c.length) := by
    rw [e3, h5, lit_nI 2, pk_mul, lit_nI 359, lit_nI 801, lit_nI 6, pk_mul, nI_add, nI_1, nI_add]
  have ex1 : x3 + 1 = nI (5167 + 2 * c.length) := by rw [ex, nI_1]; congr 1; omega
  rw [ex1, ex, nI_clamp (by omega), nI_clamp (by omega)]
  refine ⟨vin_nI (by omega) (by omega), fun M3 m3 => ⟨vin_nI (by omega) (by omega), fun M4 m4 M5 m5 => ?_⟩⟩
  have hf4 : FrP M0 M4 := by subst m3 m4; exact (h1.draft (by omega) _).draft (by omega) _
  have e26 : M4 0 26 = nI c.length := by rw [m4, ms_off _ _ _ (by omega), m3, ms_off _ _ _ (by omega)]; exact h5
  rw [e26, nI_1] at m5
  have hf5 : FrP M0 M5 := by subst m5; exact hf4.put (Or.inr (Or.inr (Or.inr rfl))) _
  have row0 : ∀ k, k ≠ 26 → M5 0 k = M 0 k := fun k hk => by rw [m5, ms_ne _ _ _ hk, m4, ms_off _ _ _ (by omega), m3, ms_off _ _ _ (by omega)]
  refine h M5 hf5 (row0 22 (by omega)) (fun ev => ⟨hf5, by rw [row0 20 (by omega)]; exact h2, h3, by rw [row0 23 (by omega)]; exact h4, ?_, fun k y hy => ?_⟩)
  · rw [m5, ms_at]; simp
  · rw [m5, ms_off _ _ _ (by omega), m4, m3]
    by_cases hk : k < c.length
    · rw [List.getElem?_append_left hk] at hy
      have := h6 k y hy
      rw [ms_ne _ _ _ (by omega), ms_ne _ _ _ (by omega), ms_ne _ _ _ (by omega), ms_ne _ _ _ (by omega)]
      exact this
    · have hk2 : k = c.length := by
        have := (List.getElem?_eq_some_iff.mp hy).1
        simp at this; omega
      subst hk2
      rw [List.getElem?_append_right (Nat.le_refl _), Nat.sub_self] at hy
      have : x = y := Option.some.inj hy
      subst this
      rw [ms_ne _ _ _ (by omega), ms_at, ms_at]
      exact ⟨rfl, ev⟩
end REFP
