/-! THE CLASS READS A TEXT: its signs -/
section CSIGN
variable {M : Mem} {L : Nat} {t : Nat → Int32}
theorem s_C_isLetter {post : Int32 → Mem → Prop} {n : Nat} (hL4 : L ≤ 400) (hL : M 84 4 = nI L) (ht : M 85 = t) (hn : n ≤ 1000) (h : post (bi (decide (n < L) && isLe t n)) M) : P_Reader_isLetter post (nI n) M := by
  unfold P_Reader_isLetter
  rw [hL, ltI, nI_toI (by omega), nI_le_iff (by omega) (by omega), nI_clamp (by omega), ht]
  refine ⟨fun c => ?_, fun _ => ⟨fun c => ?_, fun c => ⟨vin_nI (by omega) (by omega), s_R_within ?_⟩⟩⟩
  · have : (0 : Int32).toInt = 0 := rfl
    omega
  · rw [decide_eq_false (by omega)] at h; exact ⟨Or.inl rfl, h⟩
  · rw [decide_eq_true (by omega), Bool.true_and] at h
    show (bi (isLe t n) = 0 → _) ∧ (¬ bi (isLe t n) = 0 → _)
    refine b0n (fun c2 => ?_) (fun c2 => ?_)
    · rw [c2] at h; exact ⟨Or.inl rfl, h⟩
    · rw [c2] at h; exact ⟨Or.inr rfl, h⟩
theorem s_C_isDigit {post : Int32 → Mem → Prop} {n : Nat} (hL4 : L ≤ 400) (hL : M 84 4 = nI L) (ht : M 85 = t) (hn : n ≤ 1000) (h : post (bi (decide (n < L) && isDg t n)) M) : P_Reader_isDigit post (nI n) M := by
  unfold P_Reader_isDigit
  rw [hL, ltI, nI_toI (by omega), nI_le_iff (by omega) (by omega), nI_clamp (by omega), ht]
  refine ⟨fun c => ?_, fun _ => ⟨fun c => ?_, fun c => ⟨vin_nI (by omega) (by omega), s_R_within ?_⟩⟩⟩
  · have : (0 : Int32).toInt = 0 := rfl
    omega
  · rw [decide_eq_false (by omega)] at h; exact ⟨Or.inl rfl, h⟩
  · rw [decide_eq_true (by omega), Bool.true_and] at h
    show (bi (isDg t n) = 0 → _) ∧ (¬ bi (isDg t n) = 0 → _)
    refine b0n (fun c2 => ?_) (fun c2 => ?_)
    · rw [c2] at h; exact ⟨Or.inl rfl, h⟩
    · rw [c2] at h; exact ⟨Or.inr rfl, h⟩
theorem s_C_signEnd20 {post : Int32 → Mem → Prop} {b : Nat} {wl dg : Bool} {p : Nat → Bool} (hL4 : L ≤ 400) (hL : M 84 4 = nI L) (ht : M 85 = t) (hp : ∀ i, p i = ((wl && isLe t i) || (dg && isDg t i))) :
    ∀ (f q : Nat), q + f = L → b < q → post (nI (rn p L q)) M → ∃ j, P_Reader_signEnd_20 post j (nI q) (bi wl) (bi dg) (nI (q - b - 1)) M := by
  have stop : ∀ q, b < q → q ≤ L → ¬ (q < L ∧ p q = true) → post (nI (rn p L q)) M → ∃ j, P_Reader_signEnd_20 post j (nI q) (bi wl) (bi dg) (nI (q - b - 1)) M := by
    intro q hq hqL hn h
    rw [rn_stop hn] at h
    have h40 : ∀ R, P_Reader_signEnd_40 post R (nI q) (bi wl) (bi dg) (nI (q - b - 1)) M := by
      intro R
      refine b0n (fun _ => h) (fun c => s_C_isDigit hL4 hL ht (by omega) (b0n (fun _ => h) (fun c2 => ?_)))
      exfalso
      rw [Bool.and_eq_true, decide_eq_true_eq] at c2
      exact hn ⟨c2.1, by rw [hp, c, c2.2]; simp⟩
    refine ⟨1, fun c => h, fun _ => b0n (fun _ => h40 _) (fun c => s_C_isLetter hL4 hL ht (by omega) (bn0 (fun _ => h40 _) (fun c2 => ?_)))⟩
    exfalso
    rw [Bool.and_eq_true, decide_eq_true_eq] at c2
    exact hn ⟨c2.1, by rw [hp, c, c2.2]; simp⟩
  intro f
  induction f with
  | zero => intro q hq hb h; exact stop q hb (by omega) (fun e => by omega) h
  | succ f ih =>
    intro q hq hb h
    by_cases hs : p q = true
    · rw [rn_go (by omega) hs] at h
      obtain ⟨j, hj⟩ := ih (q + 1) (by omega) (by omega) h
      have h53 : P_Reader_signEnd_53 post (P_Reader_signEnd_20 post j) (nI q) (bi wl) (bi dg) (nI (q - b - 1)) M := by
        unfold P_Reader_signEnd_53
        rw [nI_1, nI_1, show q - b - 1 + 1 = q + 1 - b - 1 by omega]
        exact hj
      rw [hp] at hs
      refine ⟨j + 1, fun c => ?_, fun _ => ?_⟩
      · rw [lit_nI 400, nI_le_iff (by omega) (by omega)] at c; omega
      · have h40 : (wl && isLe t q) = false → P_Reader_signEnd_40 post (P_Reader_signEnd_20 post j) (nI q) (bi wl) (bi dg) (nI (q - b - 1)) M := by
          intro hno
          rw [hno, Bool.false_or, Bool.and_eq_true] at hs
          refine b0n (fun c => by rw [hs.1] at c; cases c) (fun c => s_C_isDigit hL4 hL ht (by omega) ?_)
          rw [hs.2, decide_eq_true (by omega)]
          exact ⟨fun c => absurd c (by decide), fun _ => h53⟩
        refine b0n (fun c => h40 (by rw [c]; rfl)) (fun c => s_C_isLetter hL4 hL ht (by omega) (bn0 (fun c2 => h40 ?_) (fun c2 => h53)))
        rw [decide_eq_true (by omega), Bool.true_and] at c2
        rw [c2, Bool.and_false]
    · exact stop q hb (by omega) (fun e => hs e.2) h
theorem s_C_signEnd {post : Int32 → Mem → Prop} {b : Nat} (hL4 : L ≤ 400) (hL : M 84 4 = nI L) (ht : M 85 = t) (hb : b < L) (h : post (nI (tE t L b)) M) : P_Reader_signEnd post (nI b) M := by
  intro x2 e2
  rw [nI_1] at e2
  subst e2
  refine s_C_isLetter hL4 hL ht (by omega) (s_C_isDigit hL4 hL ht (by omega) ?_)
  rw [decide_eq_true hb, Bool.true_and, Bool.true_and]
  have key := s_C_signEnd20 (post := post) (b := b) (wl := isLe t b) (dg := isDg t b) (p := fun i => (isLe t b && isLe t i) || (isDg t b && isDg t i)) hL4 hL ht (fun _ => rfl) (L - (b + 1)) (b + 1) (by omega) (by omega)
  rw [show b + 1 - b - 1 = 0 by omega] at key
  refine key ?_
  unfold tE at h
  cases hl : isLe t b with
  | true =>
    rw [hl, if_pos rfl, rn_go hb hl] at h
    have hd := Le_not_Dg hl
    rw [hd]
    have e : (fun i => (true && isLe t i) || (false && isDg t i)) = isLe t := by funext i; simp
    rw [e]; exact h
  | false =>
    rw [hl, if_neg (by decide)] at h
    cases hd : isDg t b with
    | true =>
      rw [hd, if_pos rfl, rn_go hb hd] at h
      have e : (fun i => (false && isLe t i) || (true && isDg t i)) = isDg t := by funext i; simp
      rw [e]; exact h
    | false =>
      rw [hd, if_neg (by decide)] at h
      rw [rn_stop (fun e => by simp at e)]
      exact h
theorem s_C_valueOf {post : Int32 → Mem → Prop} {b k : Nat} (hL4 : L ≤ 400) (hL : M 84 4 = nI L) (ht : M 85 = t) (hbk : b + k ≤ L) (hd : ∀ j, j < k → isDg t (b + j) = true) (h : post (nI (dvF t b k)) M) : P_Reader_valueOf post (nI b) (nI (b + k)) M := by
  refine lpN (R := fun j x => P_Reader_valueOf_5 post j (nI (b + k)) (nI (dvF t b x)) (nI (b + x)) M) (N := k) (fun j => brSt rfl h) (fun j x hx ih => brGo rfl (by omega) (by omega) (s_C_isDigit hL4 hL ht (by omega) ?_))
  have hs := hd x hx
  rw [hs, decide_eq_true (by omega)]
  refine ⟨fun c => absurd c (by decide), fun _ => ⟨vin_nI (by omega) (by omega), fun v2 e2 => ?_⟩⟩
  rw [nI_clamp (by omega), ht] at e2
  have ev : v2 = nI (dvF t b (x + 1)) := by
    simp only [isDg, inb, decide_eq_true_eq, leI] at hs
    have a1 : (48 : Int32).toInt = 48 := rfl
    have a2 : (57 : Int32).toInt = 57 := rfl
    simp only [dvF]
    rw [e2, I_ofS (t (b + x)), nI_I, show (10 : Int32) = I 10 from rfl, show (48 : Int32) = I 48 from rfl, I_mul, I_add, I_sub, nI_I]
    rw [I_of]
    congr 1
    omega
  rw [ev, nI_1, Nat.add_assoc]
  exact ih
theorem s_C_wordOf {post : Int32 → Mem → Prop} {b e : Nat} (he : e ≤ 400) (hbe : b ≤ e) (ht : M 85 = t) (h : post (nI (wK (wd t b e))) M) : P_Reader_wordOf post (nI b) (nI e) M := by
  unfold wK at h
  refine s_C_isWord_w0 he hbe ht (b0n (fun c0 => s_C_isWord_w1 he hbe ht (b0n (fun c1 => s_C_isWord_w2 he hbe ht (b0n (fun c2 => s_C_isWord_w3 he hbe ht (b0n (fun c3 => s_C_isWord_w4 he hbe ht (b0n (fun c4 => s_C_isWord_w5 he hbe ht (b0n (fun c5 => s_C_isWord_w6 he hbe ht (b0n (fun c6 => s_C_isWord_w7 he hbe ht (b0n (fun c7 => s_C_isWord_w8 he hbe ht (b0n (fun c8 => s_C_isWord_w9 he hbe ht (b0n (fun c9 => ?_) (fun c9 => ?_))) (fun c8 => ?_))) (fun c7 => ?_))) (fun c6 => ?_))) (fun c5 => ?_))) (fun c4 => ?_))) (fun c3 => ?_))) (fun c2 => ?_))) (fun c1 => ?_))) (fun c0 => ?_))
  all_goals simp only [decide_eq_true_eq, decide_eq_false_iff_not] at *
  all_goals first
    | (rw [if_pos c0] at h; exact h)
    | (rw [if_neg c0, if_pos c1] at h; exact h)
    | (rw [if_neg c0, if_neg c1, if_pos c2] at h; exact h)
    | (rw [if_neg c0, if_neg c1, if_neg c2, if_pos c3] at h; exact h)
    | (rw [if_neg c0, if_neg c1, if_neg c2, if_neg c3, if_pos c4] at h; exact h)
    | (rw [if_neg c0, if_neg c1, if_neg c2, if_neg c3, if_neg c4, if_pos c5] at h; exact h)
    | (rw [if_neg c0, if_neg c1, if_neg c2, if_neg c3, if_neg c4, if_neg c5, if_pos c6] at h; exact h)
    | (rw [if_neg c0, if_neg c1, if_neg c2, if_neg c3, if_neg c4, if_neg c5, if_neg c6, if_pos c7] at h; exact h)
    | (rw [if_neg c0, if_neg c1, if_neg c2, if_neg c3, if_neg c4, if_neg c5, if_neg c6, if_neg c7, if_pos c8] at h; exact h)
    | (rw [if_neg c0, if_neg c1, if_neg c2, if_neg c3, if_neg c4, if_neg c5, if_neg c6, if_neg c7, if_neg c8, if_pos c9] at h; exact h)
    | (rw [if_neg c0, if_neg c1, if_neg c2, if_neg c3, if_neg c4, if_neg c5, if_neg c6, if_neg c7, if_neg c8, if_neg c9] at h; exact h)
theorem s_C_signOf {post : Int32 → Mem → Prop} {b : Nat} (hL4 : L ≤ 400) (hL : M 84 4 = nI L) (ht : M 85 = t) (hb : b < L) (h : post (nI (kdT t L b)) M) : P_Reader_signOf post (nI b) (nI (tE t L b)) M := by
  have hE := tE_bd (t := t) hb
  unfold kdT at h
  rw [if_pos hb] at h
  refine s_C_isLetter hL4 hL ht (by omega) ?_
  rw [decide_eq_true hb, Bool.true_and]
  refine b0n (fun c => s_C_isDigit hL4 hL ht (by omega) ?_) (fun c => ?_)
  · rw [c, if_neg (by decide)] at h
    rw [decide_eq_true hb, Bool.true_and]
    refine b0n (fun c2 => ⟨vin_nI (by omega) (by omega), ?_⟩) (fun c2 => ?_)
    · rw [c2, if_neg (by decide)] at h
      rw [nI_clamp (by omega), ht]
      unfold chK at h
      refine ⟨fun q1 => ?_, fun q1 => ⟨fun q2 => ?_, fun q2 => ⟨fun q3 => ?_, fun q3 => ⟨fun q4 => ?_, fun q4 => ⟨fun q5 => ?_, fun q5 => ?_⟩⟩⟩⟩⟩
      · rw [if_pos q1] at h; exact h
      · rw [if_neg q1, if_pos q2] at h; exact h
      · rw [if_neg q1, if_neg q2, if_pos q3] at h; exact h
      · rw [if_neg q1, if_neg q2, if_neg q3, if_pos q4] at h; exact h
      · rw [if_neg q1, if_neg q2, if_neg q3, if_neg q4, if_pos q5] at h; exact h
      · rw [if_neg q1, if_neg q2, if_neg q3, if_neg q4, if_neg q5] at h; exact h
    · rw [c2, if_pos rfl] at h
      have e1 : nI (tE t L b) - nI b = nI (tE t L b - b) := nI_sub (by omega)
      rw [e1, lit_nI 4, nI_le_iff (by omega) (by omega)]
      refine ⟨fun q => ?_, fun q => ?_⟩
      · rw [if_neg (by omega)] at h
        have hr : tE t L b = rn (isDg t) L b := by unfold tE; rw [c, c2]; rfl
        have e2 : tE t L b = b + (tE t L b - b) := by omega
        have hv := s_C_valueOf (post := fun r3 M3 => P_Reader_coded (fun r4 M4 => P_Reader_signOf_45 post r4 M4) (0 : Int32) r3 M3) (b := b) (k := tE t L b - b) hL4 hL ht (by omega) (fun j hj => rn_in (p := isDg t) (L := L) (i := b) (by omega) (by omega) (by rw [← hr]; omega)) (by
          show post ((0 : Int32) + 32 * nI (dvF t b (tE t L b - b))) M
          rw [lit_nI 32, pk_mul, Int32.zero_add]; exact h)
        rw [← e2] at hv
        exact hv
      · rw [if_pos (by omega)] at h; exact h
  · rw [c, if_pos rfl] at h
    exact s_C_wordOf (by omega) (by omega) ht h
/-- where the signs begin -/
def bsF (t : Nat → Int32) (L : Nat) : Nat → Nat
  | 0 => rn (isSp t) L 0
  | i + 1 => nxT t L (bsF t L i)
/-- the signs of the tape stand in the reader's rows -/
def SgC (M : Mem) (t : Nat → Int32) (L K : Nat) : Prop := M 84 5 = nI K ∧ K ≤ 400 ∧ bsF t L K = L ∧ (∀ i, i < K → bsF t L i < L) ∧ ∀ i, i ≤ K → M 87 i = nI (bsF t L i) ∧ M 86 i = nI (kdT t L (bsF t L i))
theorem s_C_split {post : Mem → Prop} (hL4 : L ≤ 400) (hL : M 84 4 = nI L) (ht : M 85 = t) (h : ∀ M' K, (∀ c, c ≠ 84 → c ≠ 86 → c ≠ 87 → M' c = M c) → (∀ k, k ≠ 5 → M' 84 k = M 84 k) → SgC M' t L K → post M') : P_Reader_split post M := by
  intro M1 m1
  have fin : ∀ M' K, (∀ c, c ≠ 84 → c ≠ 86 → c ≠ 87 → M' c = M c) → (∀ k, k ≠ 5 → M' 84 k = M 84 k) → M' 84 5 = nI K → K ≤ L → bsF t L K = L → (∀ i, i < K → bsF t L i < L ∧ M' 87 i = nI (bsF t L i) ∧ M' 86 i = nI (kdT t L (bsF t L i))) → P_Reader_split_84 post M' := by
    intro M' K f' g' k' hK hb hs
    unfold P_Reader_split_84
    rw [k', g' 4 (by omega), hL, nI_clamp (by omega)]
    refine ⟨vin_nI (by omega) (by omega), fun M2 m2 => ?_⟩
    have k2 : M2 84 5 = nI K := by rw [m2, ms_off _ _ _ (by omega)]; exact k'
    rw [k2, nI_clamp (by omega)]
    refine ⟨vin_nI (by omega) (by omega), fun M3 m3 => ?_⟩
    refine h M3 K (fun c h1 h2 h3 => by rw [m3, ms_off _ _ _ h2, m2, ms_off _ _ _ h3]; exact f' c h1 h2 h3) (fun k hk => by rw [m3, ms_off _ _ _ (by omega), m2, ms_off _ _ _ (by omega)]; exact g' k hk) ⟨by rw [m3, ms_off _ _ _ (by omega)]; exact k2, by omega, hb, fun i hi => (hs i hi).1, fun i hi => ?_⟩
    by_cases e : i = K
    · subst e
      have hk17 : kdT t L (bsF t L i) = 17 := by unfold kdT; rw [if_neg (by omega)]
      rw [hk17, hb]
      exact ⟨by rw [m3, ms_off _ _ _ (by omega), m2, ms_at], by rw [m3, ms_at]; rfl⟩
    · have := hs i (by omega)
      exact ⟨by rw [m3, ms_off _ _ _ (by omega), m2, ms_ne _ _ _ e]; exact this.2.1, by rw [m3, ms_ne _ _ _ e, m2, ms_off _ _ _ (by omega)]; exact this.2.2⟩
  have key : ∀ (d from_ n K : Nat), from_ + d = L → n ≤ from_ → K ≤ n → rn (isSp t) L from_ = bsF t L K → ∃ j, ∀ M', (∀ c, c ≠ 84 → c ≠ 86 → c ≠ 87 → M' c = M c) → (∀ k, k ≠ 5 → M' 84 k = M 84 k) → M' 84 5 = nI K → (∀ i, i < K → bsF t L i < L ∧ M' 87 i = nI (bsF t L i) ∧ M' 86 i = nI (kdT t L (bsF t L i))) → P_Reader_split_9 post j (nI from_) (nI n) M' := by
    intro d
    induction d using Nat.strongRecOn with
    | ind d ih =>
      intro from_ n K hd hn hK hb
      by_cases hf : from_ < L
      · have hE := tE_bd (t := t) hf
        by_cases hsp : t from_ = 32
        · have hs : isSp t from_ = true := by
            simp only [isSp, inb, hsp]; decide
          have hte : tE t L from_ = from_ + 1 := ch_end hf hsp (by decide) (by decide)
          rw [rn_go hf hs] at hb
          obtain ⟨j, hj⟩ := ih (d - 1) (by omega) (from_ + 1) (n + 1) K (by omega) (by omega) (by omega) hb
          refine ⟨j + 1, fun M' f' g' k' hs' => ⟨fun c => ?_, fun _ => ⟨fun c => ?_, fun _ => ?_⟩⟩⟩
          · rw [lit_nI 400, nI_le_iff (by omega) (by omega)] at c; omega
          · rw [g' 4 (by omega), hL, nI_le_iff (by omega) (by omega)] at c; omega
          · have ht' : M' 85 = t := by rw [f' 85 (by omega) (by omega) (by omega)]; exact ht
            refine s_C_signEnd hL4 (by rw [g' 4 (by omega)]; exact hL) ht' hf ⟨vin_nI (by omega) (by omega), fun _ => ?_, fun c => absurd ?_ c⟩
            · unfold P_Reader_split_76
              rw [hte, nI_1]
              exact hj M' f' g' k' hs'
            · rw [nI_clamp (by omega), ht']; exact hsp
        · have hs : isSp t from_ = false := by
            cases hq : isSp t from_ with
            | false => rfl
            | true =>
              exfalso
              simp only [isSp, inb, decide_eq_true_eq, leI] at hq
              exact hsp (by rw [eqI]; omega)
          rw [rn_stop (fun e => by rw [hs] at e; cases e.2)] at hb
          obtain ⟨j, hj⟩ := ih (L - tE t L from_) (by omega) (tE t L from_) (n + 1) (K + 1) (by omega) (by omega) (by omega) (by show _ = nxT t L (bsF t L K); rw [← hb]; rfl)
          refine ⟨j + 1, fun M' f' g' k' hs' => ⟨fun c => ?_, fun _ => ⟨fun c => ?_, fun _ => ?_⟩⟩⟩
          · rw [lit_nI 400, nI_le_iff (by omega) (by omega)] at c; omega
          · rw [g' 4 (by omega), hL, nI_le_iff (by omega) (by omega)] at c; omega
          · have ht' : M' 85 = t := by rw [f' 85 (by omega) (by omega) (by omega)]; exact ht
            refine s_C_signEnd hL4 (by rw [g' 4 (by omega)]; exact hL) ht' hf ⟨vin_nI (by omega) (by omega), fun c => absurd ?_ hsp, fun _ => ?_⟩
            · rw [nI_clamp (by omega), ht'] at c; exact c
            · rw [k', nI_clamp (by omega)]
              refine ⟨vin_nI (by omega) (by omega), fun M2 m2 => ?_⟩
              have k2 : M2 84 5 = nI K := by rw [m2, ms_off _ _ _ (by omega)]; exact k'
              refine s_C_signOf hL4 (by rw [m2, ms_off _ _ _ (by omega), g' 4 (by omega)]; exact hL) (by rw [m2, ms_off _ _ _ (by omega)]; exact ht') hf ?_
              rw [k2, nI_clamp (by omega)]
              refine ⟨vin_nI (by omega) (by omega), fun M4 m4 M5 m5 => ?_⟩
              have k4 : M4 84 5 = nI K := by rw [m4, ms_off _ _ _ (by omega)]; exact k2
              rw [k4, nI_1] at m5
              unfold P_Reader_split_76
              rw [nI_1]
              refine hj M5 (fun c h1 h2 h3 => by rw [m5, ms_off _ _ _ h1, m4, ms_off _ _ _ h2, m2, ms_off _ _ _ h3]; exact f' c h1 h2 h3) (fun k hk => by rw [m5, ms_ne _ _ _ hk, m4, ms_off _ _ _ (by omega), m2, ms_off _ _ _ (by omega)]; exact g' k hk) (by rw [m5, ms_at]) (fun i hi => ?_)
              by_cases e : i = K
              · subst e
                rw [← hb]
                exact ⟨hf, by rw [m5, ms_off _ _ _ (by omega), m4, ms_off _ _ _ (by omega), m2, ms_at], by rw [m5, ms_off _ _ _ (by omega), m4, ms_at]⟩
              · have := hs' i (by omega)
                exact ⟨this.1, by rw [m5, ms_off _ _ _ (by omega), m4, ms_off _ _ _ (by omega), m2, ms_ne _ _ _ e]; exact this.2.1, by rw [m5, ms_off _ _ _ (by omega), m4, ms_ne _ _ _ e, m2, ms_off _ _ _ (by omega)]; exact this.2.2⟩
      · have hfL : from_ = L := by omega
        rw [hfL, rn_stop (fun e => by omega)] at hb
        refine ⟨1, fun M' f' g' k' hs' => ⟨fun c => fin M' K f' g' k' (by omega) hb.symm hs', fun _ => ⟨fun c => fin M' K f' g' k' (by omega) hb.symm hs', fun c => absurd ?_ c⟩⟩⟩
        rw [g' 4 (by omega), hL, nI_le_iff (by omega) (by omega)]; omega
  obtain ⟨j, hj⟩ := key L 0 0 0 (by omega) (by omega) (by omega) rfl
  exact ⟨j, hj M1 (fun c h1 h2 h3 => by rw [m1, ms_off _ _ _ h1]) (fun k hk => by rw [m1, ms_ne _ _ _ hk]) (by rw [m1, ms_at]; rfl) (fun i hi => by omega)⟩
end CSIGN
