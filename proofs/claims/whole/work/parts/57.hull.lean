/-! THE CLASS: points of hulls -/
theorem gb_shlx (x : Int32) {n e : Nat} (hn : n < 32) (he : e < 32) : gb (x <<< (nI n &&& 31)) e = (decide (n ≤ e) && gb x (e - n)) := by
  have h2 : (x <<< (nI n &&& 31)).toBitVec = x.toBitVec <<< n := by
    rw [Int32.toBitVec_shiftLeft]
    have h3 : ((nI n &&& 31).toBitVec.smod 32#32) = BitVec.ofNat 32 n := by
      have : ∀ e : Fin 32, ((nI e.1 &&& 31).toBitVec.smod 32#32) = BitVec.ofNat 32 e.1 := by decide +kernel
      exact this ⟨n, hn⟩
    show x.toBitVec <<< ((nI n &&& 31).toBitVec.smod 32#32).toNat = _
    rw [h3]
    congr 1
    rw [BitVec.toNat_ofNat]; omega
  unfold gb
  rw [h2, BitVec.getLsbD_shiftLeft]
  by_cases h : n ≤ e
  · rw [decide_eq_true h, decide_eq_true he, decide_eq_false (show ¬ e < n by omega)]; simp
  · rw [decide_eq_false h, decide_eq_true (show e < n by omega)]; simp
theorem gb_shrN {m n e : Nat} (hm : m < 2147483648) (hn : n < 32) (he : e < 32) : gb (nI m >>> (nI n &&& 31)) e = m.testBit (n + e) := by
  have h2 : (nI m >>> (nI n &&& 31)).toBitVec = (nI m).toBitVec.sshiftRight n := by
    rw [Int32.toBitVec_shiftRight]
    have h3 : ((nI n &&& 31).toBitVec.smod 32#32) = BitVec.ofNat 32 n := by
      have : ∀ e : Fin 32, ((nI e.1 &&& 31).toBitVec.smod 32#32) = BitVec.ofNat 32 e.1 := by decide +kernel
      exact this ⟨n, hn⟩
    show (nI m).toBitVec.sshiftRight ((nI n &&& 31).toBitVec.smod 32#32).toNat = _
    rw [h3]
    congr 1
    rw [BitVec.toNat_ofNat]; omega
  have hmsb : (nI m).toBitVec.msb = false := by
    rw [signI, nI_toI hm]; simp
  have hbig : 32 ≤ n + e → m.testBit (n + e) = false := fun h => Nat.testBit_lt_two_pow (Nat.lt_of_lt_of_le hm (by
    have : (2 : Nat) ^ 31 ≤ 2 ^ (n + e) := Nat.pow_le_pow_right (by omega) (by omega)
    omega))
  unfold gb
  rw [h2, BitVec.getLsbD_sshiftRight, hmsb]
  by_cases h : n + e < 32
  · rw [if_pos h]
    have := gb_nI m (n + e)
    unfold gb at this
    rw [this, decide_eq_true h]
    simp [he]
  · rw [if_neg h, hbig (by omega)]; simp
theorem nI_or (a b : Nat) : nI a ||| nI b = nI (a ||| b) := by
  apply gb_ext
  intro e he
  rw [gb_or, gb_nI, gb_nI, gb_nI, Nat.testBit_or]
  simp [he]
theorem nI_shl {a n : Nat} (hn : n < 32) : nI a <<< (nI n &&& 31) = nI (a <<< n) := by
  apply gb_ext
  intro e he
  rw [gb_shlx _ hn he, gb_nI, gb_nI, Nat.testBit_shiftLeft]
  by_cases h : n ≤ e
  · simp [h, he]; intro _; omega
  · simp [h]
theorem nI_shr {m n : Nat} (hm : m < 2147483648) (hn : n < 32) : nI m >>> (nI n &&& 31) = nI (m >>> n) := by
  apply gb_ext
  intro e he
  rw [gb_shrN hm hn he, gb_nI, Nat.testBit_shiftRight]
  simp [he]
def ptN (a b c : Nat) : Nat := 4096 * a + 32 * b + c
theorem pt_N {a b c : Nat} : ptI (a : Int) (b : Int) ((c : Int) - 9) = nI (ptN a b c) := by
  unfold ptI ptN
  rw [nI_I]; congr 1; omega
theorem pt_or {a b c : Nat} (hb : b < 128) (hc : c < 32) : (a <<< 12 ||| b <<< 5) ||| c = ptN a b c := by
  have h1 : b <<< 5 ||| c = b <<< 5 + c := (Nat.shiftLeft_add_eq_or_of_lt (by omega) b).symm
  have h2 : b <<< 5 = 32 * b := by rw [Nat.shiftLeft_eq]; omega
  have h3 : a <<< 12 ||| (32 * b + c) = a <<< 12 + (32 * b + c) := (Nat.shiftLeft_add_eq_or_of_lt (by omega) a).symm
  rw [Nat.or_assoc, h1, h2, h3, Nat.shiftLeft_eq]
  unfold ptN
  omega
theorem s_C_pointOf {post : Int32 → Mem → Prop} {a b c : Int} {M : Mem} (ha : 0 ≤ a ∧ a ≤ 9999) (hb : 0 ≤ b ∧ b ≤ 90) (hc : -9 ≤ c ∧ c ≤ 9) (h : post (ptI a b c) M) : P_Laws_pointOf post (I a) (I b) (I c) M := by
  obtain ⟨a, rfl⟩ : ∃ n : Nat, a = n := ⟨a.toNat, by omega⟩
  obtain ⟨b, rfl⟩ : ∃ n : Nat, b = n := ⟨b.toNat, by omega⟩
  obtain ⟨c, rfl⟩ : ∃ n : Nat, c = (n : Int) - 9 := ⟨(c + 9).toNat, by omega⟩
  intro v e
  rw [pt_N] at h
  have e1 : I ((c : Int) - 9) + 9 = nI c := by rw [show (9 : Int32) = I 9 from rfl, I_add, nI_I]; congr 1; omega
  have e2 : v = nI (a <<< 12 ||| b <<< 5) := by
    rw [e, ← nI_I, ← nI_I, show (12 : Int32) = nI 12 from rfl, show (5 : Int32) = nI 5 from rfl, nI_shl (by omega), nI_shl (by omega), nI_or]
  rw [e1, e2, nI_or, pt_or (by omega) (by omega)]
  exact h
theorem s_C_aOf {post : Int32 → Mem → Prop} {a b c : Int} {M : Mem} (ha : 0 ≤ a ∧ a ≤ 9999) (hb : 0 ≤ b ∧ b ≤ 90) (hc : -9 ≤ c ∧ c ≤ 9) (h : post (I a) M) : P_Laws_aOf post (ptI a b c) M := by
  obtain ⟨a, rfl⟩ : ∃ n : Nat, a = n := ⟨a.toNat, by omega⟩
  obtain ⟨b, rfl⟩ : ∃ n : Nat, b = n := ⟨b.toNat, by omega⟩
  obtain ⟨c, rfl⟩ : ∃ n : Nat, c = (n : Int) - 9 := ⟨(c + 9).toNat, by omega⟩
  unfold P_Laws_aOf
  have e : ptN a b c >>> 12 = a := by rw [Nat.shiftRight_eq_div_pow]; unfold ptN; omega
  rw [pt_N, show (12 : Int32) = nI 12 from rfl, nI_shr (by unfold ptN; omega) (by omega), e, nI_I]
  exact h
theorem s_C_bOf {post : Int32 → Mem → Prop} {a b c : Int} {M : Mem} (ha : 0 ≤ a ∧ a ≤ 9999) (hb : 0 ≤ b ∧ b ≤ 90) (hc : -9 ≤ c ∧ c ≤ 9) (h : post (I b) M) : P_Laws_bOf post (ptI a b c) M := by
  obtain ⟨a, rfl⟩ : ∃ n : Nat, a = n := ⟨a.toNat, by omega⟩
  obtain ⟨b, rfl⟩ : ∃ n : Nat, b = n := ⟨b.toNat, by omega⟩
  obtain ⟨c, rfl⟩ : ∃ n : Nat, c = (n : Int) - 9 := ⟨(c + 9).toNat, by omega⟩
  unfold P_Laws_bOf
  have e : ptN a b c >>> 5 &&& 127 = b := by
    rw [Nat.shiftRight_eq_div_pow, show (127 : Nat) = 2 ^ 7 - 1 from rfl, Nat.and_two_pow_sub_one_eq_mod]
    unfold ptN; omega
  rw [pt_N, show (5 : Int32) = nI 5 from rfl, nI_shr (by unfold ptN; omega) (by omega), show (127 : Int32) = nI 127 from rfl, nI_and, e, nI_I]
  exact h
theorem s_C_cOf {post : Int32 → Mem → Prop} {a b c : Int} {M : Mem} (ha : 0 ≤ a ∧ a ≤ 9999) (hb : 0 ≤ b ∧ b ≤ 90) (hc : -9 ≤ c ∧ c ≤ 9) (h : post (I c) M) : P_Laws_cOf post (ptI a b c) M := by
  obtain ⟨a, rfl⟩ : ∃ n : Nat, a = n := ⟨a.toNat, by omega⟩
  obtain ⟨b, rfl⟩ : ∃ n : Nat, b = n := ⟨b.toNat, by omega⟩
  obtain ⟨c, rfl⟩ : ∃ n : Nat, c = (n : Int) - 9 := ⟨(c + 9).toNat, by omega⟩
  unfold P_Laws_cOf
  have e : ptN a b c &&& 31 = c := by
    rw [show (31 : Nat) = 2 ^ 5 - 1 from rfl, Nat.and_two_pow_sub_one_eq_mod]
    unfold ptN; omega
  rw [pt_N, show (31 : Int32) = nI 31 from rfl, nI_and, e, nI_I, show (9 : Int32) = I 9 from rfl, I_sub]
  exact h
theorem s_C_height {post : Int32 → Mem → Prop} {a b c z : Int} {M : Mem} (ha : 0 ≤ a ∧ a ≤ 9999) (hb : 0 ≤ b ∧ b ≤ 90) (hc : -9 ≤ c ∧ c ≤ 9) (h : post (I (htZ a b c z)) M) : P_Laws_height post (ptI a b c) (I z) M := by
  refine s_C_aOf ha hb hc (s_C_bOf ha hb hc (s_C_cOf ha hb hc (fun v e => ?_)))
  have e2 : v = I (htZ a b c z) := by
    rw [e, show (10000 : Int32) = I 10000 from rfl, show (1000 : Int32) = I 1000 from rfl, I_mul, I_mul, I_mul, I_add, I_mul, I_add]
    unfold htZ abN
    rw [Int.add_mul]
  rw [e2]; exact h
def turnZ (a1 b1 a2 b2 a3 b3 : Int) : Int := (a2 - a1) * (b3 - b1) - (a3 - a1) * (b2 - b1)
theorem s_C_turn {post : Int32 → Mem → Prop} {a1 b1 a2 b2 a3 b3 c : Int} {M : Mem} (h1 : 0 ≤ a1 ∧ a1 ≤ 9999) (h2 : 0 ≤ a2 ∧ a2 ≤ 9999) (h3 : 0 ≤ a3 ∧ a3 ≤ 9999) (g1 : 0 ≤ b1 ∧ b1 ≤ 90) (g2 : 0 ≤ b2 ∧ b2 ≤ 90) (g3 : 0 ≤ b3 ∧ b3 ≤ 90) (hc : -9 ≤ c ∧ c ≤ 9) (h : post (I (turnZ a1 b1 a2 b2 a3 b3)) M) : P_Laws_turn post (ptI a1 b1 c) (ptI a2 b2 c) (ptI a3 b3 c) M := by
  refine s_C_aOf h2 g2 hc (s_C_aOf h1 g1 hc (s_C_bOf h3 g3 hc (s_C_bOf h1 g1 hc (s_C_aOf h3 g3 hc (s_C_aOf h1 g1 hc (s_C_bOf h2 g2 hc (s_C_bOf h1 g1 hc ?_)))))))
  rw [I_sub, I_sub, I_mul, I_sub, I_sub, I_mul, I_sub]
  exact h
theorem turnZ_bd {a1 b1 a2 b2 a3 b3 : Int} (h1 : 0 ≤ a1 ∧ a1 ≤ 9999) (h2 : 0 ≤ a2 ∧ a2 ≤ 9999) (h3 : 0 ≤ a3 ∧ a3 ≤ 9999) (g1 : 0 ≤ b1 ∧ b1 ≤ 90) (g2 : 0 ≤ b2 ∧ b2 ≤ 90) (g3 : 0 ≤ b3 ∧ b3 ≤ 90) : -10000000 ≤ turnZ a1 b1 a2 b2 a3 b3 ∧ turnZ a1 b1 a2 b2 a3 b3 ≤ 10000000 := by
  have q1 := mbd (x := a2 - a1) (y := b3 - b1) (A := 9999) (B := 90) (by omega) (by omega)
  have q2 := mbd (x := a3 - a1) (y := b2 - b1) (A := 9999) (B := 90) (by omega) (by omega)
  unfold turnZ
  omega
/-- the middle of three lies no lower than one of the others, by every slope -/
theorem turn_dom {a1 b1 a2 b2 a3 b3 c : Int} (h12 : b1 < b2) (h23 : b2 < b3) (ht : 0 ≤ turnZ a1 b1 a2 b2 a3 b3) (z : Int) : htZ a1 b1 c z ≤ htZ a2 b2 c z ∨ htZ a3 b3 c z ≤ htZ a2 b2 c z := by
  have hu : htZ a2 b2 c z - htZ a1 b1 c z = 10000 * (a2 - a1) + 1000 * z * (b2 - b1) := by unfold htZ abN; grind
  have hv : htZ a3 b3 c z - htZ a1 b1 c z = 10000 * (a3 - a1) + 1000 * z * (b3 - b1) := by unfold htZ abN; grind
  generalize htZ a1 b1 c z = f1 at *
  generalize htZ a2 b2 c z = f2 at *
  generalize htZ a3 b3 c z = f3 at *
  have key : (b3 - b1) * (f2 - f1) - (b2 - b1) * (f3 - f1) = 10000 * turnZ a1 b1 a2 b2 a3 b3 := by
    rw [hu, hv]; unfold turnZ; grind
  by_cases hc : f1 ≤ f3
  · left
    have h1 : 0 ≤ (b2 - b1) * (f3 - f1) := Int.mul_nonneg (by omega) (by omega)
    have h2 : 0 ≤ (b3 - b1) * (f2 - f1) := by omega
    have h3 : 0 ≤ f2 - f1 := by
      rcases Int.lt_or_le (f2 - f1) 0 with h | h
      · exfalso
        have := Int.mul_lt_mul_of_pos_left h (show 0 < b3 - b1 by omega)
        rw [Int.mul_zero] at this
        omega
      · exact h
    omega
  · right
    have h1 : 0 ≤ (b3 - b2) * (f1 - f3) := Int.mul_nonneg (by omega) (by omega)
    have h2 : (b3 - b1) * (f2 - f3) = ((b3 - b1) * (f2 - f1) - (b2 - b1) * (f3 - f1)) + (b3 - b2) * (f1 - f3) := by grind
    have h4 : 0 ≤ (b3 - b1) * (f2 - f3) := by omega
    have h3 : 0 ≤ f2 - f3 := by
      rcases Int.lt_or_le (f2 - f3) 0 with h | h
      · exfalso
        have := Int.mul_lt_mul_of_pos_left h (show 0 < b3 - b1 by omega)
        rw [Int.mul_zero] at this
        omega
      · exact h
    omega
theorem turn_dom' {a1 b1 a2 b2 a3 b3 c : Int} (h12 : b1 < b2) (h23 : b2 < b3) (ht : turnZ a1 b1 a2 b2 a3 b3 ≤ 0) (z : Int) : htZ a2 b2 c z ≤ htZ a1 b1 c z ∨ htZ a2 b2 c z ≤ htZ a3 b3 c z := by
  have hu : htZ a2 b2 c z - htZ a1 b1 c z = 10000 * (a2 - a1) + 1000 * z * (b2 - b1) := by unfold htZ abN; grind
  have hv : htZ a3 b3 c z - htZ a1 b1 c z = 10000 * (a3 - a1) + 1000 * z * (b3 - b1) := by unfold htZ abN; grind
  generalize htZ a1 b1 c z = f1 at *
  generalize htZ a2 b2 c z = f2 at *
  generalize htZ a3 b3 c z = f3 at *
  have key : (b3 - b1) * (f2 - f1) - (b2 - b1) * (f3 - f1) = 10000 * turnZ a1 b1 a2 b2 a3 b3 := by
    rw [hu, hv]; unfold turnZ; grind
  by_cases hc : f3 ≤ f1
  · left
    have h1 : 0 ≤ (b2 - b1) * (f1 - f3) := Int.mul_nonneg (by omega) (by omega)
    have h5 : (b2 - b1) * (f3 - f1) = -((b2 - b1) * (f1 - f3)) := by grind
    have h2 : (b3 - b1) * (f2 - f1) ≤ 0 := by omega
    have h3 : f2 - f1 ≤ 0 := by
      rcases Int.lt_or_le 0 (f2 - f1) with h | h
      · exfalso
        have := Int.mul_pos (show 0 < b3 - b1 by omega) h
        omega
      · exact h
    omega
  · right
    have h1 : 0 ≤ (b3 - b2) * (f3 - f1) := Int.mul_nonneg (by omega) (by omega)
    have h2 : (b3 - b1) * (f2 - f3) = ((b3 - b1) * (f2 - f1) - (b2 - b1) * (f3 - f1)) - (b3 - b2) * (f3 - f1) := by grind
    have h4 : (b3 - b1) * (f2 - f3) ≤ 0 := by omega
    have h3 : f2 - f3 ≤ 0 := by
      rcases Int.lt_or_le 0 (f2 - f3) with h | h
      · exfalso
        have := Int.mul_pos (show 0 < b3 - b1 by omega) h
        omega
      · exact h
    omega
/-- a run of points of one bend: from g to n, slopes rising to below b; at a slope bb stands the number av bb -/
def SegOK (A : Nat → Int32) (g n : Nat) (av : Int → Int) (c b : Int) (ok : Int → Prop) (pb : Nat → Int) : Prop :=
  (∀ i, g ≤ i → i < n → 1 ≤ pb i ∧ pb i < b ∧ ok (pb i) ∧ A i = ptI (av (pb i)) (pb i) c) ∧ ∀ i j, g ≤ i → i < j → j < n → pb i < pb j
theorem s_C_added {post : Int32 → Mem → Prop} {av : Int → Int} {c b : Int} {ok : Int → Prop} {pb : Nat → Int} {g : Nat} {M : Mem} (hav : ∀ x, ok x → 0 ≤ av x ∧ av x ≤ 9999) (hb : 1 ≤ b ∧ b ≤ 90) (hc : -9 ≤ c ∧ c ≤ 9) (hob : ok b) :
    ∀ (f n : Nat), n = g + f → n < 1710 → SegOK (M 65) g n av c b ok pb →
    (∀ m M', g ≤ m → m ≤ n → (∀ k, k ≠ 65 → M' k = M k) → M' 65 = upd (M 65) m (ptI (av b) b c) → (∀ i z, g ≤ i → i < n → (∃ j, g ≤ j ∧ j < m ∧ dmZ false (htZ (av (pb j)) (pb j) c z) (htZ (av (pb i)) (pb i) c z)) ∨ dmZ false (htZ (av b) b c z) (htZ (av (pb i)) (pb i) c z)) → post (nI (m + 1)) M') →
    ∃ j, P_Laws_added_3 post j (nI g) (ptI (av b) b c) (1) (nI n) M := by
  intro f
  have ha3 := hav b hob
  have put : ∀ n, g ≤ n → n < 1710 → (∀ m M', g ≤ m → m ≤ n → (∀ k, k ≠ 65 → M' k = M k) → M' 65 = upd (M 65) m (ptI (av b) b c) → (∀ i z, g ≤ i → i < n → (∃ j, g ≤ j ∧ j < m ∧ dmZ false (htZ (av (pb j)) (pb j) c z) (htZ (av (pb i)) (pb i) c z)) ∨ dmZ false (htZ (av b) b c z) (htZ (av (pb i)) (pb i) c z)) → post (nI (m + 1)) M') → P_Laws_added_39 post (ptI (av b) b c) (nI n) M := by
    intro n hg hn h
    refine ⟨fun q => ?_, fun _ => ⟨vin_nI hn (by omega), fun M1 m1 => ?_⟩⟩
    · rw [show (1710 : Int32) = nI 1710 from rfl, nI_le_iff (by omega) (by omega)] at q; omega
    · rw [nI_clamp (by omega)] at m1
      unfold P_Laws_added_54
      rw [nI_1]
      refine h n M1 hg (Nat.le_refl _) (fun k hk => by rw [m1, ms_off _ _ _ hk]) (by rw [m1, ms_row]) (fun i z h1 h2 => Or.inl ⟨i, h1, h2, ?_⟩)
      unfold dmZ; simp
  induction f with
  | zero =>
    intro n hn hn2 hS h
    refine ⟨1, fun _ => put n (by omega) hn2 h, fun q => absurd ?_ q⟩
    have es : nI n - nI g = nI (n - g) := by rw [nI_I, nI_I, I_sub, nI_I]; congr 1; omega
    rw [es, show (2 : Int32) = nI 2 from rfl, ltI, nI_toI (by omega), nI_toI (by omega)]; omega
  | succ f ih =>
    intro n hn hn2 hS h
    have es : nI n - nI g = nI (n - g) := by rw [nI_I, nI_I, I_sub, nI_I]; congr 1; omega
    by_cases h2 : n - g < 2
    · refine ⟨1, fun _ => put n (by omega) hn2 h, fun q => absurd ?_ q⟩
      rw [es, show (2 : Int32) = nI 2 from rfl, ltI, nI_toI (by omega), nI_toI (by omega)]; omega
    · obtain ⟨p1, p2, p3, p4⟩ := hS.1 (n - 2) (by omega) (by omega)
      obtain ⟨q1, q2, q3, q4⟩ := hS.1 (n - 1) (by omega) (by omega)
      have hlt := hS.2 (n - 2) (n - 1) (by omega) (by omega) (by omega)
      have ha1 := hav _ p3
      have ha2 := hav _ q3
      have hbd := turnZ_bd (b1 := pb (n - 2)) (b2 := pb (n - 1)) (b3 := b) ha1 ha2 ha3 (by omega) (by omega) (by omega)
      have e2 : nI n - 2 = nI (n - 2) := by rw [show (2 : Int32) = nI 2 from rfl, nI_I, nI_I, I_sub, nI_I]; congr 1; omega
      have e1 : nI n - 1 = nI (n - 1) := by rw [show (1 : Int32) = nI 1 from rfl, nI_I, nI_I, I_sub, nI_I]; congr 1; omega
      have em : nI n + (-1) = nI (n - 1) := by rw [show (-1 : Int32) = I (-1) from rfl, nI_I, I_add, nI_I]; congr 1; omega
      have ex : (1 : Int32) * I (turnZ (av (pb (n - 2))) (pb (n - 2)) (av (pb (n - 1))) (pb (n - 1)) (av b) b) = I (turnZ (av (pb (n - 2))) (pb (n - 2)) (av (pb (n - 1))) (pb (n - 1)) (av b) b) := by
        rw [show (1 : Int32) = I (1) from rfl, I_mul]; congr 1; omega
      by_cases hneg : turnZ (av (pb (n - 2))) (pb (n - 2)) (av (pb (n - 1))) (pb (n - 1)) (av b) b < 0
      · refine ⟨1, fun q => put n (by omega) hn2 h, fun _ => ?_⟩
        rw [e2, e1, nI_clamp (by omega), nI_clamp (by omega), p4, q4]
        refine ⟨vin_nI (by omega) (by omega), vin_nI (by omega) (by omega), s_C_turn ha1 ha2 ha3 (by omega) (by omega) (by omega) hc ?_⟩
        rw [ex]
        exact ⟨fun _ => put n (by omega) hn2 h, fun q => absurd (by rw [show (0 : Int32) = I 0 from rfl, I_lt (by omega) (by omega)]; exact hneg) q⟩
      · have step : ∀ m : Nat, (∀ i z, g ≤ i → i < n - 1 → (∃ j, g ≤ j ∧ j < m ∧ dmZ false (htZ (av (pb j)) (pb j) c z) (htZ (av (pb i)) (pb i) c z)) ∨ dmZ false (htZ (av b) b c z) (htZ (av (pb i)) (pb i) c z)) → (∀ i z, g ≤ i → i < n → (∃ j, g ≤ j ∧ j < m ∧ dmZ false (htZ (av (pb j)) (pb j) c z) (htZ (av (pb i)) (pb i) c z)) ∨ dmZ false (htZ (av b) b c z) (htZ (av (pb i)) (pb i) c z)) := by
          intro m h5 i z g1 g2
          by_cases hi : i < n - 1
          · exact h5 i z g1 hi
          · have hi : i = n - 1 := by omega
            subst hi
            rcases turn_dom (a1 := av (pb (n - 2))) (a2 := av (pb (n - 1))) (a3 := av b) (c := c) hlt q2 (by omega) z with hd | hd
            · rcases h5 (n - 2) z (by omega) (by omega) with ⟨j, k1, k2, k3⟩ | k3
              · left
                refine ⟨j, k1, k2, ?_⟩
                unfold dmZ at *; simp at *; omega
              · right
                unfold dmZ at *; simp at *; omega
            · right
              unfold dmZ; simp; omega
        obtain ⟨j, hj⟩ := ih (n - 1) (by omega) (by omega) ⟨fun i h1 h2 => hS.1 i h1 (by omega), fun i j h1 h2 h3 => hS.2 i j h1 h2 (by omega)⟩ (fun m M' h1 h2 h3 h4 h5 => h m M' h1 (by omega) h3 h4 (step m h5))
        refine ⟨j + 1, fun q => put n (by omega) hn2 h, fun _ => ?_⟩
        rw [e2, e1, nI_clamp (by omega), nI_clamp (by omega), p4, q4]
        refine ⟨vin_nI (by omega) (by omega), vin_nI (by omega) (by omega), s_C_turn ha1 ha2 ha3 (by omega) (by omega) (by omega) hc ?_⟩
        rw [ex, em]
        exact ⟨fun q => absurd (by rw [show (0 : Int32) = I 0 from rfl, I_lt (by omega) (by omega)] at q; exact q) hneg, fun _ => hj⟩
theorem s_C_added_66 {post : Int32 → Mem → Prop} {av : Int → Int} {c b : Int} {ok : Int → Prop} {pb : Nat → Int} {g : Nat} {M : Mem} (hav : ∀ x, ok x → 0 ≤ av x ∧ av x ≤ 9999) (hb : 1 ≤ b ∧ b ≤ 90) (hc : -9 ≤ c ∧ c ≤ 9) (hob : ok b) :
    ∀ (f n : Nat), n = g + f → n < 1710 → SegOK (M 66) g n av c b ok pb →
    (∀ m M', g ≤ m → m ≤ n → (∀ k, k ≠ 66 → M' k = M k) → M' 66 = upd (M 66) m (ptI (av b) b c) → (∀ i z, g ≤ i → i < n → (∃ j, g ≤ j ∧ j < m ∧ dmZ true (htZ (av (pb j)) (pb j) c z) (htZ (av (pb i)) (pb i) c z)) ∨ dmZ true (htZ (av b) b c z) (htZ (av (pb i)) (pb i) c z)) → post (nI (m + 1)) M') →
    ∃ j, P_Laws_added_66_3 post j (nI g) (ptI (av b) b c) (-1) (nI n) M := by
  intro f
  have ha3 := hav b hob
  have put : ∀ n, g ≤ n → n < 1710 → (∀ m M', g ≤ m → m ≤ n → (∀ k, k ≠ 66 → M' k = M k) → M' 66 = upd (M 66) m (ptI (av b) b c) → (∀ i z, g ≤ i → i < n → (∃ j, g ≤ j ∧ j < m ∧ dmZ true (htZ (av (pb j)) (pb j) c z) (htZ (av (pb i)) (pb i) c z)) ∨ dmZ true (htZ (av b) b c z) (htZ (av (pb i)) (pb i) c z)) → post (nI (m + 1)) M') → P_Laws_added_66_39 post (ptI (av b) b c) (nI n) M := by
    intro n hg hn h
    refine ⟨fun q => ?_, fun _ => ⟨vin_nI hn (by omega), fun M1 m1 => ?_⟩⟩
    · rw [show (1710 : Int32) = nI 1710 from rfl, nI_le_iff (by omega) (by omega)] at q; omega
    · rw [nI_clamp (by omega)] at m1
      unfold P_Laws_added_66_54
      rw [nI_1]
      refine h n M1 hg (Nat.le_refl _) (fun k hk => by rw [m1, ms_off _ _ _ hk]) (by rw [m1, ms_row]) (fun i z h1 h2 => Or.inl ⟨i, h1, h2, ?_⟩)
      unfold dmZ; simp
  induction f with
  | zero =>
    intro n hn hn2 hS h
    refine ⟨1, fun _ => put n (by omega) hn2 h, fun q => absurd ?_ q⟩
    have es : nI n - nI g = nI (n - g) := by rw [nI_I, nI_I, I_sub, nI_I]; congr 1; omega
    rw [es, show (2 : Int32) = nI 2 from rfl, ltI, nI_toI (by omega), nI_toI (by omega)]; omega
  | succ f ih =>
    intro n hn hn2 hS h
    have es : nI n - nI g = nI (n - g) := by rw [nI_I, nI_I, I_sub, nI_I]; congr 1; omega
    by_cases h2 : n - g < 2
    · refine ⟨1, fun _ => put n (by omega) hn2 h, fun q => absurd ?_ q⟩
      rw [es, show (2 : Int32) = nI 2 from rfl, ltI, nI_toI (by omega), nI_toI (by omega)]; omega
    · obtain ⟨p1, p2, p3, p4⟩ := hS.1 (n - 2) (by omega) (by omega)
      obtain ⟨q1, q2, q3, q4⟩ := hS.1 (n - 1) (by omega) (by omega)
      have hlt := hS.2 (n - 2) (n - 1) (by omega) (by omega) (by omega)
      have ha1 := hav _ p3
      have ha2 := hav _ q3
      have hbd := turnZ_bd (b1 := pb (n - 2)) (b2 := pb (n - 1)) (b3 := b) ha1 ha2 ha3 (by omega) (by omega) (by omega)
      have e2 : nI n - 2 = nI (n - 2) := by rw [show (2 : Int32) = nI 2 from rfl, nI_I, nI_I, I_sub, nI_I]; congr 1; omega
      have e1 : nI n - 1 = nI (n - 1) := by rw [show (1 : Int32) = nI 1 from rfl, nI_I, nI_I, I_sub, nI_I]; congr 1; omega
      have em : nI n + (-1) = nI (n - 1) := by rw [show (-1 : Int32) = I (-1) from rfl, nI_I, I_add, nI_I]; congr 1; omega
      have ex : (-1 : Int32) * I (turnZ (av (pb (n - 2))) (pb (n - 2)) (av (pb (n - 1))) (pb (n - 1)) (av b) b) = I (-turnZ (av (pb (n - 2))) (pb (n - 2)) (av (pb (n - 1))) (pb (n - 1)) (av b) b) := by
        rw [show (-1 : Int32) = I (-1) from rfl, I_mul]; congr 1; omega
      by_cases hneg : -turnZ (av (pb (n - 2))) (pb (n - 2)) (av (pb (n - 1))) (pb (n - 1)) (av b) b < 0
      · refine ⟨1, fun q => put n (by omega) hn2 h, fun _ => ?_⟩
        rw [e2, e1, nI_clamp (by omega), nI_clamp (by omega), p4, q4]
        refine ⟨vin_nI (by omega) (by omega), vin_nI (by omega) (by omega), s_C_turn ha1 ha2 ha3 (by omega) (by omega) (by omega) hc ?_⟩
        rw [ex]
        exact ⟨fun _ => put n (by omega) hn2 h, fun q => absurd (by rw [show (0 : Int32) = I 0 from rfl, I_lt (by omega) (by omega)]; exact hneg) q⟩
      · have step : ∀ m : Nat, (∀ i z, g ≤ i → i < n - 1 → (∃ j, g ≤ j ∧ j < m ∧ dmZ true (htZ (av (pb j)) (pb j) c z) (htZ (av (pb i)) (pb i) c z)) ∨ dmZ true (htZ (av b) b c z) (htZ (av (pb i)) (pb i) c z)) → (∀ i z, g ≤ i → i < n → (∃ j, g ≤ j ∧ j < m ∧ dmZ true (htZ (av (pb j)) (pb j) c z) (htZ (av (pb i)) (pb i) c z)) ∨ dmZ true (htZ (av b) b c z) (htZ (av (pb i)) (pb i) c z)) := by
          intro m h5 i z g1 g2
          by_cases hi : i < n - 1
          · exact h5 i z g1 hi
          · have hi : i = n - 1 := by omega
            subst hi
            rcases turn_dom' (a1 := av (pb (n - 2))) (a2 := av (pb (n - 1))) (a3 := av b) (c := c) hlt q2 (by omega) z with hd | hd
            · rcases h5 (n - 2) z (by omega) (by omega) with ⟨j, k1, k2, k3⟩ | k3
              · left
                refine ⟨j, k1, k2, ?_⟩
                unfold dmZ at *; simp at *; omega
              · right
                unfold dmZ at *; simp at *; omega
            · right
              unfold dmZ; simp; omega
        obtain ⟨j, hj⟩ := ih (n - 1) (by omega) (by omega) ⟨fun i h1 h2 => hS.1 i h1 (by omega), fun i j h1 h2 h3 => hS.2 i j h1 h2 (by omega)⟩ (fun m M' h1 h2 h3 h4 h5 => h m M' h1 (by omega) h3 h4 (step m h5))
        refine ⟨j + 1, fun q => put n (by omega) hn2 h, fun _ => ?_⟩
        rw [e2, e1, nI_clamp (by omega), nI_clamp (by omega), p4, q4]
        refine ⟨vin_nI (by omega) (by omega), vin_nI (by omega) (by omega), s_C_turn ha1 ha2 ha3 (by omega) (by omega) (by omega) hc ?_⟩
        rw [ex, em]
        exact ⟨fun q => absurd (by rw [show (0 : Int32) = I 0 from rfl, I_lt (by omega) (by omega)] at q; exact q) hneg, fun _ => hj⟩
